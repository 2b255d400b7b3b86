/-! THE REFERENCE: readText, whole -/
/-- the gates' lines leave the inputs' literals alone -/
theorem ab_gs_o {by0 : Nat → Int} {m : Int} {bin : Bool} : ∀ {t s p : Nat} {so ow le ri : Nat → Int} {x : ab_T}, ab_gs by0 m bin t s p so ow le ri = .inr x → ∀ j, j < s → x.2.2.1 j = ow j
  | 0, s, p, so, ow, le, ri, x, h, j, hj => by cases h; rfl
  | t + 1, s, p, so, ow, le, ri, x, h, j, hj => by
    unfold ab_gs at h
    split at h
    · cases h
    · next y c =>
      rw [ab_gs_o h j (by omega)]
      split at c
      · unfold ab_sg at c
        split at c
        · cases c
        · split at c
          · cases c
          · split at c
            · cases c
            · split at c
              · cases c
              · cases c
                exact mj_u_ne (by omega)
      · unfold ab_lg at c
        split at c
        · split at c
          · split at c
            · split at c
              · cases c
                exact mj_u_ne (by omega)
              · cases c
            · cases c
          · cases c
        · cases c
section MM
variable {sh : mj_Sh} {FR : mj_FR} {IA : mj_FI} {LA : mj_LA} {n : Nat}
set_option maxHeartbeats 4000000 in
/-- behind the header -/
theorem mt_body (h : isM sh FR n) {R : (Int × Int) ⊕ ab_C} {J : mj_FI} {y : Int} {bin : Bool} {m I O G len p : Nat} {so ow le ri ou : Nat → Int} (hlen : IA 52 2 = (len : Int)) (hl2 : len ≤ 8192) (hp : J 52 20 = (p : Int)) (hp2 : p ≤ len) (hd : md_d IA J) (hr : md_rr J) (hR : R = ab_bd (md_by IA) len bin m I O G p so ow le ri ou) (hw : J 52 21 = 0) (hm : J 58 2 = (m : Int)) (hI : J 55 2 = (I : Int)) (hO : J 57 2 = (O : Int)) (hG : J 56 2 = (G : Int)) (hm2 : m ≤ 1000) (hI2 : I ≤ 14) (hO2 : O ≤ 16) (hG2 : G ≤ 300) (hIG : I + G ≤ m) (hbm : bin = true → m = I + G) (hro : md_ro J I so) (hs0 : so 0 = 0) (hs1 : ∀ j, 1 ≤ j → j < 1001 → so j = -1) :
    mj_G m_M_readText (mj_po (fun o J => o = .inl none ∧ md_d IA J ∧ md_rr J ∧ mt_q R J) sh FR LA n) 117 [some (.inr (.inr (.inl 52))), some (.inl (if bin = true then 1 else 0)), some (.inl y)] [] sh FR J LA n 0 0 := by
  have e2 : ∀ {K : mj_FI}, md_d IA K → K 52 2 = (len : Int) := fun q => by rw [q.2 2 (by decide) (by decide) (by decide)]; exact hlen
  have hen := md_en hlen
  have hV1 : ab_V m 1 so ow := ⟨hs0, fun j j1 j2 => Or.inl (hs1 j j1 j2), fun i i1 i2 => by omega⟩
  have hsn0 : ∀ j, j < 1001 → -1 ≤ so j := fun j hj => by
    by_cases e : j = 0
    · rw [e, hs0]; decide
    · rw [hs1 j (by omega) hj]; decide
  unfold ab_bd at hR
  refine mj_go z_M_readText [129] 60 ?_
  refine And.intro h.o ?_
  rw [hw]
  refine And.intro (fun c => ?_) (fun c => ?_)
  · exact absurd (show mj_w 0 = 0 by decide) c
  clear c
  refine And.intro h.o (And.intro (Nat.le_of_ble_eq_true rfl) (And.intro (Nat.le_of_ble_eq_true rfl) (And.intro (Nat.le_of_ble_eq_true rfl) (Exists.intro _ (And.intro (ct_M_readInputs (bin := bin) (so := so) (ow := ow) h (e2 hd) hl2 hp hp2 hw hI hI2 hm hm2 hro hr hs0 hsn0 (fun _ => ⟨by omega, hs1⟩)) ?_)))))
  rintro o1 sh9 FR9 J1 LA9 n9 ⟨z1, z2, z3, z4, hp1⟩
  replace z1 := z1.symm
  subst z1
  replace z2 := z2.symm
  subst z2
  replace z3 := z3.symm
  subst z3
  replace z4 := z4.symm
  subst z4
  obtain ⟨ho, hd1, f1, hr1, hq1⟩ := hp1
  subst ho
  refine And.intro (Or.inl rfl) ?_
  rw [hd.by] at hq1
  cases hi : ab_in (md_by IA) m bin I 1 p so ow with
  | inl e =>
    rw [hi] at hR hq1
    exact (mt_bad h (hd.trans hd1) hr1 hR hq1.1 hq1.2 (ab_in_x _ _ _ _ _ _ hi)).2.1
  | inr x =>
    rw [hi] at hR hq1
    obtain ⟨px, so1, ow1⟩ := x
    obtain ⟨q1, q2, q3, q4⟩ := hq1
    obtain ⟨xw1, xw2, xw3⟩ := ab_in_w (len := len) hm2 hen I 1 p so ow (px, so1, ow1) (by omega) hp2 hV1 (fun hb => ⟨by omega, hs1⟩) hi
    simp only [] at hR q2 q3 q4 xw1 xw2 xw3
    have hdd1 := hd.trans hd1
    have g57 : J1 57 2 = (O : Int) := by rw [f1 57 (by decide) (by decide) (by decide) (by decide) (by decide)]; exact hO
    have g58 : J1 58 2 = (m : Int) := by rw [f1 58 (by decide) (by decide) (by decide) (by decide) (by decide)]; exact hm
    have g55 : J1 55 2 = (I : Int) := by rw [f1 55 (by decide) (by decide) (by decide) (by decide) (by decide)]; exact hI
    have g56 : J1 56 2 = (G : Int) := by rw [f1 56 (by decide) (by decide) (by decide) (by decide) (by decide)]; exact hG
    refine mj_go z_M_readText [140] 60 ?_
    refine And.intro h.o ?_
    rw [q1]
    refine And.intro (fun c => ?_) (fun c => ?_)
    · exact absurd (show mj_w 0 = 0 by decide) c
    clear c
    refine And.intro h.o (And.intro (Nat.le_of_ble_eq_true rfl) (And.intro (Nat.le_of_ble_eq_true rfl) (And.intro (Nat.le_of_ble_eq_true rfl) (Exists.intro _ (And.intro (ct_M_readOutputs (ou := ou) h (e2 hdd1) hl2 q2 xw1 q1 g57 hO2 g58 hm2) ?_)))))
    rintro o2 sh9 FR9 J2 LA9 n9 ⟨z1, z2, z3, z4, hp2⟩
    replace z1 := z1.symm
    subst z1
    replace z2 := z2.symm
    subst z2
    replace z3 := z3.symm
    subst z3
    replace z4 := z4.symm
    subst z4
    obtain ⟨ho, hd2, f2, hq2⟩ := hp2
    subst ho
    refine And.intro (Or.inl rfl) ?_
    rw [hdd1.by] at hq2
    have hdd2 := hdd1.trans hd2
    have hr2 : md_rr J2 := fun j hj => by rw [f2 66 (by decide) (by decide) (by decide) (by decide)]; exact hr1 j hj
    cases hi2 : ab_ou (md_by IA) m O 0 px ou with
    | inl e =>
      rw [hi2] at hR hq2
      exact (mt_bad h hdd2 hr2 hR hq2.1 hq2.2 (ab_ou_x _ _ _ _ _ hi2)).2.2.1
    | inr z =>
      rw [hi2] at hR hq2
      obtain ⟨py, ou1⟩ := z
      obtain ⟨u1, u2, u3⟩ := hq2
      obtain ⟨yw1, yw2, yw3⟩ := ab_ou_w (len := len) hen O 0 px ou (py, ou1) xw1 hi2
      simp only [] at hR u2 u3 yw1 yw2 yw3
      have k55 : J2 55 2 = (I : Int) := by rw [f2 55 (by decide) (by decide) (by decide) (by decide)]; exact g55
      have k56 : J2 56 2 = (G : Int) := by rw [f2 56 (by decide) (by decide) (by decide) (by decide)]; exact g56
      have k57 : J2 57 2 = (O : Int) := by rw [f2 57 (by decide) (by decide) (by decide) (by decide)]; exact g57
      have k58 : J2 58 2 = (m : Int) := by rw [f2 58 (by decide) (by decide) (by decide) (by decide)]; exact g58
      have kro : md_ro J2 I so1 := by unfold md_ro; rw [f2 66 (by decide) (by decide) (by decide) (by decide)]; exact q3
      have hsn1 : ∀ j, j < 1001 → -1 ≤ so1 j := fun j hj => by
        by_cases e : j = 0
        · rw [e, xw2.1]; decide
        · rcases xw2.2.1 j (by omega) hj with z | z <;> omega
      -- behind the gates
      have fin : ∀ J3 : mj_FI, md_d J2 J3 → md_gf J2 J3 → md_rr J3 → md_gq (ab_gs (md_by IA) m bin G (I + 1) py so1 ow1 le ri) I G J3 →
          mj_G m_M_readText (mj_po (fun o J => o = .inl none ∧ md_d IA J ∧ md_rr J ∧ mt_q R J) sh FR LA n) 170 [some (.inr (.inr (.inl 52))), some (.inl (if bin = true then 1 else 0)), some (.inl y)] [] sh FR J3 LA n 0 0 := by
        intro J3 hd3 hg3 hr3 hq3
        cases hi3 : ab_gs (md_by IA) m bin G (I + 1) py so1 ow1 le ri with
        | inl e =>
          rw [hi3] at hR hq3
          exact (mt_bad h (hdd2.trans hd3) hr3 hR hq3.1 hq3.2 (ab_gs_x _ _ _ _ _ _ _ _ hi3)).2.2.2.2.1
        | inr z =>
          rw [hi3] at hR hq3
          obtain ⟨pz, so2, ow2, le2, ri2⟩ := z
          obtain ⟨v1, v2, v3, v4⟩ := hq3
          obtain ⟨zw1, zw2, zw3, zw4⟩ := ab_gs_w (len := len) hm2 hen (fun i => (md_by_in IA i).1) G (I + 1) py so1 ow1 le ri (pz, so2, ow2, le2, ri2) (by omega) yw1 (by rw [show I + 1 = 1 + I by omega]; exact xw2) (fun hb => ⟨by have := hbm hb; omega, by rw [show I + 1 = 1 + I by omega]; exact xw3 hb⟩) hi3
          simp only [] at hR v2 v3 v4 zw1 zw2 zw3 zw4
          have g61 : ∀ k, k < I → J3 61 (14 * 2 + k) = ow2 (1 + k) := by
            intro k hk
            rw [hg3 61 (by decide) (by decide) (by decide) (by decide) (by decide) (by decide) (by decide), f2 61 (by decide) (by decide) (by decide) (by decide), show 14 * 2 + k = 28 + k by omega, q4 k hk]
            exact (ab_gs_o hi3 (1 + k) (by omega)).symm
          have g65 : ∀ k, k < O → J3 65 (16 * 2 + k) = ou1 k := by
            intro k hk
            rw [hg3 65 (by decide) (by decide) (by decide) (by decide) (by decide) (by decide) (by decide), show 16 * 2 + k = 32 + k by omega]
            exact u3 k hk
          refine mt_end h hlen hl2 v2 zw1 (hdd2.trans hd3) hr3 hR v1 ⟨?_, ?_, ?_, ?_, v3, g61, v4, g65⟩ hm2 hI2 hO2 hG2 (by rw [show I + G + 1 = I + 1 + G by omega]; exact zw2) zw3 (fun k hk => yw2 k (by omega) (by omega))
          · rw [hg3 55 (by decide) (by decide) (by decide) (by decide) (by decide) (by decide) (by decide)]; exact k55
          · rw [hg3 56 (by decide) (by decide) (by decide) (by decide) (by decide) (by decide) (by decide)]; exact k56
          · rw [hg3 57 (by decide) (by decide) (by decide) (by decide) (by decide) (by decide) (by decide)]; exact k57
          · rw [hg3 58 (by decide) (by decide) (by decide) (by decide) (by decide) (by decide) (by decide)]; exact k58
      cases bin with
      | true =>
        have hbb : I + G ≤ m ∧ ∀ j, I + 1 ≤ j → j < 1001 → so1 j = -1 := ⟨hIG, by rw [show I + 1 = 1 + I by omega]; exact xw3 rfl⟩
        refine mj_go z_M_readText [155] 60 ?_
        refine And.intro h.o ?_
        rw [u1]
        refine And.intro (fun c => ?_) (fun c => ?_)
        · exact absurd (show mj_w 0 = 0 by decide) c
        clear c
        refine And.intro (fun c => ?_) (fun c => ?_)
        · exact absurd c (by decide)
        clear c
        refine And.intro h.o (And.intro (Nat.le_of_ble_eq_true rfl) (And.intro (Nat.le_of_ble_eq_true rfl) (And.intro (Nat.le_of_ble_eq_true rfl) (Exists.intro _ (And.intro (ct_M_readSteps (so := so1) (ow := ow1) (le := le) (ri := ri) h (e2 hdd2) hl2 u2 yw1 u1 k55 hI2 k56 hG2 k58 hm2 kro hr2 xw2.1 hsn1 hbb) ?_)))))
        rintro o3 sh9 FR9 J3 LA9 n9 ⟨z1, z2, z3, z4, hp3⟩
        replace z1 := z1.symm
        subst z1
        replace z2 := z2.symm
        subst z2
        replace z3 := z3.symm
        subst z3
        replace z4 := z4.symm
        subst z4
        obtain ⟨ho, hd3, hg3, hr3, hq3⟩ := hp3
        subst ho
        rw [hdd2.by] at hq3
        refine And.intro (Or.inl rfl) ?_
        have q170 := fin J3 hd3 hg3 hr3 hq3
        refine mj_go z_M_readText [170] 60 ?_
        refine And.intro h.o ?_
        refine And.intro (fun c => ?_) (fun c => ?_)
        · exact q170
        · clear c
          refine And.intro (fun c => ?_) (fun c => ?_)
          · exact q170
          · exact absurd c (by decide)
      | false =>
        have q155 : mj_G m_M_readText (mj_po (fun o J => o = .inl none ∧ md_d IA J ∧ md_rr J ∧ mt_q R J) sh FR LA n) 155 [some (.inr (.inr (.inl 52))), some (.inl (if false = true then 1 else 0)), some (.inl y)] [] sh FR J2 LA n 0 0 := by
          refine mj_go z_M_readText [170] 60 ?_
          refine And.intro h.o ?_
          rw [u1]
          refine And.intro (fun c => ?_) (fun c => ?_)
          · exact absurd (show mj_w 0 = 0 by decide) c
          clear c
          refine And.intro (fun c => ?_) (fun c => ?_)
          · exact absurd (show mj_w 0 = 0 by decide) c
          clear c
          refine And.intro h.o (And.intro (Nat.le_of_ble_eq_true rfl) (And.intro (Nat.le_of_ble_eq_true rfl) (And.intro (Nat.le_of_ble_eq_true rfl) (Exists.intro _ (And.intro (ct_M_readGates (so := so1) (ow := ow1) (le := le) (ri := ri) h (e2 hdd2) hl2 u2 yw1 u1 hI2 k56 hG2 k58 hm2 kro hr2 xw2.1 hsn1) ?_)))))
          rintro o3 sh9 FR9 J3 LA9 n9 ⟨z1, z2, z3, z4, hp3⟩
          replace z1 := z1.symm
          subst z1
          replace z2 := z2.symm
          subst z2
          replace z3 := z3.symm
          subst z3
          replace z4 := z4.symm
          subst z4
          obtain ⟨ho, hd3, hg3, hr3, hq3⟩ := hp3
          subst ho
          rw [hdd2.by] at hq3
          refine And.intro (Or.inl rfl) ?_
          exact fin J3 hd3 hg3 hr3 hq3
        refine mj_go z_M_readText [155] 60 ?_
        refine And.intro h.o ?_
        rw [u1]
        refine And.intro (fun c => ?_) (fun c => ?_)
        · exact absurd (show mj_w 0 = 0 by decide) c
        clear c
        refine And.intro (fun c => ?_) (fun c => ?_)
        · exact q155
        · exact absurd (show mj_w 0 = 0 by decide) c
end MM
