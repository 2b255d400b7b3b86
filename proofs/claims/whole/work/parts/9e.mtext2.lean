/-! THE REFERENCE: readText, its body -/
section MM
variable {sh : mj_Sh} {FR : mj_FR} {IA : mj_FI} {LA : mj_LA} {n : Nat}
/-- connect at the end -/
theorem mt_conn (h : isM sh FR n) {R : (Int × Int) ⊕ ab_C} {J : mj_FI} {x y : Int} {m I O G : Nat} {so ow le ri ou : Nat → Int} (hd : md_d IA J) (hr : md_rr J) (hR : R = .inr ((m, I, O, G), so, ow, le, ri, ou)) (hw : J 52 21 = 0) (hN : mN J 2 m I O G so ow le ri ou) (hm : m ≤ 1000) (hI2 : I ≤ 14) (hO2 : O ≤ 16) (hG2 : G ≤ 300) (hV : ab_V m (I + G + 1) so ow) (hg : ∀ j, I + 1 ≤ j → j < I + 1 + G → (0 ≤ le j ∧ le j ≤ 2 * (m : Int) + 1) ∧ 0 ≤ ri j ∧ ri j ≤ 2 * (m : Int) + 1) (ho : ∀ k, k < O → 0 ≤ ou k ∧ ou k ≤ 2 * (m : Int) + 1) :
    mj_G m_M_readText (mj_po (fun o J => o = .inl none ∧ md_d IA J ∧ md_rr J ∧ mt_q R J) sh FR LA n) 237 [some (.inr (.inr (.inl 52))), some (.inl x), some (.inl y)] [] sh FR J LA n 0 0 := by
  obtain ⟨n1, n2, n3, n4, n5, n6, n7, n8⟩ := id hN
  have hsn : ∀ j, j < 1001 → -1 ≤ so j ∧ so j < (I + G + 1 : Nat) := by
    intro j hj
    by_cases e : j = 0
    · subst e
      rw [hV.1]
      omega
    · rcases hV.2.1 j (by omega) hj with z | z
      · omega
      · omega
  have hU : ∀ lit, nUx le ri ou I O G lit → 0 ≤ lit ∧ lit ≤ 2001 := by
    rintro lit (⟨k, hk, e⟩ | ⟨j, hj, e⟩)
    · have := ho k hk
      omega
    · have := hg (I + 1 + j) (by omega) (by omega)
      omega
  have how : ∀ k, k < G → 0 ≤ ow (I + 1 + k) ∧ ow (I + 1 + k) ≤ 2001 := by
    intro k hk
    obtain ⟨j, z1, z2, z3, z4⟩ := hV.2.2 (I + 1 + k) (by omega) (by omega)
    omega
  refine mj_go z_M_readText [] 60 ?_
  refine And.intro h.o ?_
  rw [hw]
  refine And.intro (fun c => ?_) (fun c => ?_)
  · exact absurd (show mj_w 0 = 0 by decide) c
  · clear c
    refine And.intro h.o (And.intro (Nat.le_of_ble_eq_true rfl) (And.intro (Nat.le_of_ble_eq_true rfl) (And.intro (Nat.le_of_ble_eq_true rfl) (Exists.intro _ (And.intro (ct_M_connect h hI2 n2 hG2 n3 hO2 n5 hr hV.1 hsn n7 n8 hU how) ?_)))))
    rintro o1 sh9 FR9 J1 LA9 n9 ⟨z1, z2, z3, z4, hp1⟩
    replace z1 := z1.symm
    subst z1
    replace z2 := z2.symm
    subst z2
    replace z3 := z3.symm
    subst z3
    replace z4 := z4.symm
    subst z4
    obtain ⟨ho, ⟨f1, f2, f3, f4⟩, hq⟩ := hp1
    subst ho
    subst hR
    have hd1 : md_d J J1 := ⟨fun q j a1 a2 a3 a4 => by
      by_cases e67 : q = 67
      · subst e67
        exact f3 j (by unfold dC at a4; omega)
      · by_cases e68 : q = 68
        · subst e68
          exact f4 j (by unfold dC at a4; omega)
        · by_cases e72 : q = 72
          · exact absurd (by unfold dC; omega) a4
          · rw [f1 q a1 e67 e68 e72], fun k k1 k2 k3 => f2 k k2 k3⟩
    have hmt : mt_q (.inr ((m, I, O, G), so, ow, le, ri, ou)) J1 := by
      refine ⟨⟨by rw [f1 55 (by decide) (by decide) (by decide) (by decide)]; exact n1, by rw [f1 56 (by decide) (by decide) (by decide) (by decide)]; exact n2, by rw [f1 57 (by decide) (by decide) (by decide) (by decide)]; exact n3, by rw [f1 58 (by decide) (by decide) (by decide) (by decide)]; exact n4, by rw [f1 66 (by decide) (by decide) (by decide) (by decide)]; exact n5, by rw [f1 61 (by decide) (by decide) (by decide) (by decide)]; exact n6, by rw [f1 62 (by decide) (by decide) (by decide) (by decide), f1 63 (by decide) (by decide) (by decide) (by decide), f1 64 (by decide) (by decide) (by decide) (by decide)]; exact n7, by rw [f1 65 (by decide) (by decide) (by decide) (by decide)]; exact n8⟩, ?_⟩
      unfold mc_r
      rw [hw] at hq
      exact hq
    refine And.intro (Or.inl rfl) ?_
    exact ⟨⟨rfl, rfl, rfl, rfl, rfl, hd.trans hd1, (fun j hj => by rw [f1 66 (by decide) (by decide) (by decide) (by decide)]; exact hr j hj), hmt⟩, Nat.le_of_ble_eq_true rfl, Nat.le_of_ble_eq_true rfl⟩
/-- the end of the text -/
theorem mt_end (h : isM sh FR n) {R : (Int × Int) ⊕ ab_C} {J : mj_FI} {x y : Int} {m I O G len p : Nat} {so ow le ri ou : Nat → Int} (hlen : IA 52 2 = (len : Int)) (hl2 : len ≤ 8192) (hp : J 52 20 = (p : Int)) (hp2 : p ≤ len) (hd : md_d IA J) (hr : md_rr J) (hR : R = match ab_ed (md_by IA) len p with
        | some q => .inl (5, q)
        | none => .inr ((m, I, O, G), so, ow, le, ri, ou)) (hw : J 52 21 = 0) (hN : mN J 2 m I O G so ow le ri ou) (hm : m ≤ 1000) (hI2 : I ≤ 14) (hO2 : O ≤ 16) (hG2 : G ≤ 300) (hV : ab_V m (I + G + 1) so ow) (hg : ∀ j, I + 1 ≤ j → j < I + 1 + G → (0 ≤ le j ∧ le j ≤ 2 * (m : Int) + 1) ∧ 0 ≤ ri j ∧ ri j ≤ 2 * (m : Int) + 1) (ho : ∀ k, k < O → 0 ≤ ou k ∧ ou k ≤ 2 * (m : Int) + 1) :
    mj_G m_M_readText (mj_po (fun o J => o = .inl none ∧ md_d IA J ∧ md_rr J ∧ mt_q R J) sh FR LA n) 170 [some (.inr (.inr (.inl 52))), some (.inl x), some (.inl y)] [] sh FR J LA n 0 0 := by
  have e2 : J 52 2 = (len : Int) := by rw [hd.2 2 (by decide) (by decide) (by decide)]; exact hlen
  have hby := hd.by
  have hb := md_by_in IA p
  have hb1 := md_by_in IA (p + 1)
  refine mj_go z_M_readText [237] 60 ?_
  refine And.intro h.o ?_
  rw [hw]
  refine And.intro (fun c => ?_) (fun c => ?_)
  · exact absurd (show mj_w 0 = 0 by decide) c
  · clear c
    refine And.intro h.o ?_
    refine And.intro h.o ?_
    rw [hp, e2]
    refine And.intro (fun c => ?_) (fun c => ?_)
    · simp (disch := (clear c; omega)) only [mj_w_id] at c
      have e : p = len := by omega
      rw [show ab_ed (md_by IA) len p = none from if_pos e] at hR
      exact mt_conn h hd hr hR hw hN hm hI2 hO2 hG2 hV hg ho
    · simp (disch := (clear c; omega)) only [mj_w_id] at c
      have e : ¬ p = len := by omega
      refine And.intro h.o (And.intro (Nat.le_of_ble_eq_true rfl) (And.intro (Nat.le_of_ble_eq_true rfl) (And.intro (Nat.le_of_ble_eq_true rfl) (Exists.intro _ (And.intro (ct_M_here h hp (by omega) (by rw [e2]; omega) (by rw [e2]; omega)) ?_)))))
      rintro r9 sh9 FR9 IA9 LA9 n9 ⟨z0, z1, z2, z3, z4, z5⟩
      subst z0
      replace z1 := z1.symm
      subst z1
      replace z2 := z2.symm
      subst z2
      replace z3 := z3.symm
      subst z3
      replace z4 := z4.symm
      subst z4
      replace z5 := z5.symm
      subst z5
      refine And.intro (Or.inl rfl) ?_
      rw [hby]
      refine And.intro (fun d => ?_) (fun d => ?_)
      · simp (disch := (clear d; omega)) only [mj_w_id] at d
        refine And.intro (by decide) ?_
        refine And.intro h.o ?_
        rw [hp]
        refine Exists.intro (((p + 1 : Nat) : Int)) (And.intro (by first | (rw [mj_w_id (by omega) (by omega)]; done) | (rw [mj_w_id (by omega) (by omega)]; omega) | (unfold mj_w; omega)) ?_)
        refine And.intro h.o ?_
        have hd1 : md_d IA (mj_up J 52 20 ((p + 1 : Nat) : Int)) := hd.trans (md_d_52 (by decide))
        have e2' : mj_up J 52 20 ((p + 1 : Nat) : Int) 52 2 = (len : Int) := by rw [mj_up_k (by decide)]; exact e2
        refine And.intro h.o (And.intro (Nat.le_of_ble_eq_true rfl) (And.intro (Nat.le_of_ble_eq_true rfl) (And.intro (Nat.le_of_ble_eq_true rfl) (Exists.intro _ (And.intro (ct_M_here (p := p + 1) h (by rw [mj_up_at]) (by omega) (by rw [e2']; omega) (by rw [e2']; omega)) ?_)))))
        rintro r9 sh9 FR9 IA9 LA9 n9 ⟨z0, z1, z2, z3, z4, z5⟩
        subst z0
        replace z1 := z1.symm
        subst z1
        replace z2 := z2.symm
        subst z2
        replace z3 := z3.symm
        subst z3
        replace z4 := z4.symm
        subst z4
        replace z5 := z5.symm
        subst z5
        refine And.intro (Or.inl rfl) ?_
        rw [hd1.by]
        refine And.intro (fun f => ?_) (fun f => ?_)
        · simp (disch := (clear f; omega)) only [mj_w_id] at f
          have q : ab_ed (md_by IA) len p = none := by unfold ab_ed; rw [if_neg e, if_pos d, if_pos f]
          rw [q] at hR
          refine mt_conn h hd1 (fun j hj => by rw [mj_up_ne (by decide)]; exact hr j hj) hR (by rw [mj_up_k (by decide)]; exact hw) ?_ hm hI2 hO2 hG2 hV hg ho
          obtain ⟨n1, n2, n3, n4, n5, n6, n7, n8⟩ := hN
          refine ⟨by rw [mj_up_ne (by decide)]; exact n1, by rw [mj_up_ne (by decide)]; exact n2, by rw [mj_up_ne (by decide)]; exact n3, by rw [mj_up_ne (by decide)]; exact n4, by rw [mj_up_ne (show (66 : Nat) ≠ 52 by decide)]; exact n5, by rw [mj_up_ne (show (61 : Nat) ≠ 52 by decide)]; exact n6, by rw [mj_up_ne (show (62 : Nat) ≠ 52 by decide), mj_up_ne (show (63 : Nat) ≠ 52 by decide), mj_up_ne (show (64 : Nat) ≠ 52 by decide)]; exact n7, by rw [mj_up_ne (show (65 : Nat) ≠ 52 by decide)]; exact n8⟩
        · simp (disch := (clear f; omega)) only [mj_w_id] at f
          refine And.intro h.o ?_
          rw [mj_up_at]
          refine And.intro h.o (And.intro (Nat.le_of_ble_eq_true rfl) (And.intro (Nat.le_of_ble_eq_true rfl) (And.intro (Nat.le_of_ble_eq_true rfl) (Exists.intro _ (And.intro (ct_M_fail h) ?_)))))
          rintro r9 sh9 FR9 IA9 LA9 n9 ⟨z0, z1, z2, z3, z4, z5⟩
          subst z0
          replace z1 := z1.symm
          subst z1
          replace z2 := z2.symm
          subst z2
          replace z3 := z3.symm
          subst z3
          replace z4 := z4.symm
          subst z4
          replace z5 := z5.symm
          subst z5
          refine And.intro (Or.inl rfl) ?_
          have q : ab_ed (md_by IA) len p = some (p + 1) := by unfold ab_ed; rw [if_neg e, if_pos d, if_neg f]
          rw [q] at hR
          exact (mt_bad h (hd1.trans ((md_d_52 (by decide)).trans (md_d_52 (by decide)))) (fun j hj => by rw [mj_up_ne (by decide), mj_up_ne (by decide), mj_up_ne (by decide)]; exact hr j hj) hR (by rw [mj_up_k (by decide), mj_up_at]) (by rw [mj_up_at]) ⟨show (1 : Int) ≤ 5 by decide, show (5 : Int) ≤ 8 by decide⟩).2.2.2.2.2
      · simp (disch := (clear d; omega)) only [mj_w_id] at d
        refine And.intro h.o ?_
        rw [hp]
        refine And.intro h.o (And.intro (Nat.le_of_ble_eq_true rfl) (And.intro (Nat.le_of_ble_eq_true rfl) (And.intro (Nat.le_of_ble_eq_true rfl) (Exists.intro _ (And.intro (ct_M_fail h) ?_)))))
        rintro r9 sh9 FR9 IA9 LA9 n9 ⟨z0, z1, z2, z3, z4, z5⟩
        subst z0
        replace z1 := z1.symm
        subst z1
        replace z2 := z2.symm
        subst z2
        replace z3 := z3.symm
        subst z3
        replace z4 := z4.symm
        subst z4
        replace z5 := z5.symm
        subst z5
        refine And.intro (Or.inl rfl) ?_
        have q : ab_ed (md_by IA) len p = some p := by unfold ab_ed; rw [if_neg e, if_neg d]
        rw [q] at hR
        exact (mt_bad h (hd.trans ((md_d_52 (by decide)).trans (md_d_52 (by decide)))) (fun j hj => by rw [mj_up_ne (by decide), mj_up_ne (by decide)]; exact hr j hj) hR (by rw [mj_up_k (by decide), mj_up_at]) (by rw [mj_up_at]) ⟨show (1 : Int) ≤ 5 by decide, show (5 : Int) ≤ 8 by decide⟩).2.2.2.2.2
end MM
