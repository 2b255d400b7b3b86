/-! THE REFERENCE: line -/
def md_f (J J' : mj_FI) : Prop := (∀ q, q ≠ 52 → q ≠ 70 → q ≠ 71 → J' q = J q) ∧ (∀ k, k ≠ 20 → k ≠ 21 → k ≠ 22 → J' 52 k = J 52 k)
theorem md_by_eq {J J' : mj_FI} (h0 : J' 52 2 = J 52 2) (h1 : J' 53 = J 53) : md_by J' = md_by J := by
  funext i
  unfold md_by
  rw [h0, h1]
theorem md_f.by {J J' : mj_FI} (h : md_f J J') : md_by J' = md_by J := md_by_eq (h.2 2 (by decide) (by decide) (by decide)) (h.1 53 (by decide) (by decide) (by decide))
/-- how line ends -/
def md_lq (R : Bool × Nat × (Nat → Int) × (Nat → Int)) (code : Int) (J : mj_FI) : Prop := (R.1 = true ∧ J 52 21 = 0 ∧ J 52 20 = (R.2.1 : Int) ∧ J 70 = R.2.2.1 ∧ J 71 = R.2.2.2) ∨ (R.1 = false ∧ J 52 21 = code ∧ J 52 22 = (R.2.1 : Int))
section MM
variable {sh : mj_Sh} {FR : mj_FR} {IA : mj_FI} {LA : mj_LA} {n : Nat}
set_option maxHeartbeats 4000000 in
theorem ct_M_line (h : isM sh FR n) {cnt p len : Nat} {code : Int} (hc : cnt ≤ 5) (hcode : code = 2 ∨ code = 5) (hlen : IA 52 2 = (len : Int)) (hl2 : len ≤ 8192) (hp : IA 52 20 = (p : Int)) (hp2 : p ≤ len) (hw : IA 52 21 = 0) :
    mj_Ct m_M_line [.inr (.inr (.inl 52)), .inl cnt, .inl code] sh FR IA LA n (mj_po (fun o J => o = .inl none ∧ md_f IA J ∧ md_lq (ab_ln (md_by IA) cnt cnt 0 p (IA 70) (IA 71)) code J) sh FR LA n) := by
  have hen : ab_en (md_by IA) len := by
    intro i hi
    unfold md_by
    rw [hlen, if_neg (by omega)]
  generalize hR : ab_ln (md_by IA) cnt cnt 0 p (IA 70) (IA 71) = R
  have loop : ∀ (t k p : Nat) (J : mj_FI) (x4 x5 x6 : Option mj_V), k + t = cnt → md_f IA J → J 52 21 = 0 → J 52 20 = (p : Int) → p ≤ len → ab_ln (md_by IA) cnt t k p (J 70) (J 71) = R →
      mj_G m_M_line (mj_po (fun o J => o = .inl none ∧ md_f IA J ∧ md_lq R code J) sh FR LA n) 2 [some (.inr (.inr (.inl 52))), some (.inl cnt), some (.inl code), some (.inl k), x4, x5, x6] [] sh FR J LA n 0 0 := by
    intro t
    induction t with
    | zero =>
      intro k p J x4 x5 x6 hk hf hw hp hp2 hR
      subst hR
      refine mj_go z_M_line [2] 60 ?_
      refine And.intro (fun d => ?_) (fun d => ?_)
      · exact ⟨⟨rfl, rfl, rfl, rfl, rfl, hf, Or.inl ⟨rfl, hw, hp, rfl, rfl⟩⟩, Nat.le_of_ble_eq_true rfl, Nat.le_of_ble_eq_true rfl⟩
      · simp (disch := (clear d; omega)) only [mj_w_id] at d
        omega
    | succ t ih =>
      intro k p J x4 x5 x6 hk hf hw hp hp2 hR
      have hby : md_by J = md_by IA := hf.by
      have el : J 52 2 = (len : Int) := by rw [hf.2 2 (by decide) (by decide) (by decide)]; exact hlen
      simp only [ab_ln] at hR
      obtain ⟨d9, v9, p9, hT⟩ : ∃ d v q, rd_num (md_by IA) 9 0 0 p = (d, v, q) := ⟨_, _, _, rfl⟩
      have hp9 : p9 ≤ len := by
        have q := rd_num_e hen 9 0 0 p hp2
        rw [hT] at q
        exact q
      have hd9 : d9 ≤ 9 := by
        have q := rd_num_d (md_by IA) 9 0 0 p
        rw [hT] at q
        omega
      have hv9 : 0 ≤ v9 ∧ v9 < 1000000000 := by
        have q := rd_num_v (md_by IA) 9 0 0 p (by decide) (by decide)
        rw [hT] at q
        exact q
      rw [hT] at hR
      have hR : (if ¬ d9 = 0 ∧ md_by IA p9 = ab_fo cnt k then ab_ln (md_by IA) cnt t (k + 1) (p9 + 1) (mj_u (J 70) k v9) (mj_u (J 71) k p) else (false, p9, mj_u (J 70) k v9, mj_u (J 71) k p)) = R := hR
      generalize hJ1 : mj_up J 71 k (p : Int) = J1
      have f1 : ∀ q, q ≠ 71 → J1 q = J q := fun q hq => by rw [← hJ1, mj_up_ne hq]
      have b71 : J1 71 = mj_u (J 71) k p := by rw [← hJ1, mj_up_row]
      -- states of the inner loop
      have inI : ∀ q : Nat, md_f IA (mj_up J1 52 20 (q : Int)) ∧ md_by (mj_up J1 52 20 (q : Int)) = md_by IA ∧ mj_up J1 52 20 (q : Int) 52 2 = (len : Int) := by
        intro q
        have g : md_f IA (mj_up J1 52 20 (q : Int)) := ⟨fun a h1 h2 h3 => by rw [mj_up_ne h1, f1 a h3]; exact hf.1 a h1 h2 h3, fun a h1 h2 h3 => by rw [mj_up_k h1, f1 52 (by decide)]; exact hf.2 a h1 h2 h3⟩
        exact ⟨g, g.by, by rw [mj_up_k (by decide), f1 52 (by decide)]; exact el⟩
      have e20 : mj_up J1 52 20 (p : Int) = J1 := mj_up_self (by rw [f1 52 (by decide)]; exact hp)
      have fin : ¬ d9 = 0 → ∀ x5 : Int, mj_G m_M_line (mj_po (fun o J => o = .inl none ∧ md_f IA J ∧ md_lq R code J) sh FR LA n) 123 [some (.inr (.inr (.inl 52))), some (.inl cnt), some (.inl code), some (.inl k), some (.inl v9), some (.inl x5), some (.inl d9)] [] sh FR (mj_up J1 52 20 (p9 : Int)) LA n 0 0 := by
        intro hd x5
        obtain ⟨i1, i2, i3⟩ := inI p9
        have g9 := md_by_in IA p9
        generalize hJ2 : mj_up (mj_up J1 52 20 (p9 : Int)) 70 k v9 = J2
        have j2f : md_f IA J2 := ⟨fun a h1 h2 h3 => by rw [← hJ2, mj_up_ne h2]; exact i1.1 a h1 h2 h3, fun a h1 h2 h3 => by rw [← hJ2, mj_up_ne (by decide)]; exact i1.2 a h1 h2 h3⟩
        have j2p : J2 52 20 = (p9 : Int) := by rw [← hJ2, mj_up_ne (by decide), mj_up_at]
        have j2w : J2 52 21 = 0 := by rw [← hJ2, mj_up_ne (by decide), mj_up_k (by decide), f1 52 (by decide)]; exact hw
        have j2l : J2 52 2 = (len : Int) := by rw [j2f.2 2 (by decide) (by decide) (by decide)]; exact hlen
        have j70 : J2 70 = mj_u (J 70) k v9 := by rw [← hJ2, mj_up_row, mj_up_ne (by decide), f1 70 (by decide)]
        have j71 : J2 71 = mj_u (J 71) k p := by rw [← hJ2, mj_up_ne (by decide), mj_up_ne (by decide), b71]
        have tail : ∀ fo : Int, fo = ab_fo cnt k → mj_G m_M_line (mj_po (fun o J => o = .inl none ∧ md_f IA J ∧ md_lq R code J) sh FR LA n) 149 [some (.inr (.inr (.inl 52))), some (.inl cnt), some (.inl code), some (.inl k), some (.inl v9), some (.inl x5), some (.inl d9)] [.inl fo, .inl (md_by IA p9)] sh FR J2 LA n 0 0 := by
          intro fo hfo
          have hfr : fo = 10 ∨ fo = 32 := by
            rw [hfo]
            unfold ab_fo
            split
            · exact Or.inl rfl
            · exact Or.inr rfl
          refine mj_go z_M_line [2] 60 ?_
          refine And.intro (fun d => ?_) (fun d => ?_)
          · simp (disch := (clear d; omega)) only [mj_w_id] at d
            rw [if_pos ⟨hd, d.trans hfo⟩] at hR
            refine And.intro rfl ?_
            refine And.intro h.o ?_
            rw [j2p]
            refine Exists.intro (((p9 + 1 : Nat) : Int)) (And.intro (by first | (rw [mj_w_id (by omega) (by omega)]; done) | (rw [mj_w_id (by omega) (by omega)]; omega) | (unfold mj_w; omega)) ?_)
            refine And.intro h.o ?_
            refine Exists.intro (((k + 1 : Nat) : Int)) (And.intro (by first | (rw [mj_w_id (by omega) (by omega)]; done) | (rw [mj_w_id (by omega) (by omega)]; omega) | (unfold mj_w; omega)) ?_)
            have hne : p9 < len := by
              by_cases z : len ≤ p9
              · have := hen p9 z
                omega
              · omega
            refine ih (k + 1) (p9 + 1) _ _ _ _ (by omega) ⟨fun a h1 h2 h3 => by rw [mj_up_ne h1]; exact j2f.1 a h1 h2 h3, fun a h1 h2 h3 => by rw [mj_up_k h1]; exact j2f.2 a h1 h2 h3⟩ (by rw [mj_up_k (by decide)]; exact j2w) (by rw [mj_up_at]) (by omega) ?_
            rw [mj_up_ne (by decide), mj_up_ne (by decide), j70, j71]
            exact hR
          · simp (disch := (clear d; omega)) only [mj_w_id] at d
            rw [if_neg (fun z => d (z.2.trans hfo.symm))] at hR
            subst hR
            refine And.intro h.o ?_
            rw [j2p]
            refine And.intro h.o (And.intro (Nat.le_of_ble_eq_true rfl) (And.intro (Nat.le_of_ble_eq_true rfl) (And.intro (Nat.le_of_ble_eq_true rfl) (Exists.intro _ (And.intro (ct_M_fail h) ?_)))))
            rintro r9 sh9 FR9 IA9 LA9 n9 ⟨z0, z1, z2, z3, z4, z5⟩
            subst z0
            replace z1 := z1.symm
            subst z1
            replace z2 := z2.symm
            subst z2
            replace z3 := z3.symm
            subst z3
            replace z4 := z4.symm
            subst z4
            replace z5 := z5.symm
            subst z5
            refine And.intro (Or.inl rfl) ?_
            refine Exists.intro (((k + 1 : Nat) : Int)) (And.intro (by first | (rw [mj_w_id (by omega) (by omega)]; done) | (rw [mj_w_id (by omega) (by omega)]; omega) | (unfold mj_w; omega)) ?_)
            have rf : md_f IA (mj_up (mj_up J2 52 21 code) 52 22 (p9 : Int)) := ⟨fun a h1 h2 h3 => by rw [mj_up_ne h1, mj_up_ne h1]; exact j2f.1 a h1 h2 h3, fun a h1 h2 h3 => by rw [mj_up_k h3, mj_up_k h2]; exact j2f.2 a h1 h2 h3⟩
            have r21 : mj_up (mj_up J2 52 21 code) 52 22 (p9 : Int) 52 21 = code := by rw [mj_up_k (by decide), mj_up_at]
            have r22 : mj_up (mj_up J2 52 21 code) 52 22 (p9 : Int) 52 22 = (p9 : Int) := by rw [mj_up_at]
            refine mj_go z_M_line [] 60 ?_
            refine And.intro (fun e => ?_) (fun e => ?_)
            · exact ⟨⟨rfl, rfl, rfl, rfl, rfl, rf, Or.inr ⟨rfl, r21, r22⟩⟩, Nat.le_of_ble_eq_true rfl, Nat.le_of_ble_eq_true rfl⟩
            · clear e
              refine And.intro h.o ?_
              rw [r21]
              refine And.intro (fun e => ?_) (fun e => ?_)
              · exact ⟨⟨rfl, rfl, rfl, rfl, rfl, rf, Or.inr ⟨rfl, r21, r22⟩⟩, Nat.le_of_ble_eq_true rfl, Nat.le_of_ble_eq_true rfl⟩
              · replace e := Classical.not_not.mp e
                simp (disch := (clear e; omega)) only [mj_w_id] at e
                omega
        refine mj_go z_M_line [149] 60 ?_
        refine And.intro h.o (Exists.intro _ (And.intro h.r23 ?_))
        refine Exists.intro _ (Exists.intro (k) (And.intro h.a23 (And.intro (by first | (rw [mj_w_id (by omega) (by omega)]; done) | (rw [mj_w_id (by omega) (by omega)]; omega) | (unfold mj_w; omega)) (And.intro (by omega) ?_))))
        rw [hJ2]
        refine And.intro h.o (And.intro (Nat.le_of_ble_eq_true rfl) (And.intro (Nat.le_of_ble_eq_true rfl) (And.intro (Nat.le_of_ble_eq_true rfl) (Exists.intro _ (And.intro (ct_M_here (p := p9) h j2p (by omega) (by omega) (by omega)) ?_)))))
        rintro r9 sh9 FR9 IA9 LA9 n9 ⟨z0, z1, z2, z3, z4, z5⟩
        subst z0
        replace z1 := z1.symm
        subst z1
        replace z2 := z2.symm
        subst z2
        replace z3 := z3.symm
        subst z3
        replace z4 := z4.symm
        subst z4
        replace z5 := z5.symm
        subst z5
        refine And.intro (Or.inl rfl) ?_
        rw [j2f.by]
        refine Exists.intro (((cnt : Int) - 1)) (And.intro (by first | (rw [mj_w_id (by omega) (by omega)]; done) | (rw [mj_w_id (by omega) (by omega)]; omega) | (unfold mj_w; omega)) ?_)
        refine And.intro (fun e => ?_) (fun e => ?_)
        · simp (disch := (clear e; omega)) only [mj_w_id] at e
          exact tail 10 (by unfold ab_fo; rw [if_pos (by omega)])
        · simp (disch := (clear e; omega)) only [mj_w_id] at e
          exact tail 32 (by unfold ab_fo; rw [if_neg (by omega)])
      have inner : md_by IA p ≥ 48 → md_by IA p ≤ 57 → ∀ no : Int, (no = 1 ∧ md_by IA p = 48 ∨ no = 0 ∧ ¬ md_by IA p = 48) → ∀ (t d : Nat) (v : Int) (q : Nat), d + t = 9 → 0 ≤ v → v < ((10 ^ d : Nat) : Int) → q ≤ len → ((d = 0 ∧ v = 0 ∧ q = p) ∨ (1 ≤ d ∧ (no = 1 → d = 1 ∧ v = 0) ∧ (no = 0 → 0 < v))) → rd_num (md_by IA) t d v q = (d9, v9, p9) →
          mj_G m_M_line (mj_po (fun o J => o = .inl none ∧ md_f IA J ∧ md_lq R code J) sh FR LA n) 66 [some (.inr (.inr (.inl 52))), some (.inl cnt), some (.inl code), some (.inl k), some (.inl v), some (.inl no), some (.inl d)] [] sh FR (mj_up J1 52 20 (q : Int)) LA n 0 0 := by
        intro hb1 hb2 no hno t
        induction t with
        | zero =>
          intro d v q hd hv0 hv1 hq hin hn
          obtain ⟨i1, i2, i3⟩ := inI q
          have gq := md_by_in IA q
          cases hn
          have f9 := fin (by omega) no
          refine mj_go z_M_line [66, 123] 60 ?_
          refine And.intro h.o (And.intro (Nat.le_of_ble_eq_true rfl) (And.intro (Nat.le_of_ble_eq_true rfl) (And.intro (Nat.le_of_ble_eq_true rfl) (Exists.intro _ (And.intro (ct_M_here (p := p9) h (by rw [mj_up_at]) (by omega) (by omega) (by omega)) ?_)))))
          rintro r9 sh9 FR9 IA9 LA9 n9 ⟨z0, z1, z2, z3, z4, z5⟩
          subst z0
          replace z1 := z1.symm
          subst z1
          replace z2 := z2.symm
          subst z2
          replace z3 := z3.symm
          subst z3
          replace z4 := z4.symm
          subst z4
          replace z5 := z5.symm
          subst z5
          refine And.intro (Or.inl rfl) ?_
          rw [i2]
          refine And.intro trivial (And.intro (Nat.le_of_ble_eq_true rfl) (And.intro (Nat.le_of_ble_eq_true rfl) (And.intro (Nat.le_of_ble_eq_true rfl) (Exists.intro _ (And.intro (ct_M_isDigit ⟨by omega, by omega⟩) ?_)))))
          rintro r9 sh9 FR9 IA9 LA9 n9 ⟨z0, z1, z2, z3, z4, z5⟩
          subst z0
          replace z1 := z1.symm
          subst z1
          replace z2 := z2.symm
          subst z2
          replace z3 := z3.symm
          subst z3
          replace z4 := z4.symm
          subst z4
          replace z5 := z5.symm
          subst z5
          refine And.intro (Or.inl rfl) ?_
          by_cases hdg : 48 ≤ md_by IA p9 ∧ md_by IA p9 ≤ 57
          · rw [if_pos hdg]
            refine And.intro (fun e => ?_) (fun e => ?_)
            · exact absurd e (by decide)
            · clear e
              rcases hno with ⟨z1, z2⟩ | ⟨z1, z2⟩
              · subst z1
                refine And.intro (fun e => ?_) (fun e => ?_)
                · exact absurd e (by decide)
                · clear e
                  refine And.intro (fun e => ?_) (fun e => ?_)
                  · exact f9
                  · simp (disch := (clear e; omega)) only [mj_w_id] at e
                    omega
              · subst z1
                refine And.intro (fun e => ?_) (fun e => ?_)
                · clear e
                  refine And.intro (fun e => ?_) (fun e => ?_)
                  · exact f9
                  · simp (disch := (clear e; omega)) only [mj_w_id] at e
                    omega
                · exact absurd (show mj_w 0 = 0 by decide) e
          · rw [if_neg hdg]
            refine And.intro (fun e => ?_) (fun e => ?_)
            · exact f9
            · exact absurd (show mj_w 0 = 0 by decide) e
        | succ t ih2 =>
          intro d v q hd hv0 hv1 hq hin hn
          obtain ⟨i1, i2, i3⟩ := inI q
          have gq := md_by_in IA q
          have hpw : (10 ^ d : Nat) ≤ 10 ^ 8 := Nat.pow_le_pow_right (by decide) (by omega)
          have hpw1 : (10 ^ (d + 1) : Nat) = 10 * 10 ^ d := by rw [Nat.pow_succ, Nat.mul_comm]
          simp only [rd_num] at hn
          have stop : ¬ (48 ≤ md_by IA q ∧ md_by IA q ≤ 57 ∧ (d = 0 ∨ 0 < v)) → mj_G m_M_line (mj_po (fun o J => o = .inl none ∧ md_f IA J ∧ md_lq R code J) sh FR LA n) 123 [some (.inr (.inr (.inl 52))), some (.inl cnt), some (.inl code), some (.inl k), some (.inl v), some (.inl no), some (.inl d)] [] sh FR (mj_up J1 52 20 (q : Int)) LA n 0 0 := by
            intro hz
            rw [if_neg hz] at hn
            cases hn
            refine fin ?_ no
            rcases hin with ⟨z1, z2, z3⟩ | z
            · subst z1
              subst z3
              exact absurd ⟨hb1, hb2, Or.inl rfl⟩ hz
            · omega
          have body : (48 ≤ md_by IA q ∧ md_by IA q ≤ 57 ∧ (d = 0 ∨ 0 < v)) → mj_G m_M_line (mj_po (fun o J => o = .inl none ∧ md_f IA J ∧ md_lq R code J) sh FR LA n) 92 [some (.inr (.inr (.inl 52))), some (.inl cnt), some (.inl code), some (.inl k), some (.inl v), some (.inl no), some (.inl d)] [] sh FR (mj_up J1 52 20 (q : Int)) LA n 0 0 := by
            intro hz
            rw [if_pos hz] at hn
            have hq2 : q < len := by
              by_cases z : len ≤ q
              · have := hen q z
                omega
              · omega
            refine mj_go z_M_line [66, 123] 60 ?_
            refine Exists.intro (10 * v) (And.intro (by first | (rw [mj_w_id (by omega) (by omega)]; done) | (rw [mj_w_id (by omega) (by omega)]; omega) | (unfold mj_w; omega)) ?_)
            refine And.intro h.o (And.intro (Nat.le_of_ble_eq_true rfl) (And.intro (Nat.le_of_ble_eq_true rfl) (And.intro (Nat.le_of_ble_eq_true rfl) (Exists.intro _ (And.intro (ct_M_here (p := q) h (by rw [mj_up_at]) (by omega) (by omega) (by omega)) ?_)))))
            rintro r9 sh9 FR9 IA9 LA9 n9 ⟨z0, z1, z2, z3, z4, z5⟩
            subst z0
            replace z1 := z1.symm
            subst z1
            replace z2 := z2.symm
            subst z2
            replace z3 := z3.symm
            subst z3
            replace z4 := z4.symm
            subst z4
            replace z5 := z5.symm
            subst z5
            refine And.intro (Or.inl rfl) ?_
            rw [i2]
            refine Exists.intro (10 * v + md_by IA q) (And.intro (by first | (rw [mj_w_id (by omega) (by omega)]; done) | (rw [mj_w_id (by omega) (by omega)]; omega) | (unfold mj_w; omega)) ?_)
            refine Exists.intro (10 * v + md_by IA q - 48) (And.intro (by first | (rw [mj_w_id (by omega) (by omega)]; done) | (rw [mj_w_id (by omega) (by omega)]; omega) | (unfold mj_w; omega)) ?_)
            refine Exists.intro (((d + 1 : Nat) : Int)) (And.intro (by first | (rw [mj_w_id (by omega) (by omega)]; done) | (rw [mj_w_id (by omega) (by omega)]; omega) | (unfold mj_w; omega)) ?_)
            refine And.intro rfl ?_
            refine And.intro h.o ?_
            rw [mj_up_at]
            refine Exists.intro (((q + 1 : Nat) : Int)) (And.intro (by first | (rw [mj_w_id (by omega) (by omega)]; done) | (rw [mj_w_id (by omega) (by omega)]; omega) | (unfold mj_w; omega)) ?_)
            refine And.intro h.o ?_
            rw [mj_up_up]
            refine ih2 (d + 1) (10 * v + md_by IA q - 48) (q + 1) (by omega) (by omega) (by omega) (by omega) (Or.inr ⟨by omega, fun z => ?_, fun z => ?_⟩) hn
            · rcases hno with ⟨y1, y2⟩ | ⟨y1, y2⟩
              · rcases hin with ⟨z1, z2, z3⟩ | ⟨z1, z2, z3⟩
                · subst z3
                  omega
                · have := z2 z
                  omega
              · omega
            · rcases hno with ⟨y1, y2⟩ | ⟨y1, y2⟩
              · omega
              · rcases hin with ⟨z1, z2, z3⟩ | ⟨z1, z2, z3⟩
                · subst z3
                  omega
                · have := z3 z
                  omega
          refine mj_go z_M_line [66, 92, 123] 60 ?_
          refine And.intro h.o (And.intro (Nat.le_of_ble_eq_true rfl) (And.intro (Nat.le_of_ble_eq_true rfl) (And.intro (Nat.le_of_ble_eq_true rfl) (Exists.intro _ (And.intro (ct_M_here (p := q) h (by rw [mj_up_at]) (by omega) (by omega) (by omega)) ?_)))))
          rintro r9 sh9 FR9 IA9 LA9 n9 ⟨z0, z1, z2, z3, z4, z5⟩
          subst z0
          replace z1 := z1.symm
          subst z1
          replace z2 := z2.symm
          subst z2
          replace z3 := z3.symm
          subst z3
          replace z4 := z4.symm
          subst z4
          replace z5 := z5.symm
          subst z5
          refine And.intro (Or.inl rfl) ?_
          rw [i2]
          refine And.intro trivial (And.intro (Nat.le_of_ble_eq_true rfl) (And.intro (Nat.le_of_ble_eq_true rfl) (And.intro (Nat.le_of_ble_eq_true rfl) (Exists.intro _ (And.intro (ct_M_isDigit ⟨by omega, by omega⟩) ?_)))))
          rintro r9 sh9 FR9 IA9 LA9 n9 ⟨z0, z1, z2, z3, z4, z5⟩
          subst z0
          replace z1 := z1.symm
          subst z1
          replace z2 := z2.symm
          subst z2
          replace z3 := z3.symm
          subst z3
          replace z4 := z4.symm
          subst z4
          replace z5 := z5.symm
          subst z5
          refine And.intro (Or.inl rfl) ?_
          by_cases hdg : 48 ≤ md_by IA q ∧ md_by IA q ≤ 57
          · rw [if_pos hdg]
            refine And.intro (fun e => ?_) (fun e => ?_)
            · exact absurd e (by decide)
            · clear e
              rcases hno with ⟨z1, z2⟩ | ⟨z1, z2⟩
              · subst z1
                refine And.intro (fun e => ?_) (fun e => ?_)
                · exact absurd e (by decide)
                · clear e
                  refine And.intro (fun e => ?_) (fun e => ?_)
                  · simp (disch := (clear e; omega)) only [mj_w_id] at e
                    refine stop (fun z => ?_)
                    rcases hin with ⟨a1, _⟩ | ⟨a1, a2, _⟩
                    · omega
                    · have := a2 rfl
                      omega
                  · simp (disch := (clear e; omega)) only [mj_w_id] at e
                    exact body ⟨hdg.1, hdg.2, Or.inl (by omega)⟩
              · subst z1
                refine And.intro (fun e => ?_) (fun e => ?_)
                · clear e
                  refine And.intro (fun e => ?_) (fun e => ?_)
                  · simp (disch := (clear e; omega)) only [mj_w_id] at e
                    omega
                  · simp (disch := (clear e; omega)) only [mj_w_id] at e
                    refine body ⟨hdg.1, hdg.2, ?_⟩
                    rcases hin with ⟨a1, _⟩ | ⟨a1, _, a3⟩
                    · exact Or.inl a1
                    · exact Or.inr (a3 rfl)
                · exact absurd (show mj_w 0 = 0 by decide) e
          · rw [if_neg hdg]
            refine And.intro (fun e => ?_) (fun e => ?_)
            · exact stop (fun z => hdg ⟨z.1, z.2.1⟩)
            · exact absurd (show mj_w 0 = 0 by decide) e
      have gp := md_by_in IA p
      have j1by : md_by J1 = md_by IA := by rw [← e20]; exact (inI p).2.1
      have j1l : J1 52 2 = (len : Int) := by rw [f1 52 (by decide)]; exact el
      have j1p : J1 52 20 = (p : Int) := by rw [f1 52 (by decide)]; exact hp
      refine mj_go z_M_line [66] 60 ?_
      refine And.intro (fun d => ?_) (fun d => ?_)
      · simp (disch := (clear d; omega)) only [mj_w_id] at d
        omega
      · clear d
        refine And.intro h.o ?_
        rw [hw]
        refine And.intro (fun d => ?_) (fun d => ?_)
        · exact absurd rfl d
        · clear d
          refine And.intro h.o (Exists.intro _ (And.intro h.r24 ?_))
          refine And.intro h.o ?_
          rw [hp]
          refine Exists.intro _ (Exists.intro (k) (And.intro h.a24 (And.intro (by first | (rw [mj_w_id (by omega) (by omega)]; done) | (rw [mj_w_id (by omega) (by omega)]; omega) | (unfold mj_w; omega)) (And.intro (by omega) ?_))))
          rw [hJ1]
          refine And.intro h.o (And.intro (Nat.le_of_ble_eq_true rfl) (And.intro (Nat.le_of_ble_eq_true rfl) (And.intro (Nat.le_of_ble_eq_true rfl) (Exists.intro _ (And.intro (ct_M_here (p := p) h j1p (by omega) (by omega) (by omega)) ?_)))))
          rintro r9 sh9 FR9 IA9 LA9 n9 ⟨z0, z1, z2, z3, z4, z5⟩
          subst z0
          replace z1 := z1.symm
          subst z1
          replace z2 := z2.symm
          subst z2
          replace z3 := z3.symm
          subst z3
          replace z4 := z4.symm
          subst z4
          replace z5 := z5.symm
          subst z5
          refine And.intro (Or.inl rfl) ?_
          rw [j1by]
          refine And.intro trivial (And.intro (Nat.le_of_ble_eq_true rfl) (And.intro (Nat.le_of_ble_eq_true rfl) (And.intro (Nat.le_of_ble_eq_true rfl) (Exists.intro _ (And.intro (ct_M_isDigit ⟨by omega, by omega⟩) ?_)))))
          rintro r9 sh9 FR9 IA9 LA9 n9 ⟨z0, z1, z2, z3, z4, z5⟩
          subst z0
          replace z1 := z1.symm
          subst z1
          replace z2 := z2.symm
          subst z2
          replace z3 := z3.symm
          subst z3
          replace z4 := z4.symm
          subst z4
          replace z5 := z5.symm
          subst z5
          refine And.intro (Or.inl rfl) ?_
          by_cases hdg : 48 ≤ md_by IA p ∧ md_by IA p ≤ 57
          · rw [if_pos hdg]
            refine And.intro (fun e => ?_) (fun e => ?_)
            · clear e
              refine And.intro h.o (And.intro (Nat.le_of_ble_eq_true rfl) (And.intro (Nat.le_of_ble_eq_true rfl) (And.intro (Nat.le_of_ble_eq_true rfl) (Exists.intro _ (And.intro (ct_M_here (p := p) h j1p (by omega) (by omega) (by omega)) ?_)))))
              rintro r9 sh9 FR9 IA9 LA9 n9 ⟨z0, z1, z2, z3, z4, z5⟩
              subst z0
              replace z1 := z1.symm
              subst z1
              replace z2 := z2.symm
              subst z2
              replace z3 := z3.symm
              subst z3
              replace z4 := z4.symm
              subst z4
              replace z5 := z5.symm
              subst z5
              refine And.intro (Or.inl rfl) ?_
              rw [j1by]
              have inn := fun no hno => inner hdg.1 hdg.2 no hno 9 0 0 p (by omega) (by decide) (by decide) hp2 (Or.inl ⟨rfl, rfl, rfl⟩) hT
              rw [e20] at inn
              refine And.intro (fun e => ?_) (fun e => ?_)
              · simp (disch := (clear e; omega)) only [mj_w_id] at e
                exact inn 0 (Or.inr ⟨rfl, e⟩)
              · replace e := Classical.not_not.mp e
                simp (disch := (clear e; omega)) only [mj_w_id] at e
                exact inn 1 (Or.inl ⟨rfl, e⟩)
            · exact absurd (show ¬ mj_w 1 = 0 by decide) e
          · rw [if_neg hdg]
            have hT2 : rd_num (md_by IA) 9 0 0 p = (0, 0, p) := by
              simp only [rd_num]
              rw [if_neg (fun z => hdg ⟨z.1, z.2.1⟩)]
            rw [hT] at hT2
            cases hT2
            rw [if_neg (fun z => z.1 rfl)] at hR
            subst hR
            refine And.intro (fun e => ?_) (fun e => ?_)
            · exact absurd e (show ¬ ¬ mj_w 0 = 0 by decide)
            · clear e
              refine And.intro h.o ?_
              rw [j1p]
              refine And.intro h.o (And.intro (Nat.le_of_ble_eq_true rfl) (And.intro (Nat.le_of_ble_eq_true rfl) (And.intro (Nat.le_of_ble_eq_true rfl) (Exists.intro _ (And.intro (ct_M_fail h) ?_)))))
              rintro r9 sh9 FR9 IA9 LA9 n9 ⟨z0, z1, z2, z3, z4, z5⟩
              subst z0
              replace z1 := z1.symm
              subst z1
              replace z2 := z2.symm
              subst z2
              replace z3 := z3.symm
              subst z3
              replace z4 := z4.symm
              subst z4
              replace z5 := z5.symm
              subst z5
              refine And.intro (Or.inl rfl) ?_
              have g1 : md_f IA J1 := by rw [← e20]; exact (inI p).1
              exact ⟨⟨rfl, rfl, rfl, rfl, rfl, ⟨fun a h1 h2 h3 => by rw [mj_up_ne h1, mj_up_ne h1]; exact g1.1 a h1 h2 h3, fun a h1 h2 h3 => by rw [mj_up_k h3, mj_up_k h2]; exact g1.2 a h1 h2 h3⟩, Or.inr ⟨rfl, (by rw [mj_up_k (by decide), mj_up_at]), (by rw [mj_up_at])⟩⟩, Nat.le_of_ble_eq_true rfl, Nat.le_of_ble_eq_true rfl⟩
  refine mj_Ct_of (by decide +kernel) (by decide) (Nat.le_of_ble_eq_true rfl) ?_
  refine mj_go z_M_line [2] 60 ?_
  exact loop cnt 0 p IA none none none (by omega) ⟨fun _ _ _ _ => rfl, fun _ _ _ _ => rfl⟩ hw hp hp2 hR
end MM
