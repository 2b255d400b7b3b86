/-! READER: takeUsed, takeOwn, takeKind -/
/-- the net's places and the reader's lie apart -/
def rd_ap (r b : Nat) : Prop := b + 8 < r ∨ r + 6 < b
def rd_kd (IA : mj_FI) (r : Nat) : Prop := rd_by IA r 0 = 97 ∧ (rd_by IA r 1 = 97 ∨ rd_by IA r 1 = 105) ∧ rd_by IA r 2 = 103 ∧ rd_by IA r 3 = 32
section RR
variable {sh : mj_Sh} {FR : mj_FR} {IA : mj_FI} {LA : mj_LA} {n r b : Nat}
theorem ct_R_takeUsed (h : isRd sh FR n r b) (hN : isNet sh FR n b) {idx : Nat} (hx : idx < 5) (g1 : 0 ≤ IA (r + 2) idx) (g2 : IA (r + 2) idx < 2147483648) (h3 : 0 ≤ IA b 9) (h4 : IA b 9 ≤ 1000) :
    mj_Ct m_R_takeUsed [.inr (.inr (.inl r)), .inl idx] sh FR IA LA n (mj_pu (.inl (some (.inl (if IA (r + 2) idx ≤ 2 * IA b 9 + 1 then 1 else 0)))) sh FR (if IA (r + 2) idx ≤ 2 * IA b 9 + 1 then IA else mj_up (mj_up IA r 1 6) r 2 (IA (r + 3) idx)) LA n) := by
  have hR := h
  obtain ⟨h0, r3, r4, r5, r6, r7, a1, a2, a3, a4, s0, s1, a5, a6⟩ := h
  refine mj_Ct_of (by decide +kernel) (by decide) (Nat.le_of_ble_eq_true rfl) ?_
  refine mj_go z_R_takeUsed [] 60 ?_
  refine And.intro h0 (Exists.intro _ (And.intro r7 ?_))
  refine And.intro h0 (Exists.intro _ (And.intro r4 ?_))
  refine Exists.intro _ (Exists.intro (idx) (And.intro a2 (And.intro (by first | (rw [mj_w_id (by omega) (by omega)]; done) | (rw [mj_w_id (by omega) (by omega)]; omega) | (unfold mj_w; omega)) (And.intro (by omega) ?_))))
  refine And.intro hN.1 (And.intro (Nat.le_of_ble_eq_true rfl) (And.intro (Nat.le_of_ble_eq_true rfl) (And.intro (Nat.le_of_ble_eq_true rfl) (Exists.intro _ (And.intro (ct_N_exists hN (by omega) (by omega) h3 h4) ?_)))))
  rintro r9 sh9 FR9 IA9 LA9 n9 ⟨z0, z1, z2, z3, z4, z5⟩
  subst z0
  replace z1 := z1.symm
  subst z1
  replace z2 := z2.symm
  subst z2
  replace z3 := z3.symm
  subst z3
  replace z4 := z4.symm
  subst z4
  replace z5 := z5.symm
  subst z5
  refine And.intro (Or.inl rfl) ?_
  by_cases he : IA (r + 2) idx ≤ 2 * IA b 9 + 1
  · rw [if_pos (show 0 ≤ IA (r + 2) idx ∧ IA (r + 2) idx ≤ 2 * IA b 9 + 1 from ⟨g1, he⟩), if_pos he, if_pos he]
    refine And.intro (fun c => ?_) (fun c => ?_)
    · exact ⟨Or.inr rfl, ⟨rfl, rfl, rfl, rfl, rfl, rfl⟩, Nat.le_of_ble_eq_true rfl, Nat.le_of_ble_eq_true rfl⟩
    · exact absurd (by decide) c
  · rw [if_neg (show ¬ (0 ≤ IA (r + 2) idx ∧ IA (r + 2) idx ≤ 2 * IA b 9 + 1) from fun z => he z.2), if_neg he, if_neg he]
    refine And.intro (fun c => ?_) (fun c => ?_)
    · exact absurd c (by decide)
    · refine And.intro h0 (Exists.intro _ (And.intro r5 ?_))
      refine Exists.intro _ (Exists.intro (idx) (And.intro a3 (And.intro (by first | (rw [mj_w_id (by omega) (by omega)]; done) | (rw [mj_w_id (by omega) (by omega)]; omega) | (unfold mj_w; omega)) (And.intro (by omega) ?_))))
      refine And.intro h0 (And.intro (Nat.le_of_ble_eq_true rfl) (And.intro (Nat.le_of_ble_eq_true rfl) (And.intro (Nat.le_of_ble_eq_true rfl) (Exists.intro _ (And.intro (ct_R_fail hR) ?_)))))
      rintro r9 sh9 FR9 IA9 LA9 n9 ⟨z0, z1, z2, z3, z4, z5⟩
      subst z0
      replace z1 := z1.symm
      subst z1
      replace z2 := z2.symm
      subst z2
      replace z3 := z3.symm
      subst z3
      replace z4 := z4.symm
      subst z4
      replace z5 := z5.symm
      subst z5
      refine And.intro (Or.inl rfl) ?_
      refine And.intro (fun d => ?_) (fun d => ?_)
      · exact ⟨Or.inl rfl, ⟨rfl, rfl, rfl, rfl, rfl, rfl⟩, Nat.le_of_ble_eq_true rfl, Nat.le_of_ble_eq_true rfl⟩
      · exact absurd (by decide) d
theorem ct_R_takeOwn (h : isRd sh FR n r b) (hN : isNet sh FR n b) {slot : Nat} (hx : slot < 315) (g1 : 0 ≤ IA (r + 2) 0) (g2 : IA (r + 2) 0 < 2147483648) (h3 : 0 ≤ IA b 9) (h4 : IA b 9 ≤ 1000) (h5 : ∀ j, j < 1001 → -1 ≤ IA (b + 1) j ∧ IA (b + 1) j < 315) :
    mj_Ct m_R_takeOwn [.inr (.inr (.inl r)), .inl slot] sh FR IA LA n (mj_pu (.inl (some (.inl (if (0 ≤ IA (r + 2) 0 ∧ IA (r + 2) 0 ≤ 2 * IA b 9 + 1) ∧ IA (r + 2) 0 % 2 = 0 ∧ IA (b + 1) (IA (r + 2) 0 / 2).toNat = -1 then 1 else 0)))) sh FR
      (if (0 ≤ IA (r + 2) 0 ∧ IA (r + 2) 0 ≤ 2 * IA b 9 + 1) ∧ IA (r + 2) 0 % 2 = 0 ∧ IA (b + 1) (IA (r + 2) 0 / 2).toNat = -1 then mj_up (mj_up IA (b + 2) slot (IA (r + 2) 0)) (b + 1) (IA (r + 2) 0 / 2).toNat slot else mj_up (mj_up IA r 1 6) r 2 (IA (r + 3) 0)) LA n) := by
  have hR := h
  obtain ⟨h0, r3, r4, r5, r6, r7, a1, a2, a3, a4, s0, s1, a5, a6⟩ := h
  refine mj_Ct_of (by decide +kernel) (by decide) (Nat.le_of_ble_eq_true rfl) ?_
  refine mj_go z_R_takeOwn [] 60 ?_
  refine And.intro h0 (Exists.intro _ (And.intro r7 ?_))
  refine And.intro h0 (Exists.intro _ (And.intro r4 ?_))
  refine Exists.intro _ (Exists.intro (0) (And.intro a2 (And.intro (by first | (rw [mj_w_id (by omega) (by omega)]; done) | (rw [mj_w_id (by omega) (by omega)]; omega) | (unfold mj_w; omega)) (And.intro (by omega) ?_))))
  refine And.intro hN.1 (And.intro (Nat.le_of_ble_eq_true rfl) (And.intro (Nat.le_of_ble_eq_true rfl) (And.intro (Nat.le_of_ble_eq_true rfl) (Exists.intro _ (And.intro (ct_N_isFree hN (by omega) (by omega) h3 h4 h5) ?_)))))
  rintro r9 sh9 FR9 IA9 LA9 n9 ⟨z0, z1, z2, z3, z4, z5⟩
  subst z0
  replace z1 := z1.symm
  subst z1
  replace z2 := z2.symm
  subst z2
  replace z3 := z3.symm
  subst z3
  replace z4 := z4.symm
  subst z4
  replace z5 := z5.symm
  subst z5
  refine And.intro (Or.inl rfl) ?_
  by_cases he : (0 ≤ IA (r + 2) 0 ∧ IA (r + 2) 0 ≤ 2 * IA b 9 + 1) ∧ IA (r + 2) 0 % 2 = 0 ∧ IA (b + 1) (IA (r + 2) 0 / 2).toNat = -1
  · rw [if_pos he, if_pos he]
    refine And.intro (fun c => ?_) (fun c => ?_)
    · refine And.intro h0 (Exists.intro _ (And.intro r7 ?_))
      refine And.intro h0 (Exists.intro _ (And.intro r4 ?_))
      refine Exists.intro _ (Exists.intro (0) (And.intro a2 (And.intro (by first | (rw [mj_w_id (by omega) (by omega)]; done) | (rw [mj_w_id (by omega) (by omega)]; omega) | (unfold mj_w; omega)) (And.intro (by omega) ?_))))
      refine And.intro hN.1 (And.intro (Nat.le_of_ble_eq_true rfl) (And.intro (Nat.le_of_ble_eq_true rfl) (And.intro (Nat.le_of_ble_eq_true rfl) (Exists.intro _ (And.intro (ct_N_place hN (by omega) (by omega) hx) ?_)))))
      rintro r9 sh9 FR9 IA9 LA9 n9 ⟨z0, z1, z2, z3, z4, z5⟩
      subst z0
      replace z1 := z1.symm
      subst z1
      replace z2 := z2.symm
      subst z2
      replace z3 := z3.symm
      subst z3
      replace z4 := z4.symm
      subst z4
      replace z5 := z5.symm
      subst z5
      refine And.intro (Or.inl rfl) ?_
      exact ⟨Or.inr rfl, ⟨rfl, rfl, rfl, rfl, rfl, rfl⟩, Nat.le_of_ble_eq_true rfl, Nat.le_of_ble_eq_true rfl⟩
    · exact absurd (by decide) c
  · rw [if_neg he, if_neg he]
    refine And.intro (fun c => ?_) (fun c => ?_)
    · exact absurd c (by decide)
    · refine And.intro h0 (Exists.intro _ (And.intro r5 ?_))
      refine Exists.intro _ (Exists.intro (0) (And.intro a3 (And.intro (by first | (rw [mj_w_id (by omega) (by omega)]; done) | (rw [mj_w_id (by omega) (by omega)]; omega) | (unfold mj_w; omega)) (And.intro (by omega) ?_))))
      refine And.intro h0 (And.intro (Nat.le_of_ble_eq_true rfl) (And.intro (Nat.le_of_ble_eq_true rfl) (And.intro (Nat.le_of_ble_eq_true rfl) (Exists.intro _ (And.intro (ct_R_fail hR) ?_)))))
      rintro r9 sh9 FR9 IA9 LA9 n9 ⟨z0, z1, z2, z3, z4, z5⟩
      subst z0
      replace z1 := z1.symm
      subst z1
      replace z2 := z2.symm
      subst z2
      replace z3 := z3.symm
      subst z3
      replace z4 := z4.symm
      subst z4
      replace z5 := z5.symm
      subst z5
      refine And.intro (Or.inl rfl) ?_
      exact ⟨Or.inl rfl, ⟨rfl, rfl, rfl, rfl, rfl, rfl⟩, Nat.le_of_ble_eq_true rfl, Nat.le_of_ble_eq_true rfl⟩
theorem ct_R_takeKind (h : isRd sh FR n r b) (h1 : 0 ≤ IA r 0) (h2 : IA r 0 ≤ 8192) :
    mj_Ct m_R_takeKind [.inr (.inr (.inl r))] sh FR IA LA n (fun o sh' FR' IA' LA' n' => sh' = sh ∧ FR' = FR ∧ LA' = LA ∧ n' = n ∧ ((rd_kd IA r ∧ o = .inl (some (.inl 1)) ∧ IA' = mj_up (mj_up IA r 9 (if rd_by IA r 1 = 105 then 1 else 0)) r 8 4) ∨ (¬ rd_kd IA r ∧ o = .inl (some (.inl 0)) ∧ IA' = mj_up (mj_up IA r 1 1) r 2 0))) := by
  have hR := h
  obtain ⟨h0, r3, r4, r5, r6, r7, a1, a2, a3, a4, s0, s1, a5, a6⟩ := h
  have b0 := rd_by_in IA r 0
  have b1 := rd_by_in IA r 1
  have b2 := rd_by_in IA r 2
  have b3 := rd_by_in IA r 3
  generalize hQ : (fun (o : mj_O) (sh' : mj_Sh) (FR' : mj_FR) (IA' : mj_FI) (LA' : mj_LA) (n' : Nat) => sh' = sh ∧ FR' = FR ∧ LA' = LA ∧ n' = n ∧ ((rd_kd IA r ∧ o = .inl (some (.inl 1)) ∧ IA' = mj_up (mj_up IA r 9 (if rd_by IA r 1 = 105 then 1 else 0)) r 8 4) ∨ (¬ rd_kd IA r ∧ o = .inl (some (.inl 0)) ∧ IA' = mj_up (mj_up IA r 1 1) r 2 0))) = Q
  have no : ¬ rd_kd IA r → mj_G m_R_takeKind Q 52 [some (.inr (.inr (.inl r))), some (.inl (rd_by IA r 1)), none] [] sh FR IA LA n 0 0 := by
    intro hk
    subst hQ
    refine mj_go z_R_takeKind [] 60 ?_
    refine And.intro (fun c => ?_) (fun c => ?_)
    · exact absurd (by decide) c
    · refine And.intro h0 (And.intro (Nat.le_of_ble_eq_true rfl) (And.intro (Nat.le_of_ble_eq_true rfl) (And.intro (Nat.le_of_ble_eq_true rfl) (Exists.intro _ (And.intro (ct_R_fail hR) ?_)))))
      rintro r9 sh9 FR9 IA9 LA9 n9 ⟨z0, z1, z2, z3, z4, z5⟩
      subst z0
      replace z1 := z1.symm
      subst z1
      replace z2 := z2.symm
      subst z2
      replace z3 := z3.symm
      subst z3
      replace z4 := z4.symm
      subst z4
      replace z5 := z5.symm
      subst z5
      refine And.intro (Or.inl rfl) ?_
      exact ⟨Or.inl rfl, ⟨rfl, rfl, rfl, rfl, Or.inr ⟨hk, rfl, rfl⟩⟩, Nat.le_of_ble_eq_true rfl, Nat.le_of_ble_eq_true rfl⟩
  have mid : (rd_by IA r 0 = 97 ∧ (rd_by IA r 1 = 97 ∨ rd_by IA r 1 = 105)) → mj_G m_R_takeKind Q 28 [some (.inr (.inr (.inl r))), some (.inl (rd_by IA r 1)), none] [] sh FR IA LA n 0 0 := by
    intro hk
    refine mj_go z_R_takeKind [52] 60 ?_
    refine And.intro h0 (And.intro (Nat.le_of_ble_eq_true rfl) (And.intro (Nat.le_of_ble_eq_true rfl) (And.intro (Nat.le_of_ble_eq_true rfl) (Exists.intro _ (And.intro (ct_R_byteAt (i := 2) hR (by decide) h1 h2) ?_)))))
    rintro r9 sh9 FR9 IA9 LA9 n9 ⟨z0, z1, z2, z3, z4, z5⟩
    subst z0
    replace z1 := z1.symm
    subst z1
    replace z2 := z2.symm
    subst z2
    replace z3 := z3.symm
    subst z3
    replace z4 := z4.symm
    subst z4
    replace z5 := z5.symm
    subst z5
    refine And.intro (Or.inl rfl) ?_
    refine And.intro (fun c => ?_) (fun c => ?_)
    · simp (disch := (clear c; omega)) only [mj_w_id] at c
      exact no (fun z => c z.2.2.1)
    · have c := Classical.not_not.mp c
      simp (disch := (clear c; omega)) only [mj_w_id] at c
      refine And.intro h0 (And.intro (Nat.le_of_ble_eq_true rfl) (And.intro (Nat.le_of_ble_eq_true rfl) (And.intro (Nat.le_of_ble_eq_true rfl) (Exists.intro _ (And.intro (ct_R_byteAt (i := 3) hR (by decide) h1 h2) ?_)))))
      rintro r9 sh9 FR9 IA9 LA9 n9 ⟨z0, z1, z2, z3, z4, z5⟩
      subst z0
      replace z1 := z1.symm
      subst z1
      replace z2 := z2.symm
      subst z2
      replace z3 := z3.symm
      subst z3
      replace z4 := z4.symm
      subst z4
      replace z5 := z5.symm
      subst z5
      refine And.intro (Or.inl rfl) ?_
      refine And.intro (fun d => ?_) (fun d => ?_)
      · simp (disch := (clear d; omega)) only [mj_w_id] at d
        exact no (fun z => d z.2.2.2)
      · have d := Classical.not_not.mp d
        simp (disch := (clear d; omega)) only [mj_w_id] at d
        have hkd : rd_kd IA r := ⟨hk.1, hk.2, c, d⟩
        subst hQ
        refine And.intro (fun e => ?_) (fun e => ?_)
        · refine And.intro (fun f => ?_) (fun f => ?_)
          · simp (disch := (clear f; omega)) only [mj_w_id] at f
            refine And.intro h0 (And.intro (Or.inl rfl) ?_)
            refine And.intro h0 ?_
            refine ⟨Or.inr rfl, ⟨rfl, rfl, rfl, rfl, Or.inl ⟨hkd, rfl, ?_⟩⟩, Nat.le_of_ble_eq_true rfl, Nat.le_of_ble_eq_true rfl⟩
            rw [if_neg f]
          · have f := Classical.not_not.mp f
            simp (disch := (clear f; omega)) only [mj_w_id] at f
            refine And.intro h0 (And.intro (Or.inr rfl) ?_)
            refine And.intro h0 ?_
            refine ⟨Or.inr rfl, ⟨rfl, rfl, rfl, rfl, Or.inl ⟨hkd, rfl, ?_⟩⟩, Nat.le_of_ble_eq_true rfl, Nat.le_of_ble_eq_true rfl⟩
            rw [if_pos f]
        · exact absurd (by decide) e
  refine mj_Ct_of (by decide +kernel) (by decide) (Nat.le_of_ble_eq_true rfl) ?_
  refine mj_go z_R_takeKind [28, 52] 60 ?_
  refine And.intro h0 (And.intro (Nat.le_of_ble_eq_true rfl) (And.intro (Nat.le_of_ble_eq_true rfl) (And.intro (Nat.le_of_ble_eq_true rfl) (Exists.intro _ (And.intro (ct_R_byteAt (i := 1) hR (by decide) h1 h2) ?_)))))
  rintro r9 sh9 FR9 IA9 LA9 n9 ⟨z0, z1, z2, z3, z4, z5⟩
  subst z0
  replace z1 := z1.symm
  subst z1
  replace z2 := z2.symm
  subst z2
  replace z3 := z3.symm
  subst z3
  replace z4 := z4.symm
  subst z4
  replace z5 := z5.symm
  subst z5
  refine And.intro (Or.inl rfl) ?_
  refine And.intro h0 (And.intro (Nat.le_of_ble_eq_true rfl) (And.intro (Nat.le_of_ble_eq_true rfl) (And.intro (Nat.le_of_ble_eq_true rfl) (Exists.intro _ (And.intro (ct_R_byteAt (i := 0) hR (by decide) h1 h2) ?_)))))
  rintro r9 sh9 FR9 IA9 LA9 n9 ⟨z0, z1, z2, z3, z4, z5⟩
  subst z0
  replace z1 := z1.symm
  subst z1
  replace z2 := z2.symm
  subst z2
  replace z3 := z3.symm
  subst z3
  replace z4 := z4.symm
  subst z4
  replace z5 := z5.symm
  subst z5
  refine And.intro (Or.inl rfl) ?_
  refine And.intro (fun c => ?_) (fun c => ?_)
  · simp (disch := (clear c; omega)) only [mj_w_id] at c
    exact no (fun z => c z.1)
  · have c := Classical.not_not.mp c
    simp (disch := (clear c; omega)) only [mj_w_id] at c
    refine And.intro (fun d => ?_) (fun d => ?_)
    · simp (disch := (clear d; omega)) only [mj_w_id] at d
      exact mid ⟨c, Or.inl d⟩
    · simp (disch := (clear d; omega)) only [mj_w_id] at d
      refine And.intro (fun e => ?_) (fun e => ?_)
      · simp (disch := (clear e; omega)) only [mj_w_id] at e
        exact no (fun z => z.2.1.elim d e)
      · have e := Classical.not_not.mp e
        simp (disch := (clear e; omega)) only [mj_w_id] at e
        exact mid ⟨c, Or.inr e⟩
end RR
