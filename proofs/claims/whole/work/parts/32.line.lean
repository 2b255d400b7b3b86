/-! READER: takeLine -/
/-- numbers i .. of a line of cnt: t of them are left -/
def rd_ln (r : Nat) (code : Int) (cnt : Nat) : Nat → Nat → mj_FI → Bool × mj_FI
  | 0, _, J => (true, J)
  | t + 1, i, J => if ¬ (rd_t3 J r (J r 8).toNat).1 = 0 ∧ rd_by J r (rd_t3 J r (J r 8).toNat).2.2 = (if i + 1 = cnt then 10 else 32) then rd_ln r code cnt t (i + 1) (rd_tN J r i (if i + 1 = cnt then 10 else 32) code (J r 8).toNat)
      else (false, rd_tN J r i (if i + 1 = cnt then 10 else 32) code (J r 8).toNat)
theorem rd_tN_o {IA : mj_FI} {r idx pos q : Nat} {fol code : Int} (h1 : q ≠ r) (h2 : q ≠ r + 2) (h3 : q ≠ r + 3) : rd_tN IA r idx fol code pos q = IA q := by
  unfold rd_tN rd_tJ
  split
  · rw [mj_up_ne h1, mj_up_ne h2, mj_up_ne h1, mj_up_ne h3]
  · rw [mj_up_ne h1, mj_up_ne h1, mj_up_ne h2, mj_up_ne h1, mj_up_ne h3]
theorem rd_tN_k {IA : mj_FI} {r idx pos k : Nat} {fol code : Int} (h1 : k ≠ 1) (h2 : k ≠ 2) (h3 : k ≠ 8) : rd_tN IA r idx fol code pos r k = IA r k := by
  unfold rd_tN rd_tJ
  split
  · rw [mj_up_k h3, mj_up_ne (by omega), mj_up_k h3, mj_up_ne (by omega)]
  · rw [mj_up_k h2, mj_up_k h1, mj_up_ne (by omega), mj_up_k h3, mj_up_ne (by omega)]
theorem rd_tN_8 {IA : mj_FI} {r idx pos : Nat} {fol code : Int} (h : ¬ (rd_t3 IA r pos).1 = 0 ∧ rd_by IA r (rd_t3 IA r pos).2.2 = fol) : rd_tN IA r idx fol code pos r 8 = (((rd_t3 IA r pos).2.2 + 1 : Nat) : Int) := by
  unfold rd_tN
  rw [if_pos h, mj_up_at]
section RR
variable {sh : mj_Sh} {FR : mj_FR} {IA : mj_FI} {LA : mj_LA} {n r b : Nat}
theorem ct_R_takeLine (h : isRd sh FR n r b) {cnt pos : Nat} {code : Int} (hc : cnt ≤ 5) (hp : IA r 8 = (pos : Int)) (hp2 : pos ≤ 8900) (h1 : 0 ≤ IA r 0) (h2 : IA r 0 ≤ 8192) :
    mj_Ct m_R_takeLine [.inr (.inr (.inl r)), .inl cnt, .inl code] sh FR IA LA n (mj_pu (.inl (some (.inl (if (rd_ln r code cnt cnt 0 IA).1 then 1 else 0)))) sh FR (rd_ln r code cnt cnt 0 IA).2 LA n) := by
  have hR := h
  obtain ⟨h0, r3, r4, r5, r6, r7, a1, a2, a3, a4, s0, s1, a5, a6⟩ := h
  obtain ⟨o9, J9, hT⟩ : ∃ o J, rd_ln r code cnt cnt 0 IA = (o, J) := ⟨_, _, rfl⟩
  rw [hT]
  show mj_Ct m_R_takeLine [.inr (.inr (.inl r)), .inl cnt, .inl code] sh FR IA LA n (mj_pu (.inl (some (.inl (if o9 then 1 else 0)))) sh FR J9 LA n)
  have loop : ∀ (t i : Nat) (J : mj_FI) (p : Nat), i + t = cnt → J r 0 = IA r 0 → J r 8 = (p : Int) → p + 10 * t ≤ 8950 → rd_ln r code cnt t i J = (o9, J9) →
      mj_G m_R_takeLine (mj_pu (.inl (some (.inl (if o9 then 1 else 0)))) sh FR J9 LA n) 2 [some (.inr (.inr (.inl r))), some (.inl cnt), some (.inl code), some (.inl i)] [] sh FR J LA n 0 0 := by
    intro t
    induction t with
    | zero =>
      intro i J p hi hJ0 hJ8 hpt hn
      cases hn
      refine mj_go z_R_takeLine [2] 60 ?_
      refine And.intro (fun c => ?_) (fun c => ?_)
      · exact ⟨Or.inr rfl, ⟨rfl, rfl, rfl, rfl, rfl, rfl⟩, Nat.le_of_ble_eq_true rfl, Nat.le_of_ble_eq_true rfl⟩
      · simp (disch := (clear c; omega)) only [mj_w_id] at c
        omega
    | succ t ih =>
      intro i J p hi hJ0 hJ8 hpt hn
      have hpp : (J r 8).toNat = p := by rw [hJ8]; rfl
      simp only [rd_ln] at hn
      rw [hpp] at hn
      generalize hfo : (if i + 1 = cnt then (10 : Int) else 32) = fol at hn
      have hfol : 0 ≤ fol ∧ fol ≤ 255 := by
        rw [← hfo]
        split <;> decide
      have hp3 := rd_num_p (rd_by J r) 9 0 0 p
      have step : mj_G m_R_takeLine (mj_pu (.inl (some (.inl (if o9 then 1 else 0)))) sh FR J9 LA n) 23 [some (.inr (.inr (.inl r))), some (.inl cnt), some (.inl code), some (.inl i)] [.inl fol, .inl i, .inr (.inr (.inl r))] sh FR J LA n 0 0 := by
        refine mj_go z_R_takeLine [2] 60 ?_
        refine And.intro h0 (And.intro (Nat.le_of_ble_eq_true rfl) (And.intro (Nat.le_of_ble_eq_true rfl) (And.intro (Nat.le_of_ble_eq_true rfl) (Exists.intro _ (And.intro (ct_R_takeNumber hR (by omega) hfol.1 hfol.2 hJ8 (by omega) (by rw [hJ0]; exact h1) (by rw [hJ0]; exact h2)) ?_)))))
        rintro r9 sh9 FR9 IA9 LA9 n9 ⟨z0, z1, z2, z3, z4, z5⟩
        subst z0
        replace z1 := z1.symm
        subst z1
        replace z2 := z2.symm
        subst z2
        replace z3 := z3.symm
        subst z3
        replace z4 := z4.symm
        subst z4
        replace z5 := z5.symm
        subst z5
        refine And.intro (Or.inl rfl) ?_
        by_cases hok : ¬ (rd_t3 J r p).1 = 0 ∧ rd_by J r (rd_t3 J r p).2.2 = fol
        · rw [if_pos hok] at hn ⊢
          refine And.intro (fun d => ?_) (fun d => ?_)
          · refine Exists.intro (((i + 1 : Nat) : Int)) (And.intro (by first | (rw [mj_w_id (by omega) (by omega)]; done) | (rw [mj_w_id (by omega) (by omega)]; omega) | (unfold mj_w; omega)) ?_)
            refine ih (i + 1) _ ((rd_t3 J r p).2.2 + 1) (by omega) (by rw [rd_tN_k (by decide) (by decide) (by decide)]; exact hJ0) (rd_tN_8 hok) ?_ hn
            have : (rd_t3 J r p).2.2 ≤ p + 9 := hp3
            omega
          · exact absurd (by decide) d
        · rw [if_neg hok] at hn ⊢
          cases hn
          refine And.intro (fun d => ?_) (fun d => ?_)
          · exact absurd d (by decide)
          · exact ⟨Or.inl rfl, ⟨rfl, rfl, rfl, rfl, rfl, rfl⟩, Nat.le_of_ble_eq_true rfl, Nat.le_of_ble_eq_true rfl⟩
      refine mj_go z_R_takeLine [23] 60 ?_
      refine And.intro (fun c => ?_) (fun c => ?_)
      · simp (disch := (clear c; omega)) only [mj_w_id] at c
        omega
      · simp (disch := (clear c; omega)) only [mj_w_id] at c
        refine Exists.intro (((cnt : Int) - 1)) (And.intro (by first | (rw [mj_w_id (by omega) (by omega)]; done) | (rw [mj_w_id (by omega) (by omega)]; omega) | (unfold mj_w; omega)) ?_)
        refine And.intro (fun d => ?_) (fun d => ?_)
        · simp (disch := (clear d; omega)) only [mj_w_id] at d
          rw [if_neg (by omega)] at hfo
          subst hfo
          exact step
        · simp (disch := (clear d; omega)) only [mj_w_id] at d
          rw [if_pos (by omega)] at hfo
          subst hfo
          exact step
  refine mj_Ct_of (by decide +kernel) (by decide) (Nat.le_of_ble_eq_true rfl) ?_
  refine mj_go z_R_takeLine [2] 60 ?_
  exact loop cnt 0 IA pos (by omega) rfl hp (by omega) hT
end RR
