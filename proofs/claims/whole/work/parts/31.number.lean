/-! READER: takeNumber -/
/-- the digits from p on: how many, their number, the place behind them; at most t more -/
def rd_num (by0 : Nat → Int) : Nat → Nat → Int → Nat → Nat × Int × Nat
  | 0, d, v, p => (d, v, p)
  | t + 1, d, v, p => if 48 ≤ by0 p ∧ by0 p ≤ 57 ∧ (d = 0 ∨ 0 < v) then rd_num by0 t (d + 1) (10 * v + by0 p - 48) (p + 1) else (d, v, p)
def rd_t3 (IA : mj_FI) (r pos : Nat) : Nat × Int × Nat := rd_num (rd_by IA r) 9 0 0 pos
def rd_tJ (IA : mj_FI) (r idx pos : Nat) : mj_FI := mj_up (mj_up (mj_up IA (r + 3) idx (pos : Int)) r 8 ((rd_t3 IA r pos).2.2 : Int)) (r + 2) idx (rd_t3 IA r pos).2.1
/-- the state behind takeNumber -/
def rd_tN (IA : mj_FI) (r idx : Nat) (fol code : Int) (pos : Nat) : mj_FI :=
  if ¬ (rd_t3 IA r pos).1 = 0 ∧ rd_by IA r (rd_t3 IA r pos).2.2 = fol then mj_up (rd_tJ IA r idx pos) r 8 (((rd_t3 IA r pos).2.2 + 1 : Nat) : Int) else mj_up (mj_up (rd_tJ IA r idx pos) r 1 code) r 2 ((rd_t3 IA r pos).2.2 : Int)
theorem rd_num_p (by0 : Nat → Int) : ∀ (t d : Nat) (v : Int) (p : Nat), (rd_num by0 t d v p).2.2 ≤ p + t
  | 0, d, v, p => Nat.le_refl _
  | t + 1, d, v, p => by
    simp only [rd_num]
    split
    · have := rd_num_p by0 t (d + 1) (10 * v + by0 p - 48) (p + 1)
      omega
    · show p ≤ p + (t + 1)
      omega
theorem rd_num_d (by0 : Nat → Int) : ∀ (t d : Nat) (v : Int) (p : Nat), (rd_num by0 t d v p).1 ≤ d + t
  | 0, d, v, p => Nat.le_refl _
  | t + 1, d, v, p => by
    simp only [rd_num]
    split
    · have := rd_num_d by0 t (d + 1) (10 * v + by0 p - 48) (p + 1)
      omega
    · show d ≤ d + (t + 1)
      omega
section RR
variable {sh : mj_Sh} {FR : mj_FR} {IA : mj_FI} {LA : mj_LA} {n r b : Nat}
set_option maxHeartbeats 1000000 in
theorem ct_R_takeNumber (h : isRd sh FR n r b) {idx pos : Nat} {fol code : Int} (hx : idx < 5) (hf1 : 0 ≤ fol) (hf2 : fol ≤ 255) (hp : IA r 8 = (pos : Int)) (hp2 : pos ≤ 9000) (h1 : 0 ≤ IA r 0) (h2 : IA r 0 ≤ 8192) :
    mj_Ct m_R_takeNumber [.inr (.inr (.inl r)), .inl idx, .inl fol, .inl code] sh FR IA LA n (mj_pu (.inl (some (.inl (if ¬ (rd_t3 IA r pos).1 = 0 ∧ rd_by IA r (rd_t3 IA r pos).2.2 = fol then 1 else 0)))) sh FR (rd_tN IA r idx fol code pos) LA n) := by
  have hR := h
  obtain ⟨h0, r3, r4, r5, r6, r7, a1, a2, a3, a4, s0, s1, a5, a6⟩ := h
  obtain ⟨d9, v9, p9, hT⟩ : ∃ d v p, rd_t3 IA r pos = (d, v, p) := ⟨_, _, _, rfl⟩
  have hp9 : p9 ≤ pos + 9 := by
    have q := rd_num_p (rd_by IA r) 9 0 0 pos
    rw [show rd_num (rd_by IA r) 9 0 0 pos = (d9, v9, p9) from hT] at q
    exact q
  have hd9 : d9 ≤ 9 := by
    have q := rd_num_d (rd_by IA r) 9 0 0 pos
    rw [show rd_num (rd_by IA r) 9 0 0 pos = (d9, v9, p9) from hT] at q
    omega
  have hJ : rd_tJ IA r idx pos = mj_up (mj_up (mj_up IA (r + 3) idx (pos : Int)) r 8 (p9 : Int)) (r + 2) idx v9 := by
    unfold rd_tJ
    rw [hT]
  have hN : rd_tN IA r idx fol code pos = if ¬ d9 = 0 ∧ rd_by IA r p9 = fol then mj_up (rd_tJ IA r idx pos) r 8 ((p9 + 1 : Nat) : Int) else mj_up (mj_up (rd_tJ IA r idx pos) r 1 code) r 2 (p9 : Int) := by
    unfold rd_tN
    rw [hT]
  rw [hN, hT]
  show mj_Ct m_R_takeNumber [.inr (.inr (.inl r)), .inl idx, .inl fol, .inl code] sh FR IA LA n (mj_pu (.inl (some (.inl (if ¬ d9 = 0 ∧ rd_by IA r p9 = fol then 1 else 0)))) sh FR (if ¬ d9 = 0 ∧ rd_by IA r p9 = fol then mj_up (rd_tJ IA r idx pos) r 8 ((p9 + 1 : Nat) : Int) else mj_up (mj_up (rd_tJ IA r idx pos) r 1 code) r 2 (p9 : Int)) LA n)
  generalize hQ : mj_pu (.inl (some (.inl (if ¬ d9 = 0 ∧ rd_by IA r p9 = fol then 1 else 0)))) sh FR (if ¬ d9 = 0 ∧ rd_by IA r p9 = fol then mj_up (rd_tJ IA r idx pos) r 8 ((p9 + 1 : Nat) : Int) else mj_up (mj_up (rd_tJ IA r idx pos) r 1 code) r 2 (p9 : Int)) LA n = Q
  have hby : ∀ (p : Nat) (x : Int), rd_by (mj_up (mj_up IA (r + 3) idx (pos : Int)) r 8 x) r p = rd_by IA r p := by
    intro p x
    unfold rd_by
    rw [mj_up_k (show (0 : Nat) ≠ 8 by decide), mj_up_ne (show r ≠ r + 3 by omega), mj_up_ne (show r + 1 ≠ r by omega), mj_up_ne (show r + 1 ≠ r + 3 by omega)]
  have hl0 : ∀ x : Int, mj_up (mj_up IA (r + 3) idx (pos : Int)) r 8 x r 0 = IA r 0 := by
    intro x
    rw [mj_up_k (show (0 : Nat) ≠ 8 by decide), mj_up_ne (show r ≠ r + 3 by omega)]
  have g9 := rd_by_in IA r p9
  have bad : ¬ (¬ d9 = 0 ∧ rd_by IA r p9 = fol) → mj_G m_R_takeNumber Q 115 [some (.inr (.inr (.inl r))), some (.inl idx), some (.inl fol), some (.inl code), some (.inl v9), some (.inl d9), some (.inl (rd_by IA r p9))] [] sh FR (rd_tJ IA r idx pos) LA n 0 0 := by
    intro hb
    rw [if_neg hb, if_neg hb] at hQ
    subst hQ
    refine mj_go z_R_takeNumber [26, 57, 96] 60 ?_
    refine And.intro h0 ?_
    rw [show rd_tJ IA r idx pos r 8 = (p9 : Int) by rw [hJ, mj_up_ne (show r ≠ r + 2 by omega), mj_up_at]]
    refine And.intro h0 (And.intro (Nat.le_of_ble_eq_true rfl) (And.intro (Nat.le_of_ble_eq_true rfl) (And.intro (Nat.le_of_ble_eq_true rfl) (Exists.intro _ (And.intro (ct_R_fail hR) ?_)))))
    rintro r9 sh9 FR9 IA9 LA9 n9 ⟨z0, z1, z2, z3, z4, z5⟩
    subst z0
    replace z1 := z1.symm
    subst z1
    replace z2 := z2.symm
    subst z2
    replace z3 := z3.symm
    subst z3
    replace z4 := z4.symm
    subst z4
    replace z5 := z5.symm
    subst z5
    refine And.intro (Or.inl rfl) ?_
    exact ⟨Or.inl rfl, ⟨rfl, rfl, rfl, rfl, rfl, rfl⟩, Nat.le_of_ble_eq_true rfl, Nat.le_of_ble_eq_true rfl⟩
  have fin : mj_G m_R_takeNumber Q 96 [some (.inr (.inr (.inl r))), some (.inl idx), some (.inl fol), some (.inl code), some (.inl v9), some (.inl d9), some (.inl (rd_by IA r p9))] [] sh FR (mj_up (mj_up IA (r + 3) idx (pos : Int)) r 8 (p9 : Int)) LA n 0 0 := by
    refine mj_go z_R_takeNumber [26, 57, 115] 60 ?_
    refine And.intro h0 (Exists.intro _ (And.intro r4 ?_))
    refine Exists.intro _ (Exists.intro (idx) (And.intro a2 (And.intro (by first | (rw [mj_w_id (by omega) (by omega)]; done) | (rw [mj_w_id (by omega) (by omega)]; omega) | (unfold mj_w; omega)) (And.intro (by omega) ?_))))
    rw [← hJ]
    refine And.intro (fun c => ?_) (fun c => ?_)
    · simp (disch := (clear c; omega)) only [mj_w_id] at c
      exact bad (fun z => z.1 (by omega))
    · simp (disch := (clear c; omega)) only [mj_w_id] at c
      refine And.intro (fun d => ?_) (fun d => ?_)
      · simp (disch := (clear d; omega)) only [mj_w_id] at d
        have hok : ¬ d9 = 0 ∧ rd_by IA r p9 = fol := ⟨by omega, d⟩
        rw [if_pos hok, if_pos hok] at hQ
        subst hQ
        refine And.intro rfl ?_
        refine And.intro h0 ?_
        rw [show rd_tJ IA r idx pos r 8 = (p9 : Int) by rw [hJ, mj_up_ne (show r ≠ r + 2 by omega), mj_up_at]]
        refine Exists.intro (((p9 + 1 : Nat) : Int)) (And.intro (by first | (rw [mj_w_id (by omega) (by omega)]; done) | (rw [mj_w_id (by omega) (by omega)]; omega) | (unfold mj_w; omega)) ?_)
        refine And.intro h0 ?_
        exact ⟨Or.inr rfl, ⟨rfl, rfl, rfl, rfl, rfl, rfl⟩, Nat.le_of_ble_eq_true rfl, Nat.le_of_ble_eq_true rfl⟩
      · simp (disch := (clear d; omega)) only [mj_w_id] at d
        exact bad (fun z => d z.2)
  have loop : ∀ (t d : Nat) (v : Int) (p : Nat), d + t = 9 → 0 ≤ v → v < ((10 ^ d : Nat) : Int) → p ≤ pos + d → rd_num (rd_by IA r) t d v p = (d9, v9, p9) →
      mj_G m_R_takeNumber Q 26 [some (.inr (.inr (.inl r))), some (.inl idx), some (.inl fol), some (.inl code), some (.inl v), some (.inl d), some (.inl (rd_by IA r p))] [] sh FR (mj_up (mj_up IA (r + 3) idx (pos : Int)) r 8 (p : Int)) LA n 0 0 := by
    intro t
    induction t with
    | zero =>
      intro d v p hd hv0 hv1 hpp hn
      cases hn
      refine mj_go z_R_takeNumber [26, 57, 96] 60 ?_
      refine And.intro (fun c => ?_) (fun c => ?_)
      · exact fin
      · simp (disch := (clear c; omega)) only [mj_w_id] at c
        omega
    | succ t ih =>
      intro d v p hd hv0 hv1 hpp hn
      have hpw : (10 ^ d : Nat) ≤ 10 ^ 8 := Nat.pow_le_pow_right (by decide) (by omega)
      have hpw1 : (10 ^ (d + 1) : Nat) = 10 * 10 ^ d := by rw [Nat.pow_succ, Nat.mul_comm]
      have gp := rd_by_in IA r p
      simp only [rd_num] at hn
      have out : ¬ (48 ≤ rd_by IA r p ∧ rd_by IA r p ≤ 57 ∧ (d = 0 ∨ 0 < v)) → mj_G m_R_takeNumber Q 96 [some (.inr (.inr (.inl r))), some (.inl idx), some (.inl fol), some (.inl code), some (.inl v), some (.inl d), some (.inl (rd_by IA r p))] [] sh FR (mj_up (mj_up IA (r + 3) idx (pos : Int)) r 8 (p : Int)) LA n 0 0 := by
        intro hc
        rw [if_neg hc] at hn
        cases hn
        exact fin
      have body : (48 ≤ rd_by IA r p ∧ rd_by IA r p ≤ 57 ∧ (d = 0 ∨ 0 < v)) → mj_G m_R_takeNumber Q 57 [some (.inr (.inr (.inl r))), some (.inl idx), some (.inl fol), some (.inl code), some (.inl v), some (.inl d), some (.inl (rd_by IA r p))] [] sh FR (mj_up (mj_up IA (r + 3) idx (pos : Int)) r 8 (p : Int)) LA n 0 0 := by
        intro hc
        rw [if_pos hc] at hn
        refine mj_go z_R_takeNumber [26, 96] 60 ?_
        refine Exists.intro (10 * v) (And.intro (by first | (rw [mj_w_id (by omega) (by omega)]; done) | (rw [mj_w_id (by omega) (by omega)]; omega) | (unfold mj_w; omega)) ?_)
        refine Exists.intro (10 * v + rd_by IA r p) (And.intro (by first | (rw [mj_w_id (by omega) (by omega)]; done) | (rw [mj_w_id (by omega) (by omega)]; omega) | (unfold mj_w; omega)) ?_)
        refine Exists.intro (10 * v + rd_by IA r p - 48) (And.intro (by first | (rw [mj_w_id (by omega) (by omega)]; done) | (rw [mj_w_id (by omega) (by omega)]; omega) | (unfold mj_w; omega)) ?_)
        refine Exists.intro (((d + 1 : Nat) : Int)) (And.intro (by first | (rw [mj_w_id (by omega) (by omega)]; done) | (rw [mj_w_id (by omega) (by omega)]; omega) | (unfold mj_w; omega)) ?_)
        refine And.intro rfl ?_
        refine And.intro h0 ?_
        rw [mj_up_at]
        refine Exists.intro (((p + 1 : Nat) : Int)) (And.intro (by first | (rw [mj_w_id (by omega) (by omega)]; done) | (rw [mj_w_id (by omega) (by omega)]; omega) | (unfold mj_w; omega)) ?_)
        refine And.intro h0 ?_
        rw [mj_up_up]
        refine And.intro h0 ?_
        rw [mj_up_at]
        refine And.intro h0 (And.intro (Nat.le_of_ble_eq_true rfl) (And.intro (Nat.le_of_ble_eq_true rfl) (And.intro (Nat.le_of_ble_eq_true rfl) (Exists.intro _ (And.intro (ct_R_byteAt hR (by omega) (by rw [hl0]; exact h1) (by rw [hl0]; exact h2)) ?_)))))
        rintro r9 sh9 FR9 IA9 LA9 n9 ⟨z0, z1, z2, z3, z4, z5⟩
        subst z0
        replace z1 := z1.symm
        subst z1
        replace z2 := z2.symm
        subst z2
        replace z3 := z3.symm
        subst z3
        replace z4 := z4.symm
        subst z4
        replace z5 := z5.symm
        subst z5
        refine And.intro (Or.inl rfl) ?_
        rw [hby]
        exact ih (d + 1) (10 * v + rd_by IA r p - 48) (p + 1) (by omega) (by omega) (by omega) (by omega) hn
      refine mj_go z_R_takeNumber [26, 57, 96] 60 ?_
      refine And.intro (fun c1 => ?_) (fun c1 => ?_)
      · simp (disch := (clear c1; omega)) only [mj_w_id] at c1
        omega
      · refine And.intro (fun c2 => ?_) (fun c2 => ?_)
        · simp (disch := (clear c2; omega)) only [mj_w_id] at c2
          exact out (by omega)
        · simp (disch := (clear c2; omega)) only [mj_w_id] at c2
          refine And.intro (fun c3 => ?_) (fun c3 => ?_)
          · simp (disch := (clear c3; omega)) only [mj_w_id] at c3
            exact out (by omega)
          · simp (disch := (clear c3; omega)) only [mj_w_id] at c3
            refine And.intro (fun c4 => ?_) (fun c4 => ?_)
            · simp (disch := (clear c4; omega)) only [mj_w_id] at c4
              exact body (by omega)
            · simp (disch := (clear c4; omega)) only [mj_w_id] at c4
              refine And.intro (fun c5 => ?_) (fun c5 => ?_)
              · simp (disch := (clear c5; omega)) only [mj_w_id] at c5
                exact out (by omega)
              · simp (disch := (clear c5; omega)) only [mj_w_id] at c5
                exact body (by omega)
  refine mj_Ct_of (by decide +kernel) (by decide) (Nat.le_of_ble_eq_true rfl) ?_
  refine mj_go z_R_takeNumber [26] 60 ?_
  refine And.intro h0 (Exists.intro _ (And.intro r5 ?_))
  refine And.intro h0 ?_
  rw [hp]
  refine Exists.intro _ (Exists.intro (idx) (And.intro a3 (And.intro (by first | (rw [mj_w_id (by omega) (by omega)]; done) | (rw [mj_w_id (by omega) (by omega)]; omega) | (unfold mj_w; omega)) (And.intro (by omega) ?_))))
  refine And.intro h0 ?_
  rw [mj_up_ne (show r ≠ r + 3 by omega), hp]
  refine And.intro h0 (And.intro (Nat.le_of_ble_eq_true rfl) (And.intro (Nat.le_of_ble_eq_true rfl) (And.intro (Nat.le_of_ble_eq_true rfl) (Exists.intro _ (And.intro (ct_R_byteAt hR (by omega) (by rw [mj_up_ne (show r ≠ r + 3 by omega)]; exact h1) (by rw [mj_up_ne (show r ≠ r + 3 by omega)]; exact h2)) ?_)))))
  rintro r9 sh9 FR9 IA9 LA9 n9 ⟨z0, z1, z2, z3, z4, z5⟩
  subst z0
  replace z1 := z1.symm
  subst z1
  replace z2 := z2.symm
  subst z2
  replace z3 := z3.symm
  subst z3
  replace z4 := z4.symm
  subst z4
  replace z5 := z5.symm
  subst z5
  refine And.intro (Or.inl rfl) ?_
  have e8 : mj_up (mj_up IA (r + 3) idx (pos : Int)) r 8 (pos : Int) = mj_up IA (r + 3) idx (pos : Int) := mj_up_self (by rw [mj_up_ne (show r ≠ r + 3 by omega)]; exact hp)
  have hb0 := hby pos pos
  rw [e8] at hb0
  rw [hb0]
  have h9 := loop 9 0 0 pos (by omega) (by decide) (by decide) (by omega) hT
  rw [e8] at h9
  exact h9
end RR
