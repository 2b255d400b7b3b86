/-! READER: what a line leaves -/
theorem rd_num_v (by0 : Nat → Int) : ∀ (t d : Nat) (v : Int) (p : Nat), 0 ≤ v → v < ((10 ^ d : Nat) : Int) → 0 ≤ (rd_num by0 t d v p).2.1 ∧ (rd_num by0 t d v p).2.1 < ((10 ^ (d + t) : Nat) : Int)
  | 0, d, v, p, h1, h2 => ⟨h1, h2⟩
  | t + 1, d, v, p, h1, h2 => by
    have hp : (10 ^ (d + 1) : Nat) = 10 * 10 ^ d := by rw [Nat.pow_succ, Nat.mul_comm]
    have hm : (10 ^ d : Nat) ≤ 10 ^ (d + (t + 1)) := Nat.pow_le_pow_right (by decide) (by omega)
    simp only [rd_num]
    split
    · rename_i hc
      have h := rd_num_v by0 t (d + 1) (10 * v + by0 p - 48) (p + 1) (by omega) (by omega)
      rw [show d + 1 + t = d + (t + 1) by omega] at h
      exact h
    · refine ⟨h1, ?_⟩
      show v < _
      omega
theorem rd_t3_v (IA : mj_FI) (r pos : Nat) : 0 ≤ (rd_t3 IA r pos).2.1 ∧ (rd_t3 IA r pos).2.1 < 1000000000 := rd_num_v (rd_by IA r) 9 0 0 pos (by decide) (by decide)
theorem rd_t3_p (IA : mj_FI) (r pos : Nat) : (rd_t3 IA r pos).2.2 ≤ pos + 9 := rd_num_p (rd_by IA r) 9 0 0 pos
theorem rd_tN_num {IA : mj_FI} {r idx pos : Nat} {fol code : Int} (j : Nat) : rd_tN IA r idx fol code pos (r + 2) j = if j = idx then (rd_t3 IA r pos).2.1 else IA (r + 2) j := by
  unfold rd_tN rd_tJ
  split
  · rw [mj_up_ne (by omega), mj_up_eq, mj_up_ne (by omega), mj_up_ne (by omega)]
  · rw [mj_up_ne (by omega), mj_up_ne (by omega), mj_up_eq, mj_up_ne (by omega), mj_up_ne (by omega)]
theorem rd_ln_o {r cnt q : Nat} {code : Int} (h1 : q ≠ r) (h2 : q ≠ r + 2) (h3 : q ≠ r + 3) : ∀ (t i : Nat) (J : mj_FI), (rd_ln r code cnt t i J).2 q = J q
  | 0, _, _ => rfl
  | t + 1, i, J => by
    simp only [rd_ln]
    generalize (if i + 1 = cnt then (10 : Int) else 32) = fol
    split
    · rw [rd_ln_o h1 h2 h3 t, rd_tN_o h1 h2 h3]
    · exact rd_tN_o h1 h2 h3
theorem rd_ln_k {r cnt k : Nat} {code : Int} (h1 : k ≠ 1) (h2 : k ≠ 2) (h3 : k ≠ 8) : ∀ (t i : Nat) (J : mj_FI), (rd_ln r code cnt t i J).2 r k = J r k
  | 0, _, _ => rfl
  | t + 1, i, J => by
    simp only [rd_ln]
    generalize (if i + 1 = cnt then (10 : Int) else 32) = fol
    split
    · rw [rd_ln_k h1 h2 h3 t, rd_tN_k h1 h2 h3]
    · exact rd_tN_k h1 h2 h3
/-- the numbers of a line are in their range where they were before -/
theorem rd_ln_num {r cnt : Nat} {code : Int} : ∀ (t i : Nat) (J : mj_FI) (j : Nat), (i ≤ j ∧ j < i + t) ∨ (0 ≤ J (r + 2) j ∧ J (r + 2) j < 1000000000) → (rd_ln r code cnt t i J).1 = true → 0 ≤ (rd_ln r code cnt t i J).2 (r + 2) j ∧ (rd_ln r code cnt t i J).2 (r + 2) j < 1000000000
  | 0, i, J, j, h, _ => by
    rcases h with h | h
    · omega
    · exact h
  | t + 1, i, J, j, h, hok => by
    simp only [rd_ln] at hok ⊢
    generalize (if i + 1 = cnt then (10 : Int) else 32) = fol at hok ⊢
    split at hok
    · rename_i hc
      rw [if_pos hc]
      refine rd_ln_num t (i + 1) _ j ?_ hok
      by_cases hj : j = i
      · refine Or.inr ?_
        rw [rd_tN_num, if_pos hj]
        exact rd_t3_v J r _
      · rcases h with h | h
        · exact Or.inl ⟨by omega, by omega⟩
        · refine Or.inr ?_
          rw [rd_tN_num, if_neg hj]
          exact h
    · cases hok
/-- where a line that was taken ends -/
theorem rd_ln_p {r cnt : Nat} {code : Int} : ∀ (t i : Nat) (J : mj_FI) (p : Nat), J r 8 = (p : Int) → (rd_ln r code cnt t i J).1 = true → ∃ p' : Nat, (rd_ln r code cnt t i J).2 r 8 = (p' : Int) ∧ p' ≤ p + 10 * t
  | 0, i, J, p, h, _ => ⟨p, h, by omega⟩
  | t + 1, i, J, p, h, hok => by
    simp only [rd_ln] at hok ⊢
    generalize (if i + 1 = cnt then (10 : Int) else 32) = fol at hok ⊢
    split at hok
    · rename_i hc
      rw [if_pos hc]
      have hp : (J r 8).toNat = p := by rw [h]; rfl
      rw [hp] at hok hc ⊢
      have h8 := rd_tN_8 (idx := i) (code := code) hc
      obtain ⟨p', q1, q2⟩ := rd_ln_p t (i + 1) _ _ h8 hok
      have := rd_t3_p J r p
      exact ⟨p', q1, by omega⟩
    · cases hok
