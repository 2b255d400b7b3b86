/-! NET, second: begin, isFree, missingVariable, outputDepth -/
def nt_begin (IA : mj_FI) (b : Nat) (m i o g : Int) : mj_FI := mj_up (mj_fl (mj_up (mj_up (mj_up (mj_up IA b 9 m) b 10 i) b 12 o) b 11 g) (b + 1) 1001 (-1)) (b + 1) 0 0
/-- the greatest depth of the first k outputs -/
def nt_od (IA : mj_FI) (b : Nat) : Nat → Int
  | 0 => 0
  | k + 1 => max (nt_od IA b k) (IA (b + 6) (IA (b + 1) (IA (b + 5) k / 2).toNat).toNat)
section NN
variable {sh : mj_Sh} {FR : mj_FR} {IA : mj_FI} {LA : mj_LA} {n b : Nat}
theorem ct_N_begin (hN : isNet sh FR n b) {m i o g : Int} : mj_Ct m_N_begin [.inr (.inr (.inl b)), .inl m, .inl i, .inl o, .inl g] sh FR IA LA n (mj_pu (.inl none) sh FR (nt_begin IA b m i o g) LA n) := by
  obtain ⟨h0, r0, r1, r2, r3, r4, r5, r6, r7, a0, a1, a2, a3, a4, a5, a6, a7⟩ := hN
  refine mj_Ct_of (by decide +kernel) (by decide) (Nat.le_of_ble_eq_true rfl) ?_
  refine mj_go z_N_begin [] 60 ?_
  refine And.intro h0 ?_
  refine And.intro h0 ?_
  refine And.intro h0 ?_
  refine And.intro h0 ?_
  refine And.intro h0 (Exists.intro _ (And.intro r0 ?_))
  refine And.intro trivial (And.intro (Nat.le_of_ble_eq_true rfl) (And.intro (Nat.le_of_ble_eq_true rfl) (And.intro (Nat.le_of_ble_eq_true rfl) (Exists.intro _ (And.intro (ct_A_fill a0 (by decide)) ?_)))))
  rintro r9 sh9 FR9 IA9 LA9 n9 ⟨z0, z1, z2, z3, z4, z5⟩
  subst z0
  replace z1 := z1.symm
  subst z1
  replace z2 := z2.symm
  subst z2
  replace z3 := z3.symm
  subst z3
  replace z4 := z4.symm
  subst z4
  replace z5 := z5.symm
  subst z5
  refine And.intro (Or.inl rfl) ?_
  refine And.intro h0 (Exists.intro _ (And.intro r0 ?_))
  refine Exists.intro _ (Exists.intro (0) (And.intro a0 (And.intro (by first | (rw [mj_w_id (by omega) (by omega)]; done) | (rw [mj_w_id (by omega) (by omega)]; omega) | (unfold mj_w; omega)) (And.intro (by omega) ?_))))
  exact ⟨⟨rfl, rfl, rfl, rfl, rfl, rfl⟩, Nat.le_of_ble_eq_true rfl, Nat.le_of_ble_eq_true rfl⟩
theorem ct_N_isFree (hN : isNet sh FR n b) {lit : Int} (h1 : -2147483648 ≤ lit) (h2 : lit < 2147483648) (h3 : 0 ≤ IA b 9) (h4 : IA b 9 ≤ 1000) (h5 : ∀ j, j < 1001 → -1 ≤ IA (b + 1) j ∧ IA (b + 1) j < 315) : mj_Ct m_N_isFree [.inr (.inr (.inl b)), .inl lit] sh FR IA LA n (mj_pu (.inl (some (.inl (if (0 ≤ lit ∧ lit ≤ 2 * IA b 9 + 1) ∧ lit % 2 = 0 ∧ IA (b + 1) (lit / 2).toNat = -1 then 1 else 0)))) sh FR IA LA n) := by
  have hN' := hN
  obtain ⟨h0, r0, r1, r2, r3, r4, r5, r6, r7, a0, a1, a2, a3, a4, a5, a6, a7⟩ := hN
  refine mj_Ct_of (by decide +kernel) (by decide) (Nat.le_of_ble_eq_true rfl) ?_
  refine mj_go z_N_isFree [] 60 ?_
  refine And.intro h0 (And.intro (Nat.le_of_ble_eq_true rfl) (And.intro (Nat.le_of_ble_eq_true rfl) (And.intro (Nat.le_of_ble_eq_true rfl) (Exists.intro _ (And.intro (ct_N_exists hN' h1 h2 h3 h4) ?_)))))
  rintro r9 sh9 FR9 IA9 LA9 n9 ⟨z0, z1, z2, z3, z4, z5⟩
  subst z0
  replace z1 := z1.symm
  subst z1
  replace z2 := z2.symm
  subst z2
  replace z3 := z3.symm
  subst z3
  replace z4 := z4.symm
  subst z4
  replace z5 := z5.symm
  subst z5
  refine And.intro (Or.inl rfl) ?_
  by_cases he : 0 ≤ lit ∧ lit ≤ 2 * IA b 9 + 1
  · rw [if_pos he]
    refine And.intro (fun c => ?_) (fun c => ?_)
    · exact absurd c (by decide)
    · refine And.intro (by decide) ?_
      refine Exists.intro (lit % 2) (And.intro (nu_rem (by omega) (by omega) (by decide) (by decide)) ?_)
      refine And.intro (fun d => ?_) (fun d => ?_)
      · simp (disch := (clear d; omega)) only [mj_w_id] at d
        rw [if_neg (by omega)]
        exact ⟨Or.inl rfl, ⟨rfl, rfl, rfl, rfl, rfl, rfl⟩, Nat.le_of_ble_eq_true rfl, Nat.le_of_ble_eq_true rfl⟩
      · simp (disch := (clear d; omega)) only [mj_w_id] at d
        have h6 := h5 (lit / 2).toNat (by omega)
        refine And.intro h0 (And.intro (Nat.le_of_ble_eq_true rfl) (And.intro (Nat.le_of_ble_eq_true rfl) (And.intro (Nat.le_of_ble_eq_true rfl) (Exists.intro _ (And.intro (ct_N_slotFor hN' (by omega) (by omega)) ?_)))))
        rintro r9 sh9 FR9 IA9 LA9 n9 ⟨z0, z1, z2, z3, z4, z5⟩
        subst z0
        replace z1 := z1.symm
        subst z1
        replace z2 := z2.symm
        subst z2
        replace z3 := z3.symm
        subst z3
        replace z4 := z4.symm
        subst z4
        replace z5 := z5.symm
        subst z5
        refine And.intro (Or.inl rfl) ?_
        refine And.intro (fun f => ?_) (fun f => ?_)
        · simp (disch := (clear f; omega)) only [mj_w_id] at f
          rw [if_neg (by omega)]
          exact ⟨Or.inl rfl, ⟨rfl, rfl, rfl, rfl, rfl, rfl⟩, Nat.le_of_ble_eq_true rfl, Nat.le_of_ble_eq_true rfl⟩
        · simp (disch := (clear f; omega)) only [mj_w_id] at f
          rw [if_pos (by omega)]
          exact ⟨Or.inr rfl, ⟨rfl, rfl, rfl, rfl, rfl, rfl⟩, Nat.le_of_ble_eq_true rfl, Nat.le_of_ble_eq_true rfl⟩
  · rw [if_neg he, if_neg (fun z => he z.1)]
    refine And.intro (fun c => ?_) (fun c => ?_)
    · exact ⟨Or.inl rfl, ⟨rfl, rfl, rfl, rfl, rfl, rfl⟩, Nat.le_of_ble_eq_true rfl, Nat.le_of_ble_eq_true rfl⟩
    · exact absurd (by decide) c
theorem ct_N_missingVariable (hN : isNet sh FR n b) {lit : Int} (h1 : 0 ≤ lit) (h2 : lit ≤ 2001) (h5 : ∀ j, j < 1001 → -1 ≤ IA (b + 1) j ∧ IA (b + 1) j < 315) : mj_Ct m_N_missingVariable [.inr (.inr (.inl b)), .inl lit] sh FR IA LA n (mj_pu (.inl (some (.inl (if IA (b + 1) (lit / 2).toNat = -1 then lit / 2 else 1001)))) sh FR IA LA n) := by
  have hN' := hN
  have h6 := h5 (lit / 2).toNat (by omega)
  obtain ⟨h0, r0, r1, r2, r3, r4, r5, r6, r7, a0, a1, a2, a3, a4, a5, a6, a7⟩ := hN
  refine mj_Ct_of (by decide +kernel) (by decide) (Nat.le_of_ble_eq_true rfl) ?_
  refine mj_go z_N_missingVariable [] 60 ?_
  refine And.intro h0 (And.intro (Nat.le_of_ble_eq_true rfl) (And.intro (Nat.le_of_ble_eq_true rfl) (And.intro (Nat.le_of_ble_eq_true rfl) (Exists.intro _ (And.intro (ct_N_slotFor hN' h1 h2) ?_)))))
  rintro r9 sh9 FR9 IA9 LA9 n9 ⟨z0, z1, z2, z3, z4, z5⟩
  subst z0
  replace z1 := z1.symm
  subst z1
  replace z2 := z2.symm
  subst z2
  replace z3 := z3.symm
  subst z3
  replace z4 := z4.symm
  subst z4
  replace z5 := z5.symm
  subst z5
  refine And.intro (Or.inl rfl) ?_
  refine And.intro (fun d => ?_) (fun d => ?_)
  · simp (disch := (clear d; omega)) only [mj_w_id] at d
    rw [if_neg (by omega)]
    exact ⟨⟨rfl, rfl, rfl, rfl, rfl, rfl⟩, Nat.le_of_ble_eq_true rfl, Nat.le_of_ble_eq_true rfl⟩
  · simp (disch := (clear d; omega)) only [mj_w_id] at d
    rw [if_pos (by omega)]
    refine Exists.intro (lit / 2) (And.intro (nu_shr1 (by omega) (by omega)) ?_)
    exact ⟨⟨rfl, rfl, rfl, rfl, rfl, rfl⟩, Nat.le_of_ble_eq_true rfl, Nat.le_of_ble_eq_true rfl⟩
theorem ct_N_outputDepth (hN : isNet sh FR n b) {o : Nat} (ho : IA b 12 = (o : Int)) (ho16 : o ≤ 16) (h1 : ∀ k, k < o → 0 ≤ IA (b + 5) k ∧ IA (b + 5) k ≤ 2001 ∧ 0 ≤ IA (b + 1) (IA (b + 5) k / 2).toNat ∧ IA (b + 1) (IA (b + 5) k / 2).toNat < 315) (h2 : ∀ j, j < 315 → 0 ≤ IA (b + 6) j ∧ IA (b + 6) j ≤ 1000000) : mj_Ct m_N_outputDepth [.inr (.inr (.inl b))] sh FR IA LA n (mj_pu (.inl (some (.inl (nt_od IA b o)))) sh FR IA LA n) := by
  have hN' := hN
  obtain ⟨h0, r0, r1, r2, r3, r4, r5, r6, r7, a0, a1, a2, a3, a4, a5, a6, a7⟩ := hN
  have hod : ∀ k : Nat, k ≤ o → 0 ≤ nt_od IA b k ∧ nt_od IA b k ≤ 1000000 := by
    intro k
    induction k with
    | zero =>
      intro _
      simp [nt_od]
    | succ k ih =>
      intro hk
      have q1 := ih (by omega)
      have q2 := h1 k (by omega)
      have q3 := h2 (IA (b + 1) (IA (b + 5) k / 2).toNat).toNat (by omega)
      simp only [nt_od]
      omega
  have loop : ∀ j k : Nat, k + j = o → mj_G m_N_outputDepth (mj_pu (.inl (some (.inl (nt_od IA b o)))) sh FR IA LA n) 4 [some (.inr (.inr (.inl b))), some (.inl (nt_od IA b k)), some (.inl k)] [] sh FR IA LA n 0 0 := by
    intro j
    induction j with
    | zero =>
      intro k hk
      have hk : k = o := by omega
      subst hk
      refine mj_go z_N_outputDepth [4] 60 ?_
      refine And.intro h0 ?_
      rw [ho]
      refine And.intro (fun c => ?_) (fun c => ?_)
      · exact ⟨⟨rfl, rfl, rfl, rfl, rfl, rfl⟩, Nat.le_of_ble_eq_true rfl, Nat.le_of_ble_eq_true rfl⟩
      · exact absurd (Int.le_refl _) c
    | succ j ih =>
      intro k hk
      have q1 := hod k (by omega)
      have q2 := h1 k (by omega)
      have q3 := h2 (IA (b + 1) (IA (b + 5) k / 2).toNat).toNat (by omega)
      refine mj_go z_N_outputDepth [4] 60 ?_
      refine And.intro h0 ?_
      rw [ho]
      refine And.intro (fun c => ?_) (fun c => ?_)
      · simp (disch := (clear c; omega)) only [mj_w_id] at c
        omega
      · refine And.intro h0 (Exists.intro _ (And.intro r5 ?_))
        refine And.intro h0 (Exists.intro _ (And.intro r4 ?_))
        refine Exists.intro _ (Exists.intro (k) (And.intro a4 (And.intro (by first | (rw [mj_w_id (by omega) (by omega)]; done) | (rw [mj_w_id (by omega) (by omega)]; omega) | (unfold mj_w; omega)) (And.intro (by omega) ?_))))
        refine And.intro h0 (And.intro (Nat.le_of_ble_eq_true rfl) (And.intro (Nat.le_of_ble_eq_true rfl) (And.intro (Nat.le_of_ble_eq_true rfl) (Exists.intro _ (And.intro (ct_N_slotFor hN' (by omega) (by omega)) ?_)))))
        rintro r9 sh9 FR9 IA9 LA9 n9 ⟨z0, z1, z2, z3, z4, z5⟩
        subst z0
        replace z1 := z1.symm
        subst z1
        replace z2 := z2.symm
        subst z2
        replace z3 := z3.symm
        subst z3
        replace z4 := z4.symm
        subst z4
        replace z5 := z5.symm
        subst z5
        refine And.intro (Or.inl rfl) ?_
        refine Exists.intro _ (Exists.intro ((IA (b + 1) (IA (b + 5) k / 2).toNat).toNat) (And.intro a5 (And.intro (by first | (rw [mj_w_id (by omega) (by omega)]; done) | (rw [mj_w_id (by omega) (by omega)]; omega) | (unfold mj_w; omega)) (And.intro (by omega) ?_))))
        refine And.intro trivial (And.intro (Nat.le_of_ble_eq_true rfl) (And.intro (Nat.le_of_ble_eq_true rfl) (And.intro (Nat.le_of_ble_eq_true rfl) (Exists.intro _ (And.intro (ct_H_max (by omega) (by omega) (by omega) (by omega)) ?_)))))
        rintro r9 sh9 FR9 IA9 LA9 n9 ⟨z0, z1, z2, z3, z4, z5⟩
        subst z0
        replace z1 := z1.symm
        subst z1
        replace z2 := z2.symm
        subst z2
        replace z3 := z3.symm
        subst z3
        replace z4 := z4.symm
        subst z4
        replace z5 := z5.symm
        subst z5
        refine And.intro (Or.inl rfl) ?_
        refine Exists.intro (((k + 1 : Nat) : Int)) (And.intro (by first | (rw [mj_w_id (by omega) (by omega)]; done) | (rw [mj_w_id (by omega) (by omega)]; omega) | (unfold mj_w; omega)) ?_)
        exact ih (k + 1) (by omega)
  refine mj_Ct_of (by decide +kernel) (by decide) (Nat.le_of_ble_eq_true rfl) ?_
  refine mj_go z_N_outputDepth [4] 60 ?_
  exact loop o 0 (by omega)
end NN
