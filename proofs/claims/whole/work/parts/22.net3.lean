/-! NET, third: leastMissing -/
def nt_mv (IA : mj_FI) (b : Nat) (lit : Int) : Int := if IA (b + 1) (lit / 2).toNat = -1 then lit / 2 else 1001
/-- the least missing variable of the first k outputs, 1001 without one -/
def nt_lo (IA : mj_FI) (b : Nat) : Nat → Int
  | 0 => 1001
  | k + 1 => min (nt_lo IA b k) (nt_mv IA b (IA (b + 5) k))
/-- the same, of the first j gates too, the gates' slots beginning with i + 1 -/
def nt_lg (IA : mj_FI) (b i : Nat) (x : Int) : Nat → Int
  | 0 => x
  | j + 1 => min (min (nt_lg IA b i x j) (nt_mv IA b (IA (b + 3) (i + 1 + j)))) (nt_mv IA b (IA (b + 4) (i + 1 + j)))
def nt_lm (IA : mj_FI) (b i o g : Nat) : Int := if nt_lg IA b i (nt_lo IA b o) g ≤ 1000 then nt_lg IA b i (nt_lo IA b o) g else 0
theorem nt_mv_in {IA : mj_FI} {b : Nat} {lit : Int} (h1 : 0 ≤ lit) (h2 : lit ≤ 2001) : 0 ≤ nt_mv IA b lit ∧ nt_mv IA b lit ≤ 1001 := by
  unfold nt_mv
  split <;> omega
section NN
variable {sh : mj_Sh} {FR : mj_FR} {IA : mj_FI} {LA : mj_LA} {n b : Nat}
theorem ct_N_leastMissing (hN : isNet sh FR n b) {i o g : Nat} (hi : IA b 10 = (i : Int)) (ho : IA b 12 = (o : Int)) (hg : IA b 11 = (g : Int)) (hi14 : i ≤ 14) (ho16 : o ≤ 16) (hg300 : g ≤ 300)
    (h5 : ∀ j, j < 1001 → -1 ≤ IA (b + 1) j ∧ IA (b + 1) j < 315) (h1 : ∀ k, k < o → 0 ≤ IA (b + 5) k ∧ IA (b + 5) k ≤ 2001) (h2 : ∀ j, j < g → (0 ≤ IA (b + 3) (i + 1 + j) ∧ IA (b + 3) (i + 1 + j) ≤ 2001) ∧ 0 ≤ IA (b + 4) (i + 1 + j) ∧ IA (b + 4) (i + 1 + j) ≤ 2001) :
    mj_Ct m_N_leastMissing [.inr (.inr (.inl b))] sh FR IA LA n (mj_pu (.inl (some (.inl (nt_lm IA b i o g)))) sh FR IA LA n) := by
  have hN' := hN
  obtain ⟨h0, r0, r1, r2, r3, r4, r5, r6, r7, a0, a1, a2, a3, a4, a5, a6, a7⟩ := hN
  have hlo : ∀ k : Nat, k ≤ o → 0 ≤ nt_lo IA b k ∧ nt_lo IA b k ≤ 1001 := by
    intro k
    induction k with
    | zero =>
      intro _
      simp [nt_lo]
    | succ k ih =>
      intro hk
      have q1 := ih (by omega)
      have q2 := h1 k (by omega)
      have q3 := nt_mv_in (IA := IA) (b := b) q2.1 q2.2
      simp only [nt_lo]
      omega
  have hlg : ∀ j : Nat, j ≤ g → 0 ≤ nt_lg IA b i (nt_lo IA b o) j ∧ nt_lg IA b i (nt_lo IA b o) j ≤ 1001 := by
    intro j
    induction j with
    | zero =>
      intro _
      exact hlo o (Nat.le_refl _)
    | succ j ih =>
      intro hj
      have q1 := ih (by omega)
      have q2 := h2 j (by omega)
      have q3 := nt_mv_in (IA := IA) (b := b) q2.1.1 q2.1.2
      have q4 := nt_mv_in (IA := IA) (b := b) q2.2.1 q2.2.2
      simp only [nt_lg]
      omega
  have loop2 : ∀ t j : Nat, j + t = g → mj_G m_N_leastMissing (mj_pu (.inl (some (.inl (nt_lm IA b i o g)))) sh FR IA LA n) 42 [some (.inr (.inr (.inl b))), some (.inl (nt_lg IA b i (nt_lo IA b o) j)), some (.inl ((i + 1 + j : Nat) : Int))] [] sh FR IA LA n 0 0 := by
    intro t
    induction t with
    | zero =>
      intro j hj
      have hj : j = g := by omega
      subst hj
      have q1 := hlg j (Nat.le_refl _)
      refine mj_go z_N_leastMissing [42] 60 ?_
      refine And.intro h0 ?_
      refine And.intro h0 ?_
      rw [hi, hg]
      refine Exists.intro (((i + j : Nat) : Int)) (And.intro (by first | (rw [mj_w_id (by omega) (by omega)]; done) | (rw [mj_w_id (by omega) (by omega)]; omega) | (unfold mj_w; omega)) ?_)
      refine And.intro (fun c => ?_) (fun c => ?_)
      · refine And.intro (fun d => ?_) (fun d => ?_)
        · simp (disch := (clear d; omega)) only [mj_w_id] at d
          rw [show nt_lm IA b i o j = nt_lg IA b i (nt_lo IA b o) j from if_pos d]
          exact ⟨⟨rfl, rfl, rfl, rfl, rfl, rfl⟩, Nat.le_of_ble_eq_true rfl, Nat.le_of_ble_eq_true rfl⟩
        · simp (disch := (clear d; omega)) only [mj_w_id] at d
          rw [show nt_lm IA b i o j = 0 from if_neg d]
          exact ⟨⟨rfl, rfl, rfl, rfl, rfl, rfl⟩, Nat.le_of_ble_eq_true rfl, Nat.le_of_ble_eq_true rfl⟩
      · simp (disch := (clear c; omega)) only [mj_w_id] at c
        omega
    | succ t ih =>
      intro j hj
      have q1 := hlg j (by omega)
      have q2 := h2 j (by omega)
      have q3 := nt_mv_in (IA := IA) (b := b) q2.1.1 q2.1.2
      have q4 := nt_mv_in (IA := IA) (b := b) q2.2.1 q2.2.2
      refine mj_go z_N_leastMissing [42] 60 ?_
      refine And.intro h0 ?_
      refine And.intro h0 ?_
      rw [hi, hg]
      refine Exists.intro (((i + g : Nat) : Int)) (And.intro (by first | (rw [mj_w_id (by omega) (by omega)]; done) | (rw [mj_w_id (by omega) (by omega)]; omega) | (unfold mj_w; omega)) ?_)
      refine And.intro (fun c => ?_) (fun c => ?_)
      · simp (disch := (clear c; omega)) only [mj_w_id] at c
        omega
      · refine And.intro h0 (Exists.intro _ (And.intro r2 ?_))
        refine Exists.intro _ (Exists.intro (i + 1 + j) (And.intro a2 (And.intro (by first | (rw [mj_w_id (by omega) (by omega)]; done) | (rw [mj_w_id (by omega) (by omega)]; omega) | (unfold mj_w; omega)) (And.intro (by omega) ?_))))
        refine And.intro h0 (And.intro (Nat.le_of_ble_eq_true rfl) (And.intro (Nat.le_of_ble_eq_true rfl) (And.intro (Nat.le_of_ble_eq_true rfl) (Exists.intro _ (And.intro (ct_N_missingVariable hN' q2.1.1 q2.1.2 h5) ?_)))))
        rintro r9 sh9 FR9 IA9 LA9 n9 ⟨z0, z1, z2, z3, z4, z5⟩
        subst z0
        replace z1 := z1.symm
        subst z1
        replace z2 := z2.symm
        subst z2
        replace z3 := z3.symm
        subst z3
        replace z4 := z4.symm
        subst z4
        replace z5 := z5.symm
        subst z5
        refine And.intro (Or.inl rfl) ?_
        refine And.intro trivial (And.intro (Nat.le_of_ble_eq_true rfl) (And.intro (Nat.le_of_ble_eq_true rfl) (And.intro (Nat.le_of_ble_eq_true rfl) (Exists.intro _ (And.intro (ct_H_min (y := nt_mv IA b (IA (b + 3) (i + 1 + j))) (by omega) (by omega) (by omega) (by omega)) ?_)))))
        rintro r9 sh9 FR9 IA9 LA9 n9 ⟨z0, z1, z2, z3, z4, z5⟩
        subst z0
        replace z1 := z1.symm
        subst z1
        replace z2 := z2.symm
        subst z2
        replace z3 := z3.symm
        subst z3
        replace z4 := z4.symm
        subst z4
        replace z5 := z5.symm
        subst z5
        refine And.intro (Or.inl rfl) ?_
        refine And.intro h0 (Exists.intro _ (And.intro r3 ?_))
        refine Exists.intro _ (Exists.intro (i + 1 + j) (And.intro a3 (And.intro (by first | (rw [mj_w_id (by omega) (by omega)]; done) | (rw [mj_w_id (by omega) (by omega)]; omega) | (unfold mj_w; omega)) (And.intro (by omega) ?_))))
        refine And.intro h0 (And.intro (Nat.le_of_ble_eq_true rfl) (And.intro (Nat.le_of_ble_eq_true rfl) (And.intro (Nat.le_of_ble_eq_true rfl) (Exists.intro _ (And.intro (ct_N_missingVariable hN' q2.2.1 q2.2.2 h5) ?_)))))
        rintro r9 sh9 FR9 IA9 LA9 n9 ⟨z0, z1, z2, z3, z4, z5⟩
        subst z0
        replace z1 := z1.symm
        subst z1
        replace z2 := z2.symm
        subst z2
        replace z3 := z3.symm
        subst z3
        replace z4 := z4.symm
        subst z4
        replace z5 := z5.symm
        subst z5
        refine And.intro (Or.inl rfl) ?_
        refine And.intro trivial (And.intro (Nat.le_of_ble_eq_true rfl) (And.intro (Nat.le_of_ble_eq_true rfl) (And.intro (Nat.le_of_ble_eq_true rfl) (Exists.intro _ (And.intro (ct_H_min (y := nt_mv IA b (IA (b + 4) (i + 1 + j))) (by omega) (by omega) (by omega) (by omega)) ?_)))))
        rintro r9 sh9 FR9 IA9 LA9 n9 ⟨z0, z1, z2, z3, z4, z5⟩
        subst z0
        replace z1 := z1.symm
        subst z1
        replace z2 := z2.symm
        subst z2
        replace z3 := z3.symm
        subst z3
        replace z4 := z4.symm
        subst z4
        replace z5 := z5.symm
        subst z5
        refine And.intro (Or.inl rfl) ?_
        refine Exists.intro (((i + 1 + (j + 1) : Nat) : Int)) (And.intro (by first | (rw [mj_w_id (by omega) (by omega)]; done) | (rw [mj_w_id (by omega) (by omega)]; omega) | (unfold mj_w; omega)) ?_)
        exact ih (j + 1) (by omega)
  have loop : ∀ j k : Nat, k + j = o → mj_G m_N_leastMissing (mj_pu (.inl (some (.inl (nt_lm IA b i o g)))) sh FR IA LA n) 6 [some (.inr (.inr (.inl b))), some (.inl (nt_lo IA b k)), some (.inl k)] [] sh FR IA LA n 0 0 := by
    intro j
    induction j with
    | zero =>
      intro k hk
      have hk : k = o := by omega
      subst hk
      refine mj_go z_N_leastMissing [6, 42] 60 ?_
      refine And.intro h0 ?_
      rw [ho]
      refine And.intro (fun c => ?_) (fun c => ?_)
      · refine And.intro h0 ?_
        rw [hi]
        refine Exists.intro (((i + 1 : Nat) : Int)) (And.intro (by first | (rw [mj_w_id (by omega) (by omega)]; done) | (rw [mj_w_id (by omega) (by omega)]; omega) | (unfold mj_w; omega)) ?_)
        exact loop2 g 0 (by omega)
      · exact absurd (Int.le_refl _) c
    | succ j ih =>
      intro k hk
      have q1 := hlo k (by omega)
      have q2 := h1 k (by omega)
      have q3 := nt_mv_in (IA := IA) (b := b) q2.1 q2.2
      refine mj_go z_N_leastMissing [6, 42] 60 ?_
      refine And.intro h0 ?_
      rw [ho]
      refine And.intro (fun c => ?_) (fun c => ?_)
      · simp (disch := (clear c; omega)) only [mj_w_id] at c
        omega
      · refine And.intro h0 (Exists.intro _ (And.intro r4 ?_))
        refine Exists.intro _ (Exists.intro (k) (And.intro a4 (And.intro (by first | (rw [mj_w_id (by omega) (by omega)]; done) | (rw [mj_w_id (by omega) (by omega)]; omega) | (unfold mj_w; omega)) (And.intro (by omega) ?_))))
        refine And.intro h0 (And.intro (Nat.le_of_ble_eq_true rfl) (And.intro (Nat.le_of_ble_eq_true rfl) (And.intro (Nat.le_of_ble_eq_true rfl) (Exists.intro _ (And.intro (ct_N_missingVariable hN' q2.1 q2.2 h5) ?_)))))
        rintro r9 sh9 FR9 IA9 LA9 n9 ⟨z0, z1, z2, z3, z4, z5⟩
        subst z0
        replace z1 := z1.symm
        subst z1
        replace z2 := z2.symm
        subst z2
        replace z3 := z3.symm
        subst z3
        replace z4 := z4.symm
        subst z4
        replace z5 := z5.symm
        subst z5
        refine And.intro (Or.inl rfl) ?_
        refine And.intro trivial (And.intro (Nat.le_of_ble_eq_true rfl) (And.intro (Nat.le_of_ble_eq_true rfl) (And.intro (Nat.le_of_ble_eq_true rfl) (Exists.intro _ (And.intro (ct_H_min (y := nt_mv IA b (IA (b + 5) k)) (by omega) (by omega) (by omega) (by omega)) ?_)))))
        rintro r9 sh9 FR9 IA9 LA9 n9 ⟨z0, z1, z2, z3, z4, z5⟩
        subst z0
        replace z1 := z1.symm
        subst z1
        replace z2 := z2.symm
        subst z2
        replace z3 := z3.symm
        subst z3
        replace z4 := z4.symm
        subst z4
        replace z5 := z5.symm
        subst z5
        refine And.intro (Or.inl rfl) ?_
        refine Exists.intro (((k + 1 : Nat) : Int)) (And.intro (by first | (rw [mj_w_id (by omega) (by omega)]; done) | (rw [mj_w_id (by omega) (by omega)]; omega) | (unfold mj_w; omega)) ?_)
        exact ih (k + 1) (by omega)
  refine mj_Ct_of (by decide +kernel) (by decide) (Nat.le_of_ble_eq_true rfl) ?_
  refine mj_go z_N_leastMissing [6] 60 ?_
  exact loop o 0 (by omega)
end NN
