/-! NET -/
/-- a method's answer alone: the state stays -/
def mj_pu (v : mj_O) (sh : mj_Sh) (FR : mj_FR) (IA : mj_FI) (LA : mj_LA) (n : Nat) : mj_Q := fun r sh' FR' IA' LA' n' => r = v ∧ sh' = sh ∧ FR' = FR ∧ IA' = IA ∧ LA' = LA ∧ n' = n
/-- the net whose object lies at the place b: its arrays lie behind it -/
def isNet (sh : mj_Sh) (FR : mj_FR) (n b : Nat) : Prop :=
  mj_is sh n b 7 0 ∧ FR b 0 = .inl (b + 1) ∧ FR b 1 = .inl (b + 2) ∧ FR b 2 = .inl (b + 3) ∧ FR b 3 = .inl (b + 4) ∧ FR b 4 = .inl (b + 5) ∧ FR b 5 = .inl (b + 6) ∧ FR b 6 = .inl (b + 7) ∧ FR b 7 = .inl (b + 8) ∧
  mj_is sh n (b + 1) 0 1001 ∧ mj_is sh n (b + 2) 0 315 ∧ mj_is sh n (b + 3) 0 315 ∧ mj_is sh n (b + 4) 0 315 ∧ mj_is sh n (b + 5) 0 16 ∧ mj_is sh n (b + 6) 0 315 ∧ mj_is sh n (b + 7) 0 300 ∧ mj_is sh n (b + 8) 0 300
/-- the first len elements of the array a filled with v -/
def mj_fl (IA : mj_FI) (a len : Nat) (v : Int) : mj_FI := fun q j => if q = a ∧ j < len then v else IA q j
theorem mj_fl_0 {IA : mj_FI} {a : Nat} {v : Int} : mj_fl IA a 0 v = IA := by
  funext q j
  simp [mj_fl]
theorem mj_fl_s {IA : mj_FI} {a i : Nat} {v : Int} : mj_up (mj_fl IA a i v) a i v = mj_fl IA a (i + 1) v := by
  funext q j
  simp only [mj_up, mj_fl]
  by_cases h1 : q = a
  · by_cases h2 : j = i
    · simp [h1, h2]
    · by_cases h3 : j < i
      · have : j < i + 1 := by omega
        simp [h1, h2, h3, this]
      · have : ¬ j < i + 1 := by omega
        simp [h1, h2, h3, this]
  · simp [h1]
section NN
variable {sh : mj_Sh} {FR : mj_FR} {IA : mj_FI} {LA : mj_LA} {n b : Nat}
theorem ct_H_max {x y : Int} (h1 : -2147483648 ≤ x) (h2 : x < 2147483648) (h3 : -2147483648 ≤ y) (h4 : y < 2147483648) : mj_Ct m_H_max [.inl x, .inl y] sh FR IA LA n (mj_pu (.inl (some (.inl (max x y)))) sh FR IA LA n) := by
  refine mj_Ct_of (by decide +kernel) (by decide) (Nat.le_of_ble_eq_true rfl) ?_
  refine mj_go z_H_max [] 60 ?_
  refine And.intro (fun c => ?_) (fun c => ?_)
  · simp (disch := (clear c; omega)) only [mj_w_id] at c
    rw [show max x y = y by omega]
    exact ⟨⟨rfl, rfl, rfl, rfl, rfl, rfl⟩, Nat.le_of_ble_eq_true rfl, Nat.le_of_ble_eq_true rfl⟩
  · simp (disch := (clear c; omega)) only [mj_w_id] at c
    rw [show max x y = x by omega]
    exact ⟨⟨rfl, rfl, rfl, rfl, rfl, rfl⟩, Nat.le_of_ble_eq_true rfl, Nat.le_of_ble_eq_true rfl⟩
theorem ct_H_min {x y : Int} (h1 : -2147483648 ≤ x) (h2 : x < 2147483648) (h3 : -2147483648 ≤ y) (h4 : y < 2147483648) : mj_Ct m_H_min [.inl x, .inl y] sh FR IA LA n (mj_pu (.inl (some (.inl (min x y)))) sh FR IA LA n) := by
  refine mj_Ct_of (by decide +kernel) (by decide) (Nat.le_of_ble_eq_true rfl) ?_
  refine mj_go z_H_min [] 60 ?_
  refine And.intro (fun c => ?_) (fun c => ?_)
  · simp (disch := (clear c; omega)) only [mj_w_id] at c
    rw [show min x y = y by omega]
    exact ⟨⟨rfl, rfl, rfl, rfl, rfl, rfl⟩, Nat.le_of_ble_eq_true rfl, Nat.le_of_ble_eq_true rfl⟩
  · simp (disch := (clear c; omega)) only [mj_w_id] at c
    rw [show min x y = x by omega]
    exact ⟨⟨rfl, rfl, rfl, rfl, rfl, rfl⟩, Nat.le_of_ble_eq_true rfl, Nat.le_of_ble_eq_true rfl⟩
theorem ct_A_fill {a len : Nat} {v : Int} (h : mj_is sh n a 0 len) (hl : len ≤ 1000000) : mj_Ct m_A_fill [.inr (.inr (.inl a)), .inl v] sh FR IA LA n (mj_pu (.inl none) sh FR (mj_fl IA a len v) LA n) := by
  have loop : ∀ k i : Nat, i + k = len → mj_G m_A_fill (mj_pu (.inl none) sh FR (mj_fl IA a len v) LA n) 5 [some (.inr (.inr (.inl a))), some (.inl v), some (.inl i), some (.inl len)] [] sh FR (mj_fl IA a i v) LA n 0 0 := by
    intro k
    induction k with
    | zero =>
      intro i hi
      have hi : i = len := by omega
      subst hi
      refine mj_go z_A_fill [5] 60 ?_
      refine And.intro (fun c => ?_) (fun c => ?_)
      · exact ⟨⟨rfl, rfl, rfl, rfl, rfl, rfl⟩, Nat.le_of_ble_eq_true rfl, Nat.le_of_ble_eq_true rfl⟩
      · exact absurd (Int.le_refl _) c
    | succ k ih =>
      intro i hi
      refine mj_go z_A_fill [5] 60 ?_
      refine And.intro (fun c => ?_) (fun c => ?_)
      · simp (disch := (clear c; omega)) only [mj_w_id] at c
        omega
      · refine Exists.intro _ (Exists.intro (i) (And.intro h (And.intro (by first | (rw [mj_w_id (by omega) (by omega)]; done) | (rw [mj_w_id (by omega) (by omega)]; omega) | (unfold mj_w; omega)) (And.intro (by omega) ?_))))
        refine Exists.intro (((i + 1 : Nat) : Int)) (And.intro (by first | (rw [mj_w_id (by omega) (by omega)]; done) | (rw [mj_w_id (by omega) (by omega)]; omega) | (unfold mj_w; omega)) ?_)
        have h1 := ih (i + 1) (by omega)
        rw [← mj_fl_s] at h1
        exact h1
  refine mj_Ct_of (by decide +kernel) (by decide) (Nat.le_of_ble_eq_true rfl) ?_
  refine mj_go z_A_fill [5] 60 ?_
  refine Exists.intro _ (And.intro h ?_)
  have h1 := loop len 0 (by omega)
  rw [mj_fl_0] at h1
  exact h1
theorem ct_N_slotFor (hN : isNet sh FR n b) {lit : Int} (h1 : 0 ≤ lit) (h2 : lit ≤ 2001) : mj_Ct m_N_slotFor [.inr (.inr (.inl b)), .inl lit] sh FR IA LA n (mj_pu (.inl (some (.inl (IA (b + 1) (lit / 2).toNat)))) sh FR IA LA n) := by
  obtain ⟨h0, r0, r1, r2, r3, r4, r5, r6, r7, a0, a1, a2, a3, a4, a5, a6, a7⟩ := hN
  refine mj_Ct_of (by decide +kernel) (by decide) (Nat.le_of_ble_eq_true rfl) ?_
  refine mj_go z_N_slotFor [] 60 ?_
  refine And.intro h0 (Exists.intro _ (And.intro r0 ?_))
  refine Exists.intro (lit / 2) (And.intro (nu_shr1 (by omega) (by omega)) ?_)
  refine Exists.intro _ (Exists.intro ((lit / 2).toNat) (And.intro a0 (And.intro (by first | (rw [mj_w_id (by omega) (by omega)]; done) | (rw [mj_w_id (by omega) (by omega)]; omega) | (unfold mj_w; omega)) (And.intro (by omega) ?_))))
  exact ⟨⟨rfl, rfl, rfl, rfl, rfl, rfl⟩, Nat.le_of_ble_eq_true rfl, Nat.le_of_ble_eq_true rfl⟩
theorem ct_N_place (hN : isNet sh FR n b) {slot : Nat} {lit : Int} (h1 : 0 ≤ lit) (h2 : lit ≤ 2001) (h3 : slot < 315) : mj_Ct m_N_place [.inr (.inr (.inl b)), .inl slot, .inl lit] sh FR IA LA n (mj_pu (.inl none) sh FR (mj_up (mj_up IA (b + 2) slot lit) (b + 1) (lit / 2).toNat slot) LA n) := by
  obtain ⟨h0, r0, r1, r2, r3, r4, r5, r6, r7, a0, a1, a2, a3, a4, a5, a6, a7⟩ := hN
  refine mj_Ct_of (by decide +kernel) (by decide) (Nat.le_of_ble_eq_true rfl) ?_
  refine mj_go z_N_place [] 60 ?_
  refine And.intro h0 (Exists.intro _ (And.intro r1 ?_))
  refine Exists.intro _ (Exists.intro (slot) (And.intro a1 (And.intro (by first | (rw [mj_w_id (by omega) (by omega)]; done) | (rw [mj_w_id (by omega) (by omega)]; omega) | (unfold mj_w; omega)) (And.intro (by omega) ?_))))
  refine And.intro h0 (Exists.intro _ (And.intro r0 ?_))
  refine Exists.intro (lit / 2) (And.intro (nu_shr1 (by omega) (by omega)) ?_)
  refine Exists.intro _ (Exists.intro ((lit / 2).toNat) (And.intro a0 (And.intro (by first | (rw [mj_w_id (by omega) (by omega)]; done) | (rw [mj_w_id (by omega) (by omega)]; omega) | (unfold mj_w; omega)) (And.intro (by omega) ?_))))
  exact ⟨⟨rfl, rfl, rfl, rfl, rfl, rfl⟩, Nat.le_of_ble_eq_true rfl, Nat.le_of_ble_eq_true rfl⟩
/-- does a literal exist in a net of so many variables -/
def nt_ex (m lit : Int) : Prop := 0 ≤ lit ∧ lit ≤ 2 * m + 1
theorem ct_N_exists (hN : isNet sh FR n b) {lit : Int} (h1 : -2147483648 ≤ lit) (h2 : lit < 2147483648) (h3 : 0 ≤ IA b 9) (h4 : IA b 9 ≤ 1000) : mj_Ct m_N_exists [.inr (.inr (.inl b)), .inl lit] sh FR IA LA n (mj_pu (.inl (some (.inl (if 0 ≤ lit ∧ lit ≤ 2 * IA b 9 + 1 then 1 else 0)))) sh FR IA LA n) := by
  obtain ⟨h0, r0, r1, r2, r3, r4, r5, r6, r7, a0, a1, a2, a3, a4, a5, a6, a7⟩ := hN
  refine mj_Ct_of (by decide +kernel) (by decide) (Nat.le_of_ble_eq_true rfl) ?_
  refine mj_go z_N_exists [] 60 ?_
  refine And.intro (fun c => ?_) (fun c => ?_)
  · simp (disch := (clear c; omega)) only [mj_w_id] at c
    rw [if_neg (by omega)]
    exact ⟨Or.inl rfl, ⟨rfl, rfl, rfl, rfl, rfl, rfl⟩, Nat.le_of_ble_eq_true rfl, Nat.le_of_ble_eq_true rfl⟩
  · simp (disch := (clear c; omega)) only [mj_w_id] at c
    refine And.intro h0 ?_
    refine Exists.intro (2 * IA b 9) (And.intro (by first | (rw [mj_w_id (by omega) (by omega)]; done) | (rw [mj_w_id (by omega) (by omega)]; omega) | (unfold mj_w; omega)) ?_)
    refine Exists.intro (2 * IA b 9 + 1) (And.intro (by first | (rw [mj_w_id (by omega) (by omega)]; done) | (rw [mj_w_id (by omega) (by omega)]; omega) | (unfold mj_w; omega)) ?_)
    refine And.intro (fun d => ?_) (fun d => ?_)
    · simp (disch := (clear d; omega)) only [mj_w_id] at d
      rw [if_neg (by omega)]
      exact ⟨Or.inl rfl, ⟨rfl, rfl, rfl, rfl, rfl, rfl⟩, Nat.le_of_ble_eq_true rfl, Nat.le_of_ble_eq_true rfl⟩
    · simp (disch := (clear d; omega)) only [mj_w_id] at d
      rw [if_pos (by omega)]
      exact ⟨Or.inr rfl, ⟨rfl, rfl, rfl, rfl, rfl, rfl⟩, Nat.le_of_ble_eq_true rfl, Nat.le_of_ble_eq_true rfl⟩
theorem ct_N_isGate (hN : isNet sh FR n b) {slot : Int} (h1 : -2147483648 ≤ slot) (h2 : slot < 2147483648) (h3 : 0 ≤ IA b 10) (h4 : IA b 10 ≤ 14) : mj_Ct m_N_isGate [.inr (.inr (.inl b)), .inl slot] sh FR IA LA n (mj_pu (.inl (some (.inl (if IA b 10 < slot then 1 else 0)))) sh FR IA LA n) := by
  obtain ⟨h0, r0, r1, r2, r3, r4, r5, r6, r7, a0, a1, a2, a3, a4, a5, a6, a7⟩ := hN
  refine mj_Ct_of (by decide +kernel) (by decide) (Nat.le_of_ble_eq_true rfl) ?_
  refine mj_go z_N_isGate [] 60 ?_
  refine And.intro h0 ?_
  refine And.intro (fun c => ?_) (fun c => ?_)
  · simp (disch := (clear c; omega)) only [mj_w_id] at c
    rw [if_neg (by omega)]
    exact ⟨Or.inl rfl, ⟨rfl, rfl, rfl, rfl, rfl, rfl⟩, Nat.le_of_ble_eq_true rfl, Nat.le_of_ble_eq_true rfl⟩
  · simp (disch := (clear c; omega)) only [mj_w_id] at c
    rw [if_pos (by omega)]
    exact ⟨Or.inr rfl, ⟨rfl, rfl, rfl, rfl, rfl, rfl⟩, Nat.le_of_ble_eq_true rfl, Nat.le_of_ble_eq_true rfl⟩
theorem ct_N_stands (hN : isNet sh FR n b) {lit : Int} (h1 : -2147483648 ≤ lit) (h2 : lit < 2147483648) (h3 : 0 ≤ IA b 9) (h4 : IA b 9 ≤ 1000) (h5 : ∀ j, j < 1001 → -1 ≤ IA (b + 1) j ∧ IA (b + 1) j < 315) : mj_Ct m_N_stands [.inr (.inr (.inl b)), .inl lit] sh FR IA LA n (mj_pu (.inl (some (.inl (if (0 ≤ lit ∧ lit ≤ 2 * IA b 9 + 1) ∧ ¬ IA (b + 1) (lit / 2).toNat = -1 then 1 else 0)))) sh FR IA LA n) := by
  have hN' := hN
  obtain ⟨h0, r0, r1, r2, r3, r4, r5, r6, r7, a0, a1, a2, a3, a4, a5, a6, a7⟩ := hN
  refine mj_Ct_of (by decide +kernel) (by decide) (Nat.le_of_ble_eq_true rfl) ?_
  refine mj_go z_N_stands [] 60 ?_
  refine And.intro h0 (And.intro (Nat.le_of_ble_eq_true rfl) (And.intro (Nat.le_of_ble_eq_true rfl) (And.intro (Nat.le_of_ble_eq_true rfl) (Exists.intro _ (And.intro (ct_N_exists hN' h1 h2 h3 h4) ?_)))))
  rintro r9 sh9 FR9 IA9 LA9 n9 ⟨z0, z1, z2, z3, z4, z5⟩
  subst z0
  replace z1 := z1.symm
  subst z1
  replace z2 := z2.symm
  subst z2
  replace z3 := z3.symm
  subst z3
  replace z4 := z4.symm
  subst z4
  replace z5 := z5.symm
  subst z5
  refine And.intro (Or.inl rfl) ?_
  by_cases he : 0 ≤ lit ∧ lit ≤ 2 * IA b 9 + 1
  · rw [if_pos he]
    refine And.intro (fun c => ?_) (fun c => ?_)
    · exact absurd c (by decide)
    · have h6 := h5 (lit / 2).toNat (by omega)
      refine And.intro h0 (And.intro (Nat.le_of_ble_eq_true rfl) (And.intro (Nat.le_of_ble_eq_true rfl) (And.intro (Nat.le_of_ble_eq_true rfl) (Exists.intro _ (And.intro (ct_N_slotFor hN' (by omega) (by omega)) ?_)))))
      rintro r9 sh9 FR9 IA9 LA9 n9 ⟨z0, z1, z2, z3, z4, z5⟩
      subst z0
      replace z1 := z1.symm
      subst z1
      replace z2 := z2.symm
      subst z2
      replace z3 := z3.symm
      subst z3
      replace z4 := z4.symm
      subst z4
      replace z5 := z5.symm
      subst z5
      refine And.intro (Or.inl rfl) ?_
      refine And.intro (fun d => ?_) (fun d => ?_)
      · simp (disch := (clear d; omega)) only [mj_w_id] at d
        rw [if_neg (by omega)]
        exact ⟨Or.inl rfl, ⟨rfl, rfl, rfl, rfl, rfl, rfl⟩, Nat.le_of_ble_eq_true rfl, Nat.le_of_ble_eq_true rfl⟩
      · simp (disch := (clear d; omega)) only [mj_w_id] at d
        rw [if_pos (by omega)]
        exact ⟨Or.inr rfl, ⟨rfl, rfl, rfl, rfl, rfl, rfl⟩, Nat.le_of_ble_eq_true rfl, Nat.le_of_ble_eq_true rfl⟩
  · rw [if_neg he, if_neg (fun z => he z.1)]
    refine And.intro (fun c => ?_) (fun c => ?_)
    · exact ⟨Or.inl rfl, ⟨rfl, rfl, rfl, rfl, rfl, rfl⟩, Nat.le_of_ble_eq_true rfl, Nat.le_of_ble_eq_true rfl⟩
    · exact absurd (by decide) c
end NN
