/-! READER: takeStep -/
/-- how takeStep ends at p -/
def rd_stp (IA : mj_FI) (r p : Nat) (o : mj_O) (IA' : mj_FI) : Prop :=
  (rd_by IA r p = -1 ∧ o = .inl (some (.inl (-1))) ∧ IA' = mj_up (mj_up IA r 1 5) r 2 (p : Int)) ∨
  (0 ≤ rd_by IA r p ∧ rd_by IA r p < 128 ∧ o = .inl (some (.inl (rd_by IA r p))) ∧ IA' = mj_up IA r 8 ((p + 1 : Nat) : Int)) ∨
  (128 ≤ rd_by IA r p ∧ ¬ (1 ≤ rd_by IA r (p + 1) ∧ rd_by IA r (p + 1) ≤ 127) ∧ o = .inl (some (.inl (-1))) ∧ IA' = mj_up (mj_up (mj_up IA r 8 ((p + 1 : Nat) : Int)) r 1 5) r 2 ((p + 1 : Nat) : Int)) ∨
  (128 ≤ rd_by IA r p ∧ 1 ≤ rd_by IA r (p + 1) ∧ rd_by IA r (p + 1) ≤ 127 ∧ o = .inl (some (.inl (rd_by IA r p - 128 + 128 * rd_by IA r (p + 1)))) ∧ IA' = mj_up IA r 8 ((p + 2 : Nat) : Int))
section RR
variable {sh : mj_Sh} {FR : mj_FR} {IA : mj_FI} {LA : mj_LA} {n r b : Nat}
set_option maxHeartbeats 4000000 in
theorem ct_R_takeStep (h : isRd sh FR n r b) {p : Nat} (hp : IA r 8 = (p : Int)) (hp2 : p ≤ 10000) (h1 : 0 ≤ IA r 0) (h2 : IA r 0 ≤ 8192) :
    mj_Ct m_R_takeStep [.inr (.inr (.inl r))] sh FR IA LA n (fun o sh' FR' IA' LA' n' => sh' = sh ∧ FR' = FR ∧ LA' = LA ∧ n' = n ∧ rd_stp IA r p o IA') := by
  have hR := h
  obtain ⟨h0, r3, r4, r5, r6, r7, a1, a2, a3, a4, s0, s1, a5, a6⟩ := h
  have b0 := rd_by_in IA r p
  have b1 := rd_by_in IA r (p + 1)
  generalize hQ : (fun (o : mj_O) (sh' : mj_Sh) (FR' : mj_FR) (IA' : mj_FI) (LA' : mj_LA) (n' : Nat) => sh' = sh ∧ FR' = FR ∧ LA' = LA ∧ n' = n ∧ rd_stp IA r p o IA') = Q
  have bad : ∀ (J : mj_FI) (q : Nat) (x y : Int), J r 8 = (q : Int) → rd_stp IA r p (.inl (some (.inl (-1)))) (mj_up (mj_up J r 1 5) r 2 (q : Int)) → mj_G m_R_takeStep Q 63 [some (.inr (.inr (.inl r))), some (.inl x), some (.inl y)] [] sh FR J LA n 0 0 := by
    intro J q x y hJ hs
    subst hQ
    refine mj_go z_R_takeStep [] 60 ?_
    refine And.intro h0 ?_
    rw [hJ]
    refine And.intro h0 (And.intro (Nat.le_of_ble_eq_true rfl) (And.intro (Nat.le_of_ble_eq_true rfl) (And.intro (Nat.le_of_ble_eq_true rfl) (Exists.intro _ (And.intro (ct_R_fail hR) ?_)))))
    rintro r9 sh9 FR9 IA9 LA9 n9 ⟨z0, z1, z2, z3, z4, z5⟩
    subst z0
    replace z1 := z1.symm
    subst z1
    replace z2 := z2.symm
    subst z2
    replace z3 := z3.symm
    subst z3
    replace z4 := z4.symm
    subst z4
    replace z5 := z5.symm
    subst z5
    refine And.intro (Or.inl rfl) ?_
    refine And.intro rfl ?_
    exact ⟨⟨rfl, rfl, rfl, rfl, hs⟩, Nat.le_of_ble_eq_true rfl, Nat.le_of_ble_eq_true rfl⟩
  have good : ∀ (J : mj_FI) (q : Nat) (x y : Int), q ≤ 20000 → 0 ≤ x → x ≤ 127 → 0 ≤ y → y ≤ 127 → J r 8 = (q : Int) → rd_stp IA r p (.inl (some (.inl (x + 128 * y)))) (mj_up J r 8 ((q + 1 : Nat) : Int)) → mj_G m_R_takeStep Q 75 [some (.inr (.inr (.inl r))), some (.inl x), some (.inl y)] [] sh FR J LA n 0 0 := by
    intro J q x y hq hx0 hx1 hy0 hy1 hJ hs
    subst hQ
    refine mj_go z_R_takeStep [] 60 ?_
    refine And.intro rfl ?_
    refine And.intro h0 ?_
    rw [hJ]
    refine Exists.intro (((q + 1 : Nat) : Int)) (And.intro (by first | (rw [mj_w_id (by omega) (by omega)]; done) | (rw [mj_w_id (by omega) (by omega)]; omega) | (unfold mj_w; omega)) ?_)
    refine And.intro h0 ?_
    refine Exists.intro (128 * y) (And.intro (by first | (rw [mj_w_id (by omega) (by omega)]; done) | (rw [mj_w_id (by omega) (by omega)]; omega) | (unfold mj_w; omega)) ?_)
    refine Exists.intro (x + 128 * y) (And.intro (by first | (rw [mj_w_id (by omega) (by omega)]; done) | (rw [mj_w_id (by omega) (by omega)]; omega) | (unfold mj_w; omega)) ?_)
    exact ⟨⟨rfl, rfl, rfl, rfl, hs⟩, Nat.le_of_ble_eq_true rfl, Nat.le_of_ble_eq_true rfl⟩
  refine mj_Ct_of (by decide +kernel) (by decide) (Nat.le_of_ble_eq_true rfl) ?_
  refine mj_go z_R_takeStep [63, 75] 60 ?_
  refine And.intro h0 ?_
  rw [hp]
  refine And.intro h0 (And.intro (Nat.le_of_ble_eq_true rfl) (And.intro (Nat.le_of_ble_eq_true rfl) (And.intro (Nat.le_of_ble_eq_true rfl) (Exists.intro _ (And.intro (ct_R_byteAt hR (by omega) h1 h2) ?_)))))
  rintro r9 sh9 FR9 IA9 LA9 n9 ⟨z0, z1, z2, z3, z4, z5⟩
  subst z0
  replace z1 := z1.symm
  subst z1
  replace z2 := z2.symm
  subst z2
  replace z3 := z3.symm
  subst z3
  replace z4 := z4.symm
  subst z4
  replace z5 := z5.symm
  subst z5
  refine And.intro (Or.inl rfl) ?_
  refine And.intro (fun c => ?_) (fun c => ?_)
  · simp (disch := (clear c; omega)) only [mj_w_id] at c
    refine And.intro (fun d => ?_) (fun d => ?_)
    · simp (disch := (clear d; omega)) only [mj_w_id] at d
      refine bad IA p _ _ hp (Or.inl ⟨d, rfl, rfl⟩)
    · simp (disch := (clear d; omega)) only [mj_w_id] at d
      refine And.intro (fun e => ?_) (fun e => ?_)
      · refine good IA p _ _ (by omega) (by omega) (by omega) (by decide) (by decide) hp (Or.inr (Or.inl ⟨by omega, by omega, ?_, rfl⟩))
        rw [show rd_by IA r p + 128 * 0 = rd_by IA r p by omega]
      · exact absurd (by decide) e
  · simp (disch := (clear c; omega)) only [mj_w_id] at c
    have hJ8 : mj_up IA r 8 ((p + 1 : Nat) : Int) r 8 = ((p + 1 : Nat) : Int) := mj_up_at
    have hJ0 : mj_up IA r 8 ((p + 1 : Nat) : Int) r 0 = IA r 0 := mj_up_k (by decide)
    have hJb : rd_by (mj_up IA r 8 ((p + 1 : Nat) : Int)) r (p + 1) = rd_by IA r (p + 1) := by
      unfold rd_by
      rw [hJ0, mj_up_ne (show r + 1 ≠ r by omega)]
    refine And.intro rfl ?_
    refine And.intro h0 ?_
    rw [hp]
    refine Exists.intro (((p + 1 : Nat) : Int)) (And.intro (by first | (rw [mj_w_id (by omega) (by omega)]; done) | (rw [mj_w_id (by omega) (by omega)]; omega) | (unfold mj_w; omega)) ?_)
    refine And.intro h0 ?_
    refine Exists.intro (rd_by IA r p - 128) (And.intro (by first | (rw [mj_w_id (by omega) (by omega)]; done) | (rw [mj_w_id (by omega) (by omega)]; omega) | (unfold mj_w; omega)) ?_)
    refine And.intro h0 ?_
    rw [hJ8]
    refine And.intro h0 (And.intro (Nat.le_of_ble_eq_true rfl) (And.intro (Nat.le_of_ble_eq_true rfl) (And.intro (Nat.le_of_ble_eq_true rfl) (Exists.intro _ (And.intro (ct_R_byteAt hR (by omega) (by rw [hJ0]; exact h1) (by rw [hJ0]; exact h2)) ?_)))))
    rintro r9 sh9 FR9 IA9 LA9 n9 ⟨z0, z1, z2, z3, z4, z5⟩
    subst z0
    replace z1 := z1.symm
    subst z1
    replace z2 := z2.symm
    subst z2
    replace z3 := z3.symm
    subst z3
    replace z4 := z4.symm
    subst z4
    replace z5 := z5.symm
    subst z5
    refine And.intro (Or.inl rfl) ?_
    rw [hJb]
    have fl : ¬ (1 ≤ rd_by IA r (p + 1) ∧ rd_by IA r (p + 1) ≤ 127) → rd_stp IA r p (.inl (some (.inl (-1)))) (mj_up (mj_up (mj_up IA r 8 ((p + 1 : Nat) : Int)) r 1 5) r 2 ((p + 1 : Nat) : Int)) := fun z => Or.inr (Or.inr (Or.inl ⟨by omega, z, rfl, rfl⟩))
    refine And.intro (fun d => ?_) (fun d => ?_)
    · simp (disch := (clear d; omega)) only [mj_w_id] at d
      refine And.intro (fun e => ?_) (fun e => ?_)
      · exact bad (mj_up IA r 8 ((p + 1 : Nat) : Int)) (p + 1) _ _ hJ8 (fl (by omega))
      · refine And.intro (fun f => ?_) (fun f => ?_)
        · exact absurd rfl f
        · exact bad (mj_up IA r 8 ((p + 1 : Nat) : Int)) (p + 1) _ _ hJ8 (fl (by omega))
    · simp (disch := (clear d; omega)) only [mj_w_id] at d
      refine And.intro (fun e => ?_) (fun e => ?_)
      · simp (disch := (clear e; omega)) only [mj_w_id] at e
        refine And.intro (fun f => ?_) (fun f => ?_)
        · exact bad (mj_up IA r 8 ((p + 1 : Nat) : Int)) (p + 1) _ _ hJ8 (fl (by simp (disch := omega) only [mj_w_id] at f; omega))
        · refine And.intro (fun g => ?_) (fun g => ?_)
          · simp (disch := (clear g; omega)) only [mj_w_id] at g
            refine good (mj_up IA r 8 ((p + 1 : Nat) : Int)) (p + 1) _ _ (by omega) (by omega) (by omega) (by omega) (by omega) hJ8 (Or.inr (Or.inr (Or.inr ⟨by omega, by omega, by omega, rfl, ?_⟩)))
            rw [mj_up_up]
          · have g := Classical.not_not.mp g
            simp (disch := (clear g; omega)) only [mj_w_id] at g
            exact bad (mj_up IA r 8 ((p + 1 : Nat) : Int)) (p + 1) _ _ hJ8 (fl (by omega))
      · simp (disch := (clear e; omega)) only [mj_w_id] at e
        refine And.intro (fun f => ?_) (fun f => ?_)
        · exact bad (mj_up IA r 8 ((p + 1 : Nat) : Int)) (p + 1) _ _ hJ8 (fl (by omega))
        · refine And.intro (fun g => ?_) (fun g => ?_)
          · exact absurd rfl g
          · exact bad (mj_up IA r 8 ((p + 1 : Nat) : Int)) (p + 1) _ _ hJ8 (fl (by omega))
end RR
