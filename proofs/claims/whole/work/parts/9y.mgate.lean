/-! THE REFERENCE: writeGate -/
section MM
variable {sh : mj_Sh} {FR : mj_FR} {LA : mj_LA} {n : Nat}
set_option maxHeartbeats 2000000 in
theorem ct_M_writeGate (h : isM sh FR n) {B J : mj_FI} {c v k : Nat} {bin : Bool} {tx : List Int} (hc : c < 2) (hr : M_rr B) (hT : mw_T B J tx) (hl : tx.length + 12 ≤ 8192) (hk : k < 300) (hv : v < 400) (hkv : B 75 (15 + k) = (v : Int)) (hi : ∀ i, i < k → ¬ B 75 (15 + i) = (v : Int) ∧ 0 ≤ B 75 (15 + i) ∧ B 75 (15 + i) ≤ 1000)
    (h1 : M_st B c (B 63 (300 * c + k)) ∧ M_st B c (B 73 (M_ro B c (B 63 (300 * c + k)))) ∧ 0 ≤ B 75 (ch_X B c k) ∧ B 75 (ch_X B c k) < (v : Int)) (h2 : M_st B c (B 64 (300 * c + k)) ∧ M_st B c (B 73 (M_ro B c (B 64 (300 * c + k)))) ∧ 0 ≤ B 75 (ch_Y B c k) ∧ B 75 (ch_Y B c k) < (v : Int)) :
    mj_Ct m_M_writeGate [.inr (.inr (.inl 52)), .inl c, .inl v, .inl (if bin = true then 1 else 0)] sh FR J LA n (mj_po (fun o J' => o = .inl none ∧ mw_T B J' (tx ++ wr_g bin v (max (M_wl B (B 75) c (B 63 (300 * c + k))) (M_wl B (B 75) c (B 64 (300 * c + k)))) (min (M_wl B (B 75) c (B 63 (300 * c + k))) (M_wl B (B 75) c (B 64 (300 * c + k)))))) sh FR LA n) := by
  generalize hl1 : M_wl B (B 75) c (B 63 (300 * c + k)) = x
  generalize hl2 : M_wl B (B 75) c (B 64 (300 * c + k)) = y
  generalize hQ : mj_po (fun o J' => o = .inl none ∧ mw_T B J' (tx ++ wr_g bin v (max x y) (min x y))) sh FR LA n = Q
  obtain ⟨a1, a2, a3, a4⟩ := h1
  obtain ⟨b1, b2, b3, b4⟩ := h2
  have t75 : J 75 = B 75 := hT.1 75 (by decide) (by decide)
  have t66 : J 66 = B 66 := hT.1 66 (by decide) (by decide)
  have t73 : J 73 = B 73 := hT.1 73 (by decide) (by decide)
  have t63 : J 63 = B 63 := hT.1 63 (by decide) (by decide)
  have t64 : J 64 = B 64 := hT.1 64 (by decide) (by decide)
  have hx : x < 2 * v := by
    rw [← hl1]
    unfold M_wl
    unfold ch_X at a4
    omega
  have hy : y < 2 * v := by
    rw [← hl2]
    unfold M_wl
    unfold ch_Y at b4
    omega
  have hwx := ct_M_written (LA := LA) (J := J) h hc t66 t73 hr a1 a2 (by rw [t75]; exact ⟨a3, by unfold ch_X at a4; omega⟩)
  have hwy := ct_M_written (LA := LA) (J := J) h hc t66 t73 hr b1 b2 (by rw [t75]; exact ⟨b3, by unfold ch_Y at b4; omega⟩)
  rw [t75, hl1] at hwx
  rw [t75, hl2] at hwy
  have fin : ∀ hg lo : Nat, hg = max x y → lo = min x y → ∀ (x y : Option mj_V), mj_G m_M_writeGate Q 95 [some (.inr (.inr (.inl 52))), some (.inl c), some (.inl v), some (.inl (if bin = true then 1 else 0)), some (.inl k), x, y, some (.inl hg), some (.inl lo)] [] sh FR J LA n 0 0 := by
    intro hg lo ehi elo x5 y5
    rw [← ehi, ← elo] at hQ
    have q1 : hg < 2 * v := by omega
    have q2 : lo ≤ hg := by omega
    clear hi hwx hwy
    subst hQ
    by_cases hb : bin = true
    · subst hb
      refine mj_go z_M_writeGate [] 60 ?_
      refine And.intro (fun d => ?_) (fun d => ?_)
      · exact absurd d (by decide)
      · clear d
        refine Exists.intro (((2 * v : Nat) : Int)) (And.intro (by first | (rw [mj_w_id (by omega) (by omega)]; done) | (rw [mj_w_id (by omega) (by omega)]; omega) | (unfold mj_w; omega)) ?_)
        refine Exists.intro (((2 * v - hg : Nat) : Int)) (And.intro (by first | (rw [mj_w_id (by omega) (by omega)]; done) | (rw [mj_w_id (by omega) (by omega)]; omega) | (unfold mj_w; omega)) ?_)
        refine And.intro h.o (And.intro (Nat.le_of_ble_eq_true rfl) (And.intro (Nat.le_of_ble_eq_true rfl) (And.intro (Nat.le_of_ble_eq_true rfl) (Exists.intro _ (And.intro (ct_M_putStep h hT (by omega) (by omega)) ?_)))))
        rintro o1 sh9 FR9 J1 LA9 n9 ⟨z1, z2, z3, z4, hp1⟩
        replace z1 := z1.symm
        subst z1
        replace z2 := z2.symm
        subst z2
        replace z3 := z3.symm
        subst z3
        replace z4 := z4.symm
        subst z4
        obtain ⟨ho, hT1⟩ := hp1
        subst ho
        refine And.intro (Or.inl rfl) ?_
        refine Exists.intro (((hg - lo : Nat) : Int)) (And.intro (by first | (rw [mj_w_id (by omega) (by omega)]; done) | (rw [mj_w_id (by omega) (by omega)]; omega) | (unfold mj_w; omega)) ?_)
        refine And.intro h.o (And.intro (Nat.le_of_ble_eq_true rfl) (And.intro (Nat.le_of_ble_eq_true rfl) (And.intro (Nat.le_of_ble_eq_true rfl) (Exists.intro _ (And.intro (ct_M_putStep h hT1 (by have := @wr_s_len (2 * v - hg); rw [List.length_append]; omega) (by omega)) ?_)))))
        rintro o2 sh9 FR9 J2 LA9 n9 ⟨z1, z2, z3, z4, hp2⟩
        replace z1 := z1.symm
        subst z1
        replace z2 := z2.symm
        subst z2
        replace z3 := z3.symm
        subst z3
        replace z4 := z4.symm
        subst z4
        obtain ⟨ho, hT2⟩ := hp2
        subst ho
        refine And.intro (Or.inl rfl) ?_
        have e : tx ++ wr_s (2 * v - hg) ++ wr_s (hg - lo) = tx ++ wr_g true v hg lo := by unfold wr_g; rw [if_pos rfl, List.append_assoc]
        rw [e] at hT2
        exact ⟨⟨rfl, rfl, rfl, rfl, rfl, hT2⟩, Nat.le_of_ble_eq_true rfl, Nat.le_of_ble_eq_true rfl⟩
    · have hb : bin = false := by simpa using hb
      subst hb
      refine mj_go z_M_writeGate [] 60 ?_
      refine And.intro (fun d => ?_) (fun d => ?_)
      · clear d
        refine Exists.intro (((2 * v : Nat) : Int)) (And.intro (by first | (rw [mj_w_id (by omega) (by omega)]; done) | (rw [mj_w_id (by omega) (by omega)]; omega) | (unfold mj_w; omega)) ?_)
        have g1 := @wr_n_len (2 * v)
        have g2 := @wr_n_len hg
        refine And.intro h.o (And.intro (Nat.le_of_ble_eq_true rfl) (And.intro (Nat.le_of_ble_eq_true rfl) (And.intro (Nat.le_of_ble_eq_true rfl) (Exists.intro _ (And.intro (ct_M_putNumber h hT (by omega) (by omega)) ?_)))))
        rintro o1 sh9 FR9 J1 LA9 n9 ⟨z1, z2, z3, z4, hp1⟩
        replace z1 := z1.symm
        subst z1
        replace z2 := z2.symm
        subst z2
        replace z3 := z3.symm
        subst z3
        replace z4 := z4.symm
        subst z4
        obtain ⟨ho, hT1⟩ := hp1
        subst ho
        refine And.intro (Or.inl rfl) ?_
        have l1 : (tx ++ (wr_n (2 * v) ++ [32])).length + 4 ≤ 8192 := by simp only [List.length_append, List.length_singleton]; omega
        refine And.intro h.o (And.intro (Nat.le_of_ble_eq_true rfl) (And.intro (Nat.le_of_ble_eq_true rfl) (And.intro (Nat.le_of_ble_eq_true rfl) (Exists.intro _ (And.intro (ct_M_putNumber h hT1 l1 (by omega)) ?_)))))
        rintro o2 sh9 FR9 J2 LA9 n9 ⟨z1, z2, z3, z4, hp2⟩
        replace z1 := z1.symm
        subst z1
        replace z2 := z2.symm
        subst z2
        replace z3 := z3.symm
        subst z3
        replace z4 := z4.symm
        subst z4
        obtain ⟨ho, hT2⟩ := hp2
        subst ho
        refine And.intro (Or.inl rfl) ?_
        have l2 : (tx ++ (wr_n (2 * v) ++ [32]) ++ (wr_n hg ++ [32])).length + 4 ≤ 8192 := by simp only [List.length_append, List.length_singleton]; omega
        refine And.intro h.o (And.intro (Nat.le_of_ble_eq_true rfl) (And.intro (Nat.le_of_ble_eq_true rfl) (And.intro (Nat.le_of_ble_eq_true rfl) (Exists.intro _ (And.intro (ct_M_putNumber h hT2 l2 (by omega)) ?_)))))
        rintro o3 sh9 FR9 J3 LA9 n9 ⟨z1, z2, z3, z4, hp3⟩
        replace z1 := z1.symm
        subst z1
        replace z2 := z2.symm
        subst z2
        replace z3 := z3.symm
        subst z3
        replace z4 := z4.symm
        subst z4
        obtain ⟨ho, hT3⟩ := hp3
        subst ho
        refine And.intro (Or.inl rfl) ?_
        have e : tx ++ (wr_n (2 * v) ++ [32]) ++ (wr_n hg ++ [32]) ++ (wr_n lo ++ [10]) = tx ++ wr_g false v hg lo := by unfold wr_g; rw [if_neg (by decide)]; simp
        rw [e] at hT3
        exact ⟨⟨rfl, rfl, rfl, rfl, rfl, hT3⟩, Nat.le_of_ble_eq_true rfl, Nat.le_of_ble_eq_true rfl⟩
      · exact absurd (show mj_w 0 = 0 by decide) d
  have body : ∀ (y5 y6 y7 y8 : Option mj_V), mj_G m_M_writeGate Q 23 [some (.inr (.inr (.inl 52))), some (.inl c), some (.inl v), some (.inl (if bin = true then 1 else 0)), some (.inl k), y5, y6, y7, y8] [] sh FR J LA n 0 0 := by
    intro y5 y6 y7 y8
    clear hi hQ
    refine mj_go z_M_writeGate [95] 60 ?_
    refine And.intro h.o (Exists.intro _ (And.intro h.r13 ?_))
    refine Exists.intro (((300 * c : Nat) : Int)) (And.intro (by first | (rw [mj_w_id (by omega) (by omega)]; done) | (rw [mj_w_id (by omega) (by omega)]; omega) | (unfold mj_w; omega)) ?_)
    refine Exists.intro (((300 * c + k : Nat) : Int)) (And.intro (by first | (rw [mj_w_id (by omega) (by omega)]; done) | (rw [mj_w_id (by omega) (by omega)]; omega) | (unfold mj_w; omega)) ?_)
    refine Exists.intro _ (Exists.intro (300 * c + k) (And.intro h.a13 (And.intro (by first | (rw [mj_w_id (by omega) (by omega)]; done) | (rw [mj_w_id (by omega) (by omega)]; omega) | (unfold mj_w; omega)) (And.intro (by omega) ?_))))
    rw [t63]
    refine And.intro h.o (And.intro (Nat.le_of_ble_eq_true rfl) (And.intro (Nat.le_of_ble_eq_true rfl) (And.intro (Nat.le_of_ble_eq_true rfl) (Exists.intro _ (And.intro (hwx) ?_)))))
    rintro r9 sh9 FR9 IA9 LA9 n9 ⟨z0, z1, z2, z3, z4, z5⟩
    subst z0
    replace z1 := z1.symm
    subst z1
    replace z2 := z2.symm
    subst z2
    replace z3 := z3.symm
    subst z3
    replace z4 := z4.symm
    subst z4
    replace z5 := z5.symm
    subst z5
    refine And.intro (Or.inl rfl) ?_
    refine And.intro h.o (Exists.intro _ (And.intro h.r14 ?_))
    refine Exists.intro (((300 * c : Nat) : Int)) (And.intro (by first | (rw [mj_w_id (by omega) (by omega)]; done) | (rw [mj_w_id (by omega) (by omega)]; omega) | (unfold mj_w; omega)) ?_)
    refine Exists.intro (((300 * c + k : Nat) : Int)) (And.intro (by first | (rw [mj_w_id (by omega) (by omega)]; done) | (rw [mj_w_id (by omega) (by omega)]; omega) | (unfold mj_w; omega)) ?_)
    refine Exists.intro _ (Exists.intro (300 * c + k) (And.intro h.a14 (And.intro (by first | (rw [mj_w_id (by omega) (by omega)]; done) | (rw [mj_w_id (by omega) (by omega)]; omega) | (unfold mj_w; omega)) (And.intro (by omega) ?_))))
    rw [t64]
    refine And.intro h.o (And.intro (Nat.le_of_ble_eq_true rfl) (And.intro (Nat.le_of_ble_eq_true rfl) (And.intro (Nat.le_of_ble_eq_true rfl) (Exists.intro _ (And.intro (hwy) ?_)))))
    rintro r9 sh9 FR9 IA9 LA9 n9 ⟨z0, z1, z2, z3, z4, z5⟩
    subst z0
    replace z1 := z1.symm
    subst z1
    replace z2 := z2.symm
    subst z2
    replace z3 := z3.symm
    subst z3
    replace z4 := z4.symm
    subst z4
    replace z5 := z5.symm
    subst z5
    refine And.intro (Or.inl rfl) ?_
    clear hwx hwy
    refine And.intro (fun d => ?_) (fun d => ?_)
    · simp (disch := (clear d; omega)) only [mj_w_id] at d
      refine And.intro (fun e => ?_) (fun e => ?_)
      · simp (disch := (clear e; omega)) only [mj_w_id] at e
        exact fin y x (by omega) (by omega) _ _
      · simp (disch := (clear e; omega)) only [mj_w_id] at e
        omega
    · simp (disch := (clear d; omega)) only [mj_w_id] at d
      refine And.intro (fun e => ?_) (fun e => ?_)
      · simp (disch := (clear e; omega)) only [mj_w_id] at e
        omega
      · exact fin x y (by omega) (by omega) _ _
  have loop : ∀ (t i : Nat) (y5 y6 y7 y8 : Option mj_V), i + t = k → mj_G m_M_writeGate Q 3 [some (.inr (.inr (.inl 52))), some (.inl c), some (.inl v), some (.inl (if bin = true then 1 else 0)), some (.inl i), y5, y6, y7, y8] [] sh FR J LA n 0 0 := by
    intro t
    induction t with
    | zero =>
      intro i y5 y6 y7 y8 hik
      have e : i = k := by omega
      subst e
      refine mj_go z_M_writeGate [23] 60 ?_
      refine And.intro h.o (Exists.intro _ (And.intro h.r28 ?_))
      refine Exists.intro (((15 + i : Nat) : Int)) (And.intro (by first | (rw [mj_w_id (by omega) (by omega)]; done) | (rw [mj_w_id (by omega) (by omega)]; omega) | (unfold mj_w; omega)) ?_)
      refine Exists.intro _ (Exists.intro (15 + i) (And.intro h.a28 (And.intro (by first | (rw [mj_w_id (by omega) (by omega)]; done) | (rw [mj_w_id (by omega) (by omega)]; omega) | (unfold mj_w; omega)) (And.intro (by omega) ?_))))
      rw [t75, hkv]
      refine And.intro (fun d => ?_) (fun d => ?_)
      · exact body _ _ _ _
      · exact absurd rfl d
    | succ t ih =>
      intro i y5 y6 y7 y8 hik
      obtain ⟨q1, q2, q3⟩ := hi i (by omega)
      refine mj_go z_M_writeGate [3, 23] 60 ?_
      refine And.intro h.o (Exists.intro _ (And.intro h.r28 ?_))
      refine Exists.intro (((15 + i : Nat) : Int)) (And.intro (by first | (rw [mj_w_id (by omega) (by omega)]; done) | (rw [mj_w_id (by omega) (by omega)]; omega) | (unfold mj_w; omega)) ?_)
      refine Exists.intro _ (Exists.intro (15 + i) (And.intro h.a28 (And.intro (by first | (rw [mj_w_id (by omega) (by omega)]; done) | (rw [mj_w_id (by omega) (by omega)]; omega) | (unfold mj_w; omega)) (And.intro (by omega) ?_))))
      rw [t75]
      refine And.intro (fun d => ?_) (fun d => ?_)
      · simp (disch := (clear d; omega)) only [mj_w_id] at d
        omega
      · clear d
        refine Exists.intro (((i + 1 : Nat) : Int)) (And.intro (by first | (rw [mj_w_id (by omega) (by omega)]; done) | (rw [mj_w_id (by omega) (by omega)]; omega) | (unfold mj_w; omega)) ?_)
        exact ih (i + 1) _ _ _ _ (by omega)
  refine mj_Ct_of (by decide +kernel) (by decide) (Nat.le_of_ble_eq_true rfl) ?_
  refine mj_go z_M_writeGate [3] 60 ?_
  exact loop k 0 _ _ _ _ (by omega)
end MM
