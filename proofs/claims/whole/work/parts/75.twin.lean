/-! THE OUTER CLASS: its objects, and what its methods require -/
/-- the twin's objects at their places; the circuits' nets lie at b1, b2, the reader's at b3 -/
def isTw (sh : mj_Sh) (FR : mj_FR) (n b1 b2 b3 : Nat) : Prop := mj_is sh n 0 4 0 ∧ FR 0 0 = .inl 1 ∧ FR 0 1 = .inl 15 ∧ FR 0 2 = .inl 29 ∧ FR 0 3 = .inl 45 ∧ isC sh FR n 1 b1 ∧ isC sh FR n 15 b2 ∧ isRd sh FR n 29 b3 ∧ isW sh FR n 45 ∧ isNet sh FR n b1 ∧ isNet sh FR n b2 ∧ isNet sh FR n b3 ∧
  ((b1 = 2 ∨ b1 = 16 ∨ b1 = 36) ∧ (b2 = 2 ∨ b2 = 16 ∨ b2 = 36) ∧ (b3 = 2 ∨ b3 = 16 ∨ b3 = 36) ∧ b1 ≠ b2 ∧ b1 ≠ b3 ∧ b2 ≠ b3)
/-- circuit x is the object at c, its net lies at b -/
def tw_c (b1 b2 : Nat) (x : Int) (c b : Nat) : Prop := (x = 0 ∧ c = 1 ∧ b = b1) ∨ (x = 1 ∧ c = 15 ∧ b = b2)
/-- the state of a circuit that has been settled -/
def cS (IA : mj_FI) (LA : mj_LA) (c b m I O G : Nat) (od ld : List Nat) : Prop := nA IA b m I O G od ∧ IA c 8 = (C_W I : Int) ∧ LA c 9 = C_mk I ∧ tb_E IA LA c b I od ∧ se_V IA LA c b (C_W I) (List.range (I + 1) ++ od) ld ∧ ∀ j, j < 256 → LA (c + 10) j = 0#64
/-- the literal stands -/
def tw_sd (IA : mj_FI) (b : Nat) (lit : Int) : Prop := (0 ≤ lit ∧ lit ≤ 2 * IA b 9 + 1) ∧ ¬ IA (b + 1) (lit / 2).toNat = -1
theorem tw_sd.st {IA : mj_FI} {b m I O G : Nat} {lit : Int} (h : tw_sd IA b lit) (hW : nW IA b m I O G) : 0 ≤ lit ∧ lit ≤ 2001 ∧ IA (b + 1) (lit / 2).toNat = ((wr_sl IA b lit : Nat) : Int) ∧ wr_sl IA b lit < 315 := by
  have hso := hW.so
  obtain ⟨w1, w2, w3, w4, w5, w6, w7, w8, w9, w10, w11, w12⟩ := hW
  obtain ⟨⟨h1, h2⟩, h3⟩ := h
  rw [w6] at h2
  have := hso (lit / 2).toNat (by omega)
  unfold wr_sl
  omega
section TT
variable {sh : mj_Sh} {FR : mj_FR} {IA : mj_FI} {LA : mj_LA} {n b1 b2 b3 : Nat}
theorem isTw.c (h : isTw sh FR n b1 b2 b3) {x : Int} {c b : Nat} (hx : tw_c b1 b2 x c b) : isC sh FR n c b ∧ isNet sh FR n b ∧ C_ap c b ∧ wr_ap 45 c b := by
  obtain ⟨t0, t1, t2, t3, t4, hC1, hC2, hRd, hWr, hN1, hN2, hN3, hb⟩ := h
  rcases hx with ⟨_, e1, e2⟩ | ⟨_, e1, e2⟩
  · subst e1
    subst e2
    refine ⟨hC1, hN1, ?_, ?_⟩
    · unfold C_ap
      omega
    · unfold wr_ap
      omega
  · subst e1
    subst e2
    refine ⟨hC2, hN2, ?_, ?_⟩
    · unfold C_ap
      omega
    · unfold wr_ap
      omega
theorem ct_T_named (h : isTw sh FR n b1 b2 b3) {x : Int} {c b : Nat} (hx : tw_c b1 b2 x c b) : mj_Ct m_T_named [.inr (.inr (.inl 0)), .inl x] sh FR IA LA n (mj_pu (.inl (some (.inr (.inr (.inl c))))) sh FR IA LA n) := by
  obtain ⟨t0, t1, t2, t3, t4, hC1, hC2, hRd, hWr, hN1, hN2, hN3, hb⟩ := h
  rcases hx with ⟨e0, e1, e2⟩ | ⟨e0, e1, e2⟩
  · subst e0
    subst e1
    refine mj_Ct_of (by decide +kernel) (by decide) (Nat.le_of_ble_eq_true rfl) ?_
    refine mj_go z_T_named [] 60 ?_
    refine And.intro (fun d => ?_) (fun d => ?_)
    · exact absurd rfl d
    · refine And.intro t0 (Exists.intro _ (And.intro t1 ?_))
      exact ⟨⟨rfl, rfl, rfl, rfl, rfl, rfl⟩, Nat.le_of_ble_eq_true rfl, Nat.le_of_ble_eq_true rfl⟩
  · subst e0
    subst e1
    refine mj_Ct_of (by decide +kernel) (by decide) (Nat.le_of_ble_eq_true rfl) ?_
    refine mj_go z_T_named [] 60 ?_
    refine And.intro (fun d => ?_) (fun d => ?_)
    · refine And.intro (fun e => ?_) (fun e => ?_)
      · exact absurd rfl e
      · refine And.intro t0 (Exists.intro _ (And.intro t2 ?_))
        exact ⟨⟨rfl, rfl, rfl, rfl, rfl, rfl⟩, Nat.le_of_ble_eq_true rfl, Nat.le_of_ble_eq_true rfl⟩
    · exact absurd (show ¬ mj_w 1 = 0 by decide) d
theorem ct_T_namedX (h : isTw sh FR n b1 b2 b3) {x : Int} (h1 : -2147483648 ≤ x) (h2 : x < 2147483648) (hx : ¬ (x = 0 ∨ x = 1)) : mj_Ct m_T_named [.inr (.inr (.inl 0)), .inl x] sh FR IA LA n (mj_pu (.inr 0) sh FR IA LA n) := by
  obtain ⟨t0, t1, t2, t3, t4, hC1, hC2, hRd, hWr, hN1, hN2, hN3, hb⟩ := h
  refine mj_Ct_of (by decide +kernel) (by decide) (Nat.le_of_ble_eq_true rfl) ?_
  refine mj_go z_T_named [] 60 ?_
  refine And.intro (fun d => ?_) (fun d => ?_)
  · refine And.intro (fun e => ?_) (fun e => ?_)
    · exact ⟨Nat.le_of_ble_eq_true rfl, Nat.le_of_ble_eq_true rfl, ⟨rfl, rfl, rfl, rfl, rfl, rfl⟩⟩
    · have e := Classical.not_not.mp e
      simp (disch := (clear e; omega)) only [mj_w_id] at e
      omega
  · have d := Classical.not_not.mp d
    simp (disch := (clear d; omega)) only [mj_w_id] at d
    omega
theorem ct_T_standing {c b m I O G : Nat} (hC : isC sh FR n c b) (hN : isNet sh FR n b) (hW : nW IA b m I O G) {lit : Int} (h1 : -2147483648 ≤ lit) (h2 : lit < 2147483648) (hs : tw_sd IA b lit) : mj_Ct m_T_requireStanding [.inr (.inr (.inl c)), .inl lit] sh FR IA LA n (mj_pu (.inl none) sh FR IA LA n) := by
  have hso := hW.so
  obtain ⟨w1, w2, w3, w4, w5, w6, w7, w8, w9, w10, w11, w12⟩ := hW
  refine mj_Ct_of (by decide +kernel) (by decide) (Nat.le_of_ble_eq_true rfl) ?_
  refine mj_go z_T_requireStanding [] 60 ?_
  refine And.intro hC.1 (Exists.intro _ (And.intro hC.2.1 ?_))
  refine And.intro hN.1 (And.intro (Nat.le_of_ble_eq_true rfl) (And.intro (Nat.le_of_ble_eq_true rfl) (And.intro (Nat.le_of_ble_eq_true rfl) (Exists.intro _ (And.intro (ct_N_stands hN h1 h2 (by omega) (by omega) hso) ?_)))))
  rintro r9 sh9 FR9 IA9 LA9 n9 ⟨z0, z1, z2, z3, z4, z5⟩
  subst z0
  replace z1 := z1.symm
  subst z1
  replace z2 := z2.symm
  subst z2
  replace z3 := z3.symm
  subst z3
  replace z4 := z4.symm
  subst z4
  replace z5 := z5.symm
  subst z5
  refine And.intro (Or.inl rfl) ?_
  rw [if_pos (show (0 ≤ lit ∧ lit ≤ 2 * IA b 9 + 1) ∧ ¬ IA (b + 1) (lit / 2).toNat = -1 from hs)]
  refine And.intro (fun d => ?_) (fun d => ?_)
  · exact ⟨⟨rfl, rfl, rfl, rfl, rfl, rfl⟩, Nat.le_of_ble_eq_true rfl, Nat.le_of_ble_eq_true rfl⟩
  · exact absurd (show ¬ mj_w 1 = 0 by decide) d
theorem ct_T_standingX {c b m I O G : Nat} (hC : isC sh FR n c b) (hN : isNet sh FR n b) (hW : nW IA b m I O G) {lit : Int} (h1 : -2147483648 ≤ lit) (h2 : lit < 2147483648) (hs : ¬ tw_sd IA b lit) : mj_Ct m_T_requireStanding [.inr (.inr (.inl c)), .inl lit] sh FR IA LA n (mj_pu (.inr 0) sh FR IA LA n) := by
  have hso := hW.so
  obtain ⟨w1, w2, w3, w4, w5, w6, w7, w8, w9, w10, w11, w12⟩ := hW
  refine mj_Ct_of (by decide +kernel) (by decide) (Nat.le_of_ble_eq_true rfl) ?_
  refine mj_go z_T_requireStanding [] 60 ?_
  refine And.intro hC.1 (Exists.intro _ (And.intro hC.2.1 ?_))
  refine And.intro hN.1 (And.intro (Nat.le_of_ble_eq_true rfl) (And.intro (Nat.le_of_ble_eq_true rfl) (And.intro (Nat.le_of_ble_eq_true rfl) (Exists.intro _ (And.intro (ct_N_stands hN h1 h2 (by omega) (by omega) hso) ?_)))))
  rintro r9 sh9 FR9 IA9 LA9 n9 ⟨z0, z1, z2, z3, z4, z5⟩
  subst z0
  replace z1 := z1.symm
  subst z1
  replace z2 := z2.symm
  subst z2
  replace z3 := z3.symm
  subst z3
  replace z4 := z4.symm
  subst z4
  replace z5 := z5.symm
  subst z5
  refine And.intro (Or.inl rfl) ?_
  rw [if_neg (show ¬ ((0 ≤ lit ∧ lit ≤ 2 * IA b 9 + 1) ∧ ¬ IA (b + 1) (lit / 2).toNat = -1) from hs)]
  refine And.intro (fun d => ?_) (fun d => ?_)
  · exact absurd d (show ¬ ¬ mj_w 0 = 0 by decide)
  · exact ⟨Nat.le_of_ble_eq_true rfl, Nat.le_of_ble_eq_true rfl, ⟨rfl, rfl, rfl, rfl, rfl, rfl⟩⟩
theorem pw_14 {I : Nat} (h : I ≤ 14) : 2 ^ I ≤ 16384 := Nat.pow_le_pow_right (show 0 < 2 by decide) h
theorem ct_T_vector {c b m I O G : Nat} (hC : isC sh FR n c b) (hN : isNet sh FR n b) (hW : nW IA b m I O G) {v : Int} (h1 : -2147483648 ≤ v) (h2 : v < 2147483648) (hv : 0 ≤ v ∧ v < ((2 ^ I : Nat) : Int)) : mj_Ct m_T_requireVector [.inr (.inr (.inl c)), .inl v] sh FR IA LA n (mj_pu (.inl none) sh FR IA LA n) := by
  obtain ⟨w1, w2, w3, w4, w5, w6, w7, w8, w9, w10, w11, w12⟩ := hW
  have hp := pw_14 w2
  have hp0 := Nat.two_pow_pos I
  refine mj_Ct_of (by decide +kernel) (by decide) (Nat.le_of_ble_eq_true rfl) ?_
  refine mj_go z_T_requireVector [] 60 ?_
  refine And.intro (fun d => ?_) (fun d => ?_)
  · simp (disch := (clear d; omega)) only [mj_w_id] at d
    omega
  · clear d
    refine And.intro hC.1 (Exists.intro _ (And.intro hC.2.1 ?_))
    refine And.intro hN.1 ?_
    rw [w7]
    refine Exists.intro (((2 ^ I : Nat) : Int)) (And.intro (nu_shl1 ⟨I, by omega⟩) ?_)
    refine And.intro (fun d => ?_) (fun d => ?_)
    · exact ⟨⟨rfl, rfl, rfl, rfl, rfl, rfl⟩, Nat.le_of_ble_eq_true rfl, Nat.le_of_ble_eq_true rfl⟩
    · simp (disch := (clear d; omega)) only [mj_w_id] at d
      omega
theorem ct_T_vectorX {c b m I O G : Nat} (hC : isC sh FR n c b) (hN : isNet sh FR n b) (hW : nW IA b m I O G) {v : Int} (h1 : -2147483648 ≤ v) (h2 : v < 2147483648) (hv : ¬ (0 ≤ v ∧ v < ((2 ^ I : Nat) : Int))) : mj_Ct m_T_requireVector [.inr (.inr (.inl c)), .inl v] sh FR IA LA n (mj_pu (.inr 0) sh FR IA LA n) := by
  obtain ⟨w1, w2, w3, w4, w5, w6, w7, w8, w9, w10, w11, w12⟩ := hW
  have hp := pw_14 w2
  have hp0 := Nat.two_pow_pos I
  refine mj_Ct_of (by decide +kernel) (by decide) (Nat.le_of_ble_eq_true rfl) ?_
  refine mj_go z_T_requireVector [] 60 ?_
  refine And.intro (fun d => ?_) (fun d => ?_)
  · exact ⟨Nat.le_of_ble_eq_true rfl, Nat.le_of_ble_eq_true rfl, ⟨rfl, rfl, rfl, rfl, rfl, rfl⟩⟩
  · simp (disch := (clear d; omega)) only [mj_w_id] at d
    refine And.intro hC.1 (Exists.intro _ (And.intro hC.2.1 ?_))
    refine And.intro hN.1 ?_
    rw [w7]
    refine Exists.intro (((2 ^ I : Nat) : Int)) (And.intro (nu_shl1 ⟨I, by omega⟩) ?_)
    refine And.intro (fun e => ?_) (fun e => ?_)
    · simp (disch := (clear e; omega)) only [mj_w_id] at e
      omega
    · exact ⟨Nat.le_of_ble_eq_true rfl, Nat.le_of_ble_eq_true rfl, ⟨rfl, rfl, rfl, rfl, rfl, rfl⟩⟩
theorem ct_T_input {c b m I O G : Nat} (hC : isC sh FR n c b) (hN : isNet sh FR n b) (hW : nW IA b m I O G) {k : Int} (h1 : -2147483648 ≤ k) (h2 : k < 2147483648) (hv : 0 ≤ k ∧ k < (I : Int)) : mj_Ct m_T_requireInput [.inr (.inr (.inl c)), .inl k] sh FR IA LA n (mj_pu (.inl none) sh FR IA LA n) := by
  obtain ⟨w1, w2, w3, w4, w5, w6, w7, w8, w9, w10, w11, w12⟩ := hW
  refine mj_Ct_of (by decide +kernel) (by decide) (Nat.le_of_ble_eq_true rfl) ?_
  refine mj_go z_T_requireInput [] 60 ?_
  refine And.intro (fun d => ?_) (fun d => ?_)
  · simp (disch := (clear d; omega)) only [mj_w_id] at d
    omega
  · clear d
    refine And.intro hC.1 (Exists.intro _ (And.intro hC.2.1 ?_))
    refine And.intro hN.1 ?_
    rw [w7]
    refine And.intro (fun d => ?_) (fun d => ?_)
    · exact ⟨⟨rfl, rfl, rfl, rfl, rfl, rfl⟩, Nat.le_of_ble_eq_true rfl, Nat.le_of_ble_eq_true rfl⟩
    · simp (disch := (clear d; omega)) only [mj_w_id] at d
      omega
theorem ct_T_inputX {c b m I O G : Nat} (hC : isC sh FR n c b) (hN : isNet sh FR n b) (hW : nW IA b m I O G) {k : Int} (h1 : -2147483648 ≤ k) (h2 : k < 2147483648) (hv : ¬ (0 ≤ k ∧ k < (I : Int))) : mj_Ct m_T_requireInput [.inr (.inr (.inl c)), .inl k] sh FR IA LA n (mj_pu (.inr 2) sh FR IA LA n) := by
  obtain ⟨w1, w2, w3, w4, w5, w6, w7, w8, w9, w10, w11, w12⟩ := hW
  refine mj_Ct_of (by decide +kernel) (by decide) (Nat.le_of_ble_eq_true rfl) ?_
  refine mj_go z_T_requireInput [] 60 ?_
  refine And.intro (fun d => ?_) (fun d => ?_)
  · exact ⟨Nat.le_of_ble_eq_true rfl, Nat.le_of_ble_eq_true rfl, ⟨rfl, rfl, rfl, rfl, rfl, rfl⟩⟩
  · simp (disch := (clear d; omega)) only [mj_w_id] at d
    refine And.intro hC.1 (Exists.intro _ (And.intro hC.2.1 ?_))
    refine And.intro hN.1 ?_
    rw [w7]
    refine And.intro (fun e => ?_) (fun e => ?_)
    · simp (disch := (clear e; omega)) only [mj_w_id] at e
      omega
    · exact ⟨Nat.le_of_ble_eq_true rfl, Nat.le_of_ble_eq_true rfl, ⟨rfl, rfl, rfl, rfl, rfl, rfl⟩⟩
theorem ct_T_match (h : isTw sh FR n b1 b2 b3) {I1 I2 : Nat} (h1 : IA b1 10 = (I1 : Int)) (h2 : IA b2 10 = (I2 : Int)) (hI1 : I1 ≤ 14) (hI2 : I2 ≤ 14) : mj_Ct m_T_requireMatch [.inr (.inr (.inl 0))] sh FR IA LA n (mj_pu (if I1 = I2 then .inl none else .inr 1) sh FR IA LA n) := by
  obtain ⟨t0, t1, t2, t3, t4, hC1, hC2, hRd, hWr, hN1, hN2, hN3, hb⟩ := h
  refine mj_Ct_of (by decide +kernel) (by decide) (Nat.le_of_ble_eq_true rfl) ?_
  refine mj_go z_T_requireMatch [] 60 ?_
  refine And.intro t0 (Exists.intro _ (And.intro t1 ?_))
  refine And.intro hC1.1 (Exists.intro _ (And.intro hC1.2.1 ?_))
  refine And.intro hN1.1 ?_
  refine And.intro t0 (Exists.intro _ (And.intro t2 ?_))
  refine And.intro hC2.1 (Exists.intro _ (And.intro hC2.2.1 ?_))
  refine And.intro hN2.1 ?_
  rw [h1, h2]
  refine And.intro (fun d => ?_) (fun d => ?_)
  · simp (disch := (clear d; omega)) only [mj_w_id] at d
    rw [if_pos (by omega)]
    exact ⟨⟨rfl, rfl, rfl, rfl, rfl, rfl⟩, Nat.le_of_ble_eq_true rfl, Nat.le_of_ble_eq_true rfl⟩
  · simp (disch := (clear d; omega)) only [mj_w_id] at d
    rw [if_neg (by omega)]
    exact ⟨Nat.le_of_ble_eq_true rfl, Nat.le_of_ble_eq_true rfl, ⟨rfl, rfl, rfl, rfl, rfl, rfl⟩⟩
end TT
