/-! THE OUTER CLASS: value, least, greatest, implies, depends, rises, leader, functions -/
section TT
variable {sh : mj_Sh} {FR : mj_FR} {IA : mj_FI} {LA : mj_LA} {n b1 b2 b3 : Nat}
theorem cS.W {c b m I O G : Nat} {od ld : List Nat} (h : cS IA LA c b m I O G od ld) : nW IA b m I O G ∧ 1 ≤ C_W I ∧ C_W I ≤ 256 ∧ 2 ^ I ≤ 64 * C_W I := by
  obtain ⟨⟨hW, _⟩, _⟩ := h
  have w2 := hW.2.1
  have hw := C_W_le w2
  refine ⟨hW, hw.1, hw.2, ?_⟩
  unfold C_W
  split
  · have : 2 ^ I ≤ 2 ^ 6 := Nat.pow_le_pow_right (by decide) (by omega)
    omega
  · have : 2 ^ I = 2 ^ (I - 6) * 2 ^ 6 := nat_pw (by omega)
    omega
/-- int arguments -/
def mj_i (x : Int) : Prop := -2147483648 ≤ x ∧ x < 2147483648
theorem ct_T_value (h : isTw sh FR n b1 b2 b3) {x lit v : Int} {c b m I O G : Nat} {od ld : List Nat} (hx : tw_c b1 b2 x c b) (hS : cS IA LA c b m I O G od ld) (il : mj_i lit) (iv : mj_i v) :
    mj_Ct m_T_value [.inr (.inr (.inl 0)), .inl x, .inl lit, .inl v] sh FR IA LA n (mj_po (fun o J => J = IA ∧ ((tw_sd IA b lit ∧ (0 ≤ v ∧ v < ((2 ^ I : Nat) : Int)) ∧ o = .inl (some (.inl (if C_bt LA c (wr_sl IA b lit) lit v.toNat = true then 1 else 0)))) ∨ (¬ (tw_sd IA b lit ∧ (0 ≤ v ∧ v < ((2 ^ I : Nat) : Int))) ∧ o = .inr 0))) sh FR LA n) := by
  obtain ⟨hC, hN, _, _⟩ := h.c hx
  obtain ⟨hW, W1, W2, W3⟩ := hS.W
  have hp := pw_14 hW.2.1
  obtain ⟨i1, i2⟩ := il
  obtain ⟨j1, j2⟩ := iv
  refine mj_Ct_of (by decide +kernel) (by decide) (Nat.le_of_ble_eq_true rfl) ?_
  refine mj_go z_T_value [] 60 ?_
  refine And.intro h.1 (And.intro (Nat.le_of_ble_eq_true rfl) (And.intro (Nat.le_of_ble_eq_true rfl) (And.intro (Nat.le_of_ble_eq_true rfl) (Exists.intro _ (And.intro (ct_T_named h hx) ?_)))))
  rintro r9 sh9 FR9 IA9 LA9 n9 ⟨z0, z1, z2, z3, z4, z5⟩
  subst z0
  replace z1 := z1.symm
  subst z1
  replace z2 := z2.symm
  subst z2
  replace z3 := z3.symm
  subst z3
  replace z4 := z4.symm
  subst z4
  replace z5 := z5.symm
  subst z5
  refine And.intro (Or.inl rfl) ?_
  by_cases hs : tw_sd IA b lit
  · obtain ⟨s1, s2, s3, s4⟩ := hs.st hW
    refine And.intro trivial (And.intro (Nat.le_of_ble_eq_true rfl) (And.intro (Nat.le_of_ble_eq_true rfl) (And.intro (Nat.le_of_ble_eq_true rfl) (Exists.intro _ (And.intro (ct_T_standing hC hN hW i1 i2 hs) ?_)))))
    rintro r9 sh9 FR9 IA9 LA9 n9 ⟨z0, z1, z2, z3, z4, z5⟩
    subst z0
    replace z1 := z1.symm
    subst z1
    replace z2 := z2.symm
    subst z2
    replace z3 := z3.symm
    subst z3
    replace z4 := z4.symm
    subst z4
    replace z5 := z5.symm
    subst z5
    refine And.intro (Or.inl rfl) ?_
    by_cases hv : 0 ≤ v ∧ v < ((2 ^ I : Nat) : Int)
    · refine And.intro trivial (And.intro (Nat.le_of_ble_eq_true rfl) (And.intro (Nat.le_of_ble_eq_true rfl) (And.intro (Nat.le_of_ble_eq_true rfl) (Exists.intro _ (And.intro (ct_T_vector hC hN hW j1 j2 hv) ?_)))))
      rintro r9 sh9 FR9 IA9 LA9 n9 ⟨z0, z1, z2, z3, z4, z5⟩
      subst z0
      replace z1 := z1.symm
      subst z1
      replace z2 := z2.symm
      subst z2
      replace z3 := z3.symm
      subst z3
      replace z4 := z4.symm
      subst z4
      replace z5 := z5.symm
      subst z5
      refine And.intro (Or.inl rfl) ?_
      have e : v = ((v.toNat : Nat) : Int) := by omega
      rw [e]
      have hv2 : v.toNat < 16384 := by omega
      refine And.intro hC.1 (And.intro (Nat.le_of_ble_eq_true rfl) (And.intro (Nat.le_of_ble_eq_true rfl) (And.intro (Nat.le_of_ble_eq_true rfl) (Exists.intro _ (And.intro (ct_C_bitAt hC hN s1 s2 s3 s4 hv2) ?_)))))
      rintro r9 sh9 FR9 IA9 LA9 n9 ⟨z0, z1, z2, z3, z4, z5⟩
      subst z0
      replace z1 := z1.symm
      subst z1
      replace z2 := z2.symm
      subst z2
      replace z3 := z3.symm
      subst z3
      replace z4 := z4.symm
      subst z4
      replace z5 := z5.symm
      subst z5
      refine And.intro (Or.inl rfl) ?_
      refine ⟨⟨rfl, rfl, rfl, rfl, rfl, Or.inl ⟨hs, by rw [← e]; exact hv, ?_⟩⟩, Nat.le_of_ble_eq_true rfl, Nat.le_of_ble_eq_true rfl⟩
      rw [← e]
    · refine And.intro trivial (And.intro (Nat.le_of_ble_eq_true rfl) (And.intro (Nat.le_of_ble_eq_true rfl) (And.intro (Nat.le_of_ble_eq_true rfl) (Exists.intro _ (And.intro (ct_T_vectorX hC hN hW j1 j2 hv) ?_)))))
      rintro r9 sh9 FR9 IA9 LA9 n9 ⟨z0, z1, z2, z3, z4, z5⟩
      subst z0
      replace z1 := z1.symm
      subst z1
      replace z2 := z2.symm
      subst z2
      replace z3 := z3.symm
      subst z3
      replace z4 := z4.symm
      subst z4
      replace z5 := z5.symm
      subst z5
      exact ⟨rfl, rfl, rfl, rfl, rfl, Or.inr ⟨fun z => hv z.2, rfl⟩⟩
  · refine And.intro trivial (And.intro (Nat.le_of_ble_eq_true rfl) (And.intro (Nat.le_of_ble_eq_true rfl) (And.intro (Nat.le_of_ble_eq_true rfl) (Exists.intro _ (And.intro (ct_T_standingX hC hN hW i1 i2 hs) ?_)))))
    rintro r9 sh9 FR9 IA9 LA9 n9 ⟨z0, z1, z2, z3, z4, z5⟩
    subst z0
    replace z1 := z1.symm
    subst z1
    replace z2 := z2.symm
    subst z2
    replace z3 := z3.symm
    subst z3
    replace z4 := z4.symm
    subst z4
    replace z5 := z5.symm
    subst z5
    exact ⟨rfl, rfl, rfl, rfl, rfl, Or.inr ⟨fun z => hs z.1, rfl⟩⟩
theorem ct_T_least (h : isTw sh FR n b1 b2 b3) {x lit v : Int} {c b m I O G : Nat} {od ld : List Nat} (hx : tw_c b1 b2 x c b) (hS : cS IA LA c b m I O G od ld) (il : mj_i lit) (iv : mj_i v) :
    mj_Ct m_T_least [.inr (.inr (.inl 0)), .inl x, .inl lit, .inl v] sh FR IA LA n (mj_po (fun o J => J = IA ∧ ((tw_sd IA b lit ∧ (0 ≤ v ∧ v < ((2 ^ I : Nat) : Int)) ∧ ∃ z, o = .inl (some (.inl z)) ∧ C_fst (C_bt LA c (wr_sl IA b lit) lit) v.toNat (64 * C_W I) z) ∨ (¬ (tw_sd IA b lit ∧ (0 ≤ v ∧ v < ((2 ^ I : Nat) : Int))) ∧ o = .inr 0))) sh FR LA n) := by
  obtain ⟨hC, hN, _, _⟩ := h.c hx
  obtain ⟨hW, W1, W2, W3⟩ := hS.W
  have hp := pw_14 hW.2.1
  obtain ⟨i1, i2⟩ := il
  obtain ⟨j1, j2⟩ := iv
  refine mj_Ct_of (by decide +kernel) (by decide) (Nat.le_of_ble_eq_true rfl) ?_
  refine mj_go z_T_least [] 60 ?_
  refine And.intro h.1 (And.intro (Nat.le_of_ble_eq_true rfl) (And.intro (Nat.le_of_ble_eq_true rfl) (And.intro (Nat.le_of_ble_eq_true rfl) (Exists.intro _ (And.intro (ct_T_named h hx) ?_)))))
  rintro r9 sh9 FR9 IA9 LA9 n9 ⟨z0, z1, z2, z3, z4, z5⟩
  subst z0
  replace z1 := z1.symm
  subst z1
  replace z2 := z2.symm
  subst z2
  replace z3 := z3.symm
  subst z3
  replace z4 := z4.symm
  subst z4
  replace z5 := z5.symm
  subst z5
  refine And.intro (Or.inl rfl) ?_
  by_cases hs : tw_sd IA b lit
  · obtain ⟨s1, s2, s3, s4⟩ := hs.st hW
    refine And.intro trivial (And.intro (Nat.le_of_ble_eq_true rfl) (And.intro (Nat.le_of_ble_eq_true rfl) (And.intro (Nat.le_of_ble_eq_true rfl) (Exists.intro _ (And.intro (ct_T_standing hC hN hW i1 i2 hs) ?_)))))
    rintro r9 sh9 FR9 IA9 LA9 n9 ⟨z0, z1, z2, z3, z4, z5⟩
    subst z0
    replace z1 := z1.symm
    subst z1
    replace z2 := z2.symm
    subst z2
    replace z3 := z3.symm
    subst z3
    replace z4 := z4.symm
    subst z4
    replace z5 := z5.symm
    subst z5
    refine And.intro (Or.inl rfl) ?_
    by_cases hv : 0 ≤ v ∧ v < ((2 ^ I : Nat) : Int)
    · refine And.intro trivial (And.intro (Nat.le_of_ble_eq_true rfl) (And.intro (Nat.le_of_ble_eq_true rfl) (And.intro (Nat.le_of_ble_eq_true rfl) (Exists.intro _ (And.intro (ct_T_vector hC hN hW j1 j2 hv) ?_)))))
      rintro r9 sh9 FR9 IA9 LA9 n9 ⟨z0, z1, z2, z3, z4, z5⟩
      subst z0
      replace z1 := z1.symm
      subst z1
      replace z2 := z2.symm
      subst z2
      replace z3 := z3.symm
      subst z3
      replace z4 := z4.symm
      subst z4
      replace z5 := z5.symm
      subst z5
      refine And.intro (Or.inl rfl) ?_
      have e : v = ((v.toNat : Nat) : Int) := by omega
      have hv2 : v.toNat < 64 * C_W I := by omega
      have hct := ct_C_firstOne (LA := LA) (v := v.toNat) hC hN s1 s2 s3 s4 hS.2.1 W2 hv2
      rw [← e] at hct
      refine And.intro hC.1 (And.intro (Nat.le_of_ble_eq_true rfl) (And.intro (Nat.le_of_ble_eq_true rfl) (And.intro (Nat.le_of_ble_eq_true rfl) (Exists.intro _ (And.intro (hct) ?_)))))
      rintro o1 sh9 FR9 J1 LA9 n9 ⟨z1, z2, z3, z4, hp1⟩
      replace z1 := z1.symm
      subst z1
      replace z2 := z2.symm
      subst z2
      replace z3 := z3.symm
      subst z3
      replace z4 := z4.symm
      subst z4
      obtain ⟨q1, z, q2, q3⟩ := hp1
      subst q2
      refine And.intro (Or.inl rfl) ?_
      exact ⟨⟨rfl, rfl, rfl, rfl, q1, Or.inl ⟨hs, hv, z, rfl, q3⟩⟩, Nat.le_of_ble_eq_true rfl, Nat.le_of_ble_eq_true rfl⟩
    · refine And.intro trivial (And.intro (Nat.le_of_ble_eq_true rfl) (And.intro (Nat.le_of_ble_eq_true rfl) (And.intro (Nat.le_of_ble_eq_true rfl) (Exists.intro _ (And.intro (ct_T_vectorX hC hN hW j1 j2 hv) ?_)))))
      rintro r9 sh9 FR9 IA9 LA9 n9 ⟨z0, z1, z2, z3, z4, z5⟩
      subst z0
      replace z1 := z1.symm
      subst z1
      replace z2 := z2.symm
      subst z2
      replace z3 := z3.symm
      subst z3
      replace z4 := z4.symm
      subst z4
      replace z5 := z5.symm
      subst z5
      exact ⟨rfl, rfl, rfl, rfl, rfl, Or.inr ⟨fun z => hv z.2, rfl⟩⟩
  · refine And.intro trivial (And.intro (Nat.le_of_ble_eq_true rfl) (And.intro (Nat.le_of_ble_eq_true rfl) (And.intro (Nat.le_of_ble_eq_true rfl) (Exists.intro _ (And.intro (ct_T_standingX hC hN hW i1 i2 hs) ?_)))))
    rintro r9 sh9 FR9 IA9 LA9 n9 ⟨z0, z1, z2, z3, z4, z5⟩
    subst z0
    replace z1 := z1.symm
    subst z1
    replace z2 := z2.symm
    subst z2
    replace z3 := z3.symm
    subst z3
    replace z4 := z4.symm
    subst z4
    replace z5 := z5.symm
    subst z5
    exact ⟨rfl, rfl, rfl, rfl, rfl, Or.inr ⟨fun z => hs z.1, rfl⟩⟩
theorem ct_T_greatest (h : isTw sh FR n b1 b2 b3) {x lit : Int} {c b m I O G : Nat} {od ld : List Nat} (hx : tw_c b1 b2 x c b) (hS : cS IA LA c b m I O G od ld) (il : mj_i lit) :
    mj_Ct m_T_greatest [.inr (.inr (.inl 0)), .inl x, .inl lit] sh FR IA LA n (mj_po (fun o J => J = IA ∧ ((tw_sd IA b lit ∧ ∃ z, o = .inl (some (.inl z)) ∧ C_lst (C_bt LA c (wr_sl IA b lit) lit) (64 * C_W I) z) ∨ (¬ tw_sd IA b lit ∧ o = .inr 0))) sh FR LA n) := by
  obtain ⟨hC, hN, _, _⟩ := h.c hx
  obtain ⟨hW, W1, W2, W3⟩ := hS.W
  obtain ⟨i1, i2⟩ := il
  refine mj_Ct_of (by decide +kernel) (by decide) (Nat.le_of_ble_eq_true rfl) ?_
  refine mj_go z_T_greatest [] 60 ?_
  refine And.intro h.1 (And.intro (Nat.le_of_ble_eq_true rfl) (And.intro (Nat.le_of_ble_eq_true rfl) (And.intro (Nat.le_of_ble_eq_true rfl) (Exists.intro _ (And.intro (ct_T_named h hx) ?_)))))
  rintro r9 sh9 FR9 IA9 LA9 n9 ⟨z0, z1, z2, z3, z4, z5⟩
  subst z0
  replace z1 := z1.symm
  subst z1
  replace z2 := z2.symm
  subst z2
  replace z3 := z3.symm
  subst z3
  replace z4 := z4.symm
  subst z4
  replace z5 := z5.symm
  subst z5
  refine And.intro (Or.inl rfl) ?_
  by_cases hs : tw_sd IA b lit
  · obtain ⟨s1, s2, s3, s4⟩ := hs.st hW
    refine And.intro trivial (And.intro (Nat.le_of_ble_eq_true rfl) (And.intro (Nat.le_of_ble_eq_true rfl) (And.intro (Nat.le_of_ble_eq_true rfl) (Exists.intro _ (And.intro (ct_T_standing hC hN hW i1 i2 hs) ?_)))))
    rintro r9 sh9 FR9 IA9 LA9 n9 ⟨z0, z1, z2, z3, z4, z5⟩
    subst z0
    replace z1 := z1.symm
    subst z1
    replace z2 := z2.symm
    subst z2
    replace z3 := z3.symm
    subst z3
    replace z4 := z4.symm
    subst z4
    replace z5 := z5.symm
    subst z5
    refine And.intro (Or.inl rfl) ?_
    refine And.intro hC.1 (And.intro (Nat.le_of_ble_eq_true rfl) (And.intro (Nat.le_of_ble_eq_true rfl) (And.intro (Nat.le_of_ble_eq_true rfl) (Exists.intro _ (And.intro (ct_C_lastOne (LA := LA) hC hN s1 s2 s3 s4 hS.2.1 W2) ?_)))))
    rintro o1 sh9 FR9 J1 LA9 n9 ⟨z1, z2, z3, z4, hp1⟩
    replace z1 := z1.symm
    subst z1
    replace z2 := z2.symm
    subst z2
    replace z3 := z3.symm
    subst z3
    replace z4 := z4.symm
    subst z4
    obtain ⟨q1, z, q2, q3⟩ := hp1
    subst q2
    refine And.intro (Or.inl rfl) ?_
    exact ⟨⟨rfl, rfl, rfl, rfl, q1, Or.inl ⟨hs, z, rfl, q3⟩⟩, Nat.le_of_ble_eq_true rfl, Nat.le_of_ble_eq_true rfl⟩
  · refine And.intro trivial (And.intro (Nat.le_of_ble_eq_true rfl) (And.intro (Nat.le_of_ble_eq_true rfl) (And.intro (Nat.le_of_ble_eq_true rfl) (Exists.intro _ (And.intro (ct_T_standingX hC hN hW i1 i2 hs) ?_)))))
    rintro r9 sh9 FR9 IA9 LA9 n9 ⟨z0, z1, z2, z3, z4, z5⟩
    subst z0
    replace z1 := z1.symm
    subst z1
    replace z2 := z2.symm
    subst z2
    replace z3 := z3.symm
    subst z3
    replace z4 := z4.symm
    subst z4
    replace z5 := z5.symm
    subst z5
    exact ⟨rfl, rfl, rfl, rfl, rfl, Or.inr ⟨hs, rfl⟩⟩
theorem ct_T_implies (h : isTw sh FR n b1 b2 b3) {x lit lit2 : Int} {c b m I O G : Nat} {od ld : List Nat} (hx : tw_c b1 b2 x c b) (hS : cS IA LA c b m I O G od ld) (il : mj_i lit) (ik : mj_i lit2) :
    mj_Ct m_T_implies [.inr (.inr (.inl 0)), .inl x, .inl lit, .inl lit2] sh FR IA LA n (mj_po (fun o J => J = IA ∧ ((tw_sd IA b lit ∧ tw_sd IA b lit2 ∧ ((o = .inl (some (.inl 1)) ∧ ∀ w, w < C_W I → C_lw LA c (wr_sl IA b lit) lit w &&& C_lw LA c (wr_sl IA b lit2) (lit2 + 1) w = 0#64) ∨ (o = .inl (some (.inl 0)) ∧ ¬ ∀ w, w < C_W I → C_lw LA c (wr_sl IA b lit) lit w &&& C_lw LA c (wr_sl IA b lit2) (lit2 + 1) w = 0#64))) ∨ (¬ (tw_sd IA b lit ∧ tw_sd IA b lit2) ∧ o = .inr 0))) sh FR LA n) := by
  obtain ⟨hC, hN, _, _⟩ := h.c hx
  obtain ⟨hW, W1, W2, W3⟩ := hS.W
  obtain ⟨i1, i2⟩ := il
  obtain ⟨j1, j2⟩ := ik
  refine mj_Ct_of (by decide +kernel) (by decide) (Nat.le_of_ble_eq_true rfl) ?_
  refine mj_go z_T_implies [] 60 ?_
  refine And.intro h.1 (And.intro (Nat.le_of_ble_eq_true rfl) (And.intro (Nat.le_of_ble_eq_true rfl) (And.intro (Nat.le_of_ble_eq_true rfl) (Exists.intro _ (And.intro (ct_T_named h hx) ?_)))))
  rintro r9 sh9 FR9 IA9 LA9 n9 ⟨z0, z1, z2, z3, z4, z5⟩
  subst z0
  replace z1 := z1.symm
  subst z1
  replace z2 := z2.symm
  subst z2
  replace z3 := z3.symm
  subst z3
  replace z4 := z4.symm
  subst z4
  replace z5 := z5.symm
  subst z5
  refine And.intro (Or.inl rfl) ?_
  by_cases hs : tw_sd IA b lit
  · obtain ⟨s1, s2, s3, s4⟩ := hs.st hW
    refine And.intro trivial (And.intro (Nat.le_of_ble_eq_true rfl) (And.intro (Nat.le_of_ble_eq_true rfl) (And.intro (Nat.le_of_ble_eq_true rfl) (Exists.intro _ (And.intro (ct_T_standing hC hN hW i1 i2 hs) ?_)))))
    rintro r9 sh9 FR9 IA9 LA9 n9 ⟨z0, z1, z2, z3, z4, z5⟩
    subst z0
    replace z1 := z1.symm
    subst z1
    replace z2 := z2.symm
    subst z2
    replace z3 := z3.symm
    subst z3
    replace z4 := z4.symm
    subst z4
    replace z5 := z5.symm
    subst z5
    refine And.intro (Or.inl rfl) ?_
    by_cases hv : tw_sd IA b lit2
    · obtain ⟨k1, k2, k3, k4⟩ := hv.st hW
      refine And.intro trivial (And.intro (Nat.le_of_ble_eq_true rfl) (And.intro (Nat.le_of_ble_eq_true rfl) (And.intro (Nat.le_of_ble_eq_true rfl) (Exists.intro _ (And.intro (ct_T_standing hC hN hW j1 j2 hv) ?_)))))
      rintro r9 sh9 FR9 IA9 LA9 n9 ⟨z0, z1, z2, z3, z4, z5⟩
      subst z0
      replace z1 := z1.symm
      subst z1
      replace z2 := z2.symm
      subst z2
      replace z3 := z3.symm
      subst z3
      replace z4 := z4.symm
      subst z4
      replace z5 := z5.symm
      subst z5
      refine And.intro (Or.inl rfl) ?_
      refine And.intro hC.1 (And.intro (Nat.le_of_ble_eq_true rfl) (And.intro (Nat.le_of_ble_eq_true rfl) (And.intro (Nat.le_of_ble_eq_true rfl) (Exists.intro _ (And.intro (ct_C_isWithin (LA := LA) hC hN s1 s2 s3 s4 k1 k2 k3 k4 hS.2.1 W2) ?_)))))
      rintro o1 sh9 FR9 J1 LA9 n9 ⟨z1, z2, z3, z4, hp1⟩
      replace z1 := z1.symm
      subst z1
      replace z2 := z2.symm
      subst z2
      replace z3 := z3.symm
      subst z3
      replace z4 := z4.symm
      subst z4
      obtain ⟨q1, q2⟩ := hp1
      rcases q2 with ⟨q2, q3⟩ | ⟨q2, q3⟩
      · subst q2
        refine And.intro (Or.inl rfl) ?_
        exact ⟨Or.inr rfl, ⟨rfl, rfl, rfl, rfl, q1, Or.inl ⟨hs, hv, Or.inl ⟨rfl, q3⟩⟩⟩, Nat.le_of_ble_eq_true rfl, Nat.le_of_ble_eq_true rfl⟩
      · subst q2
        refine And.intro (Or.inl rfl) ?_
        exact ⟨Or.inl rfl, ⟨rfl, rfl, rfl, rfl, q1, Or.inl ⟨hs, hv, Or.inr ⟨rfl, q3⟩⟩⟩, Nat.le_of_ble_eq_true rfl, Nat.le_of_ble_eq_true rfl⟩
    · refine And.intro trivial (And.intro (Nat.le_of_ble_eq_true rfl) (And.intro (Nat.le_of_ble_eq_true rfl) (And.intro (Nat.le_of_ble_eq_true rfl) (Exists.intro _ (And.intro (ct_T_standingX hC hN hW j1 j2 hv) ?_)))))
      rintro r9 sh9 FR9 IA9 LA9 n9 ⟨z0, z1, z2, z3, z4, z5⟩
      subst z0
      replace z1 := z1.symm
      subst z1
      replace z2 := z2.symm
      subst z2
      replace z3 := z3.symm
      subst z3
      replace z4 := z4.symm
      subst z4
      replace z5 := z5.symm
      subst z5
      exact ⟨rfl, rfl, rfl, rfl, rfl, Or.inr ⟨fun z => hv z.2, rfl⟩⟩
  · refine And.intro trivial (And.intro (Nat.le_of_ble_eq_true rfl) (And.intro (Nat.le_of_ble_eq_true rfl) (And.intro (Nat.le_of_ble_eq_true rfl) (Exists.intro _ (And.intro (ct_T_standingX hC hN hW i1 i2 hs) ?_)))))
    rintro r9 sh9 FR9 IA9 LA9 n9 ⟨z0, z1, z2, z3, z4, z5⟩
    subst z0
    replace z1 := z1.symm
    subst z1
    replace z2 := z2.symm
    subst z2
    replace z3 := z3.symm
    subst z3
    replace z4 := z4.symm
    subst z4
    replace z5 := z5.symm
    subst z5
    exact ⟨rfl, rfl, rfl, rfl, rfl, Or.inr ⟨fun z => hs z.1, rfl⟩⟩
/-- depends and rises: the answer by the way that the function moves -/
def tw_mv (IA : mj_FI) (LA : mj_LA) (c b I : Nat) (lit k : Int) (f : Int → Int) (o : mj_O) : Prop := (tw_sd IA b lit ∧ (0 ≤ k ∧ k < (I : Int)) ∧ ∃ z, C_mv LA c (wr_sl IA b lit) k.toNat (if lit % 2 = 0 then 0#64 else LA c 9) (C_W I) z ∧ o = .inl (some (.inl (f z)))) ∨ (¬ tw_sd IA b lit ∧ o = .inr 0) ∨ (tw_sd IA b lit ∧ ¬ (0 ≤ k ∧ k < (I : Int)) ∧ o = .inr 2)
theorem C_mv_in {c s k W : Nat} {fl : BitVec 64} {z : Int} (h : C_mv LA c s k fl W z) : z = 0 ∨ z = 1 ∨ z = 2 ∨ z = 3 := by
  obtain ⟨a, d, h1, h2, h3⟩ := h
  rcases h2 with ⟨e, _⟩ | ⟨e, _⟩ <;> rcases h3 with ⟨e2, _⟩ | ⟨e2, _⟩ <;> omega
theorem ct_T_depends (h : isTw sh FR n b1 b2 b3) {x lit k : Int} {c b m I O G : Nat} {od ld : List Nat} (hx : tw_c b1 b2 x c b) (hS : cS IA LA c b m I O G od ld) (il : mj_i lit) (ik : mj_i k) :
    mj_Ct m_T_depends [.inr (.inr (.inl 0)), .inl x, .inl lit, .inl k] sh FR IA LA n (mj_po (fun o J => J = IA ∧ tw_mv IA LA c b I lit k (fun z => if z = 0 then 0 else 1) o) sh FR LA n) := by
  obtain ⟨hC, hN, _, _⟩ := h.c hx
  obtain ⟨hW, W1, W2, W3⟩ := hS.W
  have h14 := hW.2.1
  obtain ⟨i1, i2⟩ := il
  obtain ⟨j1, j2⟩ := ik
  refine mj_Ct_of (by decide +kernel) (by decide) (Nat.le_of_ble_eq_true rfl) ?_
  refine mj_go z_T_depends [] 60 ?_
  refine And.intro h.1 (And.intro (Nat.le_of_ble_eq_true rfl) (And.intro (Nat.le_of_ble_eq_true rfl) (And.intro (Nat.le_of_ble_eq_true rfl) (Exists.intro _ (And.intro (ct_T_named h hx) ?_)))))
  rintro r9 sh9 FR9 IA9 LA9 n9 ⟨z0, z1, z2, z3, z4, z5⟩
  subst z0
  replace z1 := z1.symm
  subst z1
  replace z2 := z2.symm
  subst z2
  replace z3 := z3.symm
  subst z3
  replace z4 := z4.symm
  subst z4
  replace z5 := z5.symm
  subst z5
  refine And.intro (Or.inl rfl) ?_
  by_cases hs : tw_sd IA b lit
  · obtain ⟨s1, s2, s3, s4⟩ := hs.st hW
    refine And.intro trivial (And.intro (Nat.le_of_ble_eq_true rfl) (And.intro (Nat.le_of_ble_eq_true rfl) (And.intro (Nat.le_of_ble_eq_true rfl) (Exists.intro _ (And.intro (ct_T_standing hC hN hW i1 i2 hs) ?_)))))
    rintro r9 sh9 FR9 IA9 LA9 n9 ⟨z0, z1, z2, z3, z4, z5⟩
    subst z0
    replace z1 := z1.symm
    subst z1
    replace z2 := z2.symm
    subst z2
    replace z3 := z3.symm
    subst z3
    replace z4 := z4.symm
    subst z4
    replace z5 := z5.symm
    subst z5
    refine And.intro (Or.inl rfl) ?_
    by_cases hv : 0 ≤ k ∧ k < (I : Int)
    · refine And.intro trivial (And.intro (Nat.le_of_ble_eq_true rfl) (And.intro (Nat.le_of_ble_eq_true rfl) (And.intro (Nat.le_of_ble_eq_true rfl) (Exists.intro _ (And.intro (ct_T_input hC hN hW j1 j2 hv) ?_)))))
      rintro r9 sh9 FR9 IA9 LA9 n9 ⟨z0, z1, z2, z3, z4, z5⟩
      subst z0
      replace z1 := z1.symm
      subst z1
      replace z2 := z2.symm
      subst z2
      replace z3 := z3.symm
      subst z3
      replace z4 := z4.symm
      subst z4
      replace z5 := z5.symm
      subst z5
      refine And.intro (Or.inl rfl) ?_
      have e : k = ((k.toNat : Nat) : Int) := by omega
      have hct := ct_C_movesOf (LA := LA) (k := k.toNat) hC hN s1 s2 s3 s4 (by omega) hS.2.1 W2
      rw [← e] at hct
      refine And.intro hC.1 (And.intro (Nat.le_of_ble_eq_true rfl) (And.intro (Nat.le_of_ble_eq_true rfl) (And.intro (Nat.le_of_ble_eq_true rfl) (Exists.intro _ (And.intro (hct) ?_)))))
      rintro o1 sh9 FR9 J1 LA9 n9 ⟨z1, z2, z3, z4, hp1⟩
      replace z1 := z1.symm
      subst z1
      replace z2 := z2.symm
      subst z2
      replace z3 := z3.symm
      subst z3
      replace z4 := z4.symm
      subst z4
      obtain ⟨q1, z, q2, q3⟩ := hp1
      subst q2
      have hz := C_mv_in q3
      refine And.intro (Or.inl rfl) ?_
      refine And.intro (fun d => ?_) (fun d => ?_)
      · simp (disch := (clear d; omega)) only [mj_w_id] at d
        exact ⟨Or.inl rfl, ⟨rfl, rfl, rfl, rfl, q1, Or.inl ⟨hs, hv, z, q3, by dsimp only; rw [if_pos d]⟩⟩, Nat.le_of_ble_eq_true rfl, Nat.le_of_ble_eq_true rfl⟩
      · simp (disch := (clear d; omega)) only [mj_w_id] at d
        exact ⟨Or.inr rfl, ⟨rfl, rfl, rfl, rfl, q1, Or.inl ⟨hs, hv, z, q3, by dsimp only; rw [if_neg d]⟩⟩, Nat.le_of_ble_eq_true rfl, Nat.le_of_ble_eq_true rfl⟩
    · refine And.intro trivial (And.intro (Nat.le_of_ble_eq_true rfl) (And.intro (Nat.le_of_ble_eq_true rfl) (And.intro (Nat.le_of_ble_eq_true rfl) (Exists.intro _ (And.intro (ct_T_inputX hC hN hW j1 j2 hv) ?_)))))
      rintro r9 sh9 FR9 IA9 LA9 n9 ⟨z0, z1, z2, z3, z4, z5⟩
      subst z0
      replace z1 := z1.symm
      subst z1
      replace z2 := z2.symm
      subst z2
      replace z3 := z3.symm
      subst z3
      replace z4 := z4.symm
      subst z4
      replace z5 := z5.symm
      subst z5
      exact ⟨rfl, rfl, rfl, rfl, rfl, Or.inr (Or.inr ⟨hs, hv, rfl⟩)⟩
  · refine And.intro trivial (And.intro (Nat.le_of_ble_eq_true rfl) (And.intro (Nat.le_of_ble_eq_true rfl) (And.intro (Nat.le_of_ble_eq_true rfl) (Exists.intro _ (And.intro (ct_T_standingX hC hN hW i1 i2 hs) ?_)))))
    rintro r9 sh9 FR9 IA9 LA9 n9 ⟨z0, z1, z2, z3, z4, z5⟩
    subst z0
    replace z1 := z1.symm
    subst z1
    replace z2 := z2.symm
    subst z2
    replace z3 := z3.symm
    subst z3
    replace z4 := z4.symm
    subst z4
    replace z5 := z5.symm
    subst z5
    exact ⟨rfl, rfl, rfl, rfl, rfl, Or.inr (Or.inl ⟨hs, rfl⟩)⟩
theorem ct_T_rises (h : isTw sh FR n b1 b2 b3) {x lit k : Int} {c b m I O G : Nat} {od ld : List Nat} (hx : tw_c b1 b2 x c b) (hS : cS IA LA c b m I O G od ld) (il : mj_i lit) (ik : mj_i k) :
    mj_Ct m_T_rises [.inr (.inr (.inl 0)), .inl x, .inl lit, .inl k] sh FR IA LA n (mj_po (fun o J => J = IA ∧ tw_mv IA LA c b I lit k (fun z => if z = 0 then 2 else if z = 1 then 1 else if z = 2 then -1 else 0) o) sh FR LA n) := by
  obtain ⟨hC, hN, _, _⟩ := h.c hx
  obtain ⟨hW, W1, W2, W3⟩ := hS.W
  have h14 := hW.2.1
  obtain ⟨i1, i2⟩ := il
  obtain ⟨j1, j2⟩ := ik
  refine mj_Ct_of (by decide +kernel) (by decide) (Nat.le_of_ble_eq_true rfl) ?_
  refine mj_go z_T_rises [] 60 ?_
  refine And.intro h.1 (And.intro (Nat.le_of_ble_eq_true rfl) (And.intro (Nat.le_of_ble_eq_true rfl) (And.intro (Nat.le_of_ble_eq_true rfl) (Exists.intro _ (And.intro (ct_T_named h hx) ?_)))))
  rintro r9 sh9 FR9 IA9 LA9 n9 ⟨z0, z1, z2, z3, z4, z5⟩
  subst z0
  replace z1 := z1.symm
  subst z1
  replace z2 := z2.symm
  subst z2
  replace z3 := z3.symm
  subst z3
  replace z4 := z4.symm
  subst z4
  replace z5 := z5.symm
  subst z5
  refine And.intro (Or.inl rfl) ?_
  by_cases hs : tw_sd IA b lit
  · obtain ⟨s1, s2, s3, s4⟩ := hs.st hW
    refine And.intro trivial (And.intro (Nat.le_of_ble_eq_true rfl) (And.intro (Nat.le_of_ble_eq_true rfl) (And.intro (Nat.le_of_ble_eq_true rfl) (Exists.intro _ (And.intro (ct_T_standing hC hN hW i1 i2 hs) ?_)))))
    rintro r9 sh9 FR9 IA9 LA9 n9 ⟨z0, z1, z2, z3, z4, z5⟩
    subst z0
    replace z1 := z1.symm
    subst z1
    replace z2 := z2.symm
    subst z2
    replace z3 := z3.symm
    subst z3
    replace z4 := z4.symm
    subst z4
    replace z5 := z5.symm
    subst z5
    refine And.intro (Or.inl rfl) ?_
    by_cases hv : 0 ≤ k ∧ k < (I : Int)
    · refine And.intro trivial (And.intro (Nat.le_of_ble_eq_true rfl) (And.intro (Nat.le_of_ble_eq_true rfl) (And.intro (Nat.le_of_ble_eq_true rfl) (Exists.intro _ (And.intro (ct_T_input hC hN hW j1 j2 hv) ?_)))))
      rintro r9 sh9 FR9 IA9 LA9 n9 ⟨z0, z1, z2, z3, z4, z5⟩
      subst z0
      replace z1 := z1.symm
      subst z1
      replace z2 := z2.symm
      subst z2
      replace z3 := z3.symm
      subst z3
      replace z4 := z4.symm
      subst z4
      replace z5 := z5.symm
      subst z5
      refine And.intro (Or.inl rfl) ?_
      have e : k = ((k.toNat : Nat) : Int) := by omega
      have hct := ct_C_movesOf (LA := LA) (k := k.toNat) hC hN s1 s2 s3 s4 (by omega) hS.2.1 W2
      rw [← e] at hct
      refine And.intro hC.1 (And.intro (Nat.le_of_ble_eq_true rfl) (And.intro (Nat.le_of_ble_eq_true rfl) (And.intro (Nat.le_of_ble_eq_true rfl) (Exists.intro _ (And.intro (hct) ?_)))))
      rintro o1 sh9 FR9 J1 LA9 n9 ⟨z1, z2, z3, z4, hp1⟩
      replace z1 := z1.symm
      subst z1
      replace z2 := z2.symm
      subst z2
      replace z3 := z3.symm
      subst z3
      replace z4 := z4.symm
      subst z4
      obtain ⟨q1, z, q2, q3⟩ := hp1
      subst q2
      have hz := C_mv_in q3
      refine And.intro (Or.inl rfl) ?_
      refine And.intro (fun d => ?_) (fun d => ?_)
      · simp (disch := (clear d; omega)) only [mj_w_id] at d
        refine And.intro (fun e1 => ?_) (fun e1 => ?_)
        · simp (disch := (clear e1; omega)) only [mj_w_id] at e1
          refine And.intro (fun e2 => ?_) (fun e2 => ?_)
          · simp (disch := (clear e2; omega)) only [mj_w_id] at e2
            exact ⟨⟨rfl, rfl, rfl, rfl, q1, Or.inl ⟨hs, hv, z, q3, by dsimp only; rw [if_neg d, if_neg e1, if_neg e2]⟩⟩, Nat.le_of_ble_eq_true rfl, Nat.le_of_ble_eq_true rfl⟩
          · replace e2 := Classical.not_not.mp e2
            simp (disch := (clear e2; omega)) only [mj_w_id] at e2
            exact ⟨⟨rfl, rfl, rfl, rfl, q1, Or.inl ⟨hs, hv, z, q3, by dsimp only; rw [if_neg d, if_neg e1, if_pos e2]⟩⟩, Nat.le_of_ble_eq_true rfl, Nat.le_of_ble_eq_true rfl⟩
        · replace e1 := Classical.not_not.mp e1
          simp (disch := (clear e1; omega)) only [mj_w_id] at e1
          exact ⟨⟨rfl, rfl, rfl, rfl, q1, Or.inl ⟨hs, hv, z, q3, by dsimp only; rw [if_neg d, if_pos e1]⟩⟩, Nat.le_of_ble_eq_true rfl, Nat.le_of_ble_eq_true rfl⟩
      · replace d := Classical.not_not.mp d
        simp (disch := (clear d; omega)) only [mj_w_id] at d
        exact ⟨⟨rfl, rfl, rfl, rfl, q1, Or.inl ⟨hs, hv, z, q3, by dsimp only; rw [if_pos d]⟩⟩, Nat.le_of_ble_eq_true rfl, Nat.le_of_ble_eq_true rfl⟩
    · refine And.intro trivial (And.intro (Nat.le_of_ble_eq_true rfl) (And.intro (Nat.le_of_ble_eq_true rfl) (And.intro (Nat.le_of_ble_eq_true rfl) (Exists.intro _ (And.intro (ct_T_inputX hC hN hW j1 j2 hv) ?_)))))
      rintro r9 sh9 FR9 IA9 LA9 n9 ⟨z0, z1, z2, z3, z4, z5⟩
      subst z0
      replace z1 := z1.symm
      subst z1
      replace z2 := z2.symm
      subst z2
      replace z3 := z3.symm
      subst z3
      replace z4 := z4.symm
      subst z4
      replace z5 := z5.symm
      subst z5
      exact ⟨rfl, rfl, rfl, rfl, rfl, Or.inr (Or.inr ⟨hs, hv, rfl⟩)⟩
  · refine And.intro trivial (And.intro (Nat.le_of_ble_eq_true rfl) (And.intro (Nat.le_of_ble_eq_true rfl) (And.intro (Nat.le_of_ble_eq_true rfl) (Exists.intro _ (And.intro (ct_T_standingX hC hN hW i1 i2 hs) ?_)))))
    rintro r9 sh9 FR9 IA9 LA9 n9 ⟨z0, z1, z2, z3, z4, z5⟩
    subst z0
    replace z1 := z1.symm
    subst z1
    replace z2 := z2.symm
    subst z2
    replace z3 := z3.symm
    subst z3
    replace z4 := z4.symm
    subst z4
    replace z5 := z5.symm
    subst z5
    exact ⟨rfl, rfl, rfl, rfl, rfl, Or.inr (Or.inl ⟨hs, rfl⟩)⟩
end TT
