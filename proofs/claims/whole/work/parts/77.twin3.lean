/-! THE OUTER CLASS: leader, functions, allFunctions, compare, witness, same -/
section TT
variable {sh : mj_Sh} {FR : mj_FR} {IA : mj_FI} {LA : mj_LA} {n b1 b2 b3 : Nat}
/-- slots of a net -/
def nS (I G s : Nat) : Prop := s ≤ I ∨ lf_g I G s
theorem nW.sl {b m I O G : Nat} (hW : nW IA b m I O G) {lit : Int} (h : tw_sd IA b lit) : nS I G (wr_sl IA b lit) := by
  obtain ⟨w1, w2, w3, w4, w5, w6, w7, w8, w9, ⟨v0, v1, v2⟩, w11, w12⟩ := hW
  obtain ⟨⟨h1, h2⟩, h3⟩ := h
  rw [w6] at h2
  unfold nS lf_g wr_sl
  by_cases e : (lit / 2).toNat = 0
  · rw [e, v0]
    left
    exact Nat.zero_le _
  · rcases v1 (lit / 2).toNat (by omega) (by omega) with q | ⟨q1, q2, _, _⟩
    · exact absurd q h3
    · omega
theorem cS.en {c b m I O G : Nat} {od ld : List Nat} (h : cS IA LA c b m I O G od ld) {s : Nat} : s ∈ List.range (I + 1) ++ od ↔ nS I G s := by
  obtain ⟨_, _, od3⟩ := h.1.od
  rw [List.mem_append, List.mem_range, od3]
  exact ⟨fun z => z.imp (fun q => by omega) id, fun z => z.imp (fun q => by omega) id⟩
theorem cS.led {c b m I O G : Nat} {od ld : List Nat} (h : cS IA LA c b m I O G od ld) {s : Nat} (hs : nS I G s) : ∃ t ∈ ld, C_si LA c t c s (C_W I) ∧ IA (c + 12) s = C_lt (IA (b + 2)) LA c t s ∧ nS I G t ∧ 0 ≤ IA (b + 2) t ∧ IA (b + 2) t ≤ 2001 ∧ IA (b + 2) t % 2 = 0 := by
  obtain ⟨v1, v2, v3, v4, v5, v6, v7, v8⟩ := h.2.2.2.2.1
  obtain ⟨t, t1, t2, t3⟩ := v7 s (h.en.mpr hs)
  have t4 := h.en.mp (v4.subset t1)
  have t5 := h.1.own (t := t) (by unfold nS lf_g at t4; omega)
  exact ⟨t, t1, t2, t3, t4, t5⟩
theorem cS.led2 {c b m I O G : Nat} {od ld : List Nat} (h : cS IA LA c b m I O G od ld) {s : Nat} (hs : nS I G s) : 0 ≤ IA (c + 12) s ∧ IA (c + 12) s ≤ 3000 := by
  obtain ⟨t, _, _, t3, _, t4, t5, _⟩ := h.led hs
  rw [t3]
  unfold C_lt
  split <;> omega
theorem ct_T_leader (h : isTw sh FR n b1 b2 b3) {x lit : Int} {c b m I O G : Nat} {od ld : List Nat} (hx : tw_c b1 b2 x c b) (hS : cS IA LA c b m I O G od ld) (il : mj_i lit) :
    mj_Ct m_T_leader [.inr (.inr (.inl 0)), .inl x, .inl lit] sh FR IA LA n (mj_po (fun o J => J = IA ∧ ((tw_sd IA b lit ∧ o = .inl (some (.inl (C_sg (IA (c + 12) (wr_sl IA b lit)) lit)))) ∨ (¬ tw_sd IA b lit ∧ o = .inr 0))) sh FR LA n) := by
  obtain ⟨hC, hN, _, _⟩ := h.c hx
  obtain ⟨hW, W1, W2, W3⟩ := hS.W
  obtain ⟨i1, i2⟩ := il
  refine mj_Ct_of (by decide +kernel) (by decide) (Nat.le_of_ble_eq_true rfl) ?_
  refine mj_go z_T_leader [] 60 ?_
  refine And.intro h.1 (And.intro (Nat.le_of_ble_eq_true rfl) (And.intro (Nat.le_of_ble_eq_true rfl) (And.intro (Nat.le_of_ble_eq_true rfl) (Exists.intro _ (And.intro (ct_T_named h hx) ?_)))))
  rintro r9 sh9 FR9 IA9 LA9 n9 ⟨z0, z1, z2, z3, z4, z5⟩
  subst z0
  replace z1 := z1.symm
  subst z1
  replace z2 := z2.symm
  subst z2
  replace z3 := z3.symm
  subst z3
  replace z4 := z4.symm
  subst z4
  replace z5 := z5.symm
  subst z5
  refine And.intro (Or.inl rfl) ?_
  by_cases hs : tw_sd IA b lit
  · obtain ⟨s1, s2, s3, s4⟩ := hs.st hW
    obtain ⟨l1, l2⟩ := hS.led2 (hW.sl hs)
    refine And.intro trivial (And.intro (Nat.le_of_ble_eq_true rfl) (And.intro (Nat.le_of_ble_eq_true rfl) (And.intro (Nat.le_of_ble_eq_true rfl) (Exists.intro _ (And.intro (ct_T_standing hC hN hW i1 i2 hs) ?_)))))
    rintro r9 sh9 FR9 IA9 LA9 n9 ⟨z0, z1, z2, z3, z4, z5⟩
    subst z0
    replace z1 := z1.symm
    subst z1
    replace z2 := z2.symm
    subst z2
    replace z3 := z3.symm
    subst z3
    replace z4 := z4.symm
    subst z4
    replace z5 := z5.symm
    subst z5
    refine And.intro (Or.inl rfl) ?_
    refine And.intro hC.1 (And.intro (Nat.le_of_ble_eq_true rfl) (And.intro (Nat.le_of_ble_eq_true rfl) (And.intro (Nat.le_of_ble_eq_true rfl) (Exists.intro _ (And.intro (ct_C_leaderOf hC hN s1 s2 s3 s4 l1 l2) ?_)))))
    rintro r9 sh9 FR9 IA9 LA9 n9 ⟨z0, z1, z2, z3, z4, z5⟩
    subst z0
    replace z1 := z1.symm
    subst z1
    replace z2 := z2.symm
    subst z2
    replace z3 := z3.symm
    subst z3
    replace z4 := z4.symm
    subst z4
    replace z5 := z5.symm
    subst z5
    refine And.intro (Or.inl rfl) ?_
    exact ⟨⟨rfl, rfl, rfl, rfl, rfl, Or.inl ⟨hs, rfl⟩⟩, Nat.le_of_ble_eq_true rfl, Nat.le_of_ble_eq_true rfl⟩
  · refine And.intro trivial (And.intro (Nat.le_of_ble_eq_true rfl) (And.intro (Nat.le_of_ble_eq_true rfl) (And.intro (Nat.le_of_ble_eq_true rfl) (Exists.intro _ (And.intro (ct_T_standingX hC hN hW i1 i2 hs) ?_)))))
    rintro r9 sh9 FR9 IA9 LA9 n9 ⟨z0, z1, z2, z3, z4, z5⟩
    subst z0
    replace z1 := z1.symm
    subst z1
    replace z2 := z2.symm
    subst z2
    replace z3 := z3.symm
    subst z3
    replace z4 := z4.symm
    subst z4
    replace z5 := z5.symm
    subst z5
    exact ⟨rfl, rfl, rfl, rfl, rfl, Or.inr ⟨hs, rfl⟩⟩
theorem ct_T_functions (h : isTw sh FR n b1 b2 b3) {x : Int} {c b m I O G : Nat} {od ld : List Nat} (hx : tw_c b1 b2 x c b) (hS : cS IA LA c b m I O G od ld) :
    mj_Ct m_T_functions [.inr (.inr (.inl 0)), .inl x] sh FR IA LA n (mj_pu (.inl (some (.inl (ld.length : Int)))) sh FR IA LA n) := by
  obtain ⟨hC, hN, _, _⟩ := h.c hx
  refine mj_Ct_of (by decide +kernel) (by decide) (Nat.le_of_ble_eq_true rfl) ?_
  refine mj_go z_T_functions [] 60 ?_
  refine And.intro h.1 (And.intro (Nat.le_of_ble_eq_true rfl) (And.intro (Nat.le_of_ble_eq_true rfl) (And.intro (Nat.le_of_ble_eq_true rfl) (Exists.intro _ (And.intro (ct_T_named h hx) ?_)))))
  rintro r9 sh9 FR9 IA9 LA9 n9 ⟨z0, z1, z2, z3, z4, z5⟩
  subst z0
  replace z1 := z1.symm
  subst z1
  replace z2 := z2.symm
  subst z2
  replace z3 := z3.symm
  subst z3
  replace z4 := z4.symm
  subst z4
  replace z5 := z5.symm
  subst z5
  refine And.intro (Or.inl rfl) ?_
  refine And.intro hC.1 ?_
  rw [hS.2.2.2.2.1.2.2.1]
  exact ⟨⟨rfl, rfl, rfl, rfl, rfl, rfl⟩, Nat.le_of_ble_eq_true rfl, Nat.le_of_ble_eq_true rfl⟩
theorem ct_T_allFunctions (h : isTw sh FR n b1 b2 b3) {m1 I1 O1 G1 m2 I2 O2 G2 : Nat} {od1 ld1 od2 ld2 : List Nat} (h1 : cS IA LA 1 b1 m1 I1 O1 G1 od1 ld1) (h2 : cS IA LA 15 b2 m2 I2 O2 G2 od2 ld2) :
    mj_Ct m_T_allFunctions [.inr (.inr (.inl 0))] sh FR IA LA n (mj_po (fun o J => J = IA ∧ ((I1 = I2 ∧ ∃ l : List Nat, o = .inl (some (.inl (((ld1.length + l.length : Nat)) : Int))) ∧ l.Nodup ∧ ∀ t, t ∈ l ↔ C_un LA 15 1 (C_W I1) ld2 ld1 t) ∨ (¬ I1 = I2 ∧ o = .inr 1))) sh FR LA n) := by
  obtain ⟨hW1, W1, W2, W3⟩ := h1.W
  obtain ⟨hW2, V1, V2, V3⟩ := h2.W
  have e1 := hW1.2.2.2.2.2.2.1
  have e2 := hW2.2.2.2.2.2.2.1
  have hT := h
  obtain ⟨t0, t1, t2, t3, t4, hC1, hC2, hRd, hWr, hN1, hN2, hN3, hb⟩ := h
  obtain ⟨v1, v2, v3, v4, v5, v6, v7, v8⟩ := id h1.2.2.2.2.1
  obtain ⟨u1, u2, u3, u4, u5, u6, u7, u8⟩ := id h2.2.2.2.2.1
  have bl1 := v2.2.2
  have bl2 := u2.2.2
  refine mj_Ct_of (by decide +kernel) (by decide) (Nat.le_of_ble_eq_true rfl) ?_
  refine mj_go z_T_allFunctions [] 60 ?_
  by_cases he : I1 = I2
  · have hc := ct_T_match (LA := LA) hT e1 e2 hW1.2.1 hW2.2.1
    rw [if_pos he] at hc
    refine And.intro t0 (And.intro (Nat.le_of_ble_eq_true rfl) (And.intro (Nat.le_of_ble_eq_true rfl) (And.intro (Nat.le_of_ble_eq_true rfl) (Exists.intro _ (And.intro (hc) ?_)))))
    rintro r9 sh9 FR9 IA9 LA9 n9 ⟨z0, z1, z2, z3, z4, z5⟩
    subst z0
    replace z1 := z1.symm
    subst z1
    replace z2 := z2.symm
    subst z2
    replace z3 := z3.symm
    subst z3
    replace z4 := z4.symm
    subst z4
    replace z5 := z5.symm
    subst z5
    refine And.intro (Or.inl rfl) ?_
    refine And.intro t0 (Exists.intro _ (And.intro t1 ?_))
    refine And.intro hC1.1 ?_
    rw [v3]
    refine And.intro t0 (Exists.intro _ (And.intro t2 ?_))
    refine And.intro t0 (Exists.intro _ (And.intro t1 ?_))
    refine And.intro hC2.1 (And.intro (Nat.le_of_ble_eq_true rfl) (And.intro (Nat.le_of_ble_eq_true rfl) (And.intro (Nat.le_of_ble_eq_true rfl) (Exists.intro _ (And.intro (ct_C_kindsNotIn (c := 15) (d := 1) (W := C_W I1) hC2 hC1 h1.2.1 W2 (by rw [h2.2.2.1, h1.2.2.1, he]) u2 v2 (fun t ht => by rw [he]; exact (u1 t (u4.subset ht)).2) (fun t ht => (v1 t (v4.subset ht)).2)) ?_)))))
    rintro o1 sh9 FR9 J1 LA9 n9 ⟨z1, z2, z3, z4, hp1⟩
    replace z1 := z1.symm
    subst z1
    replace z2 := z2.symm
    subst z2
    replace z3 := z3.symm
    subst z3
    replace z4 := z4.symm
    subst z4
    obtain ⟨q1, l, q2, q3, q4⟩ := hp1
    subst q2
    have hl : l.length ≤ 315 := by
      have z1 := nd_sub l ld2 q3 (fun y hy => ((q4 y).mp hy).1)
      obtain ⟨ps, _, _, z2, _⟩ := bl2
      omega
    obtain ⟨ps, _, _, z2, _⟩ := bl1
    refine And.intro (Or.inl rfl) ?_
    refine Exists.intro (((ld1.length + l.length : Nat) : Int)) (And.intro (by first | (rw [mj_w_id (by omega) (by omega)]; done) | (rw [mj_w_id (by omega) (by omega)]; omega) | (unfold mj_w; omega)) ?_)
    exact ⟨⟨rfl, rfl, rfl, rfl, q1, Or.inl ⟨he, l, rfl, q3, q4⟩⟩, Nat.le_of_ble_eq_true rfl, Nat.le_of_ble_eq_true rfl⟩
  · have hc := ct_T_match (LA := LA) hT e1 e2 hW1.2.1 hW2.2.1
    rw [if_neg he] at hc
    refine And.intro t0 (And.intro (Nat.le_of_ble_eq_true rfl) (And.intro (Nat.le_of_ble_eq_true rfl) (And.intro (Nat.le_of_ble_eq_true rfl) (Exists.intro _ (And.intro (hc) ?_)))))
    rintro r9 sh9 FR9 IA9 LA9 n9 ⟨z0, z1, z2, z3, z4, z5⟩
    subst z0
    replace z1 := z1.symm
    subst z1
    replace z2 := z2.symm
    subst z2
    replace z3 := z3.symm
    subst z3
    replace z4 := z4.symm
    subst z4
    replace z5 := z5.symm
    subst z5
    exact ⟨rfl, rfl, rfl, rfl, rfl, Or.inr ⟨he, rfl⟩⟩
/-- output k stands -/
theorem nA.out {b m I O G : Nat} {od : List Nat} (h : nA IA b m I O G od) {k : Nat} (hk : k < O) : tw_sd IA b (IA (b + 5) k) := by
  obtain ⟨⟨w1, w2, w3, w4, w5, w6, w7, w8, w9, w10, w11, w12⟩, hno, _⟩ := h
  refine ⟨?_, hno _ (Or.inl ⟨k, hk, rfl⟩)⟩
  rw [w6]
  exact w12 k hk
/-- where output k differs -/
def tw_df (IA : mj_FI) (LA : mj_LA) (b1 b2 W k : Nat) (z : Int) : Prop := C_fst (fun v => C_bt LA 1 (wr_sl IA b1 (IA (b1 + 5) k)) (IA (b1 + 5) k) v ^^ C_bt LA 15 (wr_sl IA b2 (IA (b2 + 5) k)) (IA (b2 + 5) k) v) 0 (64 * W) z
theorem ct_T_leastDifference (h : isTw sh FR n b1 b2 b3) {m1 I1 O1 G1 m2 I2 O2 G2 k : Nat} {od1 ld1 od2 ld2 : List Nat} (h1 : cS IA LA 1 b1 m1 I1 O1 G1 od1 ld1) (h2 : cS IA LA 15 b2 m2 I2 O2 G2 od2 ld2) (he : I1 = I2) (hk1 : k < O1) (hk2 : k < O2) :
    mj_Ct m_T_leastDifference [.inr (.inr (.inl 0)), .inl k] sh FR IA LA n (mj_po (fun o J => J = IA ∧ ∃ z, o = .inl (some (.inl z)) ∧ tw_df IA LA b1 b2 (C_W I1) k z) sh FR LA n) := by
  obtain ⟨hW1, W1, W2, W3⟩ := h1.W
  obtain ⟨hW2, V1, V2, V3⟩ := h2.W
  have hO1 := hW1.2.2.1
  obtain ⟨t0, t1, t2, t3, t4, hC1, hC2, hRd, hWr, hN1, hN2, hN3, hb⟩ := h
  obtain ⟨s1, s2, s3, s4⟩ := (h1.1.out hk1).st hW1
  obtain ⟨p1, p2, p3, p4⟩ := (h2.1.out hk2).st hW2
  obtain ⟨x, hx⟩ : ∃ x : Nat, IA (b1 + 5) k = (x : Int) := ⟨(IA (b1 + 5) k).toNat, by omega⟩
  obtain ⟨y, hy⟩ : ∃ y : Nat, IA (b2 + 5) k = (y : Int) := ⟨(IA (b2 + 5) k).toNat, by omega⟩
  have hdf : ∀ z, tw_df IA LA b1 b2 (C_W I1) k z ↔ C_fst (fun v => C_bt LA 1 (wr_sl IA b1 (x : Int)) (x : Int) v ^^ C_bt LA 15 (wr_sl IA b2 (y : Int)) (y : Int) v) 0 (64 * C_W I1) z := fun z => by
    unfold tw_df
    rw [hx, hy]
  rw [hx] at s1 s2 s3 s4
  rw [hy] at p1 p2 p3 p4
  have hct := ct_C_firstDifference (LA := LA) hC1 hN1 hC2 hN2 (x := x) (y := y) (by omega) s3 s4 (by omega) p3 p4 (by rw [h2.2.2.1, h1.2.2.1, he]) h1.2.1 W2
  clear s3 p3
  refine mj_Ct_of (by decide +kernel) (by decide) (Nat.le_of_ble_eq_true rfl) ?_
  refine mj_go z_T_leastDifference [] 60 ?_
  refine And.intro t0 (Exists.intro _ (And.intro t1 ?_))
  refine And.intro t0 (Exists.intro _ (And.intro t1 ?_))
  refine And.intro hC1.1 (Exists.intro _ (And.intro hC1.2.1 ?_))
  refine And.intro hN1.1 (Exists.intro _ (And.intro hN1.2.2.2.2.2.1 ?_))
  refine Exists.intro _ (Exists.intro (k) (And.intro hN1.2.2.2.2.2.2.2.2.2.2.2.2.2.1 (And.intro (by first | (rw [mj_w_id (by omega) (by omega)]; done) | (rw [mj_w_id (by omega) (by omega)]; omega) | (unfold mj_w; omega)) (And.intro (by omega) ?_))))
  rw [hx]
  refine And.intro t0 (Exists.intro _ (And.intro t2 ?_))
  refine And.intro t0 (Exists.intro _ (And.intro t2 ?_))
  refine And.intro hC2.1 (Exists.intro _ (And.intro hC2.2.1 ?_))
  refine And.intro hN2.1 (Exists.intro _ (And.intro hN2.2.2.2.2.2.1 ?_))
  refine Exists.intro _ (Exists.intro (k) (And.intro hN2.2.2.2.2.2.2.2.2.2.2.2.2.2.1 (And.intro (by first | (rw [mj_w_id (by omega) (by omega)]; done) | (rw [mj_w_id (by omega) (by omega)]; omega) | (unfold mj_w; omega)) (And.intro (by omega) ?_))))
  rw [hy]
  refine And.intro hC1.1 (And.intro (Nat.le_of_ble_eq_true rfl) (And.intro (Nat.le_of_ble_eq_true rfl) (And.intro (Nat.le_of_ble_eq_true rfl) (Exists.intro _ (And.intro (hct) ?_)))))
  rintro o1 sh9 FR9 J1 LA9 n9 ⟨z1, z2, z3, z4, hp1⟩
  replace z1 := z1.symm
  subst z1
  replace z2 := z2.symm
  subst z2
  replace z3 := z3.symm
  subst z3
  replace z4 := z4.symm
  subst z4
  obtain ⟨q1, z, q2, q3⟩ := hp1
  subst q2
  refine And.intro (Or.inl rfl) ?_
  exact ⟨⟨rfl, rfl, rfl, rfl, q1, z, rfl, (hdf z).mpr q3⟩, Nat.le_of_ble_eq_true rfl, Nat.le_of_ble_eq_true rfl⟩
theorem tw_df_in {W k : Nat} {z : Int} (h : tw_df IA LA b1 b2 W k z) (hW : W ≤ 256) : -1 ≤ z ∧ z < 16384 := by
  rcases h with ⟨y, e, _, h2, _⟩ | ⟨e, _⟩ <;> omega
theorem ct_T_witness (h : isTw sh FR n b1 b2 b3) {m1 I1 O1 G1 m2 I2 O2 G2 : Nat} {od1 ld1 od2 ld2 : List Nat} (h1 : cS IA LA 1 b1 m1 I1 O1 G1 od1 ld1) (h2 : cS IA LA 15 b2 m2 I2 O2 G2 od2 ld2) {k : Int} (ik : mj_i k) :
    mj_Ct m_T_witness [.inr (.inr (.inl 0)), .inl k] sh FR IA LA n (mj_po (fun o J => J = IA ∧ ((I1 = I2 ∧ (0 ≤ k ∧ k < (O1 : Int) ∧ k < (O2 : Int)) ∧ ∃ z, o = .inl (some (.inl z)) ∧ tw_df IA LA b1 b2 (C_W I1) k.toNat z) ∨ (I1 = I2 ∧ ¬ (0 ≤ k ∧ k < (O1 : Int) ∧ k < (O2 : Int)) ∧ o = .inr 2) ∨ (¬ I1 = I2 ∧ o = .inr 1))) sh FR LA n) := by
  obtain ⟨hW1, W1, W2, W3⟩ := h1.W
  obtain ⟨hW2, V1, V2, V3⟩ := h2.W
  have e1 := hW1.2.2.2.2.2.2.1
  have e2 := hW2.2.2.2.2.2.2.1
  have g1 := hW1.2.2.2.2.2.2.2.2.1
  have g2 := hW2.2.2.2.2.2.2.2.2.1
  have x1 := hW1.2.2.1
  have x2 := hW2.2.2.1
  obtain ⟨i1, i2⟩ := ik
  have hT := h
  obtain ⟨t0, t1, t2, t3, t4, hC1, hC2, hRd, hWr, hN1, hN2, hN3, hb⟩ := h
  generalize hQ : mj_po (fun o J => J = IA ∧ ((I1 = I2 ∧ (0 ≤ k ∧ k < (O1 : Int) ∧ k < (O2 : Int)) ∧ ∃ z, o = .inl (some (.inl z)) ∧ tw_df IA LA b1 b2 (C_W I1) k.toNat z) ∨ (I1 = I2 ∧ ¬ (0 ≤ k ∧ k < (O1 : Int) ∧ k < (O2 : Int)) ∧ o = .inr 2) ∨ (¬ I1 = I2 ∧ o = .inr 1))) sh FR LA n = Q
  have hc := ct_T_match (LA := LA) hT e1 e2 hW1.2.1 hW2.2.1
  refine mj_Ct_of (by decide +kernel) (by decide) (Nat.le_of_ble_eq_true rfl) ?_
  refine mj_go z_T_witness [36, 46] 60 ?_
  by_cases he : I1 = I2
  · have bad : ¬ (0 ≤ k ∧ k < (O1 : Int) ∧ k < (O2 : Int)) → mj_G m_T_witness Q 36 [some (.inr (.inr (.inl 0))), some (.inl k)] [] sh FR IA LA n 1 6 := by
      intro hno
      subst hQ
      refine mj_go z_T_witness [] 60 ?_
      exact ⟨Nat.le_of_ble_eq_true rfl, Nat.le_of_ble_eq_true rfl, ⟨rfl, rfl, rfl, rfl, rfl, Or.inr (Or.inl ⟨he, hno, rfl⟩)⟩⟩
    rw [if_pos he] at hc
    refine And.intro t0 (And.intro (Nat.le_of_ble_eq_true rfl) (And.intro (Nat.le_of_ble_eq_true rfl) (And.intro (Nat.le_of_ble_eq_true rfl) (Exists.intro _ (And.intro (hc) ?_)))))
    rintro r9 sh9 FR9 IA9 LA9 n9 ⟨z0, z1, z2, z3, z4, z5⟩
    subst z0
    replace z1 := z1.symm
    subst z1
    replace z2 := z2.symm
    subst z2
    replace z3 := z3.symm
    subst z3
    replace z4 := z4.symm
    subst z4
    replace z5 := z5.symm
    subst z5
    refine And.intro (Or.inl rfl) ?_
    refine And.intro (fun d => ?_) (fun d => ?_)
    · simp (disch := (clear d; omega)) only [mj_w_id] at d
      exact bad (by omega)
    · simp (disch := (clear d; omega)) only [mj_w_id] at d
      refine And.intro t0 (Exists.intro _ (And.intro t1 ?_))
      refine And.intro hC1.1 (Exists.intro _ (And.intro hC1.2.1 ?_))
      refine And.intro hN1.1 ?_
      rw [g1]
      refine And.intro (fun d2 => ?_) (fun d2 => ?_)
      · simp (disch := (clear d2; omega)) only [mj_w_id] at d2
        exact bad (by omega)
      · simp (disch := (clear d2; omega)) only [mj_w_id] at d2
        refine And.intro t0 (Exists.intro _ (And.intro t2 ?_))
        refine And.intro hC2.1 (Exists.intro _ (And.intro hC2.2.1 ?_))
        refine And.intro hN2.1 ?_
        rw [g2]
        refine And.intro (fun d3 => ?_) (fun d3 => ?_)
        · simp (disch := (clear d3; omega)) only [mj_w_id] at d3
          subst hQ
          have e : k = ((k.toNat : Nat) : Int) := by omega
          have hct := ct_T_leastDifference (k := k.toNat) hT h1 h2 he (by omega) (by omega)
          rw [← e] at hct
          refine mj_go z_T_witness [] 60 ?_
          refine And.intro t0 (And.intro (Nat.le_of_ble_eq_true rfl) (And.intro (Nat.le_of_ble_eq_true rfl) (And.intro (Nat.le_of_ble_eq_true rfl) (Exists.intro _ (And.intro (hct) ?_)))))
          rintro o1 sh9 FR9 J1 LA9 n9 ⟨z1, z2, z3, z4, hp1⟩
          replace z1 := z1.symm
          subst z1
          replace z2 := z2.symm
          subst z2
          replace z3 := z3.symm
          subst z3
          replace z4 := z4.symm
          subst z4
          obtain ⟨q1, z, q2, q3⟩ := hp1
          subst q2
          refine And.intro (Or.inl rfl) ?_
          exact ⟨⟨rfl, rfl, rfl, rfl, q1, Or.inl ⟨he, ⟨by omega, by omega, by omega⟩, z, rfl, q3⟩⟩, Nat.le_of_ble_eq_true rfl, Nat.le_of_ble_eq_true rfl⟩
        · simp (disch := (clear d3; omega)) only [mj_w_id] at d3
          exact bad (by omega)
  · rw [if_neg he] at hc
    subst hQ
    refine And.intro t0 (And.intro (Nat.le_of_ble_eq_true rfl) (And.intro (Nat.le_of_ble_eq_true rfl) (And.intro (Nat.le_of_ble_eq_true rfl) (Exists.intro _ (And.intro (hc) ?_)))))
    rintro r9 sh9 FR9 IA9 LA9 n9 ⟨z0, z1, z2, z3, z4, z5⟩
    subst z0
    replace z1 := z1.symm
    subst z1
    replace z2 := z2.symm
    subst z2
    replace z3 := z3.symm
    subst z3
    replace z4 := z4.symm
    subst z4
    replace z5 := z5.symm
    subst z5
    exact ⟨rfl, rfl, rfl, rfl, rfl, Or.inr (Or.inr ⟨he, rfl⟩)⟩
/-- compare's answer: the first output that differs -/
def tw_cm (IA : mj_FI) (LA : mj_LA) (b1 b2 W O : Nat) (z : Int) : Prop := (∃ k : Nat, z = (k : Int) ∧ k < O ∧ (∃ y, tw_df IA LA b1 b2 W k y ∧ 0 ≤ y) ∧ ∀ i, i < k → tw_df IA LA b1 b2 W i (-1)) ∨ (z = -1 ∧ ∀ i, i < O → tw_df IA LA b1 b2 W i (-1))
theorem ct_T_compare (h : isTw sh FR n b1 b2 b3) {m1 I1 O1 G1 m2 I2 O2 G2 : Nat} {od1 ld1 od2 ld2 : List Nat} (h1 : cS IA LA 1 b1 m1 I1 O1 G1 od1 ld1) (h2 : cS IA LA 15 b2 m2 I2 O2 G2 od2 ld2) :
    mj_Ct m_T_compare [.inr (.inr (.inl 0))] sh FR IA LA n (mj_po (fun o J => J = IA ∧ ((I1 = I2 ∧ O1 = O2 ∧ ∃ z, o = .inl (some (.inl z)) ∧ tw_cm IA LA b1 b2 (C_W I1) O1 z) ∨ (I1 = I2 ∧ ¬ O1 = O2 ∧ o = .inl (some (.inl (-2)))) ∨ (¬ I1 = I2 ∧ o = .inr 1))) sh FR LA n) := by
  obtain ⟨hW1, W1, W2, W3⟩ := h1.W
  obtain ⟨hW2, V1, V2, V3⟩ := h2.W
  have e1 := hW1.2.2.2.2.2.2.1
  have e2 := hW2.2.2.2.2.2.2.1
  have g1 := hW1.2.2.2.2.2.2.2.2.1
  have g2 := hW2.2.2.2.2.2.2.2.2.1
  have x1 := hW1.2.2.1
  have x2 := hW2.2.2.1
  have hT := h
  obtain ⟨t0, t1, t2, t3, t4, hC1, hC2, hRd, hWr, hN1, hN2, hN3, hb⟩ := h
  generalize hQ : mj_po (fun o J => J = IA ∧ ((I1 = I2 ∧ O1 = O2 ∧ ∃ z, o = .inl (some (.inl z)) ∧ tw_cm IA LA b1 b2 (C_W I1) O1 z) ∨ (I1 = I2 ∧ ¬ O1 = O2 ∧ o = .inl (some (.inl (-2)))) ∨ (¬ I1 = I2 ∧ o = .inr 1))) sh FR LA n = Q
  have hc := ct_T_match (LA := LA) hT e1 e2 hW1.2.1 hW2.2.1
  refine mj_Ct_of (by decide +kernel) (by decide) (Nat.le_of_ble_eq_true rfl) ?_
  refine mj_go z_T_compare [32] 60 ?_
  by_cases he : I1 = I2
  · rw [if_pos he] at hc
    refine And.intro t0 (And.intro (Nat.le_of_ble_eq_true rfl) (And.intro (Nat.le_of_ble_eq_true rfl) (And.intro (Nat.le_of_ble_eq_true rfl) (Exists.intro _ (And.intro (hc) ?_)))))
    rintro r9 sh9 FR9 IA9 LA9 n9 ⟨z0, z1, z2, z3, z4, z5⟩
    subst z0
    replace z1 := z1.symm
    subst z1
    replace z2 := z2.symm
    subst z2
    replace z3 := z3.symm
    subst z3
    replace z4 := z4.symm
    subst z4
    replace z5 := z5.symm
    subst z5
    refine And.intro (Or.inl rfl) ?_
    refine And.intro t0 (Exists.intro _ (And.intro t1 ?_))
    refine And.intro hC1.1 (Exists.intro _ (And.intro hC1.2.1 ?_))
    refine And.intro hN1.1 ?_
    refine And.intro t0 (Exists.intro _ (And.intro t2 ?_))
    refine And.intro hC2.1 (Exists.intro _ (And.intro hC2.2.1 ?_))
    refine And.intro hN2.1 ?_
    rw [g1, g2]
    subst hQ
    refine And.intro (fun d => ?_) (fun d => ?_)
    · simp (disch := (clear d; omega)) only [mj_w_id] at d
      have hO : O1 = O2 := by omega
      have loop : ∀ (t k : Nat), k + t = O1 → (∀ i, i < k → tw_df IA LA b1 b2 (C_W I1) i (-1)) → mj_G m_T_compare (mj_po (fun o J => J = IA ∧ ((I1 = I2 ∧ O1 = O2 ∧ ∃ z, o = .inl (some (.inl z)) ∧ tw_cm IA LA b1 b2 (C_W I1) O1 z) ∨ (I1 = I2 ∧ ¬ O1 = O2 ∧ o = .inl (some (.inl (-2)))) ∨ (¬ I1 = I2 ∧ o = .inr 1))) sh FR LA n) 32 [some (.inr (.inr (.inl 0))), some (.inl k)] [] sh FR IA LA n 1 6 := by
        intro t
        induction t with
        | zero =>
          intro k hk hz
          have hk : k = O1 := by omega
          subst hk
          refine mj_go z_T_compare [32] 60 ?_
          refine And.intro t0 (Exists.intro _ (And.intro t1 ?_))
          refine And.intro hC1.1 (Exists.intro _ (And.intro hC1.2.1 ?_))
          refine And.intro hN1.1 ?_
          rw [g1]
          refine And.intro (fun e => ?_) (fun e => ?_)
          · exact ⟨⟨rfl, rfl, rfl, rfl, rfl, Or.inl ⟨he, hO, _, rfl, Or.inr ⟨rfl, hz⟩⟩⟩, Nat.le_of_ble_eq_true rfl, Nat.le_of_ble_eq_true rfl⟩
          · simp (disch := (clear e; omega)) only [mj_w_id] at e
            omega
        | succ t ih =>
          intro k hk hz
          have hct := ct_T_leastDifference (k := k) hT h1 h2 he (by omega) (by omega)
          refine mj_go z_T_compare [32] 60 ?_
          refine And.intro t0 (Exists.intro _ (And.intro t1 ?_))
          refine And.intro hC1.1 (Exists.intro _ (And.intro hC1.2.1 ?_))
          refine And.intro hN1.1 ?_
          rw [g1]
          refine And.intro (fun e => ?_) (fun e => ?_)
          · simp (disch := (clear e; omega)) only [mj_w_id] at e
            omega
          · clear e
            refine And.intro t0 (And.intro (Nat.le_of_ble_eq_true rfl) (And.intro (Nat.le_of_ble_eq_true rfl) (And.intro (Nat.le_of_ble_eq_true rfl) (Exists.intro _ (And.intro (hct) ?_)))))
            rintro o1 sh9 FR9 J1 LA9 n9 ⟨z1, z2, z3, z4, hp1⟩
            replace z1 := z1.symm
            subst z1
            replace z2 := z2.symm
            subst z2
            replace z3 := z3.symm
            subst z3
            replace z4 := z4.symm
            subst z4
            obtain ⟨q1, z, q2, q3⟩ := hp1
            replace q1 := q1.symm
            subst q1
            subst q2
            have hz2 := tw_df_in q3 W2
            refine And.intro (Or.inl rfl) ?_
            refine And.intro (fun e => ?_) (fun e => ?_)
            · simp (disch := (clear e; omega)) only [mj_w_id] at e
              have ez : z = -1 := by omega
              subst ez
              refine Exists.intro (((k + 1 : Nat) : Int)) (And.intro (by first | (rw [mj_w_id (by omega) (by omega)]; done) | (rw [mj_w_id (by omega) (by omega)]; omega) | (unfold mj_w; omega)) ?_)
              refine ih (k + 1) (by omega) (fun i hi => ?_)
              by_cases e3 : i = k
              · subst e3
                exact q3
              · exact hz i (by omega)
            · simp (disch := (clear e; omega)) only [mj_w_id] at e
              exact ⟨⟨rfl, rfl, rfl, rfl, rfl, Or.inl ⟨he, hO, _, rfl, Or.inl ⟨k, rfl, by omega, ⟨z, q3, by omega⟩, hz⟩⟩⟩, Nat.le_of_ble_eq_true rfl, Nat.le_of_ble_eq_true rfl⟩
      exact loop O1 0 (by omega) (fun i hi => by omega)
    · simp (disch := (clear d; omega)) only [mj_w_id] at d
      exact ⟨⟨rfl, rfl, rfl, rfl, rfl, Or.inr (Or.inl ⟨he, by omega, rfl⟩)⟩, Nat.le_of_ble_eq_true rfl, Nat.le_of_ble_eq_true rfl⟩
  · rw [if_neg he] at hc
    subst hQ
    refine And.intro t0 (And.intro (Nat.le_of_ble_eq_true rfl) (And.intro (Nat.le_of_ble_eq_true rfl) (And.intro (Nat.le_of_ble_eq_true rfl) (Exists.intro _ (And.intro (hc) ?_)))))
    rintro r9 sh9 FR9 IA9 LA9 n9 ⟨z0, z1, z2, z3, z4, z5⟩
    subst z0
    replace z1 := z1.symm
    subst z1
    replace z2 := z2.symm
    subst z2
    replace z3 := z3.symm
    subst z3
    replace z4 := z4.symm
    subst z4
    replace z5 := z5.symm
    subst z5
    exact ⟨rfl, rfl, rfl, rfl, rfl, Or.inr (Or.inr ⟨he, rfl⟩)⟩
end TT
