/-! THE OUTER CLASS: same, literal, write, out -/
section TT
variable {sh : mj_Sh} {FR : mj_FR} {IA : mj_FI} {LA : mj_LA} {n b1 b2 b3 : Nat}
/-- same's answer -/
def tw_sm (IA : mj_FI) (LA : mj_LA) (b1 b2 W : Nat) (lit oth : Int) (z : Int) : Prop := (z = 0 ∧ ¬ C_si LA 1 (wr_sl IA b1 lit) 15 (wr_sl IA b2 oth) W) ∨ (C_si LA 1 (wr_sl IA b1 lit) 15 (wr_sl IA b2 oth) W ∧ z = if C_bt LA 1 (wr_sl IA b1 lit) lit 0 = C_bt LA 15 (wr_sl IA b2 oth) oth 0 then 1 else -1)
set_option maxHeartbeats 1000000 in
theorem ct_T_same (h : isTw sh FR n b1 b2 b3) {m1 I1 O1 G1 m2 I2 O2 G2 : Nat} {od1 ld1 od2 ld2 : List Nat} (h1 : cS IA LA 1 b1 m1 I1 O1 G1 od1 ld1) (h2 : cS IA LA 15 b2 m2 I2 O2 G2 od2 ld2) {lit oth : Int} (il : mj_i lit) (io : mj_i oth) :
    mj_Ct m_T_same [.inr (.inr (.inl 0)), .inl lit, .inl oth] sh FR IA LA n (mj_po (fun o J => J = IA ∧ ((¬ (tw_sd IA b1 lit ∧ tw_sd IA b2 oth) ∧ o = .inr 0) ∨ ((tw_sd IA b1 lit ∧ tw_sd IA b2 oth) ∧ ¬ I1 = I2 ∧ o = .inr 1) ∨ ((tw_sd IA b1 lit ∧ tw_sd IA b2 oth) ∧ I1 = I2 ∧ ∃ z, o = .inl (some (.inl z)) ∧ tw_sm IA LA b1 b2 (C_W I1) lit oth z))) sh FR LA n) := by
  obtain ⟨hW1, W1, W2, W3⟩ := h1.W
  obtain ⟨hW2, V1, V2, V3⟩ := h2.W
  have e1 := hW1.2.2.2.2.2.2.1
  have e2 := hW2.2.2.2.2.2.2.1
  obtain ⟨i1, i2⟩ := il
  obtain ⟨j1, j2⟩ := io
  have hT := h
  obtain ⟨t0, t1, t2, t3, t4, hC1, hC2, hRd, hWr, hN1, hN2, hN3, hb⟩ := h
  have hc := ct_T_match (LA := LA) hT e1 e2 hW1.2.1 hW2.2.1
  refine mj_Ct_of (by decide +kernel) (by decide) (Nat.le_of_ble_eq_true rfl) ?_
  refine mj_go z_T_same [] 60 ?_
  refine And.intro t0 (Exists.intro _ (And.intro t1 ?_))
  by_cases hs : tw_sd IA b1 lit
  · obtain ⟨s1, s2, s3, s4⟩ := hs.st hW1
    refine And.intro trivial (And.intro (Nat.le_of_ble_eq_true rfl) (And.intro (Nat.le_of_ble_eq_true rfl) (And.intro (Nat.le_of_ble_eq_true rfl) (Exists.intro _ (And.intro (ct_T_standing hC1 hN1 hW1 i1 i2 hs) ?_)))))
    rintro r9 sh9 FR9 IA9 LA9 n9 ⟨z0, z1, z2, z3, z4, z5⟩
    subst z0
    replace z1 := z1.symm
    subst z1
    replace z2 := z2.symm
    subst z2
    replace z3 := z3.symm
    subst z3
    replace z4 := z4.symm
    subst z4
    replace z5 := z5.symm
    subst z5
    refine And.intro (Or.inl rfl) ?_
    refine And.intro t0 (Exists.intro _ (And.intro t2 ?_))
    by_cases ho : tw_sd IA b2 oth
    · obtain ⟨p1, p2, p3, p4⟩ := ho.st hW2
      refine And.intro trivial (And.intro (Nat.le_of_ble_eq_true rfl) (And.intro (Nat.le_of_ble_eq_true rfl) (And.intro (Nat.le_of_ble_eq_true rfl) (Exists.intro _ (And.intro (ct_T_standing hC2 hN2 hW2 j1 j2 ho) ?_)))))
      rintro r9 sh9 FR9 IA9 LA9 n9 ⟨z0, z1, z2, z3, z4, z5⟩
      subst z0
      replace z1 := z1.symm
      subst z1
      replace z2 := z2.symm
      subst z2
      replace z3 := z3.symm
      subst z3
      replace z4 := z4.symm
      subst z4
      replace z5 := z5.symm
      subst z5
      refine And.intro (Or.inl rfl) ?_
      by_cases he : I1 = I2
      · rw [if_pos he] at hc
        refine And.intro t0 (And.intro (Nat.le_of_ble_eq_true rfl) (And.intro (Nat.le_of_ble_eq_true rfl) (And.intro (Nat.le_of_ble_eq_true rfl) (Exists.intro _ (And.intro (hc) ?_)))))
        rintro r9 sh9 FR9 IA9 LA9 n9 ⟨z0, z1, z2, z3, z4, z5⟩
        subst z0
        replace z1 := z1.symm
        subst z1
        replace z2 := z2.symm
        subst z2
        replace z3 := z3.symm
        subst z3
        replace z4 := z4.symm
        subst z4
        replace z5 := z5.symm
        subst z5
        refine And.intro (Or.inl rfl) ?_
        refine And.intro t0 (Exists.intro _ (And.intro t1 ?_))
        refine And.intro hC1.1 (Exists.intro _ (And.intro hC1.2.1 ?_))
        refine And.intro hN1.1 (And.intro (Nat.le_of_ble_eq_true rfl) (And.intro (Nat.le_of_ble_eq_true rfl) (And.intro (Nat.le_of_ble_eq_true rfl) (Exists.intro _ (And.intro (ct_N_slotFor hN1 s1 s2) ?_)))))
        rintro r9 sh9 FR9 IA9 LA9 n9 ⟨z0, z1, z2, z3, z4, z5⟩
        subst z0
        replace z1 := z1.symm
        subst z1
        replace z2 := z2.symm
        subst z2
        replace z3 := z3.symm
        subst z3
        replace z4 := z4.symm
        subst z4
        replace z5 := z5.symm
        subst z5
        refine And.intro (Or.inl rfl) ?_
        rw [s3]
        refine And.intro t0 (Exists.intro _ (And.intro t2 ?_))
        refine And.intro hC2.1 (Exists.intro _ (And.intro hC2.2.1 ?_))
        refine And.intro hN2.1 (And.intro (Nat.le_of_ble_eq_true rfl) (And.intro (Nat.le_of_ble_eq_true rfl) (And.intro (Nat.le_of_ble_eq_true rfl) (Exists.intro _ (And.intro (ct_N_slotFor hN2 p1 p2) ?_)))))
        rintro r9 sh9 FR9 IA9 LA9 n9 ⟨z0, z1, z2, z3, z4, z5⟩
        subst z0
        replace z1 := z1.symm
        subst z1
        replace z2 := z2.symm
        subst z2
        replace z3 := z3.symm
        subst z3
        replace z4 := z4.symm
        subst z4
        replace z5 := z5.symm
        subst z5
        refine And.intro (Or.inl rfl) ?_
        rw [p3]
        refine And.intro t0 (Exists.intro _ (And.intro t1 ?_))
        refine And.intro t0 (Exists.intro _ (And.intro t2 ?_))
        refine And.intro hC1.1 (And.intro (Nat.le_of_ble_eq_true rfl) (And.intro (Nat.le_of_ble_eq_true rfl) (And.intro (Nat.le_of_ble_eq_true rfl) (Exists.intro _ (And.intro (ct_C_isSame (W := C_W I1) hC1 hC2 s4 p4 h1.2.1 W2) ?_)))))
        rintro o1 sh9 FR9 J1 LA9 n9 ⟨z1, z2, z3, z4, hp1⟩
        replace z1 := z1.symm
        subst z1
        replace z2 := z2.symm
        subst z2
        replace z3 := z3.symm
        subst z3
        replace z4 := z4.symm
        subst z4
        obtain ⟨q1, q2⟩ := hp1
        replace q1 := q1.symm
        subst q1
        rcases q2 with ⟨q2, q3, q4⟩ | ⟨q2, q3⟩
        · subst q2
          refine And.intro (Or.inl rfl) ?_
          refine And.intro (fun d => ?_) (fun d => ?_)
          · clear d
            refine And.intro t0 (Exists.intro _ (And.intro t1 ?_))
            refine And.intro hC1.1 (And.intro (Nat.le_of_ble_eq_true rfl) (And.intro (Nat.le_of_ble_eq_true rfl) (And.intro (Nat.le_of_ble_eq_true rfl) (Exists.intro _ (And.intro (ct_C_bitAt (v := 0) hC1 hN1 s1 s2 s3 s4 (by decide)) ?_)))))
            rintro r9 sh9 FR9 IA9 LA9 n9 ⟨z0, z1, z2, z3, z4, z5⟩
            subst z0
            replace z1 := z1.symm
            subst z1
            replace z2 := z2.symm
            subst z2
            replace z3 := z3.symm
            subst z3
            replace z4 := z4.symm
            subst z4
            replace z5 := z5.symm
            subst z5
            refine And.intro (Or.inl rfl) ?_
            refine And.intro t0 (Exists.intro _ (And.intro t2 ?_))
            refine And.intro hC2.1 (And.intro (Nat.le_of_ble_eq_true rfl) (And.intro (Nat.le_of_ble_eq_true rfl) (And.intro (Nat.le_of_ble_eq_true rfl) (Exists.intro _ (And.intro (ct_C_bitAt (v := 0) hC2 hN2 p1 p2 p3 p4 (by decide)) ?_)))))
            rintro r9 sh9 FR9 IA9 LA9 n9 ⟨z0, z1, z2, z3, z4, z5⟩
            subst z0
            replace z1 := z1.symm
            subst z1
            replace z2 := z2.symm
            subst z2
            replace z3 := z3.symm
            subst z3
            replace z4 := z4.symm
            subst z4
            replace z5 := z5.symm
            subst z5
            refine And.intro (Or.inl rfl) ?_
            clear s3 p3
            generalize hx : C_bt LA 1 (wr_sl IA b1 lit) lit 0 = x
            generalize hy : C_bt LA 15 (wr_sl IA b2 oth) oth 0 = y
            by_cases exy : x = y
            · subst exy
              refine And.intro (fun d => ?_) (fun d => ?_)
              · exact absurd rfl d
              · exact ⟨⟨rfl, rfl, rfl, rfl, rfl, Or.inr (Or.inr ⟨⟨hs, ho⟩, he, _, rfl, Or.inr ⟨q4, by rw [hx, hy, if_pos rfl]⟩⟩)⟩, Nat.le_of_ble_eq_true rfl, Nat.le_of_ble_eq_true rfl⟩
            · refine And.intro (fun d => ?_) (fun d => ?_)
              · exact ⟨⟨rfl, rfl, rfl, rfl, rfl, Or.inr (Or.inr ⟨⟨hs, ho⟩, he, _, rfl, Or.inr ⟨q4, by rw [hx, hy, if_neg exy]⟩⟩)⟩, Nat.le_of_ble_eq_true rfl, Nat.le_of_ble_eq_true rfl⟩
              · have d := Classical.not_not.mp d
                cases x <;> cases y
                · exact absurd rfl exy
                · exact absurd d (by decide)
                · exact absurd d (by decide)
                · exact absurd rfl exy
          · exact absurd d (by decide)
        · subst q2
          refine And.intro (Or.inl rfl) ?_
          refine And.intro (fun d => ?_) (fun d => ?_)
          · exact absurd d (by decide)
          · refine ⟨⟨rfl, rfl, rfl, rfl, rfl, Or.inr (Or.inr ⟨⟨hs, ho⟩, he, _, rfl, Or.inl ⟨rfl, fun z => q3 ⟨?_, z⟩⟩⟩)⟩, Nat.le_of_ble_eq_true rfl, Nat.le_of_ble_eq_true rfl⟩
            rw [(h1.2.2.2.2.1.1 _ (h1.en.mpr (hW1.sl hs))).2, (h2.2.2.2.2.1.1 _ (h2.en.mpr (hW2.sl ho))).2, ← he]
            exact C_si_hs (by rw [h2.2.2.1, h1.2.2.1, he]) z
      · rw [if_neg he] at hc
        refine And.intro t0 (And.intro (Nat.le_of_ble_eq_true rfl) (And.intro (Nat.le_of_ble_eq_true rfl) (And.intro (Nat.le_of_ble_eq_true rfl) (Exists.intro _ (And.intro (hc) ?_)))))
        rintro r9 sh9 FR9 IA9 LA9 n9 ⟨z0, z1, z2, z3, z4, z5⟩
        subst z0
        replace z1 := z1.symm
        subst z1
        replace z2 := z2.symm
        subst z2
        replace z3 := z3.symm
        subst z3
        replace z4 := z4.symm
        subst z4
        replace z5 := z5.symm
        subst z5
        exact ⟨rfl, rfl, rfl, rfl, rfl, Or.inr (Or.inl ⟨⟨hs, ho⟩, he, rfl⟩)⟩
    · refine And.intro trivial (And.intro (Nat.le_of_ble_eq_true rfl) (And.intro (Nat.le_of_ble_eq_true rfl) (And.intro (Nat.le_of_ble_eq_true rfl) (Exists.intro _ (And.intro (ct_T_standingX hC2 hN2 hW2 j1 j2 ho) ?_)))))
      rintro r9 sh9 FR9 IA9 LA9 n9 ⟨z0, z1, z2, z3, z4, z5⟩
      subst z0
      replace z1 := z1.symm
      subst z1
      replace z2 := z2.symm
      subst z2
      replace z3 := z3.symm
      subst z3
      replace z4 := z4.symm
      subst z4
      replace z5 := z5.symm
      subst z5
      exact ⟨rfl, rfl, rfl, rfl, rfl, Or.inl ⟨fun z => ho z.2, rfl⟩⟩
  · refine And.intro trivial (And.intro (Nat.le_of_ble_eq_true rfl) (And.intro (Nat.le_of_ble_eq_true rfl) (And.intro (Nat.le_of_ble_eq_true rfl) (Exists.intro _ (And.intro (ct_T_standingX hC1 hN1 hW1 i1 i2 hs) ?_)))))
    rintro r9 sh9 FR9 IA9 LA9 n9 ⟨z0, z1, z2, z3, z4, z5⟩
    subst z0
    replace z1 := z1.symm
    subst z1
    replace z2 := z2.symm
    subst z2
    replace z3 := z3.symm
    subst z3
    replace z4 := z4.symm
    subst z4
    replace z5 := z5.symm
    subst z5
    exact ⟨rfl, rfl, rfl, rfl, rfl, Or.inl ⟨fun z => hs z.1, rfl⟩⟩
/-- literal's answer -/
def tw_li (IA : mj_FI) (b I O G : Nat) (w k : Int) (o : mj_O) : Prop := (w = 0 ∧ 0 ≤ k ∧ k < (I : Int) ∧ o = .inl (some (.inl (IA (b + 2) (1 + k.toNat))))) ∨ (w = 1 ∧ 0 ≤ k ∧ k < (G : Int) ∧ o = .inl (some (.inl (IA (b + 2) (1 + I + k.toNat))))) ∨ (w = 2 ∧ 0 ≤ k ∧ k < (O : Int) ∧ o = .inl (some (.inl (IA (b + 5) k.toNat)))) ∨
  (¬ (w = 0 ∧ 0 ≤ k ∧ k < (I : Int)) ∧ ¬ (w = 1 ∧ 0 ≤ k ∧ k < (G : Int)) ∧ ¬ (w = 2 ∧ 0 ≤ k ∧ k < (O : Int)) ∧ o = .inr 2)
set_option maxHeartbeats 1000000 in
theorem ct_T_literal (h : isTw sh FR n b1 b2 b3) {x w k : Int} {c b m I O G : Nat} {od ld : List Nat} (hx : tw_c b1 b2 x c b) (hS : cS IA LA c b m I O G od ld) (iw : mj_i w) (ik : mj_i k) :
    mj_Ct m_T_literal [.inr (.inr (.inl 0)), .inl x, .inl w, .inl k] sh FR IA LA n (mj_po (fun o J => J = IA ∧ tw_li IA b I O G w k o) sh FR LA n) := by
  obtain ⟨hC, hN, _, _⟩ := h.c hx
  obtain ⟨hW, W1, W2, W3⟩ := hS.W
  obtain ⟨w1, w2, w3, w4, w5, w6, w7, w8, w9, w10, w11, w12⟩ := hW
  obtain ⟨i1, i2⟩ := iw
  obtain ⟨j1, j2⟩ := ik
  generalize hQ : mj_po (fun o J => J = IA ∧ tw_li IA b I O G w k o) sh FR LA n = Q
  have s97 : ¬ (w = 0 ∧ 0 ≤ k ∧ k < (I : Int)) → ¬ (w = 1 ∧ 0 ≤ k ∧ k < (G : Int)) → ¬ (w = 2 ∧ 0 ≤ k ∧ k < (O : Int)) → mj_G m_T_literal Q 97 [some (.inr (.inr (.inl 0))), some (.inl x), some (.inl w), some (.inl k), some (.inr (.inr (.inl b)))] [] sh FR IA LA n 1 6 := by
    intro a1 a2 a3
    subst hQ
    refine mj_go z_T_literal [] 60 ?_
    exact ⟨Nat.le_of_ble_eq_true rfl, Nat.le_of_ble_eq_true rfl, ⟨rfl, rfl, rfl, rfl, rfl, Or.inr (Or.inr (Or.inr ⟨a1, a2, a3, rfl⟩))⟩⟩
  have s71 : ¬ (w = 0 ∧ 0 ≤ k ∧ k < (I : Int)) → ¬ (w = 1 ∧ 0 ≤ k ∧ k < (G : Int)) → mj_G m_T_literal Q 71 [some (.inr (.inr (.inl 0))), some (.inl x), some (.inl w), some (.inl k), some (.inr (.inr (.inl b)))] [] sh FR IA LA n 1 6 := by
    intro a1 a2
    refine mj_go z_T_literal [97] 60 ?_
    refine And.intro (fun d => ?_) (fun d => ?_)
    · simp (disch := (clear d; omega)) only [mj_w_id] at d
      exact s97 a1 a2 (by omega)
    · replace d := Classical.not_not.mp d
      simp (disch := (clear d; omega)) only [mj_w_id] at d
      refine And.intro (fun d2 => ?_) (fun d2 => ?_)
      · simp (disch := (clear d2; omega)) only [mj_w_id] at d2
        exact s97 a1 a2 (by omega)
      · simp (disch := (clear d2; omega)) only [mj_w_id] at d2
        refine And.intro hN.1 ?_
        rw [w9]
        refine And.intro (fun d3 => ?_) (fun d3 => ?_)
        · simp (disch := (clear d3; omega)) only [mj_w_id] at d3
          exact s97 a1 a2 (by omega)
        · simp (disch := (clear d3; omega)) only [mj_w_id] at d3
          subst hQ
          refine And.intro hN.1 (Exists.intro _ (And.intro hN.2.2.2.2.2.1 ?_))
          refine Exists.intro _ (Exists.intro (k.toNat) (And.intro hN.2.2.2.2.2.2.2.2.2.2.2.2.2.1 (And.intro (by first | (rw [mj_w_id (by omega) (by omega)]; done) | (rw [mj_w_id (by omega) (by omega)]; omega) | (unfold mj_w; omega)) (And.intro (by omega) ?_))))
          exact ⟨⟨rfl, rfl, rfl, rfl, rfl, Or.inr (Or.inr (Or.inl ⟨d, by omega, by omega, rfl⟩))⟩, Nat.le_of_ble_eq_true rfl, Nat.le_of_ble_eq_true rfl⟩
  have s37 : ¬ (w = 0 ∧ 0 ≤ k ∧ k < (I : Int)) → mj_G m_T_literal Q 37 [some (.inr (.inr (.inl 0))), some (.inl x), some (.inl w), some (.inl k), some (.inr (.inr (.inl b)))] [] sh FR IA LA n 1 6 := by
    intro a1
    refine mj_go z_T_literal [71] 60 ?_
    refine And.intro (fun d => ?_) (fun d => ?_)
    · simp (disch := (clear d; omega)) only [mj_w_id] at d
      exact s71 a1 (by omega)
    · replace d := Classical.not_not.mp d
      simp (disch := (clear d; omega)) only [mj_w_id] at d
      refine And.intro (fun d2 => ?_) (fun d2 => ?_)
      · simp (disch := (clear d2; omega)) only [mj_w_id] at d2
        exact s71 a1 (by omega)
      · simp (disch := (clear d2; omega)) only [mj_w_id] at d2
        refine And.intro hN.1 ?_
        rw [w8]
        refine And.intro (fun d3 => ?_) (fun d3 => ?_)
        · simp (disch := (clear d3; omega)) only [mj_w_id] at d3
          exact s71 a1 (by omega)
        · simp (disch := (clear d3; omega)) only [mj_w_id] at d3
          subst hQ
          refine And.intro hN.1 (Exists.intro _ (And.intro hN.2.2.1 ?_))
          refine And.intro hN.1 ?_
          rw [w7]
          refine Exists.intro (((1 + I : Nat) : Int)) (And.intro (by first | (rw [mj_w_id (by omega) (by omega)]; done) | (rw [mj_w_id (by omega) (by omega)]; omega) | (unfold mj_w; omega)) ?_)
          refine Exists.intro (((1 + I + k.toNat : Nat) : Int)) (And.intro (by first | (rw [mj_w_id (by omega) (by omega)]; done) | (rw [mj_w_id (by omega) (by omega)]; omega) | (unfold mj_w; omega)) ?_)
          refine Exists.intro _ (Exists.intro (1 + I + k.toNat) (And.intro hN.2.2.2.2.2.2.2.2.2.2.1 (And.intro (by first | (rw [mj_w_id (by omega) (by omega)]; done) | (rw [mj_w_id (by omega) (by omega)]; omega) | (unfold mj_w; omega)) (And.intro (by omega) ?_))))
          exact ⟨⟨rfl, rfl, rfl, rfl, rfl, Or.inr (Or.inl ⟨d, by omega, by omega, rfl⟩)⟩, Nat.le_of_ble_eq_true rfl, Nat.le_of_ble_eq_true rfl⟩
  refine mj_Ct_of (by decide +kernel) (by decide) (Nat.le_of_ble_eq_true rfl) ?_
  refine mj_go z_T_literal [37] 60 ?_
  refine And.intro h.1 (And.intro (Nat.le_of_ble_eq_true rfl) (And.intro (Nat.le_of_ble_eq_true rfl) (And.intro (Nat.le_of_ble_eq_true rfl) (Exists.intro _ (And.intro (ct_T_named h hx) ?_)))))
  rintro r9 sh9 FR9 IA9 LA9 n9 ⟨z0, z1, z2, z3, z4, z5⟩
  subst z0
  replace z1 := z1.symm
  subst z1
  replace z2 := z2.symm
  subst z2
  replace z3 := z3.symm
  subst z3
  replace z4 := z4.symm
  subst z4
  replace z5 := z5.symm
  subst z5
  refine And.intro (Or.inl rfl) ?_
  refine And.intro hC.1 (Exists.intro _ (And.intro hC.2.1 ?_))
  refine And.intro (fun d => ?_) (fun d => ?_)
  · simp (disch := (clear d; omega)) only [mj_w_id] at d
    exact s37 (by omega)
  · replace d := Classical.not_not.mp d
    simp (disch := (clear d; omega)) only [mj_w_id] at d
    refine And.intro (fun d2 => ?_) (fun d2 => ?_)
    · simp (disch := (clear d2; omega)) only [mj_w_id] at d2
      exact s37 (by omega)
    · simp (disch := (clear d2; omega)) only [mj_w_id] at d2
      refine And.intro hN.1 ?_
      rw [w7]
      refine And.intro (fun d3 => ?_) (fun d3 => ?_)
      · simp (disch := (clear d3; omega)) only [mj_w_id] at d3
        exact s37 (by omega)
      · simp (disch := (clear d3; omega)) only [mj_w_id] at d3
        subst hQ
        refine And.intro hN.1 (Exists.intro _ (And.intro hN.2.2.1 ?_))
        refine Exists.intro (((1 + k.toNat : Nat) : Int)) (And.intro (by first | (rw [mj_w_id (by omega) (by omega)]; done) | (rw [mj_w_id (by omega) (by omega)]; omega) | (unfold mj_w; omega)) ?_)
        refine Exists.intro _ (Exists.intro (1 + k.toNat) (And.intro hN.2.2.2.2.2.2.2.2.2.2.1 (And.intro (by first | (rw [mj_w_id (by omega) (by omega)]; done) | (rw [mj_w_id (by omega) (by omega)]; omega) | (unfold mj_w; omega)) (And.intro (by omega) ?_))))
        exact ⟨⟨rfl, rfl, rfl, rfl, rfl, Or.inl ⟨d, by omega, by omega, rfl⟩⟩, Nat.le_of_ble_eq_true rfl, Nat.le_of_ble_eq_true rfl⟩
/-- final literals stand -/
theorem cS.H {c b m I O G : Nat} {od ld : List Nat} (h : cS IA LA c b m I O G od ld) (rd : Bool) : wr_H IA c b rd := by
  have hA := h.1
  obtain ⟨hW, W1, W2, W3⟩ := h.W
  intro lit hl
  have hsd : tw_sd IA b lit := by
    obtain ⟨l1, l2, l3, l4⟩ := hl
    obtain ⟨w1, w2, w3, w4, w5, w6, w7, w8, w9, ⟨v0, v1, v2⟩, w11, w12⟩ := hW
    refine ⟨⟨l1, ?_⟩, by omega⟩
    rw [w6]
    by_cases e : (lit / 2).toNat = 0
    · omega
    · rcases v1 (lit / 2).toNat (by omega) (by omega) with q | ⟨_, _, _, q⟩ <;> omega
  have hn := hW.sl hsd
  have hl2 := h.led2 hn
  refine ⟨?_, hl2⟩
  cases rd with
  | false => exact hl
  | true =>
    show wr_st IA b (C_sg (IA (c + 12) (wr_sl IA b lit)) lit)
    obtain ⟨t, t1, t2, t3, t4, t5, t6, t7⟩ := h.led hn
    have ht : IA (b + 1) (IA (b + 2) t / 2).toNat = (t : Int) := by
      obtain ⟨w1, w2, w3, w4, w5, w6, w7, w8, w9, ⟨v0, v1, v2⟩, w11, w12⟩ := hW
      by_cases e : t = 0
      · subst e
        rw [hA.2.2.2.2]
        exact v0
      · obtain ⟨j, j1, j2, j3, j4⟩ := v2 t (by unfold nS lf_g at t4; omega) (by unfold nS lf_g at t4; omega)
        rw [j3, show (2 * (j : Int) / 2).toNat = j by omega]
        exact j4
    have tlt : t < 315 := by
      obtain ⟨w1, w2, w3, w4, w5, w6, w7, w8, w9, w10, w11, w12⟩ := hW
      unfold nS lf_g at t4
      omega
    have hm : ∃ e : Int, (e = 0 ∨ e = 1) ∧ C_sg (IA (c + 12) (wr_sl IA b lit)) lit = IA (b + 2) t + e := by
      rw [t3]
      unfold C_lt C_sg
      by_cases q1 : C_sb (C_rw LA c t 0) = C_sb (C_rw LA c (wr_sl IA b lit) 0)
      · rw [if_pos q1]
        by_cases q2 : lit % 2 = 0
        · rw [if_pos q2]
          exact ⟨0, Or.inl rfl, by omega⟩
        · rw [if_neg q2, if_pos (by omega)]
          exact ⟨1, Or.inr rfl, by omega⟩
      · rw [if_neg q1]
        by_cases q2 : lit % 2 = 0
        · rw [if_pos q2]
          exact ⟨1, Or.inr rfl, by omega⟩
        · rw [if_neg q2, if_neg (by omega)]
          exact ⟨0, Or.inl rfl, by omega⟩
    obtain ⟨e, he, hC⟩ := hm
    rw [hC]
    unfold wr_st
    rw [show ((IA (b + 2) t + e) / 2).toNat = (IA (b + 2) t / 2).toNat by omega, ht]
    omega
end TT
