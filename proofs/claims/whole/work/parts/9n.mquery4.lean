/-! THE REFERENCE: literal, compare, witness, same -/
section MM
variable {sh : mj_Sh} {FR : mj_FR} {IA : mj_FI} {LA : mj_LA} {n : Nat}
/-- how many of what -/
def M_li (I O G : Nat) (w k : Int) : Prop := (w = 0 ∧ 0 ≤ k ∧ k < (I : Int)) ∨ (w = 1 ∧ 0 ≤ k ∧ k < (G : Int)) ∨ (w = 2 ∧ 0 ≤ k ∧ k < (O : Int))
set_option maxHeartbeats 2000000 in
theorem ct_M_literal (h : isM sh FR n) {c I O G : Nat} {w k : Int} (hc : c < 2) (hI : IA 55 c = (I : Int)) (hI2 : I ≤ 14) (hG : IA 56 c = (G : Int)) (hG2 : G ≤ 300) (hO : IA 57 c = (O : Int)) (hO2 : O ≤ 16) (iw : mj_i w) (ik : mj_i k) :
    mj_Ct m_M_literal [.inr (.inr (.inl 52)), .inl c, .inl w, .inl k] sh FR IA LA n (mj_po (fun o J => (M_li I O G w k ∧ J = mj_up IA 52 0 0 ∧ o = .inl (some (.inl (if w = 0 then IA 61 (14 * c + k.toNat) else if w = 1 then IA 62 (300 * c + k.toNat) else IA 65 (16 * c + k.toNat))))) ∨ (¬ M_li I O G w k ∧ J = mj_up IA 52 0 2 ∧ o = .inl (some (.inl 0)))) sh FR LA n) := by
  generalize hQ : mj_po (fun o J => (M_li I O G w k ∧ J = mj_up IA 52 0 0 ∧ o = .inl (some (.inl (if w = 0 then IA 61 (14 * c + k.toNat) else if w = 1 then IA 62 (300 * c + k.toNat) else IA 65 (16 * c + k.toNat))))) ∨ (¬ M_li I O G w k ∧ J = mj_up IA 52 0 2 ∧ o = .inl (some (.inl 0)))) sh FR LA n = Q
  obtain ⟨w1, w2⟩ := iw
  obtain ⟨k1, k2⟩ := ik
  have fin : ∀ m : Nat, m ≤ 300 → (M_li I O G w k ↔ 0 ≤ k ∧ k < (m : Int)) → mj_G m_M_literal Q 65 [some (.inr (.inr (.inl 52))), some (.inl c), some (.inl w), some (.inl k), some (.inl 0), none] [.inl m] sh FR IA LA n 0 0 := by
    intro m hm hk
    have bad : ¬ (0 ≤ k ∧ k < (m : Int)) → mj_G m_M_literal Q 80 [some (.inr (.inr (.inl 52))), some (.inl c), some (.inl w), some (.inl k), some (.inl 0), some (.inl m)] [.inl 0, .inr (.inr (.inl 52))] sh FR IA LA n 0 0 := by
      intro hb
      subst hQ
      refine mj_go z_M_literal [] 60 ?_
      refine And.intro h.o (And.intro (Nat.le_of_ble_eq_true rfl) (And.intro (Nat.le_of_ble_eq_true rfl) (And.intro (Nat.le_of_ble_eq_true rfl) (Exists.intro _ (And.intro (ct_thr01 h) ?_)))))
      rintro r9 sh9 FR9 IA9 LA9 n9 ⟨z0, z1, z2, z3, z4, z5⟩
      subst z0
      replace z1 := z1.symm
      subst z1
      replace z2 := z2.symm
      subst z2
      replace z3 := z3.symm
      subst z3
      replace z4 := z4.symm
      subst z4
      replace z5 := z5.symm
      subst z5
      refine And.intro (Or.inl rfl) ?_
      refine And.intro (fun d => ?_) (fun d => ?_)
      · exact absurd d (by decide)
      · exact ⟨⟨rfl, rfl, rfl, rfl, Or.inr ⟨fun z => hb (hk.mp z), rfl, rfl⟩⟩, Nat.le_of_ble_eq_true rfl, Nat.le_of_ble_eq_true rfl⟩
    refine mj_go z_M_literal [80] 60 ?_
    refine And.intro (fun d => ?_) (fun d => ?_)
    · simp (disch := (clear d; omega)) only [mj_w_id] at d
      exact bad (by omega)
    · simp (disch := (clear d; omega)) only [mj_w_id] at d
      refine And.intro (fun e => ?_) (fun e => ?_)
      · simp (disch := (clear e; omega)) only [mj_w_id] at e
        have ok := hk.mpr ⟨by omega, by omega⟩
        obtain ⟨j, hj⟩ : ∃ j : Nat, k = (j : Int) := ⟨k.toNat, by omega⟩
        subst hj
        refine And.intro h.o (And.intro (Nat.le_of_ble_eq_true rfl) (And.intro (Nat.le_of_ble_eq_true rfl) (And.intro (Nat.le_of_ble_eq_true rfl) (Exists.intro _ (And.intro (ct_thr00 h) ?_)))))
        rintro r9 sh9 FR9 IA9 LA9 n9 ⟨z0, z1, z2, z3, z4, z5⟩
        subst z0
        replace z1 := z1.symm
        subst z1
        replace z2 := z2.symm
        subst z2
        replace z3 := z3.symm
        subst z3
        replace z4 := z4.symm
        subst z4
        replace z5 := z5.symm
        subst z5
        refine And.intro (Or.inl rfl) ?_
        refine And.intro (fun f => ?_) (fun f => ?_)
        · clear f
          rcases id ok with ⟨o1, o2, o3⟩ | ⟨o1, o2, o3⟩ | ⟨o1, o2, o3⟩
          · subst o1
            subst hQ
            refine And.intro (fun f => ?_) (fun f => ?_)
            · exact absurd (show mj_w 0 = 0 by decide) f
            clear f
            refine And.intro h.o (Exists.intro _ (And.intro h.r11 ?_))
            refine Exists.intro (((14 * c : Nat) : Int)) (And.intro (by first | (rw [mj_w_id (by omega) (by omega)]; done) | (rw [mj_w_id (by omega) (by omega)]; omega) | (unfold mj_w; omega)) ?_)
            refine Exists.intro (((14 * c + j : Nat) : Int)) (And.intro (by first | (rw [mj_w_id (by omega) (by omega)]; done) | (rw [mj_w_id (by omega) (by omega)]; omega) | (unfold mj_w; omega)) ?_)
            refine Exists.intro _ (Exists.intro (14 * c + j) (And.intro h.a11 (And.intro (by first | (rw [mj_w_id (by omega) (by omega)]; done) | (rw [mj_w_id (by omega) (by omega)]; omega) | (unfold mj_w; omega)) (And.intro (by omega) ?_))))
            rw [mj_up_ne (show (61 : Nat) ≠ 52 by decide)]
            exact ⟨⟨rfl, rfl, rfl, rfl, Or.inl ⟨ok, rfl, by rw [if_pos rfl]; rfl⟩⟩, Nat.le_of_ble_eq_true rfl, Nat.le_of_ble_eq_true rfl⟩
          · subst o1
            subst hQ
            refine And.intro (fun f => ?_) (fun f => ?_)
            · clear f
              refine And.intro (fun f => ?_) (fun f => ?_)
              · exact absurd rfl f
              clear f
              refine And.intro h.o (Exists.intro _ (And.intro h.r12 ?_))
              refine Exists.intro (((300 * c : Nat) : Int)) (And.intro (by first | (rw [mj_w_id (by omega) (by omega)]; done) | (rw [mj_w_id (by omega) (by omega)]; omega) | (unfold mj_w; omega)) ?_)
              refine Exists.intro (((300 * c + j : Nat) : Int)) (And.intro (by first | (rw [mj_w_id (by omega) (by omega)]; done) | (rw [mj_w_id (by omega) (by omega)]; omega) | (unfold mj_w; omega)) ?_)
              refine Exists.intro _ (Exists.intro (300 * c + j) (And.intro h.a12 (And.intro (by first | (rw [mj_w_id (by omega) (by omega)]; done) | (rw [mj_w_id (by omega) (by omega)]; omega) | (unfold mj_w; omega)) (And.intro (by omega) ?_))))
              rw [mj_up_ne (show (62 : Nat) ≠ 52 by decide)]
              exact ⟨⟨rfl, rfl, rfl, rfl, Or.inl ⟨ok, rfl, by rw [if_neg (by decide), if_pos rfl]; rfl⟩⟩, Nat.le_of_ble_eq_true rfl, Nat.le_of_ble_eq_true rfl⟩
            · exact absurd f (by decide)
          · subst o1
            subst hQ
            refine And.intro (fun f => ?_) (fun f => ?_)
            · clear f
              refine And.intro (fun f => ?_) (fun f => ?_)
              · clear f
                refine And.intro h.o (Exists.intro _ (And.intro h.r15 ?_))
                refine Exists.intro (((16 * c : Nat) : Int)) (And.intro (by first | (rw [mj_w_id (by omega) (by omega)]; done) | (rw [mj_w_id (by omega) (by omega)]; omega) | (unfold mj_w; omega)) ?_)
                refine Exists.intro (((16 * c + j : Nat) : Int)) (And.intro (by first | (rw [mj_w_id (by omega) (by omega)]; done) | (rw [mj_w_id (by omega) (by omega)]; omega) | (unfold mj_w; omega)) ?_)
                refine Exists.intro _ (Exists.intro (16 * c + j) (And.intro h.a15 (And.intro (by first | (rw [mj_w_id (by omega) (by omega)]; done) | (rw [mj_w_id (by omega) (by omega)]; omega) | (unfold mj_w; omega)) (And.intro (by omega) ?_))))
                rw [mj_up_ne (show (65 : Nat) ≠ 52 by decide)]
                exact ⟨⟨rfl, rfl, rfl, rfl, Or.inl ⟨ok, rfl, by rw [if_neg (by decide), if_neg (by decide)]; rfl⟩⟩, Nat.le_of_ble_eq_true rfl, Nat.le_of_ble_eq_true rfl⟩
              · exact absurd f (by decide)
            · exact absurd f (by decide)
        · exact absurd (show mj_w 0 = 0 by decide) f
      · simp (disch := (clear e; omega)) only [mj_w_id] at e
        exact bad (by omega)
  refine mj_Ct_of (by decide +kernel) (by decide) (Nat.le_of_ble_eq_true rfl) ?_
  refine mj_go z_M_literal [65] 60 ?_
  refine And.intro (by trivial) (And.intro (Nat.le_of_ble_eq_true rfl) (And.intro (Nat.le_of_ble_eq_true rfl) (And.intro (Nat.le_of_ble_eq_true rfl) (Exists.intro _ (And.intro (ct_isC1 hc) ?_)))))
  rintro r9 sh9 FR9 IA9 LA9 n9 ⟨z0, z1, z2, z3, z4, z5⟩
  subst z0
  replace z1 := z1.symm
  subst z1
  replace z2 := z2.symm
  subst z2
  replace z3 := z3.symm
  subst z3
  replace z4 := z4.symm
  subst z4
  replace z5 := z5.symm
  subst z5
  refine And.intro (Or.inl rfl) ?_
  refine And.intro (fun d => ?_) (fun d => ?_)
  · clear d
    refine And.intro (fun d => ?_) (fun d => ?_)
    · clear d
      refine And.intro (fun d => ?_) (fun d => ?_)
      · simp (disch := (clear d; omega)) only [mj_w_id] at d
        refine And.intro (fun e => ?_) (fun e => ?_)
        · simp (disch := (clear e; omega)) only [mj_w_id] at e
          refine And.intro (fun f => ?_) (fun f => ?_)
          · simp (disch := (clear f; omega)) only [mj_w_id] at f
            exact fin 0 (by omega) (by unfold M_li; omega)
          · replace f := Classical.not_not.mp f
            simp (disch := (clear f; omega)) only [mj_w_id] at f
            refine And.intro h.o (Exists.intro _ (And.intro h.r7 ?_))
            refine Exists.intro _ (Exists.intro (c) (And.intro h.a7 (And.intro (by first | (rw [mj_w_id (by omega) (by omega)]; done) | (rw [mj_w_id (by omega) (by omega)]; omega) | (unfold mj_w; omega)) (And.intro (by omega) ?_))))
            rw [hO]
            exact fin O (by omega) (by unfold M_li; omega)
        · replace e := Classical.not_not.mp e
          simp (disch := (clear e; omega)) only [mj_w_id] at e
          refine And.intro h.o (Exists.intro _ (And.intro h.r6 ?_))
          refine Exists.intro _ (Exists.intro (c) (And.intro h.a6 (And.intro (by first | (rw [mj_w_id (by omega) (by omega)]; done) | (rw [mj_w_id (by omega) (by omega)]; omega) | (unfold mj_w; omega)) (And.intro (by omega) ?_))))
          rw [hG]
          exact fin G (by omega) (by unfold M_li; omega)
      · replace d := Classical.not_not.mp d
        simp (disch := (clear d; omega)) only [mj_w_id] at d
        refine And.intro h.o (Exists.intro _ (And.intro h.r5 ?_))
        refine Exists.intro _ (Exists.intro (c) (And.intro h.a5 (And.intro (by first | (rw [mj_w_id (by omega) (by omega)]; done) | (rw [mj_w_id (by omega) (by omega)]; omega) | (unfold mj_w; omega)) (And.intro (by omega) ?_))))
        rw [hI]
        exact fin I (by omega) (by unfold M_li; omega)
    · exact absurd (show mj_w 0 = 0 by decide) d
  · exact absurd d (by decide)
theorem ct_M_match (h : isM sh FR n) {I I2 : Nat} (hI : IA 55 0 = (I : Int)) (hI2 : I ≤ 14) (hJ : IA 55 1 = (I2 : Int)) (hJ2 : I2 ≤ 14) : mj_Ct m_M_match [.inr (.inr (.inl 52))] sh FR IA LA n (mj_pu (.inl (some (.inl (if I = I2 then 1 else 0)))) sh FR IA LA n) := by
  refine mj_Ct_of (by decide +kernel) (by decide) (Nat.le_of_ble_eq_true rfl) ?_
  refine mj_go z_M_match [] 60 ?_
  refine And.intro h.o (Exists.intro _ (And.intro h.r5 ?_))
  refine Exists.intro _ (Exists.intro (0) (And.intro h.a5 (And.intro (by first | (rw [mj_w_id (by omega) (by omega)]; done) | (rw [mj_w_id (by omega) (by omega)]; omega) | (unfold mj_w; omega)) (And.intro (by omega) ?_))))
  refine And.intro h.o (Exists.intro _ (And.intro h.r5 ?_))
  refine Exists.intro _ (Exists.intro (1) (And.intro h.a5 (And.intro (by first | (rw [mj_w_id (by omega) (by omega)]; done) | (rw [mj_w_id (by omega) (by omega)]; omega) | (unfold mj_w; omega)) (And.intro (by omega) ?_))))
  rw [hI, hJ]
  refine And.intro (fun d => ?_) (fun d => ?_)
  · simp (disch := (clear d; omega)) only [mj_w_id] at d
    rw [if_neg (by omega)]
    exact ⟨Or.inl rfl, ⟨rfl, rfl, rfl, rfl, rfl, rfl⟩, Nat.le_of_ble_eq_true rfl, Nat.le_of_ble_eq_true rfl⟩
  · replace d := Classical.not_not.mp d
    simp (disch := (clear d; omega)) only [mj_w_id] at d
    rw [if_pos (by omega)]
    exact ⟨Or.inr rfl, ⟨rfl, rfl, rfl, rfl, rfl, rfl⟩, Nat.le_of_ble_eq_true rfl, Nat.le_of_ble_eq_true rfl⟩
/-- the outputs of circuit c stand -/
def M_os (IA : mj_FI) (c O : Nat) : Prop := ∀ k, k < O → M_st IA c (IA 65 (16 * c + k))
theorem ct_M_difference (h : isM sh FR n) {I k : Nat} (hI : IA 55 0 = (I : Int)) (hJ : IA 55 1 = (I : Int)) (hI2 : I ≤ 14) (hk : k < 16) (hr : M_rr IA) (h0 : M_st IA 0 (IA 65 (16 * 0 + k))) (h1 : M_st IA 1 (IA 65 (16 * 1 + k))) :
    mj_Ct m_M_difference [.inr (.inr (.inl 52)), .inl k] sh FR IA LA n (mj_po (fun o J => J = IA ∧ ∃ z, o = .inl (some (.inl z)) ∧ C_fst (fun v => M_bt LA I 0 (M_ro IA 0 (IA 65 (16 * 0 + k))) (IA 65 (16 * 0 + k)) v ^^ M_bt LA I 1 (M_ro IA 1 (IA 65 (16 * 1 + k))) (IA 65 (16 * 1 + k)) v) 0 (2 ^ I) z) sh FR LA n) := by
  have hp := pw_le hI2
  obtain ⟨q1, q2⟩ := h0.row hr (by omega)
  obtain ⟨p1, p2⟩ := h1.row hr (by omega)
  generalize hQ : mj_po (fun o J => J = IA ∧ ∃ z, o = .inl (some (.inl z)) ∧ C_fst (fun v => M_bt LA I 0 (M_ro IA 0 (IA 65 (16 * 0 + k))) (IA 65 (16 * 0 + k)) v ^^ M_bt LA I 1 (M_ro IA 1 (IA 65 (16 * 1 + k))) (IA 65 (16 * 1 + k)) v) 0 (2 ^ I) z) sh FR LA n = Q
  have loop : ∀ (t x : Nat), x + t = 2 ^ I → (∀ i, i < x → (M_bt LA I 0 (M_ro IA 0 (IA 65 (16 * 0 + k))) (IA 65 (16 * 0 + k)) i ^^ M_bt LA I 1 (M_ro IA 1 (IA 65 (16 * 1 + k))) (IA 65 (16 * 1 + k)) i) = false) → mj_G m_M_difference Q 2 [some (.inr (.inr (.inl 52))), some (.inl k), some (.inl x)] [] sh FR IA LA n 0 0 := by
    intro t
    induction t with
    | zero =>
      intro x hx h2
      subst hQ
      refine mj_go z_M_difference [2] 60 ?_
      refine And.intro h.o (Exists.intro _ (And.intro h.r5 ?_))
      refine Exists.intro _ (Exists.intro (0) (And.intro h.a5 (And.intro (by first | (rw [mj_w_id (by omega) (by omega)]; done) | (rw [mj_w_id (by omega) (by omega)]; omega) | (unfold mj_w; omega)) (And.intro (by omega) ?_))))
      rw [hI]
      refine Exists.intro (((2 ^ I : Nat) : Int)) (And.intro (nu_shl1 ⟨I, by omega⟩) ?_)
      refine And.intro (fun d => ?_) (fun d => ?_)
      · exact ⟨⟨rfl, rfl, rfl, rfl, rfl, -1, rfl, Or.inr ⟨rfl, fun i i1 i2 => h2 i (by omega)⟩⟩, Nat.le_of_ble_eq_true rfl, Nat.le_of_ble_eq_true rfl⟩
      · clear q1 p1
        simp (disch := (clear d; omega)) only [mj_w_id] at d
        omega
    | succ t ih =>
      intro x hx h2
      refine mj_go z_M_difference [2] 60 ?_
      refine And.intro h.o (Exists.intro _ (And.intro h.r5 ?_))
      refine Exists.intro _ (Exists.intro (0) (And.intro h.a5 (And.intro (by first | (rw [mj_w_id (by omega) (by omega)]; done) | (rw [mj_w_id (by omega) (by omega)]; omega) | (unfold mj_w; omega)) (And.intro (by omega) ?_))))
      rw [hI]
      refine Exists.intro (((2 ^ I : Nat) : Int)) (And.intro (nu_shl1 ⟨I, by omega⟩) ?_)
      refine And.intro (fun d => ?_) (fun d => ?_)
      · clear q1 p1
        simp (disch := (clear d; omega)) only [mj_w_id] at d
        omega
      · clear d
        refine And.intro h.o (Exists.intro _ (And.intro h.r15 ?_))
        refine Exists.intro _ (Exists.intro (16 * 0 + k) (And.intro h.a15 (And.intro (by first | (rw [mj_w_id (by omega) (by omega)]; done) | (rw [mj_w_id (by omega) (by omega)]; omega) | (unfold mj_w; omega)) (And.intro (by omega) ?_))))
        refine And.intro h.o (And.intro (Nat.le_of_ble_eq_true rfl) (And.intro (Nat.le_of_ble_eq_true rfl) (And.intro (Nat.le_of_ble_eq_true rfl) (Exists.intro _ (And.intro (ct_M_bit (c := 0) (v := x) h (by omega) hI hI2 h0.1 h0.2.1 q1 q2 (by omega)) ?_)))))
        rintro r9 sh9 FR9 IA9 LA9 n9 ⟨z0, z1, z2, z3, z4, z5⟩
        subst z0
        replace z1 := z1.symm
        subst z1
        replace z2 := z2.symm
        subst z2
        replace z3 := z3.symm
        subst z3
        replace z4 := z4.symm
        subst z4
        replace z5 := z5.symm
        subst z5
        refine And.intro (Or.inl rfl) ?_
        refine And.intro h.o (Exists.intro _ (And.intro h.r15 ?_))
        refine Exists.intro (((16 * 1 + k : Nat) : Int)) (And.intro (by first | (rw [mj_w_id (by omega) (by omega)]; done) | (rw [mj_w_id (by omega) (by omega)]; omega) | (unfold mj_w; omega)) ?_)
        refine Exists.intro _ (Exists.intro (16 * 1 + k) (And.intro h.a15 (And.intro (by first | (rw [mj_w_id (by omega) (by omega)]; done) | (rw [mj_w_id (by omega) (by omega)]; omega) | (unfold mj_w; omega)) (And.intro (by omega) ?_))))
        refine And.intro h.o (And.intro (Nat.le_of_ble_eq_true rfl) (And.intro (Nat.le_of_ble_eq_true rfl) (And.intro (Nat.le_of_ble_eq_true rfl) (Exists.intro _ (And.intro (ct_M_bit (c := 1) (v := x) h (by omega) hJ hI2 h1.1 h1.2.1 p1 p2 (by omega)) ?_)))))
        rintro r9 sh9 FR9 IA9 LA9 n9 ⟨z0, z1, z2, z3, z4, z5⟩
        subst z0
        replace z1 := z1.symm
        subst z1
        replace z2 := z2.symm
        subst z2
        replace z3 := z3.symm
        subst z3
        replace z4 := z4.symm
        subst z4
        replace z5 := z5.symm
        subst z5
        refine And.intro (Or.inl rfl) ?_
        clear q1 p1
        by_cases e : M_bt LA I 0 (M_ro IA 0 (IA 65 (16 * 0 + k))) (IA 65 (16 * 0 + k)) x = M_bt LA I 1 (M_ro IA 1 (IA 65 (16 * 1 + k))) (IA 65 (16 * 1 + k)) x
        · rw [e]
          refine And.intro (fun d => ?_) (fun d => ?_)
          · clear d
            refine Exists.intro (((x + 1 : Nat) : Int)) (And.intro (by first | (rw [mj_w_id (by omega) (by omega)]; done) | (rw [mj_w_id (by omega) (by omega)]; omega) | (unfold mj_w; omega)) ?_)
            refine ih (x + 1) (by omega) (fun i hi => ?_)
            by_cases e2 : i = x
            · rw [e2, e]; simp
            · exact h2 i (by omega)
          · exact absurd rfl d
        · refine And.intro (fun d => ?_) (fun d => ?_)
          · exfalso
            revert e d
            cases M_bt LA I 0 (M_ro IA 0 (IA 65 (16 * 0 + k))) (IA 65 (16 * 0 + k)) x <;> cases M_bt LA I 1 (M_ro IA 1 (IA 65 (16 * 1 + k))) (IA 65 (16 * 1 + k)) x <;> decide
          · subst hQ
            exact ⟨⟨rfl, rfl, rfl, rfl, rfl, x, rfl, Or.inl ⟨x, rfl, Nat.zero_le _, by omega, by show (_ ^^ _) = true; revert e; cases M_bt LA I 0 (M_ro IA 0 (IA 65 (16 * 0 + k))) (IA 65 (16 * 0 + k)) x <;> cases M_bt LA I 1 (M_ro IA 1 (IA 65 (16 * 1 + k))) (IA 65 (16 * 1 + k)) x <;> decide, fun i i1 i2 => h2 i i2⟩⟩, Nat.le_of_ble_eq_true rfl, Nat.le_of_ble_eq_true rfl⟩
  refine mj_Ct_of (by decide +kernel) (by decide) (Nat.le_of_ble_eq_true rfl) ?_
  refine mj_go z_M_difference [2] 60 ?_
  exact loop (2 ^ I) 0 (by omega) (fun i hi => by omega)
end MM
