/-! THE REFERENCE: compare, witness, same -/
section MM
variable {sh : mj_Sh} {FR : mj_FR} {IA : mj_FI} {LA : mj_LA} {n : Nat}
theorem M_os.up {IA : mj_FI} {c O : Nat} {x : Int} (h : M_os IA c O) : M_os (mj_up IA 52 0 x) c O := fun k hk => by
  have := h k hk
  unfold M_st at *
  rw [mj_up_ne (show (65 : Nat) ≠ 52 by decide), mj_up_ne (show (66 : Nat) ≠ 52 by decide)]
  exact this
/-- words equal -/
def M_eq (LA : mj_LA) (I c r : Nat) (a : Int) (d s : Nat) (b : Int) : Prop := ∀ w, w < C_W I → M_lw LA I c r a w = M_lw LA I d s b w
/-- outputs k of the two are the same function -/
def M_oe (IA : mj_FI) (LA : mj_LA) (I k : Nat) : Prop := M_eq LA I 0 (M_ro IA 0 (IA 65 (16 * 0 + k))) (IA 65 (16 * 0 + k)) 1 (M_ro IA 1 (IA 65 (16 * 1 + k))) (IA 65 (16 * 1 + k))
set_option maxHeartbeats 1000000 in
theorem ct_M_compare (h : isM sh FR n) {I I2 O O2 : Nat} (hI : IA 55 0 = (I : Int)) (hI2 : I ≤ 14) (hJ : IA 55 1 = (I2 : Int)) (hJ2 : I2 ≤ 14) (hO : IA 57 0 = (O : Int)) (hO2 : O ≤ 16) (hP : IA 57 1 = (O2 : Int)) (hP2 : O2 ≤ 16) (hr : M_rr IA) (s0 : M_os IA 0 O) (s1 : M_os IA 1 O2) :
    mj_Ct m_M_compare [.inr (.inr (.inl 52))] sh FR IA LA n (mj_po (M_an IA (I = I2) (fun o => (¬ O = O2 ∧ o = .inl (some (.inl (-2)))) ∨ (O = O2 ∧ ((∃ k : Nat, o = .inl (some (.inl k)) ∧ k < O ∧ ¬ M_oe IA LA I k ∧ ∀ i, i < k → M_oe IA LA I i) ∨ (o = .inl (some (.inl (-1))) ∧ ∀ i, i < O → M_oe IA LA I i))))) sh FR LA n) := by
  by_cases hm : I = I2
  · subst hm
    generalize hQ : mj_po (M_an IA (I = I) (fun o => (¬ O = O2 ∧ o = .inl (some (.inl (-2)))) ∨ (O = O2 ∧ ((∃ k : Nat, o = .inl (some (.inl k)) ∧ k < O ∧ ¬ M_oe IA LA I k ∧ ∀ i, i < k → M_oe IA LA I i) ∨ (o = .inl (some (.inl (-1))) ∧ ∀ i, i < O → M_oe IA LA I i))))) sh FR LA n = Q
    have i5 : (mj_up IA 52 0 0) 55 0 = (I : Int) := by rw [mj_up_ne (by decide)]; exact hI
    have j5 : (mj_up IA 52 0 0) 55 1 = (I : Int) := by rw [mj_up_ne (by decide)]; exact hJ
    have o7 : (mj_up IA 52 0 0) 57 0 = (O : Int) := by rw [mj_up_ne (by decide)]; exact hO
    have p7 : (mj_up IA 52 0 0) 57 1 = (O2 : Int) := by rw [mj_up_ne (by decide)]; exact hP
    have loop : O = O2 → ∀ (t k : Nat), k + t = O → (∀ i, i < k → M_oe IA LA I i) → mj_G m_M_compare Q 42 [some (.inr (.inr (.inl 52))), some (.inl k)] [] sh FR (mj_up IA 52 0 0) LA n 0 0 := by
      intro hoo t
      induction t with
      | zero =>
        intro k hk hq
        subst hQ
        refine mj_go z_M_compare [42] 60 ?_
        refine And.intro h.o (Exists.intro _ (And.intro h.r7 ?_))
        refine Exists.intro _ (Exists.intro (0) (And.intro h.a7 (And.intro (by first | (rw [mj_w_id (by omega) (by omega)]; done) | (rw [mj_w_id (by omega) (by omega)]; omega) | (unfold mj_w; omega)) (And.intro (by omega) ?_))))
        rw [o7]
        refine And.intro (fun d => ?_) (fun d => ?_)
        · exact ⟨⟨rfl, rfl, rfl, rfl, Or.inl ⟨rfl, rfl, Or.inr ⟨hoo, Or.inr ⟨rfl, fun i hi => hq i (by omega)⟩⟩⟩⟩, Nat.le_of_ble_eq_true rfl, Nat.le_of_ble_eq_true rfl⟩
        · simp (disch := (clear d; omega)) only [mj_w_id] at d
          omega
      | succ t ih =>
        intro k hk hq
        have a0 := s0 k (by omega)
        have a1 := s1 k (by omega)
        obtain ⟨q1, q2⟩ := a0.row hr (by omega)
        obtain ⟨p1, p2⟩ := a1.row hr (by omega)
        refine mj_go z_M_compare [42] 60 ?_
        refine And.intro h.o (Exists.intro _ (And.intro h.r7 ?_))
        refine Exists.intro _ (Exists.intro (0) (And.intro h.a7 (And.intro (by first | (rw [mj_w_id (by omega) (by omega)]; done) | (rw [mj_w_id (by omega) (by omega)]; omega) | (unfold mj_w; omega)) (And.intro (by omega) ?_))))
        rw [o7]
        refine And.intro (fun d => ?_) (fun d => ?_)
        · clear q1 p1
          simp (disch := (clear d; omega)) only [mj_w_id] at d
          omega
        · clear d
          refine And.intro h.o (Exists.intro _ (And.intro h.r15 ?_))
          refine Exists.intro _ (Exists.intro (16 * 0 + k) (And.intro h.a15 (And.intro (by first | (rw [mj_w_id (by omega) (by omega)]; done) | (rw [mj_w_id (by omega) (by omega)]; omega) | (unfold mj_w; omega)) (And.intro (by omega) ?_))))
          refine And.intro h.o (Exists.intro _ (And.intro h.r15 ?_))
          refine Exists.intro (((16 * 1 + k : Nat) : Int)) (And.intro (by first | (rw [mj_w_id (by omega) (by omega)]; done) | (rw [mj_w_id (by omega) (by omega)]; omega) | (unfold mj_w; omega)) ?_)
          refine Exists.intro _ (Exists.intro (16 * 1 + k) (And.intro h.a15 (And.intro (by first | (rw [mj_w_id (by omega) (by omega)]; done) | (rw [mj_w_id (by omega) (by omega)]; omega) | (unfold mj_w; omega)) (And.intro (by omega) ?_))))
          rw [mj_up_ne (show (65 : Nat) ≠ 52 by decide)]
          refine And.intro h.o (And.intro (Nat.le_of_ble_eq_true rfl) (And.intro (Nat.le_of_ble_eq_true rfl) (And.intro (Nat.le_of_ble_eq_true rfl) (Exists.intro _ (And.intro (ct_M_areSame (c := 0) (d := 1) h (by omega) (by omega) i5 hI2 j5 hI2 a0.1 a0.2.1 (by rw [mj_up_ne (by decide)]; exact q1) q2 a1.1 a1.2.1 (by rw [mj_up_ne (by decide)]; exact p1) p2) ?_)))))
          rintro o1 sh9 FR9 J1 LA9 n9 ⟨z1, z2, z3, z4, hp1⟩
          replace z1 := z1.symm
          subst z1
          replace z2 := z2.symm
          subst z2
          replace z3 := z3.symm
          subst z3
          replace z4 := z4.symm
          subst z4
          obtain ⟨hj, hp1⟩ := hp1
          subst hj
          clear q1 p1
          rcases hp1 with ⟨ho, he⟩ | ⟨ho, he⟩
          · subst ho
            refine And.intro (Or.inl rfl) ?_
            refine And.intro (fun d => ?_) (fun d => ?_)
            · clear d
              refine Exists.intro (((k + 1 : Nat) : Int)) (And.intro (by first | (rw [mj_w_id (by omega) (by omega)]; done) | (rw [mj_w_id (by omega) (by omega)]; omega) | (unfold mj_w; omega)) ?_)
              refine ih (k + 1) (by omega) (fun i hi => ?_)
              by_cases e : i = k
              · rw [e]; exact he
              · exact hq i (by omega)
            · exact absurd d (by decide)
          · subst ho
            refine And.intro (Or.inl rfl) ?_
            refine And.intro (fun d => ?_) (fun d => ?_)
            · exact absurd (show mj_w 0 = 0 by decide) d
            · subst hQ
              exact ⟨⟨rfl, rfl, rfl, rfl, Or.inl ⟨rfl, rfl, Or.inr ⟨hoo, Or.inl ⟨k, rfl, by omega, he, hq⟩⟩⟩⟩, Nat.le_of_ble_eq_true rfl, Nat.le_of_ble_eq_true rfl⟩
    have hmt := ct_M_match (LA := LA) h hI hI2 hJ hI2
    rw [if_pos rfl] at hmt
    refine mj_Ct_of (by decide +kernel) (by decide) (Nat.le_of_ble_eq_true rfl) ?_
    refine mj_go z_M_compare [42] 60 ?_
    refine And.intro h.o (And.intro (Nat.le_of_ble_eq_true rfl) (And.intro (Nat.le_of_ble_eq_true rfl) (And.intro (Nat.le_of_ble_eq_true rfl) (Exists.intro _ (And.intro (hmt) ?_)))))
    rintro r9 sh9 FR9 IA9 LA9 n9 ⟨z0, z1, z2, z3, z4, z5⟩
    subst z0
    replace z1 := z1.symm
    subst z1
    replace z2 := z2.symm
    subst z2
    replace z3 := z3.symm
    subst z3
    replace z4 := z4.symm
    subst z4
    replace z5 := z5.symm
    subst z5
    refine And.intro (Or.inl rfl) ?_
    refine And.intro (fun d => ?_) (fun d => ?_)
    · clear d
      refine And.intro h.o (And.intro (Nat.le_of_ble_eq_true rfl) (And.intro (Nat.le_of_ble_eq_true rfl) (And.intro (Nat.le_of_ble_eq_true rfl) (Exists.intro _ (And.intro (ct_thr00 h) ?_)))))
      rintro r9 sh9 FR9 IA9 LA9 n9 ⟨z0, z1, z2, z3, z4, z5⟩
      subst z0
      replace z1 := z1.symm
      subst z1
      replace z2 := z2.symm
      subst z2
      replace z3 := z3.symm
      subst z3
      replace z4 := z4.symm
      subst z4
      replace z5 := z5.symm
      subst z5
      refine And.intro (Or.inl rfl) ?_
      refine And.intro (fun d => ?_) (fun d => ?_)
      · clear d
        refine And.intro h.o (Exists.intro _ (And.intro h.r7 ?_))
        refine Exists.intro _ (Exists.intro (0) (And.intro h.a7 (And.intro (by first | (rw [mj_w_id (by omega) (by omega)]; done) | (rw [mj_w_id (by omega) (by omega)]; omega) | (unfold mj_w; omega)) (And.intro (by omega) ?_))))
        refine And.intro h.o (Exists.intro _ (And.intro h.r7 ?_))
        refine Exists.intro _ (Exists.intro (1) (And.intro h.a7 (And.intro (by first | (rw [mj_w_id (by omega) (by omega)]; done) | (rw [mj_w_id (by omega) (by omega)]; omega) | (unfold mj_w; omega)) (And.intro (by omega) ?_))))
        rw [o7, p7]
        refine And.intro (fun d => ?_) (fun d => ?_)
        · simp (disch := (clear d; omega)) only [mj_w_id] at d
          exact loop (by omega) O 0 (by omega) (fun i hi => by omega)
        · simp (disch := (clear d; omega)) only [mj_w_id] at d
          subst hQ
          exact ⟨⟨rfl, rfl, rfl, rfl, Or.inl ⟨rfl, rfl, Or.inl ⟨by omega, rfl⟩⟩⟩, Nat.le_of_ble_eq_true rfl, Nat.le_of_ble_eq_true rfl⟩
      · exact absurd (show mj_w 0 = 0 by decide) d
    · exact absurd d (by decide)
  · have hmt := ct_M_match (LA := LA) h hI hI2 hJ hJ2
    rw [if_neg hm] at hmt
    refine mj_Ct_of (by decide +kernel) (by decide) (Nat.le_of_ble_eq_true rfl) ?_
    refine mj_go z_M_compare [] 60 ?_
    refine And.intro h.o (And.intro (Nat.le_of_ble_eq_true rfl) (And.intro (Nat.le_of_ble_eq_true rfl) (And.intro (Nat.le_of_ble_eq_true rfl) (Exists.intro _ (And.intro (hmt) ?_)))))
    rintro r9 sh9 FR9 IA9 LA9 n9 ⟨z0, z1, z2, z3, z4, z5⟩
    subst z0
    replace z1 := z1.symm
    subst z1
    replace z2 := z2.symm
    subst z2
    replace z3 := z3.symm
    subst z3
    replace z4 := z4.symm
    subst z4
    replace z5 := z5.symm
    subst z5
    refine And.intro (Or.inl rfl) ?_
    refine And.intro (fun d => ?_) (fun d => ?_)
    · exact absurd (show mj_w 0 = 0 by decide) d
    clear d
    refine And.intro h.o (And.intro (Nat.le_of_ble_eq_true rfl) (And.intro (Nat.le_of_ble_eq_true rfl) (And.intro (Nat.le_of_ble_eq_true rfl) (Exists.intro _ (And.intro (ct_thr10 h) ?_)))))
    rintro r9 sh9 FR9 IA9 LA9 n9 ⟨z0, z1, z2, z3, z4, z5⟩
    subst z0
    replace z1 := z1.symm
    subst z1
    replace z2 := z2.symm
    subst z2
    replace z3 := z3.symm
    subst z3
    replace z4 := z4.symm
    subst z4
    replace z5 := z5.symm
    subst z5
    refine And.intro (Or.inl rfl) ?_
    refine And.intro (fun d => ?_) (fun d => ?_)
    · exact absurd d (by decide)
    · exact ⟨⟨rfl, rfl, rfl, rfl, Or.inr ⟨hm, rfl, rfl⟩⟩, Nat.le_of_ble_eq_true rfl, Nat.le_of_ble_eq_true rfl⟩
set_option maxHeartbeats 1000000 in
theorem ct_M_witness (h : isM sh FR n) {I I2 O O2 : Nat} {k : Int} (hI : IA 55 0 = (I : Int)) (hI2 : I ≤ 14) (hJ : IA 55 1 = (I2 : Int)) (hJ2 : I2 ≤ 14) (hO : IA 57 0 = (O : Int)) (hO2 : O ≤ 16) (hP : IA 57 1 = (O2 : Int)) (hP2 : O2 ≤ 16) (hr : M_rr IA) (s0 : M_os IA 0 O) (s1 : M_os IA 1 O2) (ik : mj_i k) :
    mj_Ct m_M_witness [.inr (.inr (.inl 52)), .inl k] sh FR IA LA n (mj_po (M_a2 IA (I = I2) (0 ≤ k ∧ k < (O : Int) ∧ k < (O2 : Int)) (fun o => ∃ z, o = .inl (some (.inl z)) ∧ C_fst (fun v => M_bt LA I 0 (M_ro IA 0 (IA 65 (16 * 0 + k.toNat))) (IA 65 (16 * 0 + k.toNat)) v ^^ M_bt LA I 1 (M_ro IA 1 (IA 65 (16 * 1 + k.toNat))) (IA 65 (16 * 1 + k.toNat)) v) 0 (2 ^ I) z)) sh FR LA n) := by
  generalize hQ : mj_po (M_a2 IA (I = I2) (0 ≤ k ∧ k < (O : Int) ∧ k < (O2 : Int)) (fun o => ∃ z, o = .inl (some (.inl z)) ∧ C_fst (fun v => M_bt LA I 0 (M_ro IA 0 (IA 65 (16 * 0 + k.toNat))) (IA 65 (16 * 0 + k.toNat)) v ^^ M_bt LA I 1 (M_ro IA 1 (IA 65 (16 * 1 + k.toNat))) (IA 65 (16 * 1 + k.toNat)) v) 0 (2 ^ I) z)) sh FR LA n = Q
  obtain ⟨k1, k2⟩ := ik
  have fin : ∀ (a b : Int), (a = if I = I2 then 0 else 1) → (b = if 0 ≤ k ∧ k < (O : Int) ∧ k < (O2 : Int) then 0 else 1) → mj_G m_M_witness Q 42 [some (.inr (.inr (.inl 52))), some (.inl k)] [.inl b, .inl a, .inr (.inr (.inl 52))] sh FR IA LA n 0 0 := by
    intro a b ha hb
    by_cases z1 : I = I2
    · rw [if_pos z1] at ha
      subst ha
      by_cases z2 : 0 ≤ k ∧ k < (O : Int) ∧ k < (O2 : Int)
      · rw [if_pos z2] at hb
        subst hb
        subst z1
        obtain ⟨j, hj⟩ : ∃ j : Nat, k = (j : Int) := ⟨k.toNat, by omega⟩
        subst hj
        have a0 := s0.up (x := 0) j (by omega)
        have a1 := s1.up (x := 0) j (by omega)
        subst hQ
        refine mj_go z_M_witness [] 60 ?_
        refine And.intro h.o (And.intro (Nat.le_of_ble_eq_true rfl) (And.intro (Nat.le_of_ble_eq_true rfl) (And.intro (Nat.le_of_ble_eq_true rfl) (Exists.intro _ (And.intro (ct_thr00 h) ?_)))))
        rintro r9 sh9 FR9 IA9 LA9 n9 ⟨z0, z1, z2, z3, z4, z5⟩
        subst z0
        replace z1 := z1.symm
        subst z1
        replace z2 := z2.symm
        subst z2
        replace z3 := z3.symm
        subst z3
        replace z4 := z4.symm
        subst z4
        replace z5 := z5.symm
        subst z5
        refine And.intro (Or.inl rfl) ?_
        refine And.intro (fun d => ?_) (fun d => ?_)
        · clear d
          refine And.intro h.o (And.intro (Nat.le_of_ble_eq_true rfl) (And.intro (Nat.le_of_ble_eq_true rfl) (And.intro (Nat.le_of_ble_eq_true rfl) (Exists.intro _ (And.intro (ct_M_difference (I := I) (k := j) h (by rw [mj_up_ne (by decide)]; exact hI) (by rw [mj_up_ne (by decide)]; exact hJ) hI2 (by omega) hr.up a0 a1) ?_)))))
          rintro o1 sh9 FR9 J1 LA9 n9 ⟨z1, z2, z3, z4, hp1⟩
          replace z1 := z1.symm
          subst z1
          replace z2 := z2.symm
          subst z2
          replace z3 := z3.symm
          subst z3
          replace z4 := z4.symm
          subst z4
          obtain ⟨hj1, z, ho, hp1⟩ := hp1
          subst hj1
          subst ho
          refine And.intro (Or.inl rfl) ?_
          exact ⟨⟨rfl, rfl, rfl, rfl, Or.inl ⟨rfl, z2, rfl, z, rfl, hp1⟩⟩, Nat.le_of_ble_eq_true rfl, Nat.le_of_ble_eq_true rfl⟩
        · exact absurd (show mj_w 0 = 0 by decide) d
      · rw [if_neg z2] at hb
        subst hb
        subst hQ
        refine mj_go z_M_witness [] 60 ?_
        refine And.intro h.o (And.intro (Nat.le_of_ble_eq_true rfl) (And.intro (Nat.le_of_ble_eq_true rfl) (And.intro (Nat.le_of_ble_eq_true rfl) (Exists.intro _ (And.intro (ct_thr01 h) ?_)))))
        rintro r9 sh9 FR9 IA9 LA9 n9 ⟨z0, z1, z2, z3, z4, z5⟩
        subst z0
        replace z1 := z1.symm
        subst z1
        replace z2 := z2.symm
        subst z2
        replace z3 := z3.symm
        subst z3
        replace z4 := z4.symm
        subst z4
        replace z5 := z5.symm
        subst z5
        refine And.intro (Or.inl rfl) ?_
        refine And.intro (fun d => ?_) (fun d => ?_)
        · exact absurd d (by decide)
        · exact ⟨⟨rfl, rfl, rfl, rfl, Or.inr (Or.inr ⟨z1, z2, rfl, rfl⟩)⟩, Nat.le_of_ble_eq_true rfl, Nat.le_of_ble_eq_true rfl⟩
    · rw [if_neg z1] at ha
      subst ha
      subst hQ
      by_cases z2 : 0 ≤ k ∧ k < (O : Int) ∧ k < (O2 : Int)
      · rw [if_pos z2] at hb
        subst hb
        refine mj_go z_M_witness [] 60 ?_
        refine And.intro h.o (And.intro (Nat.le_of_ble_eq_true rfl) (And.intro (Nat.le_of_ble_eq_true rfl) (And.intro (Nat.le_of_ble_eq_true rfl) (Exists.intro _ (And.intro (ct_thr10 h) ?_)))))
        rintro r9 sh9 FR9 IA9 LA9 n9 ⟨z0, z1, z2, z3, z4, z5⟩
        subst z0
        replace z1 := z1.symm
        subst z1
        replace z2 := z2.symm
        subst z2
        replace z3 := z3.symm
        subst z3
        replace z4 := z4.symm
        subst z4
        replace z5 := z5.symm
        subst z5
        refine And.intro (Or.inl rfl) ?_
        refine And.intro (fun d => ?_) (fun d => ?_)
        · exact absurd d (by decide)
        · exact ⟨⟨rfl, rfl, rfl, rfl, Or.inr (Or.inl ⟨z1, rfl, rfl⟩)⟩, Nat.le_of_ble_eq_true rfl, Nat.le_of_ble_eq_true rfl⟩
      · rw [if_neg z2] at hb
        subst hb
        refine mj_go z_M_witness [] 60 ?_
        refine And.intro h.o (And.intro (Nat.le_of_ble_eq_true rfl) (And.intro (Nat.le_of_ble_eq_true rfl) (And.intro (Nat.le_of_ble_eq_true rfl) (Exists.intro _ (And.intro (ct_thr11 h) ?_)))))
        rintro r9 sh9 FR9 IA9 LA9 n9 ⟨z0, z1, z2, z3, z4, z5⟩
        subst z0
        replace z1 := z1.symm
        subst z1
        replace z2 := z2.symm
        subst z2
        replace z3 := z3.symm
        subst z3
        replace z4 := z4.symm
        subst z4
        replace z5 := z5.symm
        subst z5
        refine And.intro (Or.inl rfl) ?_
        refine And.intro (fun d => ?_) (fun d => ?_)
        · exact absurd d (by decide)
        · exact ⟨⟨rfl, rfl, rfl, rfl, Or.inr (Or.inl ⟨z1, rfl, rfl⟩)⟩, Nat.le_of_ble_eq_true rfl, Nat.le_of_ble_eq_true rfl⟩
  have mid : ∀ a : Int, (a = if I = I2 then 0 else 1) → mj_G m_M_witness Q 13 [some (.inr (.inr (.inl 52))), some (.inl k)] [.inl a, .inr (.inr (.inl 52))] sh FR IA LA n 0 0 := by
    intro a ha
    refine mj_go z_M_witness [42] 60 ?_
    refine And.intro (fun d => ?_) (fun d => ?_)
    · simp (disch := (clear d; omega)) only [mj_w_id] at d
      exact fin a 1 ha (by rw [if_neg (by omega)])
    · simp (disch := (clear d; omega)) only [mj_w_id] at d
      refine And.intro h.o (Exists.intro _ (And.intro h.r7 ?_))
      refine Exists.intro _ (Exists.intro (0) (And.intro h.a7 (And.intro (by first | (rw [mj_w_id (by omega) (by omega)]; done) | (rw [mj_w_id (by omega) (by omega)]; omega) | (unfold mj_w; omega)) (And.intro (by omega) ?_))))
      rw [hO]
      refine And.intro (fun e => ?_) (fun e => ?_)
      · simp (disch := (clear e; omega)) only [mj_w_id] at e
        exact fin a 1 ha (by rw [if_neg (by omega)])
      · simp (disch := (clear e; omega)) only [mj_w_id] at e
        refine And.intro h.o (Exists.intro _ (And.intro h.r7 ?_))
        refine Exists.intro _ (Exists.intro (1) (And.intro h.a7 (And.intro (by first | (rw [mj_w_id (by omega) (by omega)]; done) | (rw [mj_w_id (by omega) (by omega)]; omega) | (unfold mj_w; omega)) (And.intro (by omega) ?_))))
        rw [hP]
        refine And.intro (fun f => ?_) (fun f => ?_)
        · simp (disch := (clear f; omega)) only [mj_w_id] at f
          exact fin a 0 ha (by rw [if_pos (by omega)])
        · simp (disch := (clear f; omega)) only [mj_w_id] at f
          exact fin a 1 ha (by rw [if_neg (by omega)])
  have hmt := ct_M_match (LA := LA) h hI hI2 hJ hJ2
  refine mj_Ct_of (by decide +kernel) (by decide) (Nat.le_of_ble_eq_true rfl) ?_
  refine mj_go z_M_witness [13] 60 ?_
  refine And.intro h.o (And.intro (Nat.le_of_ble_eq_true rfl) (And.intro (Nat.le_of_ble_eq_true rfl) (And.intro (Nat.le_of_ble_eq_true rfl) (Exists.intro _ (And.intro (hmt) ?_)))))
  rintro r9 sh9 FR9 IA9 LA9 n9 ⟨z0, z1, z2, z3, z4, z5⟩
  subst z0
  replace z1 := z1.symm
  subst z1
  replace z2 := z2.symm
  subst z2
  replace z3 := z3.symm
  subst z3
  replace z4 := z4.symm
  subst z4
  replace z5 := z5.symm
  subst z5
  refine And.intro (Or.inl rfl) ?_
  by_cases hm : I = I2
  · rw [if_pos hm]
    refine And.intro (fun d => ?_) (fun d => ?_)
    · exact mid 0 (by rw [if_pos hm])
    · exact absurd d (by decide)
  · rw [if_neg hm]
    refine And.intro (fun d => ?_) (fun d => ?_)
    · exact absurd (show mj_w 0 = 0 by decide) d
    · exact mid 1 (by rw [if_neg hm])
/-- the literal with the other sign -/
def M_x1 (a : Int) : Int := if a % 2 = 0 then a + 1 else a - 1
theorem M_x1_st {IA : mj_FI} {c : Nat} {a : Int} (h : M_st IA c a) : M_st IA c (M_x1 a) ∧ M_ro IA c (M_x1 a) = M_ro IA c a := by
  obtain ⟨h1, h2, h3⟩ := h
  have e : M_x1 a / 2 = a / 2 := by unfold M_x1; split <;> omega
  unfold M_st M_ro
  rw [e]
  exact ⟨⟨by unfold M_x1; split <;> omega, by unfold M_x1; split <;> omega, h3⟩, rfl⟩
set_option maxHeartbeats 1000000 in
theorem ct_M_same (h : isM sh FR n) {I I2 : Nat} {a b : Int} (hI : IA 55 0 = (I : Int)) (hI2 : I ≤ 14) (hJ : IA 55 1 = (I2 : Int)) (hJ2 : I2 ≤ 14) (hr : M_rr IA) (ia : mj_i a) (ib : mj_i b) :
    mj_Ct m_M_same [.inr (.inr (.inl 52)), .inl a, .inl b] sh FR IA LA n (mj_po (M_a2 IA (M_st IA 0 a ∧ M_st IA 1 b) (I = I2) (fun o => (M_eq LA I 0 (M_ro IA 0 a) a 1 (M_ro IA 1 b) b ∧ o = .inl (some (.inl 1))) ∨ (¬ M_eq LA I 0 (M_ro IA 0 a) a 1 (M_ro IA 1 b) b ∧ M_eq LA I 0 (M_ro IA 0 a) a 1 (M_ro IA 1 b) (M_x1 b) ∧ o = .inl (some (.inl (-1)))) ∨ (¬ M_eq LA I 0 (M_ro IA 0 a) a 1 (M_ro IA 1 b) b ∧ ¬ M_eq LA I 0 (M_ro IA 0 a) a 1 (M_ro IA 1 b) (M_x1 b) ∧ o = .inl (some (.inl 0))))) sh FR LA n) := by
  generalize hQ : mj_po (M_a2 IA (M_st IA 0 a ∧ M_st IA 1 b) (I = I2) (fun o => (M_eq LA I 0 (M_ro IA 0 a) a 1 (M_ro IA 1 b) b ∧ o = .inl (some (.inl 1))) ∨ (¬ M_eq LA I 0 (M_ro IA 0 a) a 1 (M_ro IA 1 b) b ∧ M_eq LA I 0 (M_ro IA 0 a) a 1 (M_ro IA 1 b) (M_x1 b) ∧ o = .inl (some (.inl (-1)))) ∨ (¬ M_eq LA I 0 (M_ro IA 0 a) a 1 (M_ro IA 1 b) b ∧ ¬ M_eq LA I 0 (M_ro IA 0 a) a 1 (M_ro IA 1 b) (M_x1 b) ∧ o = .inl (some (.inl 0))))) sh FR LA n = Q
  have hmt := ct_M_match (LA := LA) h hI hI2 hJ hJ2
  have bad : ¬ (M_st IA 0 a ∧ M_st IA 1 b) → mj_G m_M_same Q 19 [some (.inr (.inr (.inl 52))), some (.inl a), some (.inl b)] [.inr (.inr (.inl 52))] sh FR IA LA n 0 0 := by
    intro hb
    subst hQ
    refine mj_go z_M_same [] 60 ?_
    refine And.intro h.o (And.intro (Nat.le_of_ble_eq_true rfl) (And.intro (Nat.le_of_ble_eq_true rfl) (And.intro (Nat.le_of_ble_eq_true rfl) (Exists.intro _ (And.intro (hmt) ?_)))))
    rintro r9 sh9 FR9 IA9 LA9 n9 ⟨z0, z1, z2, z3, z4, z5⟩
    subst z0
    replace z1 := z1.symm
    subst z1
    replace z2 := z2.symm
    subst z2
    replace z3 := z3.symm
    subst z3
    replace z4 := z4.symm
    subst z4
    replace z5 := z5.symm
    subst z5
    refine And.intro (Or.inl rfl) ?_
    by_cases hm : I = I2
    · rw [if_pos hm]
      refine And.intro (fun d => ?_) (fun d => ?_)
      · refine And.intro h.o (And.intro (Nat.le_of_ble_eq_true rfl) (And.intro (Nat.le_of_ble_eq_true rfl) (And.intro (Nat.le_of_ble_eq_true rfl) (Exists.intro _ (And.intro (ct_thr10 h) ?_)))))
        rintro r9 sh9 FR9 IA9 LA9 n9 ⟨z0, z1, z2, z3, z4, z5⟩
        subst z0
        replace z1 := z1.symm
        subst z1
        replace z2 := z2.symm
        subst z2
        replace z3 := z3.symm
        subst z3
        replace z4 := z4.symm
        subst z4
        replace z5 := z5.symm
        subst z5
        refine And.intro (Or.inl rfl) ?_
        refine And.intro (fun d => ?_) (fun d => ?_)
        · exact absurd d (by decide)
        · exact ⟨⟨rfl, rfl, rfl, rfl, Or.inr (Or.inl ⟨hb, rfl, rfl⟩)⟩, Nat.le_of_ble_eq_true rfl, Nat.le_of_ble_eq_true rfl⟩
      · exact absurd d (by decide)
    · rw [if_neg hm]
      refine And.intro (fun d => ?_) (fun d => ?_)
      · exact absurd (show mj_w 0 = 0 by decide) d
      · refine And.intro h.o (And.intro (Nat.le_of_ble_eq_true rfl) (And.intro (Nat.le_of_ble_eq_true rfl) (And.intro (Nat.le_of_ble_eq_true rfl) (Exists.intro _ (And.intro (ct_thr11 h) ?_)))))
        rintro r9 sh9 FR9 IA9 LA9 n9 ⟨z0, z1, z2, z3, z4, z5⟩
        subst z0
        replace z1 := z1.symm
        subst z1
        replace z2 := z2.symm
        subst z2
        replace z3 := z3.symm
        subst z3
        replace z4 := z4.symm
        subst z4
        replace z5 := z5.symm
        subst z5
        refine And.intro (Or.inl rfl) ?_
        refine And.intro (fun d => ?_) (fun d => ?_)
        · exact absurd d (by decide)
        · exact ⟨⟨rfl, rfl, rfl, rfl, Or.inr (Or.inl ⟨hb, rfl, rfl⟩)⟩, Nat.le_of_ble_eq_true rfl, Nat.le_of_ble_eq_true rfl⟩
  refine mj_Ct_of (by decide +kernel) (by decide) (Nat.le_of_ble_eq_true rfl) ?_
  refine mj_go z_M_same [19] 60 ?_
  by_cases z1 : M_st IA 0 a
  · refine And.intro h.o (And.intro (Nat.le_of_ble_eq_true rfl) (And.intro (Nat.le_of_ble_eq_true rfl) (And.intro (Nat.le_of_ble_eq_true rfl) (Exists.intro _ (And.intro ((ct_isL (c := 0) h (by omega) ia hr).1 z1) ?_)))))
    rintro r9 sh9 FR9 IA9 LA9 n9 ⟨z0, z1, z2, z3, z4, z5⟩
    subst z0
    replace z1 := z1.symm
    subst z1
    replace z2 := z2.symm
    subst z2
    replace z3 := z3.symm
    subst z3
    replace z4 := z4.symm
    subst z4
    replace z5 := z5.symm
    subst z5
    refine And.intro (Or.inl rfl) ?_
    refine And.intro (fun d => ?_) (fun d => ?_)
    · exact absurd d (by decide)
    clear d
    by_cases z2 : M_st IA 1 b
    · refine And.intro h.o (And.intro (Nat.le_of_ble_eq_true rfl) (And.intro (Nat.le_of_ble_eq_true rfl) (And.intro (Nat.le_of_ble_eq_true rfl) (Exists.intro _ (And.intro ((ct_isL (c := 1) h (by omega) ib hr).1 z2) ?_)))))
      rintro r9 sh9 FR9 IA9 LA9 n9 ⟨z0, z1, z2, z3, z4, z5⟩
      subst z0
      replace z1 := z1.symm
      subst z1
      replace z2 := z2.symm
      subst z2
      replace z3 := z3.symm
      subst z3
      replace z4 := z4.symm
      subst z4
      replace z5 := z5.symm
      subst z5
      refine And.intro (Or.inl rfl) ?_
      refine And.intro (fun d => ?_) (fun d => ?_)
      · clear d
        refine And.intro h.o (And.intro (Nat.le_of_ble_eq_true rfl) (And.intro (Nat.le_of_ble_eq_true rfl) (And.intro (Nat.le_of_ble_eq_true rfl) (Exists.intro _ (And.intro (hmt) ?_)))))
        rintro r9 sh9 FR9 IA9 LA9 n9 ⟨z0, z1, z2, z3, z4, z5⟩
        subst z0
        replace z1 := z1.symm
        subst z1
        replace z2 := z2.symm
        subst z2
        replace z3 := z3.symm
        subst z3
        replace z4 := z4.symm
        subst z4
        replace z5 := z5.symm
        subst z5
        refine And.intro (Or.inl rfl) ?_
        by_cases hm : I = I2
        · rw [if_pos hm]
          subst hm
          have i5 : (mj_up IA 52 0 0) 55 0 = (I : Int) := by rw [mj_up_ne (by decide)]; exact hI
          have j5 : (mj_up IA 52 0 0) 55 1 = (I : Int) := by rw [mj_up_ne (by decide)]; exact hJ
          obtain ⟨x1, x2⟩ := M_x1_st z2
          obtain ⟨q1, q2⟩ := z1.row hr (by omega)
          obtain ⟨p1, p2⟩ := z2.row hr (by omega)
          obtain ⟨y1, y2⟩ := x1.row hr (by omega)
          rw [x2] at y1 y2
          refine And.intro (fun d => ?_) (fun d => ?_)
          · clear d
            refine And.intro h.o (And.intro (Nat.le_of_ble_eq_true rfl) (And.intro (Nat.le_of_ble_eq_true rfl) (And.intro (Nat.le_of_ble_eq_true rfl) (Exists.intro _ (And.intro (ct_thr00 h) ?_)))))
            rintro r9 sh9 FR9 IA9 LA9 n9 ⟨z0, z1, z2, z3, z4, z5⟩
            subst z0
            replace z1 := z1.symm
            subst z1
            replace z2 := z2.symm
            subst z2
            replace z3 := z3.symm
            subst z3
            replace z4 := z4.symm
            subst z4
            replace z5 := z5.symm
            subst z5
            refine And.intro (Or.inl rfl) ?_
            refine And.intro (fun d => ?_) (fun d => ?_)
            · clear d
              refine And.intro h.o (And.intro (Nat.le_of_ble_eq_true rfl) (And.intro (Nat.le_of_ble_eq_true rfl) (And.intro (Nat.le_of_ble_eq_true rfl) (Exists.intro _ (And.intro (ct_M_areSame (c := 0) (d := 1) h (by omega) (by omega) i5 hI2 j5 hI2 z1.1 z1.2.1 (by rw [mj_up_ne (by decide)]; exact q1) q2 z2.1 z2.2.1 (by rw [mj_up_ne (by decide)]; exact p1) p2) ?_)))))
              rintro o1 sh9 FR9 J1 LA9 n9 ⟨z1, z2, z3, z4, hp1⟩
              replace z1 := z1.symm
              subst z1
              replace z2 := z2.symm
              subst z2
              replace z3 := z3.symm
              subst z3
              replace z4 := z4.symm
              subst z4
              obtain ⟨hj, hp1⟩ := hp1
              subst hj
              rcases hp1 with ⟨ho, he⟩ | ⟨ho, he⟩
              · subst ho
                refine And.intro (Or.inl rfl) ?_
                refine And.intro (fun d => ?_) (fun d => ?_)
                · exact absurd d (by decide)
                · subst hQ
                  exact ⟨⟨rfl, rfl, rfl, rfl, Or.inl ⟨⟨z1, z2⟩, rfl, rfl, Or.inl ⟨he, rfl⟩⟩⟩, Nat.le_of_ble_eq_true rfl, Nat.le_of_ble_eq_true rfl⟩
              · subst ho
                refine And.intro (Or.inl rfl) ?_
                refine And.intro (fun d => ?_) (fun d => ?_)
                · clear d
                  refine Exists.intro (M_x1 b) (And.intro ((nu_xorb z2.1 (by have := z2.2.1; omega) (Or.inr rfl)).trans (by rw [if_neg (by decide)]; rfl)) ?_)
                  refine And.intro h.o (And.intro (Nat.le_of_ble_eq_true rfl) (And.intro (Nat.le_of_ble_eq_true rfl) (And.intro (Nat.le_of_ble_eq_true rfl) (Exists.intro _ (And.intro (ct_M_areSame (c := 0) (d := 1) h (by omega) (by omega) i5 hI2 j5 hI2 z1.1 z1.2.1 (by rw [mj_up_ne (by decide)]; exact q1) q2 x1.1 x1.2.1 (by rw [mj_up_ne (by decide)]; exact y1) y2) ?_)))))
                  rintro o2 sh9 FR9 J2 LA9 n9 ⟨z1, z2, z3, z4, hp2⟩
                  replace z1 := z1.symm
                  subst z1
                  replace z2 := z2.symm
                  subst z2
                  replace z3 := z3.symm
                  subst z3
                  replace z4 := z4.symm
                  subst z4
                  obtain ⟨hj, hp2⟩ := hp2
                  subst hj
                  rcases hp2 with ⟨ho, he2⟩ | ⟨ho, he2⟩
                  · subst ho
                    refine And.intro (Or.inl rfl) ?_
                    refine And.intro (fun d => ?_) (fun d => ?_)
                    · exact absurd d (by decide)
                    · subst hQ
                      exact ⟨⟨rfl, rfl, rfl, rfl, Or.inl ⟨⟨z1, z2⟩, rfl, rfl, Or.inr (Or.inl ⟨he, he2, rfl⟩)⟩⟩, Nat.le_of_ble_eq_true rfl, Nat.le_of_ble_eq_true rfl⟩
                  · subst ho
                    refine And.intro (Or.inl rfl) ?_
                    refine And.intro (fun d => ?_) (fun d => ?_)
                    · subst hQ
                      exact ⟨⟨rfl, rfl, rfl, rfl, Or.inl ⟨⟨z1, z2⟩, rfl, rfl, Or.inr (Or.inr ⟨he, he2, rfl⟩)⟩⟩, Nat.le_of_ble_eq_true rfl, Nat.le_of_ble_eq_true rfl⟩
                    · exact absurd (show mj_w 0 = 0 by decide) d
                · exact absurd (show mj_w 0 = 0 by decide) d
            · exact absurd (show mj_w 0 = 0 by decide) d
          · exact absurd d (by decide)
        · rw [if_neg hm]
          subst hQ
          refine And.intro (fun d => ?_) (fun d => ?_)
          · exact absurd (show mj_w 0 = 0 by decide) d
          · refine And.intro h.o (And.intro (Nat.le_of_ble_eq_true rfl) (And.intro (Nat.le_of_ble_eq_true rfl) (And.intro (Nat.le_of_ble_eq_true rfl) (Exists.intro _ (And.intro (ct_thr01 h) ?_)))))
            rintro r9 sh9 FR9 IA9 LA9 n9 ⟨z0, z1, z2, z3, z4, z5⟩
            subst z0
            replace z1 := z1.symm
            subst z1
            replace z2 := z2.symm
            subst z2
            replace z3 := z3.symm
            subst z3
            replace z4 := z4.symm
            subst z4
            replace z5 := z5.symm
            subst z5
            refine And.intro (Or.inl rfl) ?_
            refine And.intro (fun d => ?_) (fun d => ?_)
            · exact absurd d (by decide)
            · exact ⟨⟨rfl, rfl, rfl, rfl, Or.inr (Or.inr ⟨⟨z1, z2⟩, hm, rfl, rfl⟩)⟩, Nat.le_of_ble_eq_true rfl, Nat.le_of_ble_eq_true rfl⟩
      · exact absurd d (by decide)
    · refine And.intro h.o (And.intro (Nat.le_of_ble_eq_true rfl) (And.intro (Nat.le_of_ble_eq_true rfl) (And.intro (Nat.le_of_ble_eq_true rfl) (Exists.intro _ (And.intro ((ct_isL (c := 1) h (by omega) ib hr).2 z2) ?_)))))
      rintro r9 sh9 FR9 IA9 LA9 n9 ⟨z0, z1, z2, z3, z4, z5⟩
      subst z0
      replace z1 := z1.symm
      subst z1
      replace z2 := z2.symm
      subst z2
      replace z3 := z3.symm
      subst z3
      replace z4 := z4.symm
      subst z4
      replace z5 := z5.symm
      subst z5
      refine And.intro (Or.inl rfl) ?_
      refine And.intro (fun d => ?_) (fun d => ?_)
      · exact absurd (show mj_w 0 = 0 by decide) d
      · exact bad (fun z => z2 z.2)
  · refine And.intro h.o (And.intro (Nat.le_of_ble_eq_true rfl) (And.intro (Nat.le_of_ble_eq_true rfl) (And.intro (Nat.le_of_ble_eq_true rfl) (Exists.intro _ (And.intro ((ct_isL (c := 0) h (by omega) ia hr).2 z1) ?_)))))
    rintro r9 sh9 FR9 IA9 LA9 n9 ⟨z0, z1, z2, z3, z4, z5⟩
    subst z0
    replace z1 := z1.symm
    subst z1
    replace z2 := z2.symm
    subst z2
    replace z3 := z3.symm
    subst z3
    replace z4 := z4.symm
    subst z4
    replace z5 := z5.symm
    subst z5
    refine And.intro (Or.inl rfl) ?_
    refine And.intro (fun d => ?_) (fun d => ?_)
    · exact bad (fun z => z1 z.1)
    · exact absurd (show mj_w 0 = 0 by decide) d
end MM
