/-! THE REFERENCE: depends, rises -/
theorem nu_xorN {a b : Nat} (ha : a < 2147483648) (hb : b < 2147483648) : (Int32.ofInt (a : Int) ^^^ Int32.ofInt (b : Int)).toInt = ((a ^^^ b : Nat) : Int) := by
  have h1 := nu_ofInt_toNat (a : Int)
  have h2 := nu_ofInt_toNat (b : Int)
  have e1 : (Int32.ofInt (a : Int)).toBitVec.toNat = a := by omega
  have e2 : (Int32.ofInt (b : Int)).toBitVec.toNat = b := by omega
  have e3 : ((Int32.ofInt (a : Int)).toBitVec ^^^ (Int32.ofInt (b : Int)).toBitVec).toNat = a ^^^ b := by rw [BitVec.toNat_xor, e1, e2]
  have h3 : a ^^^ b < 2 ^ 31 := Nat.xor_lt_two_pow (by omega) (by omega)
  show ((Int32.ofInt (a : Int)).toBitVec ^^^ (Int32.ofInt (b : Int)).toBitVec).toInt = _
  rw [nu_toInt_small (by rw [e3]; omega), e3]
theorem nu_orN {a b : Nat} (ha : a < 2147483648) (hb : b < 2147483648) : (Int32.ofInt (a : Int) ||| Int32.ofInt (b : Int)).toInt = ((a ||| b : Nat) : Int) := by
  have h1 := nu_ofInt_toNat (a : Int)
  have h2 := nu_ofInt_toNat (b : Int)
  have e1 : (Int32.ofInt (a : Int)).toBitVec.toNat = a := by omega
  have e2 : (Int32.ofInt (b : Int)).toBitVec.toNat = b := by omega
  have e3 : ((Int32.ofInt (a : Int)).toBitVec ||| (Int32.ofInt (b : Int)).toBitVec).toNat = a ||| b := by rw [BitVec.toNat_or, e1, e2]
  have h3 : a ||| b < 2 ^ 31 := Nat.or_lt_two_pow (by omega) (by omega)
  show ((Int32.ofInt (a : Int)).toBitVec ||| (Int32.ofInt (b : Int)).toBitVec).toInt = _
  rw [nu_toInt_small (by rw [e3]; omega), e3]
theorem or_pow {x k : Nat} (h : x / 2 ^ k % 2 = 0) : x ||| 2 ^ k = x + 2 ^ k := by
  have hp := Nat.two_pow_pos k
  have e1 : x = 2 ^ (k + 1) * (x / 2 ^ (k + 1)) + x % 2 ^ k := by
    have a1 := Nat.div_add_mod x (2 ^ k)
    have a2 : x / 2 ^ (k + 1) = x / 2 ^ k / 2 := by rw [Nat.pow_succ, Nat.div_div_eq_div_mul]
    have a3 : x / 2 ^ k = 2 * (x / 2 ^ k / 2) := by omega
    rw [a2, Nat.pow_succ, Nat.mul_assoc, ← a3]
    exact a1.symm
  have hm := Nat.mod_lt x hp
  generalize x / 2 ^ (k + 1) = q at e1
  generalize x % 2 ^ k = r at e1 hm
  subst e1
  have b1 : 2 ^ (k + 1) * q + r = 2 ^ (k + 1) * q ||| r := Nat.two_pow_add_eq_or_of_lt (by rw [Nat.pow_succ]; omega) q
  have b2 : 2 ^ (k + 1) * q + 2 ^ k = 2 ^ (k + 1) * q ||| 2 ^ k := Nat.two_pow_add_eq_or_of_lt (by rw [Nat.pow_succ]; omega) q
  have b3 : 2 ^ k * (2 * q + 1) + r = 2 ^ k * (2 * q + 1) ||| r := Nat.two_pow_add_eq_or_of_lt hm (2 * q + 1)
  have b4 : 2 ^ (k + 1) * q + 2 ^ k = 2 ^ k * (2 * q + 1) := by rw [Nat.pow_succ, Nat.mul_add, Nat.mul_assoc, Nat.mul_one]
  rw [b1, Nat.or_assoc, Nat.or_comm r, ← Nat.or_assoc, ← b2, b4, ← b3, ← b4, ← b1]
  omega
theorem xor_pow {x k : Nat} (h : x / 2 ^ k % 2 = 0) : x ^^^ 2 ^ k = x + 2 ^ k := by
  rw [← or_pow h]
  apply Nat.eq_of_testBit_eq
  intro i
  rw [Nat.testBit_xor, Nat.testBit_or, Nat.testBit_two_pow]
  by_cases e : k = i
  · subst e
    have : x.testBit k = false := by
      rw [Nat.testBit_eq_decide_div_mod_eq]
      simp
      omega
    rw [this]
    simp
  · simp [e]
/-- x with its bit k the other way -/
def M_fl (x k : Nat) : Nat := if x / 2 ^ k % 2 = 0 then x + 2 ^ k else x - 2 ^ k
theorem xor_fl {x k : Nat} : x ^^^ 2 ^ k = M_fl x k := by
  unfold M_fl
  split
  · next c => exact xor_pow c
  · next c =>
    have hp := Nat.two_pow_pos k
    have hle : 2 ^ k ≤ x := by
      apply Classical.byContradiction
      intro z
      rw [Nat.div_eq_of_lt (by omega)] at c
      omega
    have e : (x - 2 ^ k) / 2 ^ k = x / 2 ^ k - 1 := by
      have := Nat.sub_mul_div x (2 ^ k) 1
      rw [Nat.mul_one] at this
      exact this
    have h0 : (x - 2 ^ k) / 2 ^ k % 2 = 0 := by
      rw [e]
      omega
    have := xor_pow h0
    rw [show x - 2 ^ k + 2 ^ k = x by omega] at this
    rw [← this, Nat.xor_assoc, Nat.xor_self, Nat.xor_zero]
    omega
theorem M_fl_lt {x k I : Nat} (hx : x < 2 ^ I) (hk : k < I) : M_fl x k < 2 ^ I := by
  rw [← xor_fl]
  exact Nat.xor_lt_two_pow hx (Nat.pow_lt_pow_right (by decide) hk)
section MM
variable {sh : mj_Sh} {FR : mj_FR} {IA : mj_FI} {LA : mj_LA} {n : Nat}
set_option maxHeartbeats 1000000 in
theorem ct_lack (h : isM sh FR n) {c I : Nat} {lit k : Int} (hc : c < 2) (hI : IA 55 c = (I : Int)) (hI2 : I ≤ 14) (il : mj_i lit) (ik : mj_i k) (hr : M_rr IA) :
    (¬ M_st IA c lit → mj_Ct m_M_lacksInput [.inr (.inr (.inl 52)), .inl c, .inl lit, .inl k] sh FR IA LA n (mj_pu (.inl (some (.inl 1))) sh FR (mj_up IA 52 0 1) LA n)) ∧
    (M_st IA c lit → ¬ (0 ≤ k ∧ k < (I : Int)) → mj_Ct m_M_lacksInput [.inr (.inr (.inl 52)), .inl c, .inl lit, .inl k] sh FR IA LA n (mj_pu (.inl (some (.inl 1))) sh FR (mj_up IA 52 0 2) LA n)) ∧
    (M_st IA c lit → (0 ≤ k ∧ k < (I : Int)) → mj_Ct m_M_lacksInput [.inr (.inr (.inl 52)), .inl c, .inl lit, .inl k] sh FR IA LA n (mj_pu (.inl (some (.inl 0))) sh FR (mj_up IA 52 0 0) LA n)) := by
  obtain ⟨k1, k2⟩ := ik
  refine ⟨fun z1 => ?_, fun z1 z2 => ?_, fun z1 z2 => ?_⟩
  · refine mj_Ct_of (by decide +kernel) (by decide) (Nat.le_of_ble_eq_true rfl) ?_
    refine mj_go z_M_lacksInput [] 60 ?_
    refine And.intro (by trivial) (And.intro (Nat.le_of_ble_eq_true rfl) (And.intro (Nat.le_of_ble_eq_true rfl) (And.intro (Nat.le_of_ble_eq_true rfl) (Exists.intro _ (And.intro (ct_isC1 hc) ?_)))))
    rintro r9 sh9 FR9 IA9 LA9 n9 ⟨z0, z1, z2, z3, z4, z5⟩
    subst z0
    replace z1 := z1.symm
    subst z1
    replace z2 := z2.symm
    subst z2
    replace z3 := z3.symm
    subst z3
    replace z4 := z4.symm
    subst z4
    replace z5 := z5.symm
    subst z5
    refine And.intro (Or.inl rfl) ?_
    refine And.intro (fun d => ?_) (fun d => ?_)
    · exact absurd d (by decide)
    clear d
    refine And.intro h.o (And.intro (Nat.le_of_ble_eq_true rfl) (And.intro (Nat.le_of_ble_eq_true rfl) (And.intro (Nat.le_of_ble_eq_true rfl) (Exists.intro _ (And.intro ((ct_isL h (by omega) il hr).2 z1) ?_)))))
    rintro r9 sh9 FR9 IA9 LA9 n9 ⟨z0, z1, z2, z3, z4, z5⟩
    subst z0
    replace z1 := z1.symm
    subst z1
    replace z2 := z2.symm
    subst z2
    replace z3 := z3.symm
    subst z3
    replace z4 := z4.symm
    subst z4
    replace z5 := z5.symm
    subst z5
    refine And.intro (Or.inl rfl) ?_
    refine And.intro (fun d => ?_) (fun d => ?_)
    · exact absurd (show mj_w 0 = 0 by decide) d
    clear d
    refine And.intro (fun d => ?_) (fun d => ?_)
    · refine And.intro h.o (And.intro (Nat.le_of_ble_eq_true rfl) (And.intro (Nat.le_of_ble_eq_true rfl) (And.intro (Nat.le_of_ble_eq_true rfl) (Exists.intro _ (And.intro (ct_thr10 h) ?_)))))
      rintro r9 sh9 FR9 IA9 LA9 n9 ⟨z0, z1, z2, z3, z4, z5⟩
      subst z0
      replace z1 := z1.symm
      subst z1
      replace z2 := z2.symm
      subst z2
      replace z3 := z3.symm
      subst z3
      replace z4 := z4.symm
      subst z4
      replace z5 := z5.symm
      subst z5
      refine And.intro (Or.inl rfl) ?_
      exact ⟨Or.inr rfl, ⟨rfl, rfl, rfl, rfl, rfl, rfl⟩, Nat.le_of_ble_eq_true rfl, Nat.le_of_ble_eq_true rfl⟩
    · exact absurd d (by decide)
  · refine mj_Ct_of (by decide +kernel) (by decide) (Nat.le_of_ble_eq_true rfl) ?_
    refine mj_go z_M_lacksInput [45] 60 ?_
    refine And.intro (by trivial) (And.intro (Nat.le_of_ble_eq_true rfl) (And.intro (Nat.le_of_ble_eq_true rfl) (And.intro (Nat.le_of_ble_eq_true rfl) (Exists.intro _ (And.intro (ct_isC1 hc) ?_)))))
    rintro r9 sh9 FR9 IA9 LA9 n9 ⟨z0, z1, z2, z3, z4, z5⟩
    subst z0
    replace z1 := z1.symm
    subst z1
    replace z2 := z2.symm
    subst z2
    replace z3 := z3.symm
    subst z3
    replace z4 := z4.symm
    subst z4
    replace z5 := z5.symm
    subst z5
    refine And.intro (Or.inl rfl) ?_
    refine And.intro (fun d => ?_) (fun d => ?_)
    · exact absurd d (by decide)
    clear d
    refine And.intro h.o (And.intro (Nat.le_of_ble_eq_true rfl) (And.intro (Nat.le_of_ble_eq_true rfl) (And.intro (Nat.le_of_ble_eq_true rfl) (Exists.intro _ (And.intro ((ct_isL h (by omega) il hr).1 z1) ?_)))))
    rintro r9 sh9 FR9 IA9 LA9 n9 ⟨z0, z1, z2, z3, z4, z5⟩
    subst z0
    replace z1 := z1.symm
    subst z1
    replace z2 := z2.symm
    subst z2
    replace z3 := z3.symm
    subst z3
    replace z4 := z4.symm
    subst z4
    replace z5 := z5.symm
    subst z5
    refine And.intro (Or.inl rfl) ?_
    have q45 : mj_G m_M_lacksInput (mj_pu (.inl (some (.inl 1))) sh FR (mj_up IA 52 0 2) LA n) 45 [some (.inr (.inr (.inl 52))), some (.inl c), some (.inl lit), some (.inl k), some (.inl 0)] [.inl 0, .inr (.inr (.inl 52))] sh FR IA LA n 0 0 := by
      refine mj_go z_M_lacksInput [] 60 ?_
      refine And.intro h.o (And.intro (Nat.le_of_ble_eq_true rfl) (And.intro (Nat.le_of_ble_eq_true rfl) (And.intro (Nat.le_of_ble_eq_true rfl) (Exists.intro _ (And.intro (ct_thr01 h) ?_)))))
      rintro r9 sh9 FR9 IA9 LA9 n9 ⟨z0, z1, z2, z3, z4, z5⟩
      subst z0
      replace z1 := z1.symm
      subst z1
      replace z2 := z2.symm
      subst z2
      replace z3 := z3.symm
      subst z3
      replace z4 := z4.symm
      subst z4
      replace z5 := z5.symm
      subst z5
      refine And.intro (Or.inl rfl) ?_
      exact ⟨Or.inr rfl, ⟨rfl, rfl, rfl, rfl, rfl, rfl⟩, Nat.le_of_ble_eq_true rfl, Nat.le_of_ble_eq_true rfl⟩
    refine And.intro (fun d => ?_) (fun d => ?_)
    · clear d
      refine And.intro (fun d => ?_) (fun d => ?_)
      · exact absurd (show mj_w 0 = 0 by decide) d
      clear d
      refine And.intro (fun d => ?_) (fun d => ?_)
      · exact q45
      · simp (disch := (clear d; omega)) only [mj_w_id] at d
        refine And.intro h.o (Exists.intro _ (And.intro h.r5 ?_))
        refine Exists.intro _ (Exists.intro (c) (And.intro h.a5 (And.intro (by first | (rw [mj_w_id (by omega) (by omega)]; done) | (rw [mj_w_id (by omega) (by omega)]; omega) | (unfold mj_w; omega)) (And.intro (by omega) ?_))))
        rw [hI]
        refine And.intro (fun e => ?_) (fun e => ?_)
        · simp (disch := (clear e; omega)) only [mj_w_id] at e
          omega
        · exact q45
    · exact absurd d (by decide)
  · refine mj_Ct_of (by decide +kernel) (by decide) (Nat.le_of_ble_eq_true rfl) ?_
    refine mj_go z_M_lacksInput [] 60 ?_
    refine And.intro (by trivial) (And.intro (Nat.le_of_ble_eq_true rfl) (And.intro (Nat.le_of_ble_eq_true rfl) (And.intro (Nat.le_of_ble_eq_true rfl) (Exists.intro _ (And.intro (ct_isC1 hc) ?_)))))
    rintro r9 sh9 FR9 IA9 LA9 n9 ⟨z0, z1, z2, z3, z4, z5⟩
    subst z0
    replace z1 := z1.symm
    subst z1
    replace z2 := z2.symm
    subst z2
    replace z3 := z3.symm
    subst z3
    replace z4 := z4.symm
    subst z4
    replace z5 := z5.symm
    subst z5
    refine And.intro (Or.inl rfl) ?_
    refine And.intro (fun d => ?_) (fun d => ?_)
    · exact absurd d (by decide)
    clear d
    refine And.intro h.o (And.intro (Nat.le_of_ble_eq_true rfl) (And.intro (Nat.le_of_ble_eq_true rfl) (And.intro (Nat.le_of_ble_eq_true rfl) (Exists.intro _ (And.intro ((ct_isL h (by omega) il hr).1 z1) ?_)))))
    rintro r9 sh9 FR9 IA9 LA9 n9 ⟨z0, z1, z2, z3, z4, z5⟩
    subst z0
    replace z1 := z1.symm
    subst z1
    replace z2 := z2.symm
    subst z2
    replace z3 := z3.symm
    subst z3
    replace z4 := z4.symm
    subst z4
    replace z5 := z5.symm
    subst z5
    refine And.intro (Or.inl rfl) ?_
    refine And.intro (fun d => ?_) (fun d => ?_)
    · clear d
      refine And.intro (fun d => ?_) (fun d => ?_)
      · exact absurd (show mj_w 0 = 0 by decide) d
      clear d
      refine And.intro (fun d => ?_) (fun d => ?_)
      · simp (disch := (clear d; omega)) only [mj_w_id] at d
        omega
      · clear d
        refine And.intro h.o (Exists.intro _ (And.intro h.r5 ?_))
        refine Exists.intro _ (Exists.intro (c) (And.intro h.a5 (And.intro (by first | (rw [mj_w_id (by omega) (by omega)]; done) | (rw [mj_w_id (by omega) (by omega)]; omega) | (unfold mj_w; omega)) (And.intro (by omega) ?_))))
        rw [hI]
        refine And.intro (fun e => ?_) (fun e => ?_)
        · refine And.intro h.o (And.intro (Nat.le_of_ble_eq_true rfl) (And.intro (Nat.le_of_ble_eq_true rfl) (And.intro (Nat.le_of_ble_eq_true rfl) (Exists.intro _ (And.intro (ct_thr00 h) ?_)))))
          rintro r9 sh9 FR9 IA9 LA9 n9 ⟨z0, z1, z2, z3, z4, z5⟩
          subst z0
          replace z1 := z1.symm
          subst z1
          replace z2 := z2.symm
          subst z2
          replace z3 := z3.symm
          subst z3
          replace z4 := z4.symm
          subst z4
          replace z5 := z5.symm
          subst z5
          refine And.intro (Or.inl rfl) ?_
          exact ⟨Or.inl rfl, ⟨rfl, rfl, rfl, rfl, rfl, rfl⟩, Nat.le_of_ble_eq_true rfl, Nat.le_of_ble_eq_true rfl⟩
        · simp (disch := (clear e; omega)) only [mj_w_id] at e
          omega
    · exact absurd d (by decide)
/-- an answer, or one of two refusals -/
def M_a2 (IA : mj_FI) (ok ok2 : Prop) (P : mj_O → Prop) (o : mj_O) (J : mj_FI) : Prop := (ok ∧ ok2 ∧ J = mj_up IA 52 0 0 ∧ P o) ∨ (¬ ok ∧ J = mj_up IA 52 0 1 ∧ o = .inl (some (.inl 0))) ∨ (ok ∧ ¬ ok2 ∧ J = mj_up IA 52 0 2 ∧ o = .inl (some (.inl 0)))
set_option maxHeartbeats 1000000 in
theorem ct_M_depends (h : isM sh FR n) {c I : Nat} {lit k : Int} (hc : c < 2) (hI : IA 55 c = (I : Int)) (hI2 : I ≤ 14) (il : mj_i lit) (ik : mj_i k) (hr : M_rr IA) :
    mj_Ct m_M_depends [.inr (.inr (.inl 52)), .inl c, .inl lit, .inl k] sh FR IA LA n (mj_po (M_a2 IA (M_st IA c lit) (0 ≤ k ∧ k < (I : Int)) (fun o => (o = .inl (some (.inl 1)) ∧ ¬ ∀ x, x < 2 ^ I → M_bt LA I c (M_ro IA c lit) lit x = M_bt LA I c (M_ro IA c lit) lit (M_fl x k.toNat)) ∨ (o = .inl (some (.inl 0)) ∧ ∀ x, x < 2 ^ I → M_bt LA I c (M_ro IA c lit) lit x = M_bt LA I c (M_ro IA c lit) lit (M_fl x k.toNat)))) sh FR LA n) := by
  have hp := pw_le hI2
  by_cases z1 : M_st IA c lit
  · by_cases z2 : 0 ≤ k ∧ k < (I : Int)
    · obtain ⟨q1, q2⟩ := z1.row hr (by omega)
      obtain ⟨j, hj⟩ : ∃ j : Nat, k = (j : Int) := ⟨k.toNat, by omega⟩
      subst hj
      rw [show ((j : Int)).toNat = j by omega]
      generalize hQ : mj_po (M_a2 IA (M_st IA c lit) (0 ≤ (j : Int) ∧ (j : Int) < (I : Int)) (fun o => (o = .inl (some (.inl 1)) ∧ ¬ ∀ x, x < 2 ^ I → M_bt LA I c (M_ro IA c lit) lit x = M_bt LA I c (M_ro IA c lit) lit (M_fl x j)) ∨ (o = .inl (some (.inl 0)) ∧ ∀ x, x < 2 ^ I → M_bt LA I c (M_ro IA c lit) lit x = M_bt LA I c (M_ro IA c lit) lit (M_fl x j)))) sh FR LA n = Q
      have i5 : (mj_up IA 52 0 0) 55 c = (I : Int) := by rw [mj_up_ne (by decide)]; exact hI
      have hpj : 2 ^ j ≤ 16384 := (pw_le (I := j) (by omega)).2
      have loop : ∀ (t x : Nat), x + t = 2 ^ I → (∀ i, i < x → M_bt LA I c (M_ro IA c lit) lit i = M_bt LA I c (M_ro IA c lit) lit (M_fl i j)) → mj_G m_M_depends Q 15 [some (.inr (.inr (.inl 52))), some (.inl c), some (.inl lit), some (.inl j), some (.inl x)] [] sh FR (mj_up IA 52 0 0) LA n 0 0 := by
        intro t
        induction t with
        | zero =>
          intro x hx hh
          subst hQ
          refine mj_go z_M_depends [15] 60 ?_
          refine And.intro h.o (Exists.intro _ (And.intro h.r5 ?_))
          refine Exists.intro _ (Exists.intro (c) (And.intro h.a5 (And.intro (by first | (rw [mj_w_id (by omega) (by omega)]; done) | (rw [mj_w_id (by omega) (by omega)]; omega) | (unfold mj_w; omega)) (And.intro (by omega) ?_))))
          rw [i5]
          refine Exists.intro (((2 ^ I : Nat) : Int)) (And.intro (nu_shl1 ⟨I, by omega⟩) ?_)
          refine And.intro (fun d => ?_) (fun d => ?_)
          · exact ⟨Or.inl rfl, ⟨rfl, rfl, rfl, rfl, Or.inl ⟨z1, z2, rfl, Or.inr ⟨rfl, fun i hi => hh i (by omega)⟩⟩⟩, Nat.le_of_ble_eq_true rfl, Nat.le_of_ble_eq_true rfl⟩
          · clear q1
            simp (disch := (clear d; omega)) only [mj_w_id] at d
            omega
        | succ t ih =>
          intro x hx hh
          have hfl := M_fl_lt (x := x) (k := j) (I := I) (by omega) (by omega)
          refine mj_go z_M_depends [15] 60 ?_
          refine And.intro h.o (Exists.intro _ (And.intro h.r5 ?_))
          refine Exists.intro _ (Exists.intro (c) (And.intro h.a5 (And.intro (by first | (rw [mj_w_id (by omega) (by omega)]; done) | (rw [mj_w_id (by omega) (by omega)]; omega) | (unfold mj_w; omega)) (And.intro (by omega) ?_))))
          rw [i5]
          refine Exists.intro (((2 ^ I : Nat) : Int)) (And.intro (nu_shl1 ⟨I, by omega⟩) ?_)
          refine And.intro (fun d => ?_) (fun d => ?_)
          · clear q1
            simp (disch := (clear d; omega)) only [mj_w_id] at d
            omega
          · clear d
            refine And.intro h.o (And.intro (Nat.le_of_ble_eq_true rfl) (And.intro (Nat.le_of_ble_eq_true rfl) (And.intro (Nat.le_of_ble_eq_true rfl) (Exists.intro _ (And.intro (ct_M_bit (c := c) (v := x) h hc i5 hI2 z1.1 z1.2.1 (by rw [mj_up_ne (by decide)]; exact q1) q2 (by omega)) ?_)))))
            rintro r9 sh9 FR9 IA9 LA9 n9 ⟨z0, z1, z2, z3, z4, z5⟩
            subst z0
            replace z1 := z1.symm
            subst z1
            replace z2 := z2.symm
            subst z2
            replace z3 := z3.symm
            subst z3
            replace z4 := z4.symm
            subst z4
            replace z5 := z5.symm
            subst z5
            refine And.intro (Or.inl rfl) ?_
            refine Exists.intro (((2 ^ j : Nat) : Int)) (And.intro (nu_shl1 ⟨j, by omega⟩) ?_)
            refine Exists.intro (((M_fl x j : Nat) : Int)) (And.intro ((nu_xorN (by omega) (by omega)).trans (by rw [xor_fl])) ?_)
            refine And.intro h.o (And.intro (Nat.le_of_ble_eq_true rfl) (And.intro (Nat.le_of_ble_eq_true rfl) (And.intro (Nat.le_of_ble_eq_true rfl) (Exists.intro _ (And.intro (ct_M_bit (c := c) (v := M_fl x j) h hc i5 hI2 z1.1 z1.2.1 (by rw [mj_up_ne (by decide)]; exact q1) q2 (by omega)) ?_)))))
            rintro r9 sh9 FR9 IA9 LA9 n9 ⟨z0, z1, z2, z3, z4, z5⟩
            subst z0
            replace z1 := z1.symm
            subst z1
            replace z2 := z2.symm
            subst z2
            replace z3 := z3.symm
            subst z3
            replace z4 := z4.symm
            subst z4
            replace z5 := z5.symm
            subst z5
            refine And.intro (Or.inl rfl) ?_
            clear q1
            by_cases e : M_bt LA I c (M_ro IA c lit) lit x = M_bt LA I c (M_ro IA c lit) lit (M_fl x j)
            · rw [← e]
              refine And.intro (fun d => ?_) (fun d => ?_)
              · clear d
                refine Exists.intro (((x + 1 : Nat) : Int)) (And.intro (by first | (rw [mj_w_id (by omega) (by omega)]; done) | (rw [mj_w_id (by omega) (by omega)]; omega) | (unfold mj_w; omega)) ?_)
                refine ih (x + 1) (by omega) (fun i hi => ?_)
                by_cases e2 : i = x
                · rw [e2]; exact e
                · exact hh i (by omega)
              · exact absurd rfl d
            · refine And.intro (fun d => ?_) (fun d => ?_)
              · exfalso
                revert e d
                cases M_bt LA I c (M_ro IA c lit) lit x <;> cases M_bt LA I c (M_ro IA c lit) lit (M_fl x j) <;> decide
              · subst hQ
                exact ⟨Or.inr rfl, ⟨rfl, rfl, rfl, rfl, Or.inl ⟨z1, z2, rfl, Or.inl ⟨rfl, fun z => e (z x (by omega))⟩⟩⟩, Nat.le_of_ble_eq_true rfl, Nat.le_of_ble_eq_true rfl⟩
      refine mj_Ct_of (by decide +kernel) (by decide) (Nat.le_of_ble_eq_true rfl) ?_
      refine mj_go z_M_depends [15] 60 ?_
      refine And.intro h.o (And.intro (Nat.le_of_ble_eq_true rfl) (And.intro (Nat.le_of_ble_eq_true rfl) (And.intro (Nat.le_of_ble_eq_true rfl) (Exists.intro _ (And.intro ((ct_lack h hc hI hI2 il ik hr).2.2 z1 z2) ?_)))))
      rintro r9 sh9 FR9 IA9 LA9 n9 ⟨z0, z1, z2, z3, z4, z5⟩
      subst z0
      replace z1 := z1.symm
      subst z1
      replace z2 := z2.symm
      subst z2
      replace z3 := z3.symm
      subst z3
      replace z4 := z4.symm
      subst z4
      replace z5 := z5.symm
      subst z5
      refine And.intro (Or.inl rfl) ?_
      refine And.intro (fun d => ?_) (fun d => ?_)
      · exact loop (2 ^ I) 0 (by omega) (fun i hi => by omega)
      · exact absurd (show mj_w 0 = 0 by decide) d
    · refine mj_Ct_of (by decide +kernel) (by decide) (Nat.le_of_ble_eq_true rfl) ?_
      refine mj_go z_M_depends [] 60 ?_
      refine And.intro h.o (And.intro (Nat.le_of_ble_eq_true rfl) (And.intro (Nat.le_of_ble_eq_true rfl) (And.intro (Nat.le_of_ble_eq_true rfl) (Exists.intro _ (And.intro ((ct_lack h hc hI hI2 il ik hr).2.1 z1 z2) ?_)))))
      rintro r9 sh9 FR9 IA9 LA9 n9 ⟨z0, z1, z2, z3, z4, z5⟩
      subst z0
      replace z1 := z1.symm
      subst z1
      replace z2 := z2.symm
      subst z2
      replace z3 := z3.symm
      subst z3
      replace z4 := z4.symm
      subst z4
      replace z5 := z5.symm
      subst z5
      refine And.intro (Or.inl rfl) ?_
      refine And.intro (fun d => ?_) (fun d => ?_)
      · exact absurd d (by decide)
      · exact ⟨Or.inl rfl, ⟨rfl, rfl, rfl, rfl, Or.inr (Or.inr ⟨z1, z2, rfl, rfl⟩)⟩, Nat.le_of_ble_eq_true rfl, Nat.le_of_ble_eq_true rfl⟩
  · refine mj_Ct_of (by decide +kernel) (by decide) (Nat.le_of_ble_eq_true rfl) ?_
    refine mj_go z_M_depends [] 60 ?_
    refine And.intro h.o (And.intro (Nat.le_of_ble_eq_true rfl) (And.intro (Nat.le_of_ble_eq_true rfl) (And.intro (Nat.le_of_ble_eq_true rfl) (Exists.intro _ (And.intro ((ct_lack h hc hI hI2 il ik hr).1 z1) ?_)))))
    rintro r9 sh9 FR9 IA9 LA9 n9 ⟨z0, z1, z2, z3, z4, z5⟩
    subst z0
    replace z1 := z1.symm
    subst z1
    replace z2 := z2.symm
    subst z2
    replace z3 := z3.symm
    subst z3
    replace z4 := z4.symm
    subst z4
    replace z5 := z5.symm
    subst z5
    refine And.intro (Or.inl rfl) ?_
    refine And.intro (fun d => ?_) (fun d => ?_)
    · exact absurd d (by decide)
    · exact ⟨Or.inl rfl, ⟨rfl, rfl, rfl, rfl, Or.inr (Or.inl ⟨z1, rfl, rfl⟩)⟩, Nat.le_of_ble_eq_true rfl, Nat.le_of_ble_eq_true rfl⟩
/-- how a function goes up (a) or down (d) with input k -/
def M_ri (f : Nat → Bool) (N k : Nat) (z : Int) : Prop := ∃ a d : Int, ((a = 1 ∧ ∀ x, x < N → x / 2 ^ k % 2 = 0 → f x = true → f (x + 2 ^ k) = true) ∨ (a = 0 ∧ ¬ ∀ x, x < N → x / 2 ^ k % 2 = 0 → f x = true → f (x + 2 ^ k) = true)) ∧ ((d = 1 ∧ ∀ x, x < N → x / 2 ^ k % 2 = 0 → f (x + 2 ^ k) = true → f x = true) ∨ (d = 0 ∧ ¬ ∀ x, x < N → x / 2 ^ k % 2 = 0 → f (x + 2 ^ k) = true → f x = true)) ∧ z = if a = 1 then (if d = 1 then 2 else 1) else (if d = 1 then -1 else 0)
set_option maxHeartbeats 2000000 in
theorem ct_M_rises (h : isM sh FR n) {c I : Nat} {lit k : Int} (hc : c < 2) (hI : IA 55 c = (I : Int)) (hI2 : I ≤ 14) (il : mj_i lit) (ik : mj_i k) (hr : M_rr IA) :
    mj_Ct m_M_rises [.inr (.inr (.inl 52)), .inl c, .inl lit, .inl k] sh FR IA LA n (mj_po (M_a2 IA (M_st IA c lit) (0 ≤ k ∧ k < (I : Int)) (fun o => ∃ z, o = .inl (some (.inl z)) ∧ M_ri (M_bt LA I c (M_ro IA c lit) lit) (2 ^ I) k.toNat z)) sh FR LA n) := by
  have hp := pw_le hI2
  by_cases z1 : M_st IA c lit
  · by_cases z2 : 0 ≤ k ∧ k < (I : Int)
    · obtain ⟨q1, q2⟩ := z1.row hr (by omega)
      obtain ⟨j, hj⟩ : ∃ j : Nat, k = (j : Int) := ⟨k.toNat, by omega⟩
      subst hj
      rw [show ((j : Int)).toNat = j by omega]
      generalize hf : M_bt LA I c (M_ro IA c lit) lit = f
      generalize hQ : mj_po (M_a2 IA (M_st IA c lit) (0 ≤ (j : Int) ∧ (j : Int) < (I : Int)) (fun o => ∃ z, o = .inl (some (.inl z)) ∧ M_ri f (2 ^ I) j z)) sh FR LA n = Q
      have i5 : (mj_up IA 52 0 0) 55 c = (I : Int) := by rw [mj_up_ne (by decide)]; exact hI
      have hpj : 2 ^ j ≤ 16384 := (pw_le (I := j) (by omega)).2
      have last : ∀ (a d : Int) (y6 y7 : Option mj_V), ((a = 1 ∧ ∀ x, x < 2 ^ I → x / 2 ^ j % 2 = 0 → f x = true → f (x + 2 ^ j) = true) ∨ (a = 0 ∧ ¬ ∀ x, x < 2 ^ I → x / 2 ^ j % 2 = 0 → f x = true → f (x + 2 ^ j) = true)) → ((d = 1 ∧ ∀ x, x < 2 ^ I → x / 2 ^ j % 2 = 0 → f (x + 2 ^ j) = true → f x = true) ∨ (d = 0 ∧ ¬ ∀ x, x < 2 ^ I → x / 2 ^ j % 2 = 0 → f (x + 2 ^ j) = true → f x = true)) → mj_G m_M_rises Q 110 [some (.inr (.inr (.inl 52))), some (.inl c), some (.inl lit), some (.inl j), some (.inl a), some (.inl d), y6, y7] [] sh FR (mj_up IA 52 0 0) LA n 0 0 := by
        intro a d y6 y7 ha hd
        subst hQ
        have w1 : a = 1 ∨ a = 0 := by rcases ha with z | z; exact Or.inl z.1; exact Or.inr z.1
        have w2 : d = 1 ∨ d = 0 := by rcases hd with z | z; exact Or.inl z.1; exact Or.inr z.1
        clear q1
        rcases w1 with e1 | e1 <;> rcases w2 with e2 | e2 <;> subst e1 <;> subst e2
        · refine mj_go z_M_rises [] 60 ?_
          refine And.intro (fun e => ?_) (fun e => ?_)
          · exact absurd e (by decide)
          clear e
          refine And.intro (fun e => ?_) (fun e => ?_)
          · exact absurd e (by decide)
          · exact ⟨⟨rfl, rfl, rfl, rfl, Or.inl ⟨z1, z2, rfl, _, rfl, 1, 1, ha, hd, rfl⟩⟩, Nat.le_of_ble_eq_true rfl, Nat.le_of_ble_eq_true rfl⟩
        · refine mj_go z_M_rises [] 60 ?_
          refine And.intro (fun e => ?_) (fun e => ?_)
          · exact absurd e (by decide)
          clear e
          refine And.intro (fun e => ?_) (fun e => ?_)
          · refine And.intro (fun e => ?_) (fun e => ?_)
            · exact absurd e (by decide)
            · exact ⟨⟨rfl, rfl, rfl, rfl, Or.inl ⟨z1, z2, rfl, _, rfl, 1, 0, ha, hd, rfl⟩⟩, Nat.le_of_ble_eq_true rfl, Nat.le_of_ble_eq_true rfl⟩
          · exact absurd (show mj_w 0 = 0 by decide) e
        · refine mj_go z_M_rises [] 60 ?_
          refine And.intro (fun e => ?_) (fun e => ?_)
          · refine And.intro (fun e => ?_) (fun e => ?_)
            · refine And.intro (fun e => ?_) (fun e => ?_)
              · exact absurd e (by decide)
              · exact ⟨⟨rfl, rfl, rfl, rfl, Or.inl ⟨z1, z2, rfl, _, rfl, 0, 1, ha, hd, rfl⟩⟩, Nat.le_of_ble_eq_true rfl, Nat.le_of_ble_eq_true rfl⟩
            · exact absurd (show mj_w 0 = 0 by decide) e
          · exact absurd (show mj_w 0 = 0 by decide) e
        · refine mj_go z_M_rises [] 60 ?_
          refine And.intro (fun e => ?_) (fun e => ?_)
          · refine And.intro (fun e => ?_) (fun e => ?_)
            · refine And.intro (fun e => ?_) (fun e => ?_)
              · exact ⟨⟨rfl, rfl, rfl, rfl, Or.inl ⟨z1, z2, rfl, _, rfl, 0, 0, ha, hd, rfl⟩⟩, Nat.le_of_ble_eq_true rfl, Nat.le_of_ble_eq_true rfl⟩
              · exact absurd (show mj_w 0 = 0 by decide) e
            · exact absurd (show mj_w 0 = 0 by decide) e
          · exact absurd (show mj_w 0 = 0 by decide) e
      have loop : ∀ (t x : Nat) (a d : Int) (y7 : Option mj_V), x + t = 2 ^ I → ((a = 1 ∧ ∀ i, i < x → i / 2 ^ j % 2 = 0 → f i = true → f (i + 2 ^ j) = true) ∨ (a = 0 ∧ ¬ ∀ i, i < 2 ^ I → i / 2 ^ j % 2 = 0 → f i = true → f (i + 2 ^ j) = true)) → ((d = 1 ∧ ∀ i, i < x → i / 2 ^ j % 2 = 0 → f (i + 2 ^ j) = true → f i = true) ∨ (d = 0 ∧ ¬ ∀ i, i < 2 ^ I → i / 2 ^ j % 2 = 0 → f (i + 2 ^ j) = true → f i = true)) → mj_G m_M_rises Q 21 [some (.inr (.inr (.inl 52))), some (.inl c), some (.inl lit), some (.inl j), some (.inl a), some (.inl d), some (.inl x), y7] [] sh FR (mj_up IA 52 0 0) LA n 0 0 := by
        intro t
        induction t with
        | zero =>
          intro x a d y7 hx ha hd
          have e : x = 2 ^ I := by omega
          subst e
          refine mj_go z_M_rises [21, 110] 60 ?_
          refine And.intro h.o (Exists.intro _ (And.intro h.r5 ?_))
          refine Exists.intro _ (Exists.intro (c) (And.intro h.a5 (And.intro (by first | (rw [mj_w_id (by omega) (by omega)]; done) | (rw [mj_w_id (by omega) (by omega)]; omega) | (unfold mj_w; omega)) (And.intro (by omega) ?_))))
          rw [i5]
          refine Exists.intro (((2 ^ I : Nat) : Int)) (And.intro (nu_shl1 ⟨I, by omega⟩) ?_)
          refine And.intro (fun e => ?_) (fun e => ?_)
          · exact last a d _ _ ha hd
          · clear q1
            simp (disch := (clear e; omega)) only [mj_w_id] at e
            omega
        | succ t ih =>
          intro x a d y7 hx ha hd
          have w1 : a = 1 ∨ a = 0 := by rcases ha with z | z; exact Or.inl z.1; exact Or.inr z.1
          have w2 : d = 1 ∨ d = 0 := by rcases hd with z | z; exact Or.inl z.1; exact Or.inr z.1
          have skip : ∀ (a2 d2 : Int) (y7 : Option mj_V), ((a2 = 1 ∧ ∀ i, i < x + 1 → i / 2 ^ j % 2 = 0 → f i = true → f (i + 2 ^ j) = true) ∨ (a2 = 0 ∧ ¬ ∀ i, i < 2 ^ I → i / 2 ^ j % 2 = 0 → f i = true → f (i + 2 ^ j) = true)) → ((d2 = 1 ∧ ∀ i, i < x + 1 → i / 2 ^ j % 2 = 0 → f (i + 2 ^ j) = true → f i = true) ∨ (d2 = 0 ∧ ¬ ∀ i, i < 2 ^ I → i / 2 ^ j % 2 = 0 → f (i + 2 ^ j) = true → f i = true)) → mj_G m_M_rises Q 104 [some (.inr (.inr (.inl 52))), some (.inl c), some (.inl lit), some (.inl j), some (.inl a2), some (.inl d2), some (.inl x), y7] [] sh FR (mj_up IA 52 0 0) LA n 0 0 := by
            intro a2 d2 y7 h1 h2
            clear q1
            refine mj_go z_M_rises [21] 60 ?_
            refine Exists.intro (((x + 1 : Nat) : Int)) (And.intro (by first | (rw [mj_w_id (by omega) (by omega)]; done) | (rw [mj_w_id (by omega) (by omega)]; omega) | (unfold mj_w; omega)) ?_)
            exact ih (x + 1) a2 d2 _ (by omega) h1 h2
          have e1 : ((x : Nat) : Int) / ((2 ^ j : Nat) : Int) = ((x / 2 ^ j : Nat) : Int) := by rw [Int.natCast_ediv]
          have e2 := fun z : Nat => (nu_and1 (z : Int)).trans (by omega : ((z : Int) % 2) = ((z % 2 : Nat) : Int))
          clear ih last
          refine mj_go z_M_rises [21, 68, 104] 60 ?_
          refine And.intro h.o (Exists.intro _ (And.intro h.r5 ?_))
          refine Exists.intro _ (Exists.intro (c) (And.intro h.a5 (And.intro (by first | (rw [mj_w_id (by omega) (by omega)]; done) | (rw [mj_w_id (by omega) (by omega)]; omega) | (unfold mj_w; omega)) (And.intro (by omega) ?_))))
          rw [i5]
          refine Exists.intro (((2 ^ I : Nat) : Int)) (And.intro (nu_shl1 ⟨I, by omega⟩) ?_)
          refine And.intro (fun e => ?_) (fun e => ?_)
          · clear q1
            simp (disch := (clear e; omega)) only [mj_w_id] at e
            omega
          · clear e
            refine Exists.intro (((x / 2 ^ j : Nat) : Int)) (And.intro ((nu_shr (by omega) (by omega) (by omega)).trans e1) ?_)
            refine Exists.intro (((x / 2 ^ j % 2 : Nat) : Int)) (And.intro (e2 _) ?_)
            have hle : x / 2 ^ j % 2 < 2 := Nat.mod_lt _ (by decide)
            generalize hxx : x / 2 ^ j % 2 = xx at hle
            refine And.intro (fun e => ?_) (fun e => ?_)
            · clear e1 e2
              have hx0 : x / 2 ^ j % 2 = 0 := by
                have : ¬ xx = 1 := fun z => e (by rw [z]; rfl)
                omega
              have hlt : x + 2 ^ j < 2 ^ I := by
                have := M_fl_lt (x := x) (k := j) (I := I) (by omega) (by omega)
                unfold M_fl at this
                rw [if_pos hx0] at this
                exact this
              clear e
              refine Exists.intro (((2 ^ j : Nat) : Int)) (And.intro (nu_shl1 ⟨j, by omega⟩) ?_)
              refine Exists.intro (((x + 2 ^ j : Nat) : Int)) (And.intro ((nu_orN (by omega) (by omega)).trans (by rw [or_pow hx0])) ?_)
              refine And.intro h.o (And.intro (Nat.le_of_ble_eq_true rfl) (And.intro (Nat.le_of_ble_eq_true rfl) (And.intro (Nat.le_of_ble_eq_true rfl) (Exists.intro _ (And.intro (ct_M_bit (c := c) (v := x + 2 ^ j) h hc i5 hI2 z1.1 z1.2.1 (by rw [mj_up_ne (by decide)]; exact q1) q2 (by omega)) ?_)))))
              rintro r9 sh9 FR9 IA9 LA9 n9 ⟨z0, z1, z2, z3, z4, z5⟩
              subst z0
              replace z1 := z1.symm
              subst z1
              replace z2 := z2.symm
              subst z2
              replace z3 := z3.symm
              subst z3
              replace z4 := z4.symm
              subst z4
              replace z5 := z5.symm
              subst z5
              refine And.intro (Or.inl rfl) ?_
              refine And.intro h.o (And.intro (Nat.le_of_ble_eq_true rfl) (And.intro (Nat.le_of_ble_eq_true rfl) (And.intro (Nat.le_of_ble_eq_true rfl) (Exists.intro _ (And.intro (ct_M_bit (c := c) (v := x) h hc i5 hI2 z1.1 z1.2.1 (by rw [mj_up_ne (by decide)]; exact q1) q2 (by omega)) ?_)))))
              rintro r9 sh9 FR9 IA9 LA9 n9 ⟨z0, z1, z2, z3, z4, z5⟩
              subst z0
              replace z1 := z1.symm
              subst z1
              replace z2 := z2.symm
              subst z2
              replace z3 := z3.symm
              subst z3
              replace z4 := z4.symm
              subst z4
              replace z5 := z5.symm
              subst z5
              refine And.intro (Or.inl rfl) ?_
              rw [hf]
              clear q1
              have put : ∀ (D u w : Int), ((u = 1 ∧ a = 1 ∧ (f x = true → f (x + 2 ^ j) = true)) ∨ (u = 0 ∧ (a = 0 ∨ ¬ (f x = true → f (x + 2 ^ j) = true)))) → ((w = 1 ∧ d = 1 ∧ (f (x + 2 ^ j) = true → f x = true)) ∨ (w = 0 ∧ (d = 0 ∨ ¬ (f (x + 2 ^ j) = true → f x = true)))) → mj_G m_M_rises Q 104 [some (.inr (.inr (.inl 52))), some (.inl c), some (.inl lit), some (.inl j), some (.inl u), some (.inl w), some (.inl x), some (.inl D)] [] sh FR (mj_up IA 52 0 0) LA n 0 0 := by
                intro D u w hu hw
                refine skip u w _ ?_ ?_
                · rcases hu with ⟨u1, u2, u3⟩ | ⟨u1, u2⟩
                  · refine Or.inl ⟨u1, fun i hi h1 h2 => ?_⟩
                    by_cases e : i = x
                    · rw [e] at h2 ⊢; exact u3 h2
                    · rcases ha with ⟨_, a2⟩ | ⟨a1, _⟩
                      · exact a2 i (by omega) h1 h2
                      · omega
                  · refine Or.inr ⟨u1, ?_⟩
                    rcases u2 with u2 | u2
                    · rcases ha with ⟨a1, _⟩ | ⟨_, a2⟩
                      · omega
                      · exact a2
                    · exact fun z => u2 (z x (by omega) hx0)
                · rcases hw with ⟨u1, u2, u3⟩ | ⟨u1, u2⟩
                  · refine Or.inl ⟨u1, fun i hi h1 h2 => ?_⟩
                    by_cases e : i = x
                    · rw [e] at h2 ⊢; exact u3 h2
                    · rcases hd with ⟨_, a2⟩ | ⟨a1, _⟩
                      · exact a2 i (by omega) h1 h2
                      · omega
                  · refine Or.inr ⟨u1, ?_⟩
                    rcases u2 with u2 | u2
                    · rcases hd with ⟨a1, _⟩ | ⟨_, a2⟩
                      · omega
                      · exact a2
                    · exact fun z => u2 (z x (by omega) hx0)
              clear skip ha hd
              have P102 : ∀ (D u : Int), ((u = 1 ∧ a = 1 ∧ (f x = true → f (x + 2 ^ j) = true)) ∨ (u = 0 ∧ (a = 0 ∨ ¬ (f x = true → f (x + 2 ^ j) = true)))) → (D = 1 ∧ f (x + 2 ^ j) = true ∧ f x = false ∨ D = 0 ∧ f (x + 2 ^ j) = f x ∨ D = -1 ∧ f (x + 2 ^ j) = false ∧ f x = true) → mj_G m_M_rises Q 85 [some (.inr (.inr (.inl 52))), some (.inl c), some (.inl lit), some (.inl j), some (.inl a), some (.inl d), some (.inl x), some (.inl D)] [.inl u] sh FR (mj_up IA 52 0 0) LA n 0 0 := by
                intro D u hu hD
                rcases w2 with e2 | e2
                · subst e2
                  rcases hD with ⟨D1, D2, D3⟩ | ⟨D1, D2⟩ | ⟨D1, D2, D3⟩
                  · subst D1
                    refine mj_go z_M_rises [104] 60 ?_
                    refine And.intro (fun e => ?_) (fun e => ?_)
                    · exact absurd e (by decide)
                    clear e
                    refine And.intro (fun e => ?_) (fun e => ?_)
                    · exact put _ _ _ hu (Or.inr ⟨rfl, Or.inr (by rw [D2, D3]; simp)⟩)
                    · exact absurd (show mj_w 0 < mj_w 1 by decide) e
                  · subst D1
                    refine mj_go z_M_rises [104] 60 ?_
                    refine And.intro (fun e => ?_) (fun e => ?_)
                    · exact absurd e (by decide)
                    clear e
                    refine And.intro (fun e => ?_) (fun e => ?_)
                    · exact absurd e (by decide)
                    · exact put _ _ _ hu (Or.inl ⟨rfl, rfl, by rw [D2]; exact id⟩)
                  · subst D1
                    refine mj_go z_M_rises [104] 60 ?_
                    refine And.intro (fun e => ?_) (fun e => ?_)
                    · exact absurd e (by decide)
                    clear e
                    refine And.intro (fun e => ?_) (fun e => ?_)
                    · exact absurd e (by decide)
                    · exact put _ _ _ hu (Or.inl ⟨rfl, rfl, by rw [D3]; exact fun _ => rfl⟩)
                · subst e2
                  refine mj_go z_M_rises [104] 60 ?_
                  refine And.intro (fun e => ?_) (fun e => ?_)
                  · exact put _ _ _ hu (Or.inr ⟨rfl, Or.inl rfl⟩)
                  · exact absurd (show mj_w 0 = 0 by decide) e
              have P85 : ∀ (D : Int), (D = 1 ∧ f (x + 2 ^ j) = true ∧ f x = false ∨ D = 0 ∧ f (x + 2 ^ j) = f x ∨ D = -1 ∧ f (x + 2 ^ j) = false ∧ f x = true) → mj_G m_M_rises Q 68 [some (.inr (.inr (.inl 52))), some (.inl c), some (.inl lit), some (.inl j), some (.inl a), some (.inl d), some (.inl x), y7] [.inl D] sh FR (mj_up IA 52 0 0) LA n 0 0 := by
                intro D hD
                rcases w1 with e1 | e1
                · subst e1
                  rcases hD with ⟨D1, D2, D3⟩ | ⟨D1, D2⟩ | ⟨D1, D2, D3⟩
                  · subst D1
                    refine mj_go z_M_rises [85] 60 ?_
                    refine And.intro (fun e => ?_) (fun e => ?_)
                    · exact absurd e (by decide)
                    clear e
                    refine And.intro (fun e => ?_) (fun e => ?_)
                    · exact absurd e (by decide)
                    · exact P102 1 1 (Or.inl ⟨rfl, rfl, by rw [D2]; exact fun _ => rfl⟩) (Or.inl ⟨rfl, D2, D3⟩)
                  · subst D1
                    refine mj_go z_M_rises [85] 60 ?_
                    refine And.intro (fun e => ?_) (fun e => ?_)
                    · exact absurd e (by decide)
                    clear e
                    refine And.intro (fun e => ?_) (fun e => ?_)
                    · exact absurd e (by decide)
                    · exact P102 0 1 (Or.inl ⟨rfl, rfl, by rw [D2]; exact id⟩) (Or.inr (Or.inl ⟨rfl, D2⟩))
                  · subst D1
                    refine mj_go z_M_rises [85] 60 ?_
                    refine And.intro (fun e => ?_) (fun e => ?_)
                    · exact absurd e (by decide)
                    clear e
                    refine And.intro (fun e => ?_) (fun e => ?_)
                    · exact P102 (-1) 0 (Or.inr ⟨rfl, Or.inr (by rw [D2, D3]; simp)⟩) (Or.inr (Or.inr ⟨rfl, D2, D3⟩))
                    · exact absurd (show mj_w (-1) < 0 by decide) e
                · subst e1
                  refine mj_go z_M_rises [85] 60 ?_
                  refine And.intro (fun e => ?_) (fun e => ?_)
                  · exact P102 D 0 (Or.inr ⟨rfl, Or.inl rfl⟩) hD
                  · exact absurd (show mj_w 0 = 0 by decide) e
              refine Exists.intro ((if f (x + 2 ^ j) = true then 1 else 0) - (if f x = true then 1 else 0)) (And.intro (by cases f (x + 2 ^ j) <;> cases f x <;> decide) ?_)
              refine P85 _ ?_
              cases h1 : f (x + 2 ^ j) <;> cases h2 : f x <;> simp
            · replace e := Classical.not_not.mp e
              clear e1 e2 q1
              simp (disch := (clear e; omega)) only [mj_w_id] at e
              refine skip a d _ ?_ ?_
              · rcases ha with ⟨a1, a2⟩ | z
                · refine Or.inl ⟨a1, fun i hi h1 h2 => ?_⟩
                  by_cases e3 : i = x
                  · rw [e3] at h1
                    omega
                  · exact a2 i (by omega) h1 h2
                · exact Or.inr z
              · rcases hd with ⟨a1, a2⟩ | z
                · refine Or.inl ⟨a1, fun i hi h1 h2 => ?_⟩
                  by_cases e3 : i = x
                  · rw [e3] at h1
                    omega
                  · exact a2 i (by omega) h1 h2
                · exact Or.inr z
      refine mj_Ct_of (by decide +kernel) (by decide) (Nat.le_of_ble_eq_true rfl) ?_
      refine mj_go z_M_rises [21] 60 ?_
      refine And.intro h.o (And.intro (Nat.le_of_ble_eq_true rfl) (And.intro (Nat.le_of_ble_eq_true rfl) (And.intro (Nat.le_of_ble_eq_true rfl) (Exists.intro _ (And.intro ((ct_lack h hc hI hI2 il ik hr).2.2 z1 z2) ?_)))))
      rintro r9 sh9 FR9 IA9 LA9 n9 ⟨z0, z1, z2, z3, z4, z5⟩
      subst z0
      replace z1 := z1.symm
      subst z1
      replace z2 := z2.symm
      subst z2
      replace z3 := z3.symm
      subst z3
      replace z4 := z4.symm
      subst z4
      replace z5 := z5.symm
      subst z5
      refine And.intro (Or.inl rfl) ?_
      refine And.intro (fun d => ?_) (fun d => ?_)
      · exact loop (2 ^ I) 0 1 1 _ (by omega) (Or.inl ⟨rfl, fun i hi => by omega⟩) (Or.inl ⟨rfl, fun i hi => by omega⟩)
      · exact absurd (show mj_w 0 = 0 by decide) d
    · refine mj_Ct_of (by decide +kernel) (by decide) (Nat.le_of_ble_eq_true rfl) ?_
      refine mj_go z_M_rises [] 60 ?_
      refine And.intro h.o (And.intro (Nat.le_of_ble_eq_true rfl) (And.intro (Nat.le_of_ble_eq_true rfl) (And.intro (Nat.le_of_ble_eq_true rfl) (Exists.intro _ (And.intro ((ct_lack h hc hI hI2 il ik hr).2.1 z1 z2) ?_)))))
      rintro r9 sh9 FR9 IA9 LA9 n9 ⟨z0, z1, z2, z3, z4, z5⟩
      subst z0
      replace z1 := z1.symm
      subst z1
      replace z2 := z2.symm
      subst z2
      replace z3 := z3.symm
      subst z3
      replace z4 := z4.symm
      subst z4
      replace z5 := z5.symm
      subst z5
      refine And.intro (Or.inl rfl) ?_
      refine And.intro (fun d => ?_) (fun d => ?_)
      · exact absurd d (by decide)
      · exact ⟨⟨rfl, rfl, rfl, rfl, Or.inr (Or.inr ⟨z1, z2, rfl, rfl⟩)⟩, Nat.le_of_ble_eq_true rfl, Nat.le_of_ble_eq_true rfl⟩
  · refine mj_Ct_of (by decide +kernel) (by decide) (Nat.le_of_ble_eq_true rfl) ?_
    refine mj_go z_M_rises [] 60 ?_
    refine And.intro h.o (And.intro (Nat.le_of_ble_eq_true rfl) (And.intro (Nat.le_of_ble_eq_true rfl) (And.intro (Nat.le_of_ble_eq_true rfl) (Exists.intro _ (And.intro ((ct_lack h hc hI hI2 il ik hr).1 z1) ?_)))))
    rintro r9 sh9 FR9 IA9 LA9 n9 ⟨z0, z1, z2, z3, z4, z5⟩
    subst z0
    replace z1 := z1.symm
    subst z1
    replace z2 := z2.symm
    subst z2
    replace z3 := z3.symm
    subst z3
    replace z4 := z4.symm
    subst z4
    replace z5 := z5.symm
    subst z5
    refine And.intro (Or.inl rfl) ?_
    refine And.intro (fun d => ?_) (fun d => ?_)
    · exact absurd d (by decide)
    · exact ⟨⟨rfl, rfl, rfl, rfl, Or.inr (Or.inl ⟨z1, rfl, rfl⟩)⟩, Nat.le_of_ble_eq_true rfl, Nat.le_of_ble_eq_true rfl⟩
end MM
