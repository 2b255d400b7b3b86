/-! THE REFERENCE: words, mask, word, isLiteral, isVector, bit, areSame -/
def M_rw (LA : mj_LA) (c r w : Nat) : BitVec 64 := C_rw LA 59 (315 * c + r) w
def M_lw (LA : mj_LA) (I c r : Nat) (lit : Int) (w : Nat) : BitVec 64 := if lit % 2 = 0 then M_rw LA c r w else (M_rw LA c r w ^^^ 0xFFFFFFFFFFFFFFFF#64) &&& C_mk I
def M_bt (LA : mj_LA) (I c r : Nat) (lit : Int) (v : Nat) : Bool := (M_lw LA I c r lit (v / 64)).getLsbD (v % 64)
theorem bv_bit1 (x : BitVec 64) {k : Nat} (hk : k < 64) : mj_w ((x >>> k) &&& 1#64).toInt = if x.getLsbD k = true then 1 else 0 := by
  have e : (x >>> k) &&& 1#64 = if x.getLsbD k = true then 1#64 else 0#64 := by
    apply BitVec.eq_of_getLsbD_eq
    intro i hi
    rw [BitVec.getLsbD_and, BitVec.getLsbD_ushiftRight]
    by_cases e : i = 0
    · subst e
      split
      · next c => simp [c]
      · next c => simp [c]
    · have : (1#64).getLsbD i = false := by
        rw [BitVec.getLsbD_one]
        simp [e]
      rw [this, Bool.and_false]
      split
      · exact this.symm
      · simp
  rw [e]
  split <;> decide
/-- literals that stand in circuit c -/
abbrev M_st (IA : mj_FI) (c : Nat) (lit : Int) : Prop := 0 ≤ lit ∧ lit ≤ 2001 ∧ 0 ≤ IA 66 (1001 * c + (lit / 2).toNat)
/-- the literal's row -/
def M_ro (IA : mj_FI) (c : Nat) (lit : Int) : Nat := (IA 66 (1001 * c + (lit / 2).toNat)).toNat
def M_rr (IA : mj_FI) : Prop := ∀ j, j < 3003 → -1 ≤ IA 66 j ∧ IA 66 j < 315
theorem M_st.row {IA : mj_FI} {c : Nat} {lit : Int} (h : M_st IA c lit) (hr : M_rr IA) (hc : c < 3) : IA 66 (1001 * c + (lit / 2).toNat) = (M_ro IA c lit : Int) ∧ M_ro IA c lit < 315 := by
  obtain ⟨h1, h2, h3⟩ := h
  have := hr (1001 * c + (lit / 2).toNat) (by omega)
  unfold M_ro
  omega
section MM
variable {sh : mj_Sh} {FR : mj_FR} {IA : mj_FI} {LA : mj_LA} {n : Nat}
theorem ct_M_words (h : isM sh FR n) {c I : Nat} (hc : c < 3) (hI : IA 55 c = (I : Int)) (hI2 : I ≤ 14) : mj_Ct m_M_words [.inr (.inr (.inl 52)), .inl c] sh FR IA LA n (mj_pu (.inl (some (.inl (C_W I : Int)))) sh FR IA LA n) := by
  unfold C_W
  refine mj_Ct_of (by decide +kernel) (by decide) (Nat.le_of_ble_eq_true rfl) ?_
  refine mj_go z_M_words [] 60 ?_
  refine And.intro h.o (Exists.intro _ (And.intro h.r5 ?_))
  refine Exists.intro _ (Exists.intro (c) (And.intro h.a5 (And.intro (by first | (rw [mj_w_id (by omega) (by omega)]; done) | (rw [mj_w_id (by omega) (by omega)]; omega) | (unfold mj_w; omega)) (And.intro (by omega) ?_))))
  rw [hI]
  refine And.intro (fun d => ?_) (fun d => ?_)
  · simp (disch := (clear d; omega)) only [mj_w_id] at d
    rw [if_neg (by omega)]
    refine And.intro h.o (Exists.intro _ (And.intro h.r5 ?_))
    refine Exists.intro _ (Exists.intro (c) (And.intro h.a5 (And.intro (by first | (rw [mj_w_id (by omega) (by omega)]; done) | (rw [mj_w_id (by omega) (by omega)]; omega) | (unfold mj_w; omega)) (And.intro (by omega) ?_))))
    rw [hI]
    refine Exists.intro (((I - 6 : Nat) : Int)) (And.intro (by first | (rw [mj_w_id (by omega) (by omega)]; done) | (rw [mj_w_id (by omega) (by omega)]; omega) | (unfold mj_w; omega)) ?_)
    refine Exists.intro (((2 ^ (I - 6) : Nat) : Int)) (And.intro (nu_shl1 ⟨I - 6, by omega⟩) ?_)
    exact ⟨⟨rfl, rfl, rfl, rfl, rfl, rfl⟩, Nat.le_of_ble_eq_true rfl, Nat.le_of_ble_eq_true rfl⟩
  · simp (disch := (clear d; omega)) only [mj_w_id] at d
    by_cases e : I < 6
    · rw [if_pos e]
      exact ⟨⟨rfl, rfl, rfl, rfl, rfl, rfl⟩, Nat.le_of_ble_eq_true rfl, Nat.le_of_ble_eq_true rfl⟩
    · have e2 : I = 6 := by omega
      subst e2
      rw [if_neg e]
      exact ⟨⟨rfl, rfl, rfl, rfl, rfl, rfl⟩, Nat.le_of_ble_eq_true rfl, Nat.le_of_ble_eq_true rfl⟩
theorem ct_M_mask (h : isM sh FR n) {c I : Nat} (hc : c < 3) (hI : IA 55 c = (I : Int)) (hI2 : I ≤ 14) : mj_Ct m_M_mask [.inr (.inr (.inl 52)), .inl c] sh FR IA LA n (mj_pu (.inl (some (.inr (.inl (C_mk I))))) sh FR IA LA n) := by
  unfold C_mk
  refine mj_Ct_of (by decide +kernel) (by decide) (Nat.le_of_ble_eq_true rfl) ?_
  refine mj_go z_M_mask [] 60 ?_
  refine And.intro h.o (Exists.intro _ (And.intro h.r5 ?_))
  refine Exists.intro _ (Exists.intro (c) (And.intro h.a5 (And.intro (by first | (rw [mj_w_id (by omega) (by omega)]; done) | (rw [mj_w_id (by omega) (by omega)]; omega) | (unfold mj_w; omega)) (And.intro (by omega) ?_))))
  rw [hI]
  refine And.intro (fun d => ?_) (fun d => ?_)
  · simp (disch := (clear d; omega)) only [mj_w_id] at d
    rw [if_pos (by omega)]
    refine And.intro h.o (Exists.intro _ (And.intro h.r5 ?_))
    refine Exists.intro _ (Exists.intro (c) (And.intro h.a5 (And.intro (by first | (rw [mj_w_id (by omega) (by omega)]; done) | (rw [mj_w_id (by omega) (by omega)]; omega) | (unfold mj_w; omega)) (And.intro (by omega) ?_))))
    rw [hI]
    refine Exists.intro (((2 ^ I : Nat) : Int)) (And.intro (nu_shl1 ⟨I, by omega⟩) ?_)
    refine Exists.intro ((1#64 <<< (2 ^ I))) (And.intro (nu_lshl1 ⟨I, by omega⟩) ?_)
    exact ⟨⟨rfl, rfl, rfl, rfl, rfl, rfl⟩, Nat.le_of_ble_eq_true rfl, Nat.le_of_ble_eq_true rfl⟩
  · simp (disch := (clear d; omega)) only [mj_w_id] at d
    rw [if_neg (by omega)]
    exact ⟨⟨rfl, rfl, rfl, rfl, rfl, rfl⟩, Nat.le_of_ble_eq_true rfl, Nat.le_of_ble_eq_true rfl⟩
theorem ct_M_word (h : isM sh FR n) {c I r w : Nat} {lit : Int} (hc : c < 2) (hI : IA 55 c = (I : Int)) (hI2 : I ≤ 14) (h1 : 0 ≤ lit) (h2 : lit ≤ 2001) (hr : IA 66 (1001 * c + (lit / 2).toNat) = (r : Int)) (hr2 : r < 315) (hw : w < 256) : mj_Ct m_M_word [.inr (.inr (.inl 52)), .inl c, .inl lit, .inl w] sh FR IA LA n (mj_pu (.inl (some (.inr (.inl (M_lw LA I c r lit w))))) sh FR IA LA n) := by
  unfold M_lw
  refine mj_Ct_of (by decide +kernel) (by decide) (Nat.le_of_ble_eq_true rfl) ?_
  refine mj_go z_M_word [] 60 ?_
  refine And.intro h.o (Exists.intro _ (And.intro h.r19 ?_))
  refine Exists.intro (((315 * c : Nat) : Int)) (And.intro (by first | (rw [mj_w_id (by omega) (by omega)]; done) | (rw [mj_w_id (by omega) (by omega)]; omega) | (unfold mj_w; omega)) ?_)
  refine And.intro h.o (And.intro (Nat.le_of_ble_eq_true rfl) (And.intro (Nat.le_of_ble_eq_true rfl) (And.intro (Nat.le_of_ble_eq_true rfl) (Exists.intro _ (And.intro (ct_M_rowAt (c := c) h (by omega) h1 h2) ?_)))))
  rintro r9 sh9 FR9 IA9 LA9 n9 ⟨z0, z1, z2, z3, z4, z5⟩
  subst z0
  replace z1 := z1.symm
  subst z1
  replace z2 := z2.symm
  subst z2
  replace z3 := z3.symm
  subst z3
  replace z4 := z4.symm
  subst z4
  replace z5 := z5.symm
  subst z5
  refine And.intro (Or.inl rfl) ?_
  rw [hr]
  clear hr
  refine Exists.intro (((315 * c + r : Nat) : Int)) (And.intro (by first | (rw [mj_w_id (by omega) (by omega)]; done) | (rw [mj_w_id (by omega) (by omega)]; omega) | (unfold mj_w; omega)) ?_)
  refine Exists.intro (((256 * (315 * c + r) : Nat) : Int)) (And.intro (by first | (rw [mj_w_id (by omega) (by omega)]; done) | (rw [mj_w_id (by omega) (by omega)]; omega) | (unfold mj_w; omega)) ?_)
  refine Exists.intro (((256 * (315 * c + r) + w : Nat) : Int)) (And.intro (by first | (rw [mj_w_id (by omega) (by omega)]; done) | (rw [mj_w_id (by omega) (by omega)]; omega) | (unfold mj_w; omega)) ?_)
  refine Exists.intro _ (Exists.intro ((315 * c + r) * 256 + w) (And.intro h.a19 (And.intro (by first | (rw [mj_w_id (by omega) (by omega)]; done) | (rw [mj_w_id (by omega) (by omega)]; omega) | (unfold mj_w; omega)) (And.intro (by omega) ?_))))
  refine And.intro (by decide) ?_
  refine Exists.intro (lit % 2) (And.intro (nu_rem h1 (by omega) (by omega) (by omega)) ?_)
  refine And.intro (fun d => ?_) (fun d => ?_)
  · simp (disch := (clear d; omega)) only [mj_w_id] at d
    rw [if_pos (by omega)]
    exact ⟨⟨rfl, rfl, rfl, rfl, rfl, rfl⟩, Nat.le_of_ble_eq_true rfl, Nat.le_of_ble_eq_true rfl⟩
  · replace d := Classical.not_not.mp d
    simp (disch := (clear d; omega)) only [mj_w_id] at d
    rw [if_neg (by omega)]
    refine And.intro h.o (And.intro (Nat.le_of_ble_eq_true rfl) (And.intro (Nat.le_of_ble_eq_true rfl) (And.intro (Nat.le_of_ble_eq_true rfl) (Exists.intro _ (And.intro (ct_M_mask h (by omega) hI hI2) ?_)))))
    rintro r9 sh9 FR9 IA9 LA9 n9 ⟨z0, z1, z2, z3, z4, z5⟩
    subst z0
    replace z1 := z1.symm
    subst z1
    replace z2 := z2.symm
    subst z2
    replace z3 := z3.symm
    subst z3
    replace z4 := z4.symm
    subst z4
    replace z5 := z5.symm
    subst z5
    refine And.intro (Or.inl rfl) ?_
    exact ⟨⟨rfl, rfl, rfl, rfl, rfl, rfl⟩, Nat.le_of_ble_eq_true rfl, Nat.le_of_ble_eq_true rfl⟩
theorem ct_M_isLiteral (h : isM sh FR n) {c : Nat} {lit : Int} (hc : c < 3) (il : mj_i lit) (hr : M_rr IA) : mj_Ct m_M_isLiteral [.inr (.inr (.inl 52)), .inl c, .inl lit] sh FR IA LA n (mj_pu (.inl (some (.inl (if M_st IA c lit then 1 else 0)))) sh FR IA LA n) := by
  obtain ⟨i1, i2⟩ := il
  refine mj_Ct_of (by decide +kernel) (by decide) (Nat.le_of_ble_eq_true rfl) ?_
  refine mj_go z_M_isLiteral [] 60 ?_
  refine And.intro (fun d => ?_) (fun d => ?_)
  · simp (disch := (clear d; omega)) only [mj_w_id] at d
    rw [if_neg (fun z => by have := z.1; omega)]
    exact ⟨Or.inl rfl, ⟨rfl, rfl, rfl, rfl, rfl, rfl⟩, Nat.le_of_ble_eq_true rfl, Nat.le_of_ble_eq_true rfl⟩
  · simp (disch := (clear d; omega)) only [mj_w_id] at d
    refine And.intro (fun e => ?_) (fun e => ?_)
    · simp (disch := (clear e; omega)) only [mj_w_id] at e
      rw [if_neg (fun z => by have := z.2.1; omega)]
      exact ⟨Or.inl rfl, ⟨rfl, rfl, rfl, rfl, rfl, rfl⟩, Nat.le_of_ble_eq_true rfl, Nat.le_of_ble_eq_true rfl⟩
    · simp (disch := (clear e; omega)) only [mj_w_id] at e
      have q := hr (1001 * c + (lit / 2).toNat) (by omega)
      refine And.intro h.o (And.intro (Nat.le_of_ble_eq_true rfl) (And.intro (Nat.le_of_ble_eq_true rfl) (And.intro (Nat.le_of_ble_eq_true rfl) (Exists.intro _ (And.intro (ct_M_rowAt (c := c) h (by omega) (by omega) (by omega)) ?_)))))
      rintro r9 sh9 FR9 IA9 LA9 n9 ⟨z0, z1, z2, z3, z4, z5⟩
      subst z0
      replace z1 := z1.symm
      subst z1
      replace z2 := z2.symm
      subst z2
      replace z3 := z3.symm
      subst z3
      replace z4 := z4.symm
      subst z4
      replace z5 := z5.symm
      subst z5
      refine And.intro (Or.inl rfl) ?_
      refine And.intro (fun f => ?_) (fun f => ?_)
      · simp (disch := (clear f; omega)) only [mj_w_id] at f
        rw [if_neg (fun z => by have := z.2.2; omega)]
        exact ⟨Or.inl rfl, ⟨rfl, rfl, rfl, rfl, rfl, rfl⟩, Nat.le_of_ble_eq_true rfl, Nat.le_of_ble_eq_true rfl⟩
      · simp (disch := (clear f; omega)) only [mj_w_id] at f
        rw [if_pos ⟨by omega, by omega, by omega⟩]
        exact ⟨Or.inr rfl, ⟨rfl, rfl, rfl, rfl, rfl, rfl⟩, Nat.le_of_ble_eq_true rfl, Nat.le_of_ble_eq_true rfl⟩
theorem ct_M_isVector (h : isM sh FR n) {c I : Nat} {x : Int} (hc : c < 3) (ix : mj_i x) (hI : IA 55 c = (I : Int)) (hI2 : I ≤ 14) : mj_Ct m_M_isVector [.inr (.inr (.inl 52)), .inl c, .inl x] sh FR IA LA n (mj_pu (.inl (some (.inl (if 0 ≤ x ∧ x < ((2 ^ I : Nat) : Int) then 1 else 0)))) sh FR IA LA n) := by
  obtain ⟨i1, i2⟩ := ix
  have p1 : 2 ^ I ≤ 2 ^ 14 := Nat.pow_le_pow_right (by decide) hI2
  have p0 := Nat.two_pow_pos I
  refine mj_Ct_of (by decide +kernel) (by decide) (Nat.le_of_ble_eq_true rfl) ?_
  refine mj_go z_M_isVector [] 60 ?_
  refine And.intro (fun d => ?_) (fun d => ?_)
  · simp (disch := (clear d; omega)) only [mj_w_id] at d
    rw [if_neg (by omega)]
    exact ⟨Or.inl rfl, ⟨rfl, rfl, rfl, rfl, rfl, rfl⟩, Nat.le_of_ble_eq_true rfl, Nat.le_of_ble_eq_true rfl⟩
  · simp (disch := (clear d; omega)) only [mj_w_id] at d
    refine And.intro h.o (Exists.intro _ (And.intro h.r5 ?_))
    refine Exists.intro _ (Exists.intro (c) (And.intro h.a5 (And.intro (by first | (rw [mj_w_id (by omega) (by omega)]; done) | (rw [mj_w_id (by omega) (by omega)]; omega) | (unfold mj_w; omega)) (And.intro (by omega) ?_))))
    rw [hI]
    refine Exists.intro (((2 ^ I : Nat) : Int)) (And.intro (nu_shl1 ⟨I, by omega⟩) ?_)
    generalize 2 ^ I = P at p1 p0 ⊢
    refine And.intro (fun e => ?_) (fun e => ?_)
    · simp (disch := (clear e; omega)) only [mj_w_id] at e
      rw [if_neg (by omega)]
      exact ⟨Or.inl rfl, ⟨rfl, rfl, rfl, rfl, rfl, rfl⟩, Nat.le_of_ble_eq_true rfl, Nat.le_of_ble_eq_true rfl⟩
    · simp (disch := (clear e; omega)) only [mj_w_id] at e
      rw [if_pos (by omega)]
      exact ⟨Or.inr rfl, ⟨rfl, rfl, rfl, rfl, rfl, rfl⟩, Nat.le_of_ble_eq_true rfl, Nat.le_of_ble_eq_true rfl⟩
theorem ct_M_bit (h : isM sh FR n) {c I r v : Nat} {lit : Int} (hc : c < 2) (hI : IA 55 c = (I : Int)) (hI2 : I ≤ 14) (h1 : 0 ≤ lit) (h2 : lit ≤ 2001) (hr : IA 66 (1001 * c + (lit / 2).toNat) = (r : Int)) (hr2 : r < 315) (hv : v < 16384) : mj_Ct m_M_bit [.inr (.inr (.inl 52)), .inl c, .inl lit, .inl v] sh FR IA LA n (mj_pu (.inl (some (.inl (if M_bt LA I c r lit v = true then 1 else 0)))) sh FR IA LA n) := by
  refine mj_Ct_of (by decide +kernel) (by decide) (Nat.le_of_ble_eq_true rfl) ?_
  refine mj_go z_M_bit [] 60 ?_
  refine Exists.intro (((v / 64 : Nat) : Int)) (And.intro ((nu_shr (k := 6) (by omega) (by omega) (by decide)).trans (by omega)) ?_)
  refine And.intro h.o (And.intro (Nat.le_of_ble_eq_true rfl) (And.intro (Nat.le_of_ble_eq_true rfl) (And.intro (Nat.le_of_ble_eq_true rfl) (Exists.intro _ (And.intro (ct_M_word (c := c) (w := v / 64) h hc hI hI2 h1 h2 hr hr2 (by omega)) ?_)))))
  rintro r9 sh9 FR9 IA9 LA9 n9 ⟨z0, z1, z2, z3, z4, z5⟩
  subst z0
  replace z1 := z1.symm
  subst z1
  replace z2 := z2.symm
  subst z2
  replace z3 := z3.symm
  subst z3
  replace z4 := z4.symm
  subst z4
  replace z5 := z5.symm
  subst z5
  refine And.intro (Or.inl rfl) ?_
  clear hr
  refine Exists.intro (((v % 64 : Nat) : Int)) (And.intro ((nu_and63 _).trans (by omega)) ?_)
  refine Exists.intro ((M_lw LA I c r lit (v / 64)) >>> (v % 64)) (And.intro (nu_lushr _ (by omega)) ?_)
  refine Exists.intro ((if M_bt LA I c r lit v = true then 1 else 0)) (And.intro (bv_bit1 _ (by omega)) ?_)
  exact ⟨⟨rfl, rfl, rfl, rfl, rfl, rfl⟩, Nat.le_of_ble_eq_true rfl, Nat.le_of_ble_eq_true rfl⟩
set_option maxHeartbeats 1000000 in
theorem ct_M_areSame (h : isM sh FR n) {c d I I2 r s : Nat} {a b : Int} (hc : c < 2) (hd : d < 2) (hI : IA 55 c = (I : Int)) (hI2 : I ≤ 14) (hJ : IA 55 d = (I2 : Int)) (hJ2 : I2 ≤ 14) (h1 : 0 ≤ a) (h2 : a ≤ 2001) (hr : IA 66 (1001 * c + (a / 2).toNat) = (r : Int)) (hr2 : r < 315) (k1 : 0 ≤ b) (k2 : b ≤ 2001) (hs : IA 66 (1001 * d + (b / 2).toNat) = (s : Int)) (hs2 : s < 315) :
    mj_Ct m_M_areSame [.inr (.inr (.inl 52)), .inl c, .inl a, .inl d, .inl b] sh FR IA LA n (mj_po (fun o J => J = IA ∧ ((o = .inl (some (.inl 1)) ∧ ∀ w, w < C_W I → M_lw LA I c r a w = M_lw LA I2 d s b w) ∨ (o = .inl (some (.inl 0)) ∧ ¬ ∀ w, w < C_W I → M_lw LA I c r a w = M_lw LA I2 d s b w))) sh FR LA n) := by
  have hW := (C_W_le hI2).2
  have loop : ∀ (t w : Nat), w + t = C_W I → (∀ i, i < w → M_lw LA I c r a i = M_lw LA I2 d s b i) → mj_G m_M_areSame (mj_po (fun o J => J = IA ∧ ((o = .inl (some (.inl 1)) ∧ ∀ w, w < C_W I → M_lw LA I c r a w = M_lw LA I2 d s b w) ∨ (o = .inl (some (.inl 0)) ∧ ¬ ∀ w, w < C_W I → M_lw LA I c r a w = M_lw LA I2 d s b w))) sh FR LA n) 3 [some (.inr (.inr (.inl 52))), some (.inl c), some (.inl a), some (.inl d), some (.inl b), some (.inl w)] [] sh FR IA LA n 0 0 := by
    intro t
    induction t with
    | zero =>
      intro w hw hq
      refine mj_go z_M_areSame [3] 60 ?_
      refine And.intro h.o (And.intro (Nat.le_of_ble_eq_true rfl) (And.intro (Nat.le_of_ble_eq_true rfl) (And.intro (Nat.le_of_ble_eq_true rfl) (Exists.intro _ (And.intro (ct_M_words h (by omega) hI hI2) ?_)))))
      rintro r9 sh9 FR9 IA9 LA9 n9 ⟨z0, z1, z2, z3, z4, z5⟩
      subst z0
      replace z1 := z1.symm
      subst z1
      replace z2 := z2.symm
      subst z2
      replace z3 := z3.symm
      subst z3
      replace z4 := z4.symm
      subst z4
      replace z5 := z5.symm
      subst z5
      refine And.intro (Or.inl rfl) ?_
      refine And.intro (fun e => ?_) (fun e => ?_)
      · exact ⟨Or.inr rfl, ⟨rfl, rfl, rfl, rfl, rfl, Or.inl ⟨rfl, fun i hi => hq i (by omega)⟩⟩, Nat.le_of_ble_eq_true rfl, Nat.le_of_ble_eq_true rfl⟩
      · clear hr hs
        simp (disch := (clear e; omega)) only [mj_w_id] at e
        omega
    | succ t ih =>
      intro w hw hq
      refine mj_go z_M_areSame [3] 60 ?_
      refine And.intro h.o (And.intro (Nat.le_of_ble_eq_true rfl) (And.intro (Nat.le_of_ble_eq_true rfl) (And.intro (Nat.le_of_ble_eq_true rfl) (Exists.intro _ (And.intro (ct_M_words h (by omega) hI hI2) ?_)))))
      rintro r9 sh9 FR9 IA9 LA9 n9 ⟨z0, z1, z2, z3, z4, z5⟩
      subst z0
      replace z1 := z1.symm
      subst z1
      replace z2 := z2.symm
      subst z2
      replace z3 := z3.symm
      subst z3
      replace z4 := z4.symm
      subst z4
      replace z5 := z5.symm
      subst z5
      refine And.intro (Or.inl rfl) ?_
      refine And.intro (fun e => ?_) (fun e => ?_)
      · clear hr hs
        simp (disch := (clear e; omega)) only [mj_w_id] at e
        omega
      · clear e
        refine And.intro h.o (And.intro (Nat.le_of_ble_eq_true rfl) (And.intro (Nat.le_of_ble_eq_true rfl) (And.intro (Nat.le_of_ble_eq_true rfl) (Exists.intro _ (And.intro (ct_M_word (c := c) (w := w) h hc hI hI2 h1 h2 hr hr2 (by omega)) ?_)))))
        rintro r9 sh9 FR9 IA9 LA9 n9 ⟨z0, z1, z2, z3, z4, z5⟩
        subst z0
        replace z1 := z1.symm
        subst z1
        replace z2 := z2.symm
        subst z2
        replace z3 := z3.symm
        subst z3
        replace z4 := z4.symm
        subst z4
        replace z5 := z5.symm
        subst z5
        refine And.intro (Or.inl rfl) ?_
        refine And.intro h.o (And.intro (Nat.le_of_ble_eq_true rfl) (And.intro (Nat.le_of_ble_eq_true rfl) (And.intro (Nat.le_of_ble_eq_true rfl) (Exists.intro _ (And.intro (ct_M_word (c := d) (w := w) h hd hJ hJ2 k1 k2 hs hs2 (by omega)) ?_)))))
        rintro r9 sh9 FR9 IA9 LA9 n9 ⟨z0, z1, z2, z3, z4, z5⟩
        subst z0
        replace z1 := z1.symm
        subst z1
        replace z2 := z2.symm
        subst z2
        replace z3 := z3.symm
        subst z3
        replace z4 := z4.symm
        subst z4
        replace z5 := z5.symm
        subst z5
        refine And.intro (Or.inl rfl) ?_
        refine Exists.intro (mj_lc (M_lw LA I c r a w) (M_lw LA I2 d s b w)) (And.intro (rfl) ?_)
        refine And.intro (fun e => ?_) (fun e => ?_)
        · have e := mj_lc_z.mp e
          clear hr hs
          refine Exists.intro (((w + 1 : Nat) : Int)) (And.intro (by first | (rw [mj_w_id (by omega) (by omega)]; done) | (rw [mj_w_id (by omega) (by omega)]; omega) | (unfold mj_w; omega)) ?_)
          refine ih (w + 1) (by omega) (fun i hi => ?_)
          by_cases z : i = w
          · rw [z]
            exact e
          · exact hq i (by omega)
        · have e : ¬ M_lw LA I c r a w = M_lw LA I2 d s b w := fun z => e (mj_lc_z.mpr z)
          exact ⟨Or.inl rfl, ⟨rfl, rfl, rfl, rfl, rfl, Or.inr ⟨rfl, fun z => e (z w (by omega))⟩⟩, Nat.le_of_ble_eq_true rfl, Nat.le_of_ble_eq_true rfl⟩
  refine mj_Ct_of (by decide +kernel) (by decide) (Nat.le_of_ble_eq_true rfl) ?_
  refine mj_go z_M_areSame [3] 60 ?_
  exact loop (C_W I) 0 (by omega) (fun i hi => by omega)
end MM
