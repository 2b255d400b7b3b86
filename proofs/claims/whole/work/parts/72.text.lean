/-! WRITER: newLiteral, putFirstLine, putInputs, putOutputs, putGate -/
/-- the literal in the text -/
def wr_L (B : mj_FI) (w c b : Nat) (rd : Bool) (lit : Int) : Nat := (2 * B (w + 4) (wr_X B c b rd lit) + wr_F B c b rd lit % 2).toNat
def wr_h (bin : Bool) (I O g : Nat) : List Int := [97] ++ ([if bin = true then 105 else 97] ++ ([103] ++ ([32] ++ ((wr_n (I + g) ++ [32]) ++ ((wr_n I ++ [32]) ++ ((wr_n 0 ++ [32]) ++ ((wr_n O ++ [32]) ++ (wr_n g ++ [10]))))))))
def wr_i : Nat → List Int
  | 0 => []
  | k + 1 => wr_i k ++ (wr_n (2 * (k + 1)) ++ [10])
def wr_o (f : Nat → Nat) : Nat → List Int
  | 0 => []
  | k + 1 => wr_o f k ++ (wr_n (f k) ++ [10])
def wr_g (bin : Bool) (v hi lo : Nat) : List Int := if bin = true then wr_s (2 * v - hi) ++ wr_s (hi - lo) else (wr_n (2 * v) ++ [32]) ++ ((wr_n hi ++ [32]) ++ (wr_n lo ++ [10]))
theorem wr_h_len {bin : Bool} {I O g : Nat} : (wr_h bin I O g).length ≤ 24 := by
  have h1 := @wr_n_len (I + g)
  have h2 := @wr_n_len I
  have h3 := @wr_n_len 0
  have h4 := @wr_n_len O
  have h5 := @wr_n_len g
  unfold wr_h
  simp only [List.length_append, List.length_singleton]
  omega
theorem wr_i_len : ∀ k, (wr_i k).length ≤ 4 * k
  | 0 => Nat.le_refl _
  | k + 1 => by
    have h1 := @wr_n_len (2 * (k + 1))
    have ih := wr_i_len k
    simp only [wr_i, List.length_append, List.length_singleton]
    omega
theorem wr_o_len {f : Nat → Nat} : ∀ k, (wr_o f k).length ≤ 4 * k
  | 0 => Nat.le_refl _
  | k + 1 => by
    have h1 := @wr_n_len (f k)
    have ih := wr_o_len (f := f) k
    simp only [wr_o, List.length_append, List.length_singleton]
    omega
theorem wr_g_len {bin : Bool} {v hi lo : Nat} : (wr_g bin v hi lo).length ≤ 12 := by
  have h1 := @wr_n_len (2 * v)
  have h2 := @wr_n_len hi
  have h3 := @wr_n_len lo
  have h4 := @wr_s_len (2 * v - hi)
  have h5 := @wr_s_len (hi - lo)
  unfold wr_g
  split <;> simp only [List.length_append, List.length_singleton] <;> omega
theorem wr_T.e {B J : mj_FI} {w : Nat} {tx : List Int} (h : wr_T B J w tx) : wr_e B J w := ⟨fun q hq => h.1 q (by omega) (by omega), h.2.1 7 (by decide)⟩
section WW
variable {sh : mj_Sh} {FR : mj_FR} {B : mj_FI} {LA : mj_LA} {n w c b : Nat}
theorem ct_W_newLiteral (h : isW sh FR n w) (hC : isC sh FR n c b) (hN : isNet sh FR n b) (ha : wr_ap w c b) {J : mj_FI} {rd : Bool} {lit : Int} {tx : List Int} (hT : wr_T B J w tx) (hr : B w 7 = if rd = true then 1 else 0) (hH : wr_H B c b rd) (hl : wr_st B b lit) (hu : 0 ≤ B (w + 4) (wr_X B c b rd lit) ∧ B (w + 4) (wr_X B c b rd lit) ≤ 314) : mj_Ct m_W_newLiteral [.inr (.inr (.inl w)), .inr (.inr (.inl c)), .inl lit] sh FR J LA n (mj_pu (.inl (some (.inl ((wr_L B w c b rd lit : Nat) : Int)))) sh FR J LA n) := by
  have hW := h
  obtain ⟨h0, r1, r2, r3, r4, r5, r6, a1, a2, a3, a4, a5, a6⟩ := h
  obtain ⟨l1, l2, l3, l4⟩ := (hH lit hl).1
  have xl := wr_X_lt hH hl
  have e : J (b + 1) (wr_F B c b rd lit / 2).toNat = ((wr_X B c b rd lit : Nat) : Int) := by
    rw [show J (b + 1) = B (b + 1) from hT.e.b ha (by decide)]
    unfold wr_X wr_sl
    omega
  have j4 : J (w + 4) = B (w + 4) := hT.1 _ (by omega) (by omega)
  have hL : ((wr_L B w c b rd lit : Nat) : Int) = 2 * B (w + 4) (wr_X B c b rd lit) + wr_F B c b rd lit % 2 := by
    unfold wr_L
    omega
  rw [hL]
  refine mj_Ct_of (by decide +kernel) (by decide) (Nat.le_of_ble_eq_true rfl) ?_
  refine mj_go z_W_newLiteral [] 60 ?_
  refine And.intro h0 (And.intro (Nat.le_of_ble_eq_true rfl) (And.intro (Nat.le_of_ble_eq_true rfl) (And.intro (Nat.le_of_ble_eq_true rfl) (Exists.intro _ (And.intro (ct_W_finalLiteral hW hC hN ha hT.e hr hH hl) ?_)))))
  rintro r9 sh9 FR9 IA9 LA9 n9 ⟨z0, z1, z2, z3, z4, z5⟩
  subst z0
  replace z1 := z1.symm
  subst z1
  replace z2 := z2.symm
  subst z2
  replace z3 := z3.symm
  subst z3
  replace z4 := z4.symm
  subst z4
  replace z5 := z5.symm
  subst z5
  refine And.intro (Or.inl rfl) ?_
  refine And.intro h0 (Exists.intro _ (And.intro r4 ?_))
  refine And.intro hC.1 (Exists.intro _ (And.intro hC.2.1 ?_))
  refine And.intro hN.1 (And.intro (Nat.le_of_ble_eq_true rfl) (And.intro (Nat.le_of_ble_eq_true rfl) (And.intro (Nat.le_of_ble_eq_true rfl) (Exists.intro _ (And.intro (ct_N_slotFor hN l1 l2) ?_)))))
  rintro r9 sh9 FR9 IA9 LA9 n9 ⟨z0, z1, z2, z3, z4, z5⟩
  subst z0
  replace z1 := z1.symm
  subst z1
  replace z2 := z2.symm
  subst z2
  replace z3 := z3.symm
  subst z3
  replace z4 := z4.symm
  subst z4
  replace z5 := z5.symm
  subst z5
  refine And.intro (Or.inl rfl) ?_
  rw [e]
  clear e l3 l4
  refine Exists.intro _ (Exists.intro (wr_X B c b rd lit) (And.intro a4 (And.intro (by first | (rw [mj_w_id (by omega) (by omega)]; done) | (rw [mj_w_id (by omega) (by omega)]; omega) | (unfold mj_w; omega)) (And.intro (by omega) ?_))))
  rw [j4]
  refine Exists.intro ((2 * B (w + 4) (wr_X B c b rd lit))) (And.intro (by first | (rw [mj_w_id (by omega) (by omega)]; done) | (rw [mj_w_id (by omega) (by omega)]; omega) | (unfold mj_w; omega)) ?_)
  refine Exists.intro (wr_F B c b rd lit % 2) (And.intro (nu_and1 _) ?_)
  refine Exists.intro ((2 * B (w + 4) (wr_X B c b rd lit) + wr_F B c b rd lit % 2)) (And.intro (by first | (rw [mj_w_id (by omega) (by omega)]; done) | (rw [mj_w_id (by omega) (by omega)]; omega) | (unfold mj_w; omega)) ?_)
  exact ⟨⟨rfl, rfl, rfl, rfl, rfl, rfl⟩, Nat.le_of_ble_eq_true rfl, Nat.le_of_ble_eq_true rfl⟩
theorem ct_W_putFirstLine (h : isW sh FR n w) (hN : isNet sh FR n b) (ha : b + 8 < w ∨ w + 6 < b) {J : mj_FI} {bin : Bool} {I O g : Nat} (hT : wr_T B J w []) (hI : B b 10 = (I : Int)) (hO : B b 12 = (O : Int)) (hg : B w 8 = (g : Int)) (hI2 : I ≤ 14) (hO2 : O ≤ 16) (hg2 : g ≤ 300) : mj_Ct m_W_putFirstLine [.inr (.inr (.inl w)), .inr (.inr (.inl b)), .inl (if bin = true then 1 else 0)] sh FR J LA n (mj_po (fun o J' => o = .inl none ∧ wr_T B J' w (wr_h bin I O g)) sh FR LA n) := by
  have hW := h
  obtain ⟨h0, r1, r2, r3, r4, r5, r6, a1, a2, a3, a4, a5, a6⟩ := h
  have l1 := @wr_n_len (I + g)
  have l2 := @wr_n_len I
  have l3 := @wr_n_len 0
  have l4 := @wr_n_len O
  have hb : ∀ (J : mj_FI) (tx : List Int), wr_T B J w tx → J b = B b := fun J tx hT => hT.1 b (by omega) (by omega)
  have rest : ∀ (J : mj_FI), wr_T B J w ([] ++ [97] ++ [if bin = true then 105 else 97]) → mj_G m_W_putFirstLine (mj_po (fun o J' => o = .inl none ∧ wr_T B J' w (wr_h bin I O g)) sh FR LA n) 21 [some (.inr (.inr (.inl w))), some (.inr (.inr (.inl b))), some (.inl (if bin = true then 1 else 0))] [] sh FR J LA n 0 0 := by
    intro J hT
    refine mj_go z_W_putFirstLine [] 60 ?_
    refine And.intro h0 (And.intro (Nat.le_of_ble_eq_true rfl) (And.intro (Nat.le_of_ble_eq_true rfl) (And.intro (Nat.le_of_ble_eq_true rfl) (Exists.intro _ (And.intro (ct_W_putByte hW hT (by simp)) ?_)))))
    rintro o1 sh9 FR9 J1 LA9 n9 ⟨z1, z2, z3, z4, hp1⟩
    replace z1 := z1.symm
    subst z1
    replace z2 := z2.symm
    subst z2
    replace z3 := z3.symm
    subst z3
    replace z4 := z4.symm
    subst z4
    obtain ⟨ho, hT⟩ := hp1
    subst ho
    refine And.intro (Or.inl rfl) ?_
    refine And.intro h0 (And.intro (Nat.le_of_ble_eq_true rfl) (And.intro (Nat.le_of_ble_eq_true rfl) (And.intro (Nat.le_of_ble_eq_true rfl) (Exists.intro _ (And.intro (ct_W_putByte hW hT (by simp)) ?_)))))
    rintro o2 sh9 FR9 J2 LA9 n9 ⟨z1, z2, z3, z4, hp2⟩
    replace z1 := z1.symm
    subst z1
    replace z2 := z2.symm
    subst z2
    replace z3 := z3.symm
    subst z3
    replace z4 := z4.symm
    subst z4
    obtain ⟨ho, hT⟩ := hp2
    subst ho
    refine And.intro (Or.inl rfl) ?_
    refine And.intro hN.1 ?_
    refine And.intro h0 ?_
    rw [hb _ _ hT, hI, hT.2.1 8 (by decide), hg]
    refine Exists.intro (((I + g : Nat) : Int)) (And.intro (by first | (rw [mj_w_id (by omega) (by omega)]; done) | (rw [mj_w_id (by omega) (by omega)]; omega) | (unfold mj_w; omega)) ?_)
    refine And.intro h0 (And.intro (Nat.le_of_ble_eq_true rfl) (And.intro (Nat.le_of_ble_eq_true rfl) (And.intro (Nat.le_of_ble_eq_true rfl) (Exists.intro _ (And.intro (ct_W_putNumber hW hT (by simp) (by omega)) ?_)))))
    rintro o3 sh9 FR9 J3 LA9 n9 ⟨z1, z2, z3, z4, hp3⟩
    replace z1 := z1.symm
    subst z1
    replace z2 := z2.symm
    subst z2
    replace z3 := z3.symm
    subst z3
    replace z4 := z4.symm
    subst z4
    obtain ⟨ho, hT⟩ := hp3
    subst ho
    refine And.intro (Or.inl rfl) ?_
    refine And.intro hN.1 ?_
    rw [hb _ _ hT, hI]
    refine And.intro h0 (And.intro (Nat.le_of_ble_eq_true rfl) (And.intro (Nat.le_of_ble_eq_true rfl) (And.intro (Nat.le_of_ble_eq_true rfl) (Exists.intro _ (And.intro (ct_W_putNumber hW hT (by simp; omega) (by omega)) ?_)))))
    rintro o4 sh9 FR9 J4 LA9 n9 ⟨z1, z2, z3, z4, hp4⟩
    replace z1 := z1.symm
    subst z1
    replace z2 := z2.symm
    subst z2
    replace z3 := z3.symm
    subst z3
    replace z4 := z4.symm
    subst z4
    obtain ⟨ho, hT⟩ := hp4
    subst ho
    refine And.intro (Or.inl rfl) ?_
    refine And.intro h0 (And.intro (Nat.le_of_ble_eq_true rfl) (And.intro (Nat.le_of_ble_eq_true rfl) (And.intro (Nat.le_of_ble_eq_true rfl) (Exists.intro _ (And.intro (ct_W_putNumber (v := 0) hW hT (by simp; omega) (by omega)) ?_)))))
    rintro o5 sh9 FR9 J5 LA9 n9 ⟨z1, z2, z3, z4, hp5⟩
    replace z1 := z1.symm
    subst z1
    replace z2 := z2.symm
    subst z2
    replace z3 := z3.symm
    subst z3
    replace z4 := z4.symm
    subst z4
    obtain ⟨ho, hT⟩ := hp5
    subst ho
    refine And.intro (Or.inl rfl) ?_
    refine And.intro hN.1 ?_
    rw [hb _ _ hT, hO]
    refine And.intro h0 (And.intro (Nat.le_of_ble_eq_true rfl) (And.intro (Nat.le_of_ble_eq_true rfl) (And.intro (Nat.le_of_ble_eq_true rfl) (Exists.intro _ (And.intro (ct_W_putNumber hW hT (by simp; omega) (by omega)) ?_)))))
    rintro o6 sh9 FR9 J6 LA9 n9 ⟨z1, z2, z3, z4, hp6⟩
    replace z1 := z1.symm
    subst z1
    replace z2 := z2.symm
    subst z2
    replace z3 := z3.symm
    subst z3
    replace z4 := z4.symm
    subst z4
    obtain ⟨ho, hT⟩ := hp6
    subst ho
    refine And.intro (Or.inl rfl) ?_
    refine And.intro h0 ?_
    rw [hT.2.1 8 (by decide), hg]
    refine And.intro h0 (And.intro (Nat.le_of_ble_eq_true rfl) (And.intro (Nat.le_of_ble_eq_true rfl) (And.intro (Nat.le_of_ble_eq_true rfl) (Exists.intro _ (And.intro (ct_W_putNumber hW hT (by simp; omega) (by omega)) ?_)))))
    rintro o7 sh9 FR9 J7 LA9 n9 ⟨z1, z2, z3, z4, hp7⟩
    replace z1 := z1.symm
    subst z1
    replace z2 := z2.symm
    subst z2
    replace z3 := z3.symm
    subst z3
    replace z4 := z4.symm
    subst z4
    obtain ⟨ho, hT⟩ := hp7
    subst ho
    refine And.intro (Or.inl rfl) ?_
    refine ⟨⟨rfl, rfl, rfl, rfl, rfl, ?_⟩, Nat.le_of_ble_eq_true rfl, Nat.le_of_ble_eq_true rfl⟩
    unfold wr_h
    simp only [List.nil_append, List.append_assoc] at hT ⊢
    exact hT
  refine mj_Ct_of (by decide +kernel) (by decide) (Nat.le_of_ble_eq_true rfl) ?_
  refine mj_go z_W_putFirstLine [21] 60 ?_
  refine And.intro h0 (And.intro (Nat.le_of_ble_eq_true rfl) (And.intro (Nat.le_of_ble_eq_true rfl) (And.intro (Nat.le_of_ble_eq_true rfl) (Exists.intro _ (And.intro (ct_W_putByte hW hT (by simp)) ?_)))))
  rintro o1 sh9 FR9 J1 LA9 n9 ⟨z1, z2, z3, z4, hp1⟩
  replace z1 := z1.symm
  subst z1
  replace z2 := z2.symm
  subst z2
  replace z3 := z3.symm
  subst z3
  replace z4 := z4.symm
  subst z4
  obtain ⟨ho, hT1⟩ := hp1
  subst ho
  refine And.intro (Or.inl rfl) ?_
  cases bin with
  | true =>
    refine And.intro (fun d => ?_) (fun d => ?_)
    · exact absurd d (by decide)
    · clear d
      refine And.intro h0 (And.intro (Nat.le_of_ble_eq_true rfl) (And.intro (Nat.le_of_ble_eq_true rfl) (And.intro (Nat.le_of_ble_eq_true rfl) (Exists.intro _ (And.intro (ct_W_putByte hW hT1 (by simp)) ?_)))))
      rintro o2 sh9 FR9 J2 LA9 n9 ⟨z1, z2, z3, z4, hp2⟩
      replace z1 := z1.symm
      subst z1
      replace z2 := z2.symm
      subst z2
      replace z3 := z3.symm
      subst z3
      replace z4 := z4.symm
      subst z4
      obtain ⟨ho, hT2⟩ := hp2
      subst ho
      refine And.intro (Or.inl rfl) ?_
      exact rest J2 hT2
  | false =>
    refine And.intro (fun d => ?_) (fun d => ?_)
    · clear d
      refine And.intro h0 (And.intro (Nat.le_of_ble_eq_true rfl) (And.intro (Nat.le_of_ble_eq_true rfl) (And.intro (Nat.le_of_ble_eq_true rfl) (Exists.intro _ (And.intro (ct_W_putByte hW hT1 (by simp)) ?_)))))
      rintro o2 sh9 FR9 J2 LA9 n9 ⟨z1, z2, z3, z4, hp2⟩
      replace z1 := z1.symm
      subst z1
      replace z2 := z2.symm
      subst z2
      replace z3 := z3.symm
      subst z3
      replace z4 := z4.symm
      subst z4
      obtain ⟨ho, hT2⟩ := hp2
      subst ho
      refine And.intro (Or.inl rfl) ?_
      exact rest J2 hT2
    · exact absurd (show mj_w 0 = 0 by decide) d
theorem ct_W_putInputs (h : isW sh FR n w) (hN : isNet sh FR n b) (ha : b + 8 < w ∨ w + 6 < b) {J : mj_FI} {I : Nat} {tx : List Int} (hT : wr_T B J w tx) (hl : tx.length ≤ 100) (hI : B b 10 = (I : Int)) (hI2 : I ≤ 14) : mj_Ct m_W_putInputs [.inr (.inr (.inl w)), .inr (.inr (.inl b))] sh FR J LA n (mj_po (fun o J' => o = .inl none ∧ wr_T B J' w (tx ++ wr_i I)) sh FR LA n) := by
  have hW := h
  obtain ⟨h0, r1, r2, r3, r4, r5, r6, a1, a2, a3, a4, a5, a6⟩ := h
  have loop : ∀ (t k : Nat) (J : mj_FI), k + t = I → wr_T B J w (tx ++ wr_i k) → mj_G m_W_putInputs (mj_po (fun o J' => o = .inl none ∧ wr_T B J' w (tx ++ wr_i I)) sh FR LA n) 2 [some (.inr (.inr (.inl w))), some (.inr (.inr (.inl b))), some (.inl ((k + 1 : Nat) : Int))] [] sh FR J LA n 0 0 := by
    intro t
    induction t with
    | zero =>
      intro k J hk hT
      have hk : k = I := by omega
      subst hk
      have hb : J b = B b := hT.1 b (by omega) (by omega)
      refine mj_go z_W_putInputs [2] 60 ?_
      refine And.intro hN.1 ?_
      rw [hb, hI]
      refine And.intro (fun d => ?_) (fun d => ?_)
      · exact ⟨⟨rfl, rfl, rfl, rfl, rfl, hT⟩, Nat.le_of_ble_eq_true rfl, Nat.le_of_ble_eq_true rfl⟩
      · simp (disch := (clear d; omega)) only [mj_w_id] at d
        omega
    | succ t ih =>
      intro k J hk hT
      have hb : J b = B b := hT.1 b (by omega) (by omega)
      have hli := wr_i_len k
      refine mj_go z_W_putInputs [2] 60 ?_
      refine And.intro hN.1 ?_
      rw [hb, hI]
      refine And.intro (fun d => ?_) (fun d => ?_)
      · simp (disch := (clear d; omega)) only [mj_w_id] at d
        omega
      · clear d
        refine Exists.intro (((2 * (k + 1) : Nat) : Int)) (And.intro (by first | (rw [mj_w_id (by omega) (by omega)]; done) | (rw [mj_w_id (by omega) (by omega)]; omega) | (unfold mj_w; omega)) ?_)
        refine And.intro h0 (And.intro (Nat.le_of_ble_eq_true rfl) (And.intro (Nat.le_of_ble_eq_true rfl) (And.intro (Nat.le_of_ble_eq_true rfl) (Exists.intro _ (And.intro (ct_W_putNumber hW hT (by rw [List.length_append]; omega) (by omega)) ?_)))))
        rintro o1 sh9 FR9 J1 LA9 n9 ⟨z1, z2, z3, z4, hp1⟩
        replace z1 := z1.symm
        subst z1
        replace z2 := z2.symm
        subst z2
        replace z3 := z3.symm
        subst z3
        replace z4 := z4.symm
        subst z4
        obtain ⟨ho, hT1⟩ := hp1
        subst ho
        refine And.intro (Or.inl rfl) ?_
        refine Exists.intro (((k + 1 + 1 : Nat) : Int)) (And.intro (by first | (rw [mj_w_id (by omega) (by omega)]; done) | (rw [mj_w_id (by omega) (by omega)]; omega) | (unfold mj_w; omega)) ?_)
        refine ih (k + 1) J1 (by omega) ?_
        rw [List.append_assoc] at hT1
        exact hT1
  refine mj_Ct_of (by decide +kernel) (by decide) (Nat.le_of_ble_eq_true rfl) ?_
  refine mj_go z_W_putInputs [2] 60 ?_
  exact loop I 0 J (by omega) (by simpa [wr_i] using hT)
theorem ct_W_putOutputs (h : isW sh FR n w) (hC : isC sh FR n c b) (hN : isNet sh FR n b) (ha : wr_ap w c b) {J : mj_FI} {rd : Bool} {O : Nat} {tx : List Int} (hT : wr_T B J w tx) (hl : tx.length ≤ 200) (hr : B w 7 = if rd = true then 1 else 0) (hH : wr_H B c b rd) (hO : B b 12 = (O : Int)) (hO2 : O ≤ 16) (hou : ∀ k, k < O → wr_st B b (B (b + 5) k) ∧ 0 ≤ B (w + 4) (wr_X B c b rd (B (b + 5) k)) ∧ B (w + 4) (wr_X B c b rd (B (b + 5) k)) ≤ 314) : mj_Ct m_W_putOutputs [.inr (.inr (.inl w)), .inr (.inr (.inl c))] sh FR J LA n (mj_po (fun o J' => o = .inl none ∧ wr_T B J' w (tx ++ wr_o (fun k => wr_L B w c b rd (B (b + 5) k)) O)) sh FR LA n) := by
  have hW := h
  obtain ⟨h0, r1, r2, r3, r4, r5, r6, a1, a2, a3, a4, a5, a6⟩ := h
  have hap := ha
  unfold wr_ap at hap
  generalize hf : (fun k => wr_L B w c b rd (B (b + 5) k)) = f
  have hf2 : ∀ k, wr_L B w c b rd (B (b + 5) k) = f k := fun k => by rw [← hf]
  have hf3 : ∀ k, k < O → f k < 1000 := fun k hk => by
    have := hou k hk
    rw [← hf2]
    unfold wr_L
    omega
  have loop : ∀ (t k : Nat) (J : mj_FI), k + t = O → wr_T B J w (tx ++ wr_o f k) → mj_G m_W_putOutputs (mj_po (fun o J' => o = .inl none ∧ wr_T B J' w (tx ++ wr_o f O)) sh FR LA n) 2 [some (.inr (.inr (.inl w))), some (.inr (.inr (.inl c))), some (.inl k)] [] sh FR J LA n 0 0 := by
    intro t
    induction t with
    | zero =>
      intro k J hk hT
      have hk : k = O := by omega
      subst hk
      have hb : J b = B b := hT.1 b (by omega) (by omega)
      refine mj_go z_W_putOutputs [2] 60 ?_
      refine And.intro hC.1 (Exists.intro _ (And.intro hC.2.1 ?_))
      refine And.intro hN.1 ?_
      rw [hb, hO]
      refine And.intro (fun d => ?_) (fun d => ?_)
      · exact ⟨⟨rfl, rfl, rfl, rfl, rfl, hT⟩, Nat.le_of_ble_eq_true rfl, Nat.le_of_ble_eq_true rfl⟩
      · simp (disch := (clear d; omega)) only [mj_w_id] at d
        omega
    | succ t ih =>
      intro k J hk hT
      have hb : J b = B b := hT.1 b (by omega) (by omega)
      have hb5 : J (b + 5) = B (b + 5) := hT.1 _ (by omega) (by omega)
      have hli := wr_o_len (f := f) k
      obtain ⟨p1, p2⟩ := hou k (by omega)
      refine mj_go z_W_putOutputs [2] 60 ?_
      refine And.intro hC.1 (Exists.intro _ (And.intro hC.2.1 ?_))
      refine And.intro hN.1 ?_
      rw [hb, hO]
      refine And.intro (fun d => ?_) (fun d => ?_)
      · simp (disch := (clear d; omega)) only [mj_w_id] at d
        omega
      · clear d
        refine And.intro hC.1 (Exists.intro _ (And.intro hC.2.1 ?_))
        refine And.intro hN.1 (Exists.intro _ (And.intro hN.2.2.2.2.2.1 ?_))
        refine Exists.intro _ (Exists.intro (k) (And.intro hN.2.2.2.2.2.2.2.2.2.2.2.2.2.1 (And.intro (by first | (rw [mj_w_id (by omega) (by omega)]; done) | (rw [mj_w_id (by omega) (by omega)]; omega) | (unfold mj_w; omega)) (And.intro (by omega) ?_))))
        rw [hb5]
        refine And.intro h0 (And.intro (Nat.le_of_ble_eq_true rfl) (And.intro (Nat.le_of_ble_eq_true rfl) (And.intro (Nat.le_of_ble_eq_true rfl) (Exists.intro _ (And.intro (ct_W_newLiteral hW hC hN ha hT hr hH p1 p2) ?_)))))
        rintro r9 sh9 FR9 IA9 LA9 n9 ⟨z0, z1, z2, z3, z4, z5⟩
        subst z0
        replace z1 := z1.symm
        subst z1
        replace z2 := z2.symm
        subst z2
        replace z3 := z3.symm
        subst z3
        replace z4 := z4.symm
        subst z4
        replace z5 := z5.symm
        subst z5
        refine And.intro (Or.inl rfl) ?_
        rw [hf2]
        have := hf3 k (by omega)
        refine And.intro h0 (And.intro (Nat.le_of_ble_eq_true rfl) (And.intro (Nat.le_of_ble_eq_true rfl) (And.intro (Nat.le_of_ble_eq_true rfl) (Exists.intro _ (And.intro (ct_W_putNumber hW hT (by rw [List.length_append]; omega) (by omega)) ?_)))))
        rintro o1 sh9 FR9 J1 LA9 n9 ⟨z1, z2, z3, z4, hp1⟩
        replace z1 := z1.symm
        subst z1
        replace z2 := z2.symm
        subst z2
        replace z3 := z3.symm
        subst z3
        replace z4 := z4.symm
        subst z4
        obtain ⟨ho, hT1⟩ := hp1
        subst ho
        refine And.intro (Or.inl rfl) ?_
        refine Exists.intro (((k + 1 : Nat) : Int)) (And.intro (by first | (rw [mj_w_id (by omega) (by omega)]; done) | (rw [mj_w_id (by omega) (by omega)]; omega) | (unfold mj_w; omega)) ?_)
        refine ih (k + 1) J1 (by omega) ?_
        rw [List.append_assoc] at hT1
        exact hT1
  refine mj_Ct_of (by decide +kernel) (by decide) (Nat.le_of_ble_eq_true rfl) ?_
  refine mj_go z_W_putOutputs [2] 60 ?_
  exact loop O 0 J (by omega) (by simpa [wr_o] using hT)
end WW
