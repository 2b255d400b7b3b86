/-! CIRCUIT: lastOne, firstDifference, isWithin -/
/-- the last vector below N at which f is true; -1 without one -/
def C_lst (f : Nat → Bool) (N : Nat) (z : Int) : Prop := (∃ y : Nat, z = (y : Int) ∧ y < N ∧ f y = true ∧ ∀ i, y < i → i < N → f i = false) ∨ (z = -1 ∧ ∀ i, i < N → f i = false)
theorem nu_xor {x y : Nat} (hx : x < 2147483648) (hy : y < 2147483648) : (Int32.ofInt (x : Int) ^^^ Int32.ofInt (y : Int)).toInt = ((x ^^^ y : Nat) : Int) := by
  have h1 : (Int32.ofInt (x : Int)).toBitVec.toNat = x := by
    have := nu_ofInt_toNat (x : Int)
    omega
  have h2 : (Int32.ofInt (y : Int)).toBitVec.toNat = y := by
    have := nu_ofInt_toNat (y : Int)
    omega
  have hlt : x ^^^ y < 2 ^ 31 := Nat.xor_lt_two_pow hx hy
  have hn : ((Int32.ofInt (x : Int)).toBitVec ^^^ (Int32.ofInt (y : Int)).toBitVec).toNat = x ^^^ y := by rw [BitVec.toNat_xor, h1, h2]
  show ((Int32.ofInt (x : Int)).toBitVec ^^^ (Int32.ofInt (y : Int)).toBitVec).toInt = _
  rw [nu_toInt_small (by omega), hn]
theorem C_bt_w {LA : mj_LA} {c s w i : Nat} {lit : Int} (hi : i < 64) : C_bt LA c s lit (64 * w + i) = (C_lw LA c s lit w).getLsbD i := by
  unfold C_bt
  rw [show (64 * w + i) / 64 = w by omega, show (64 * w + i) % 64 = i by omega]
section CC
variable {sh : mj_Sh} {FR : mj_FR} {IA : mj_FI} {LA : mj_LA} {n c b : Nat}
set_option maxHeartbeats 1000000 in
theorem ct_C_lastOne (h : isC sh FR n c b) (hN : isNet sh FR n b) {lit : Int} {s W : Nat} (h1 : 0 ≤ lit) (h2 : lit ≤ 2001) (h3 : IA (b + 1) (lit / 2).toNat = (s : Int)) (hs : s < 315) (hW : IA c 8 = (W : Int)) (hW2 : W ≤ 256) : mj_Ct m_C_lastOne [.inr (.inr (.inl c)), .inl lit] sh FR IA LA n (mj_po (fun o J => J = IA ∧ ∃ z, o = .inl (some (.inl z)) ∧ C_lst (C_bt LA c s lit) (64 * W) z) sh FR LA n) := by
  have hC := h
  obtain ⟨h0, r0, r4, r5, r6, r7, a4, a5, a6, a7⟩ := h
  have loop : ∀ (w : Nat) (y : Option mj_V), w ≤ W → (∀ i, 64 * w ≤ i → i < 64 * W → C_bt LA c s lit i = false) → mj_G m_C_lastOne (mj_po (fun o J => J = IA ∧ ∃ z, o = .inl (some (.inl z)) ∧ C_lst (C_bt LA c s lit) (64 * W) z) sh FR LA n) 20 [some (.inr (.inr (.inl c))), some (.inl lit), some (.inl ((s * 256 : Nat) : Int)), some (.inr (.inl (if lit % 2 = 0 then 0#64 else LA c 9))), none, some (.inl ((w : Int) - 1)), y, none] [] sh FR IA LA n 0 0 := by
    clear h3
    intro w
    induction w with
    | zero =>
      intro y hw hz
      refine mj_go z_C_lastOne [20] 60 ?_
      refine And.intro (fun d => ?_) (fun d => ?_)
      · exact ⟨⟨rfl, rfl, rfl, rfl, rfl, _, rfl, Or.inr ⟨rfl, fun i hi => hz i (by omega) hi⟩⟩, Nat.le_of_ble_eq_true rfl, Nat.le_of_ble_eq_true rfl⟩
      · exact absurd (show mj_w (((0 : Nat) : Int) - 1) < 0 by decide) d
    | succ w ih =>
      intro y hw hz
      rw [show (((w + 1 : Nat) : Int) - 1) = (w : Int) by omega]
      refine mj_go z_C_lastOne [20] 60 ?_
      refine And.intro (fun d => ?_) (fun d => ?_)
      · simp (disch := (clear d; omega)) only [mj_w_id] at d
        omega
      · clear d
        refine And.intro h0 (Exists.intro _ (And.intro r4 ?_))
        refine Exists.intro (((s * 256 + w : Nat) : Int)) (And.intro (by first | (rw [mj_w_id (by omega) (by omega)]; done) | (rw [mj_w_id (by omega) (by omega)]; omega) | (unfold mj_w; omega)) ?_)
        refine Exists.intro _ (Exists.intro (s * 256 + w) (And.intro a4 (And.intro (by first | (rw [mj_w_id (by omega) (by omega)]; done) | (rw [mj_w_id (by omega) (by omega)]; omega) | (unfold mj_w; omega)) (And.intro (by omega) ?_))))
        refine Exists.intro _ (And.intro rfl ?_)
        refine And.intro (fun d => ?_) (fun d => ?_)
        · have d : C_lw LA c s lit w = 0#64 := mj_lc_z.mp d
          refine Exists.intro (((w : Int) - 1)) (And.intro (by first | (rw [mj_w_id (by omega) (by omega)]; done) | (rw [mj_w_id (by omega) (by omega)]; omega) | (unfold mj_w; omega)) ?_)
          refine ih _ (by omega) (fun i i1 i2 => ?_)
          by_cases z : 64 * (w + 1) ≤ i
          · exact hz i z i2
          · rw [show i = 64 * w + (i - 64 * w) by omega, C_bt_w (by omega), d]
            simp
        · have d : ¬ C_lw LA c s lit w = 0#64 := fun z => d (mj_lc_z.mpr z)
          obtain ⟨t, t1, t2, t3, t4, t5⟩ := bv_high d
          refine Exists.intro (((w * 64 : Nat) : Int)) (And.intro (by first | (rw [mj_w_id (by omega) (by omega)]; done) | (rw [mj_w_id (by omega) (by omega)]; omega) | (unfold mj_w; omega)) ?_)
          refine Exists.intro (((w * 64 + 64 : Nat) : Int)) (And.intro (by first | (rw [mj_w_id (by omega) (by omega)]; done) | (rw [mj_w_id (by omega) (by omega)]; omega) | (unfold mj_w; omega)) ?_)
          refine Exists.intro (((w * 64 + 63 : Nat) : Int)) (And.intro (by first | (rw [mj_w_id (by omega) (by omega)]; done) | (rw [mj_w_id (by omega) (by omega)]; omega) | (unfold mj_w; omega)) ?_)
          refine And.intro trivial (And.intro (Nat.le_of_ble_eq_true rfl) (And.intro (Nat.le_of_ble_eq_true rfl) (And.intro (Nat.le_of_ble_eq_true rfl) (Exists.intro _ (And.intro (ct_J_nlz t2 t3 t1) ?_)))))
          rintro r9 sh9 FR9 IA9 LA9 n9 ⟨z0, z1, z2, z3, z4, z5⟩
          subst z0
          replace z1 := z1.symm
          subst z1
          replace z2 := z2.symm
          subst z2
          replace z3 := z3.symm
          subst z3
          replace z4 := z4.symm
          subst z4
          replace z5 := z5.symm
          subst z5
          refine And.intro (Or.inl rfl) ?_
          refine Exists.intro (((64 * w + t : Nat) : Int)) (And.intro (by first | (rw [mj_w_id (by omega) (by omega)]; done) | (rw [mj_w_id (by omega) (by omega)]; omega) | (unfold mj_w; omega)) ?_)
          refine ⟨⟨rfl, rfl, rfl, rfl, rfl, _, rfl, Or.inl ⟨64 * w + t, rfl, by omega, by rw [C_bt_w t1]; exact t4, fun i i1 i2 => ?_⟩⟩, Nat.le_of_ble_eq_true rfl, Nat.le_of_ble_eq_true rfl⟩
          by_cases z : 64 * (w + 1) ≤ i
          · exact hz i z i2
          · rw [show i = 64 * w + (i - 64 * w) by omega, C_bt_w (by omega)]
            exact t5 _ (by omega)
  refine mj_Ct_of (by decide +kernel) (by decide) (Nat.le_of_ble_eq_true rfl) ?_
  refine mj_go z_C_lastOne [20] 60 ?_
  refine And.intro h0 (And.intro (Nat.le_of_ble_eq_true rfl) (And.intro (Nat.le_of_ble_eq_true rfl) (And.intro (Nat.le_of_ble_eq_true rfl) (Exists.intro _ (And.intro (ct_C_rowOf hC hN h1 h2 h3 hs) ?_)))))
  rintro r9 sh9 FR9 IA9 LA9 n9 ⟨z0, z1, z2, z3, z4, z5⟩
  subst z0
  replace z1 := z1.symm
  subst z1
  replace z2 := z2.symm
  subst z2
  replace z3 := z3.symm
  subst z3
  replace z4 := z4.symm
  subst z4
  replace z5 := z5.symm
  subst z5
  refine And.intro (Or.inl rfl) ?_
  refine And.intro h0 (And.intro (Nat.le_of_ble_eq_true rfl) (And.intro (Nat.le_of_ble_eq_true rfl) (And.intro (Nat.le_of_ble_eq_true rfl) (Exists.intro _ (And.intro (ct_C_flipOf hC h1 (by omega)) ?_)))))
  rintro r9 sh9 FR9 IA9 LA9 n9 ⟨z0, z1, z2, z3, z4, z5⟩
  subst z0
  replace z1 := z1.symm
  subst z1
  replace z2 := z2.symm
  subst z2
  replace z3 := z3.symm
  subst z3
  replace z4 := z4.symm
  subst z4
  replace z5 := z5.symm
  subst z5
  refine And.intro (Or.inl rfl) ?_
  refine And.intro h0 ?_
  rw [hW]
  clear h3
  refine Exists.intro (((W : Int) - 1)) (And.intro (by first | (rw [mj_w_id (by omega) (by omega)]; done) | (rw [mj_w_id (by omega) (by omega)]; omega) | (unfold mj_w; omega)) ?_)
  exact loop W none (Nat.le_refl _) (fun i i1 i2 => by omega)
set_option maxHeartbeats 1000000 in
theorem ct_C_firstDifference (h : isC sh FR n c b) (hN : isNet sh FR n b) {d b2 : Nat} (h' : isC sh FR n d b2) (hN' : isNet sh FR n b2) {x y s t W : Nat} (h2 : x ≤ 2001) (h3 : IA (b + 1) ((x : Int) / 2).toNat = (s : Int)) (hs : s < 315) (k2 : y ≤ 2001) (k3 : IA (b2 + 1) ((y : Int) / 2).toNat = (t : Int)) (ht : t < 315) (hm : LA d 9 = LA c 9) (hW : IA c 8 = (W : Int)) (hW2 : W ≤ 256) : mj_Ct m_C_firstDifference [.inr (.inr (.inl c)), .inl x, .inr (.inr (.inl d)), .inl y] sh FR IA LA n (mj_po (fun o J => J = IA ∧ ∃ z, o = .inl (some (.inl z)) ∧ C_fst (fun v => C_bt LA c s x v ^^ C_bt LA d t y v) 0 (64 * W) z) sh FR LA n) := by
  have hC := h
  have hC' := h'
  obtain ⟨h0, r0, r4, r5, r6, r7, a4, a5, a6, a7⟩ := h
  obtain ⟨g0, k0, k4, k5, k6, k7, b4, b5, b6, b7⟩ := h'
  generalize hfl : (if (((x ^^^ y : Nat) : Int)) % 2 = 0 then 0#64 else LA c 9) = fl
  have hword : ∀ w, LA (c + 10) (s * 256 + w) ^^^ LA (d + 10) (t * 256 + w) ^^^ fl = C_lw LA c s x w ^^^ C_lw LA d t y w := by
    intro w
    have hpar := @Nat.xor_mod_two_eq_one x y
    unfold C_lw C_rw
    rw [hm, ← hfl]
    generalize LA (c + 10) (s * 256 + w) = p
    generalize LA (d + 10) (t * 256 + w) = q
    generalize LA c 9 = mk
    generalize x ^^^ y = xy at hpar
    by_cases e1 : (x : Int) % 2 = 0
    · by_cases e2 : (y : Int) % 2 = 0
      · rw [if_pos e1, if_pos e2, if_pos (by omega)]
        simp
      · rw [if_pos e1, if_neg e2, if_neg (by omega), BitVec.xor_zero, BitVec.xor_assoc]
    · by_cases e2 : (y : Int) % 2 = 0
      · rw [if_neg e1, if_pos e2, if_neg (by omega), BitVec.xor_zero, BitVec.xor_assoc, BitVec.xor_comm q, ← BitVec.xor_assoc]
      · rw [if_neg e1, if_neg e2, if_pos (by omega), BitVec.xor_zero, BitVec.xor_assoc p, BitVec.xor_comm q, ← BitVec.xor_assoc mk, BitVec.xor_self, BitVec.zero_xor]
  have loop : ∀ (k w : Nat) (z : Option mj_V), w + k = W → (∀ i, i < 64 * w → (C_bt LA c s x i ^^ C_bt LA d t y i) = false) → mj_G m_C_firstDifference (mj_po (fun o J => J = IA ∧ ∃ z, o = .inl (some (.inl z)) ∧ C_fst (fun v => C_bt LA c s x v ^^ C_bt LA d t y v) 0 (64 * W) z) sh FR LA n) 26 [some (.inr (.inr (.inl c))), some (.inl x), some (.inr (.inr (.inl d))), some (.inl y), some (.inl ((s * 256 : Nat) : Int)), some (.inl ((t * 256 : Nat) : Int)), some (.inr (.inl fl)), none, some (.inl w), z, none] [] sh FR IA LA n 0 0 := by
    clear h3 k3
    intro k
    induction k with
    | zero =>
      intro w z hw hz
      have hw : w = W := by omega
      subst hw
      refine mj_go z_C_firstDifference [26] 60 ?_
      refine And.intro h0 ?_
      rw [hW]
      refine And.intro (fun e => ?_) (fun e => ?_)
      · exact ⟨⟨rfl, rfl, rfl, rfl, rfl, _, rfl, Or.inr ⟨rfl, fun i _ hi => hz i hi⟩⟩, Nat.le_of_ble_eq_true rfl, Nat.le_of_ble_eq_true rfl⟩
      · simp (disch := (clear e; omega)) only [mj_w_id] at e
        omega
    | succ k ih =>
      intro w z hw hz
      have hbit : ∀ i, i < 64 → (C_bt LA c s x (64 * w + i) ^^ C_bt LA d t y (64 * w + i)) = (C_lw LA c s x w ^^^ C_lw LA d t y w).getLsbD i := fun i hi => by rw [C_bt_w hi, C_bt_w hi, BitVec.getLsbD_xor]
      refine mj_go z_C_firstDifference [26] 60 ?_
      refine And.intro h0 ?_
      rw [hW]
      refine And.intro (fun e => ?_) (fun e => ?_)
      · simp (disch := (clear e; omega)) only [mj_w_id] at e
        omega
      · clear e
        refine And.intro h0 (Exists.intro _ (And.intro r4 ?_))
        refine Exists.intro (((s * 256 + w : Nat) : Int)) (And.intro (by first | (rw [mj_w_id (by omega) (by omega)]; done) | (rw [mj_w_id (by omega) (by omega)]; omega) | (unfold mj_w; omega)) ?_)
        refine Exists.intro _ (Exists.intro (s * 256 + w) (And.intro a4 (And.intro (by first | (rw [mj_w_id (by omega) (by omega)]; done) | (rw [mj_w_id (by omega) (by omega)]; omega) | (unfold mj_w; omega)) (And.intro (by omega) ?_))))
        refine And.intro g0 (Exists.intro _ (And.intro k4 ?_))
        refine Exists.intro (((t * 256 + w : Nat) : Int)) (And.intro (by first | (rw [mj_w_id (by omega) (by omega)]; done) | (rw [mj_w_id (by omega) (by omega)]; omega) | (unfold mj_w; omega)) ?_)
        refine Exists.intro _ (Exists.intro (t * 256 + w) (And.intro b4 (And.intro (by first | (rw [mj_w_id (by omega) (by omega)]; done) | (rw [mj_w_id (by omega) (by omega)]; omega) | (unfold mj_w; omega)) (And.intro (by omega) ?_))))
        refine Exists.intro _ (And.intro rfl ?_)
        refine And.intro (fun e => ?_) (fun e => ?_)
        · have e := mj_lc_z.mp e
          rw [hword w] at e
          refine Exists.intro (((w + 1 : Nat) : Int)) (And.intro (by first | (rw [mj_w_id (by omega) (by omega)]; done) | (rw [mj_w_id (by omega) (by omega)]; omega) | (unfold mj_w; omega)) ?_)
          refine ih (w + 1) _ (by omega) (fun i i2 => ?_)
          by_cases z : i < 64 * w
          · exact hz i z
          · have h5 := hbit (i - 64 * w) (by omega)
            rw [e, show 64 * w + (i - 64 * w) = i by omega] at h5
            rw [h5]
            simp
        · have e : ¬ LA (c + 10) (s * 256 + w) ^^^ LA (d + 10) (t * 256 + w) ^^^ fl = 0#64 := fun z => e (mj_lc_z.mpr z)
          obtain ⟨j, q, t1, t2, t3, t4⟩ := bv_low e
          rw [hword w] at t3 t4
          refine Exists.intro (((w * 64 : Nat) : Int)) (And.intro (by first | (rw [mj_w_id (by omega) (by omega)]; done) | (rw [mj_w_id (by omega) (by omega)]; omega) | (unfold mj_w; omega)) ?_)
          refine And.intro trivial (And.intro (Nat.le_of_ble_eq_true rfl) (And.intro (Nat.le_of_ble_eq_true rfl) (And.intro (Nat.le_of_ble_eq_true rfl) (Exists.intro _ (And.intro (ct_J_ntz t2 t1) ?_)))))
          rintro r9 sh9 FR9 IA9 LA9 n9 ⟨z0, z1, z2, z3, z4, z5⟩
          subst z0
          replace z1 := z1.symm
          subst z1
          replace z2 := z2.symm
          subst z2
          replace z3 := z3.symm
          subst z3
          replace z4 := z4.symm
          subst z4
          replace z5 := z5.symm
          subst z5
          refine And.intro (Or.inl rfl) ?_
          refine Exists.intro (((64 * w + j : Nat) : Int)) (And.intro (by first | (rw [mj_w_id (by omega) (by omega)]; done) | (rw [mj_w_id (by omega) (by omega)]; omega) | (unfold mj_w; omega)) ?_)
          refine ⟨⟨rfl, rfl, rfl, rfl, rfl, _, rfl, Or.inl ⟨64 * w + j, rfl, Nat.zero_le _, by omega, by dsimp only; rw [hbit j t1]; exact t3, fun i _ i2 => ?_⟩⟩, Nat.le_of_ble_eq_true rfl, Nat.le_of_ble_eq_true rfl⟩
          dsimp only
          by_cases z : i < 64 * w
          · exact hz i z
          · have h5 := hbit (i - 64 * w) (by omega)
            rw [t4 _ (by omega), show 64 * w + (i - 64 * w) = i by omega] at h5
            exact h5
  refine mj_Ct_of (by decide +kernel) (by decide) (Nat.le_of_ble_eq_true rfl) ?_
  refine mj_go z_C_firstDifference [26] 60 ?_
  refine And.intro h0 (And.intro (Nat.le_of_ble_eq_true rfl) (And.intro (Nat.le_of_ble_eq_true rfl) (And.intro (Nat.le_of_ble_eq_true rfl) (Exists.intro _ (And.intro (ct_C_rowOf hC hN (by omega) (by omega) h3 hs) ?_)))))
  rintro r9 sh9 FR9 IA9 LA9 n9 ⟨z0, z1, z2, z3, z4, z5⟩
  subst z0
  replace z1 := z1.symm
  subst z1
  replace z2 := z2.symm
  subst z2
  replace z3 := z3.symm
  subst z3
  replace z4 := z4.symm
  subst z4
  replace z5 := z5.symm
  subst z5
  refine And.intro (Or.inl rfl) ?_
  refine And.intro g0 (And.intro (Nat.le_of_ble_eq_true rfl) (And.intro (Nat.le_of_ble_eq_true rfl) (And.intro (Nat.le_of_ble_eq_true rfl) (Exists.intro _ (And.intro (ct_C_rowOf hC' hN' (by omega) (by omega) k3 ht) ?_)))))
  rintro r9 sh9 FR9 IA9 LA9 n9 ⟨z0, z1, z2, z3, z4, z5⟩
  subst z0
  replace z1 := z1.symm
  subst z1
  replace z2 := z2.symm
  subst z2
  replace z3 := z3.symm
  subst z3
  replace z4 := z4.symm
  subst z4
  replace z5 := z5.symm
  subst z5
  refine And.intro (Or.inl rfl) ?_
  clear h3 k3
  have hx : x ^^^ y < 2 ^ 11 := Nat.xor_lt_two_pow (by omega) (by omega)
  refine Exists.intro ((((x ^^^ y : Nat) : Int))) (And.intro (nu_xor (by omega) (by omega)) ?_)
  refine And.intro h0 (And.intro (Nat.le_of_ble_eq_true rfl) (And.intro (Nat.le_of_ble_eq_true rfl) (And.intro (Nat.le_of_ble_eq_true rfl) (Exists.intro _ (And.intro (ct_C_flipOf hC (by omega) (by omega)) ?_)))))
  rintro r9 sh9 FR9 IA9 LA9 n9 ⟨z0, z1, z2, z3, z4, z5⟩
  subst z0
  replace z1 := z1.symm
  subst z1
  replace z2 := z2.symm
  subst z2
  replace z3 := z3.symm
  subst z3
  replace z4 := z4.symm
  subst z4
  replace z5 := z5.symm
  subst z5
  refine And.intro (Or.inl rfl) ?_
  rw [hfl]
  exact loop W 0 none (by omega) (fun i hi => by omega)
set_option maxHeartbeats 1000000 in
theorem ct_C_isWithin (h : isC sh FR n c b) (hN : isNet sh FR n b) {x y : Int} {s t W : Nat} (h1 : 0 ≤ x) (h2 : x ≤ 2001) (h3 : IA (b + 1) (x / 2).toNat = (s : Int)) (hs : s < 315) (k1 : 0 ≤ y) (k2 : y ≤ 2001) (k3 : IA (b + 1) (y / 2).toNat = (t : Int)) (ht : t < 315) (hW : IA c 8 = (W : Int)) (hW2 : W ≤ 256) : mj_Ct m_C_isWithin [.inr (.inr (.inl c)), .inl x, .inl y] sh FR IA LA n (mj_po (fun o J => J = IA ∧ ((o = .inl (some (.inl 1)) ∧ ∀ w, w < W → C_lw LA c s x w &&& C_lw LA c t (y + 1) w = 0#64) ∨ (o = .inl (some (.inl 0)) ∧ ¬ ∀ w, w < W → C_lw LA c s x w &&& C_lw LA c t (y + 1) w = 0#64))) sh FR LA n) := by
  have hC := h
  obtain ⟨h0, r0, r4, r5, r6, r7, a4, a5, a6, a7⟩ := h
  generalize hQ : mj_po (fun o J => J = IA ∧ ((o = .inl (some (.inl 1)) ∧ ∀ w, w < W → C_lw LA c s x w &&& C_lw LA c t (y + 1) w = 0#64) ∨ (o = .inl (some (.inl 0)) ∧ ¬ ∀ w, w < W → C_lw LA c s x w &&& C_lw LA c t (y + 1) w = 0#64))) sh FR LA n = Q
  generalize hfx : (if x % 2 = 0 then 0#64 else LA c 9) = fx
  generalize hfy : (if (y + 1) % 2 = 0 then 0#64 else LA c 9) = fy
  have hlx : ∀ w, C_lw LA c s x w = LA (c + 10) (s * 256 + w) ^^^ fx := fun w => by
    rw [← hfx]
    rfl
  have hly : ∀ w, C_lw LA c t (y + 1) w = LA (c + 10) (t * 256 + w) ^^^ fy := fun w => by
    rw [← hfy]
    rfl
  have loop : ∀ (k w : Nat), w + k = W → (∀ i, i < w → C_lw LA c s x i &&& C_lw LA c t (y + 1) i = 0#64) → mj_G m_C_isWithin Q 32 [some (.inr (.inr (.inl c))), some (.inl x), some (.inl y), some (.inl ((s * 256 : Nat) : Int)), some (.inl ((t * 256 : Nat) : Int)), some (.inr (.inl fx)), none, some (.inr (.inl fy)), none, some (.inl w)] [] sh FR IA LA n 0 0 := by
    clear h3 k3 hfx hfy
    subst hQ
    intro k
    induction k with
    | zero =>
      intro w hw hz
      have hw : w = W := by omega
      subst hw
      refine mj_go z_C_isWithin [32] 60 ?_
      refine And.intro h0 ?_
      rw [hW]
      refine And.intro (fun e => ?_) (fun e => ?_)
      · exact ⟨Or.inr rfl, ⟨rfl, rfl, rfl, rfl, rfl, Or.inl ⟨rfl, hz⟩⟩, Nat.le_of_ble_eq_true rfl, Nat.le_of_ble_eq_true rfl⟩
      · simp (disch := (clear e; omega)) only [mj_w_id] at e
        omega
    | succ k ih =>
      intro w hw hz
      refine mj_go z_C_isWithin [32] 60 ?_
      refine And.intro h0 ?_
      rw [hW]
      refine And.intro (fun e => ?_) (fun e => ?_)
      · simp (disch := (clear e; omega)) only [mj_w_id] at e
        omega
      · clear e
        refine And.intro h0 (Exists.intro _ (And.intro r4 ?_))
        refine Exists.intro (((s * 256 + w : Nat) : Int)) (And.intro (by first | (rw [mj_w_id (by omega) (by omega)]; done) | (rw [mj_w_id (by omega) (by omega)]; omega) | (unfold mj_w; omega)) ?_)
        refine Exists.intro _ (Exists.intro (s * 256 + w) (And.intro a4 (And.intro (by first | (rw [mj_w_id (by omega) (by omega)]; done) | (rw [mj_w_id (by omega) (by omega)]; omega) | (unfold mj_w; omega)) (And.intro (by omega) ?_))))
        refine And.intro h0 (Exists.intro _ (And.intro r4 ?_))
        refine Exists.intro (((t * 256 + w : Nat) : Int)) (And.intro (by first | (rw [mj_w_id (by omega) (by omega)]; done) | (rw [mj_w_id (by omega) (by omega)]; omega) | (unfold mj_w; omega)) ?_)
        refine Exists.intro _ (Exists.intro (t * 256 + w) (And.intro a4 (And.intro (by first | (rw [mj_w_id (by omega) (by omega)]; done) | (rw [mj_w_id (by omega) (by omega)]; omega) | (unfold mj_w; omega)) (And.intro (by omega) ?_))))
        refine Exists.intro _ (And.intro rfl ?_)
        refine And.intro (fun e => ?_) (fun e => ?_)
        · have e := mj_lc_z.mp e
          rw [← hlx, ← hly] at e
          refine Exists.intro (((w + 1 : Nat) : Int)) (And.intro (by first | (rw [mj_w_id (by omega) (by omega)]; done) | (rw [mj_w_id (by omega) (by omega)]; omega) | (unfold mj_w; omega)) ?_)
          refine ih (w + 1) (by omega) (fun i hi => ?_)
          by_cases z : i = w
          · subst z
            exact e
          · exact hz i (by omega)
        · have e : ¬ C_lw LA c s x w &&& C_lw LA c t (y + 1) w = 0#64 := fun z => e (mj_lc_z.mpr (by rw [← hlx, ← hly]; exact z))
          exact ⟨Or.inl rfl, ⟨rfl, rfl, rfl, rfl, rfl, Or.inr ⟨rfl, fun z => e (z w (by omega))⟩⟩, Nat.le_of_ble_eq_true rfl, Nat.le_of_ble_eq_true rfl⟩
  have hy2 : (if (if y % 2 = 0 then y + 1 else y - 1) % 2 = 0 then 0#64 else LA c 9) = fy := by
    rw [← hfy]
    by_cases e : y % 2 = 0
    · rw [if_pos e]
    · rw [if_neg e, if_pos (by omega), if_pos (by omega)]
  refine mj_Ct_of (by decide +kernel) (by decide) (Nat.le_of_ble_eq_true rfl) ?_
  refine mj_go z_C_isWithin [32] 60 ?_
  refine And.intro h0 (And.intro (Nat.le_of_ble_eq_true rfl) (And.intro (Nat.le_of_ble_eq_true rfl) (And.intro (Nat.le_of_ble_eq_true rfl) (Exists.intro _ (And.intro (ct_C_rowOf hC hN h1 h2 h3 hs) ?_)))))
  rintro r9 sh9 FR9 IA9 LA9 n9 ⟨z0, z1, z2, z3, z4, z5⟩
  subst z0
  replace z1 := z1.symm
  subst z1
  replace z2 := z2.symm
  subst z2
  replace z3 := z3.symm
  subst z3
  replace z4 := z4.symm
  subst z4
  replace z5 := z5.symm
  subst z5
  refine And.intro (Or.inl rfl) ?_
  refine And.intro h0 (And.intro (Nat.le_of_ble_eq_true rfl) (And.intro (Nat.le_of_ble_eq_true rfl) (And.intro (Nat.le_of_ble_eq_true rfl) (Exists.intro _ (And.intro (ct_C_rowOf hC hN k1 k2 k3 ht) ?_)))))
  rintro r9 sh9 FR9 IA9 LA9 n9 ⟨z0, z1, z2, z3, z4, z5⟩
  subst z0
  replace z1 := z1.symm
  subst z1
  replace z2 := z2.symm
  subst z2
  replace z3 := z3.symm
  subst z3
  replace z4 := z4.symm
  subst z4
  replace z5 := z5.symm
  subst z5
  refine And.intro (Or.inl rfl) ?_
  clear h3 k3
  refine And.intro h0 (And.intro (Nat.le_of_ble_eq_true rfl) (And.intro (Nat.le_of_ble_eq_true rfl) (And.intro (Nat.le_of_ble_eq_true rfl) (Exists.intro _ (And.intro (ct_C_flipOf hC h1 (by omega)) ?_)))))
  rintro r9 sh9 FR9 IA9 LA9 n9 ⟨z0, z1, z2, z3, z4, z5⟩
  subst z0
  replace z1 := z1.symm
  subst z1
  replace z2 := z2.symm
  subst z2
  replace z3 := z3.symm
  subst z3
  replace z4 := z4.symm
  subst z4
  replace z5 := z5.symm
  subst z5
  refine And.intro (Or.inl rfl) ?_
  rw [hfx]
  refine Exists.intro ((if y % 2 = 0 then y + 1 else y - 1)) (And.intro ((nu_xorb k1 (by omega) (Or.inr rfl)).trans (if_neg (by decide))) ?_)
  refine And.intro h0 (And.intro (Nat.le_of_ble_eq_true rfl) (And.intro (Nat.le_of_ble_eq_true rfl) (And.intro (Nat.le_of_ble_eq_true rfl) (Exists.intro _ (And.intro (ct_C_flipOf hC (by split <;> omega) (by split <;> omega)) ?_)))))
  rintro r9 sh9 FR9 IA9 LA9 n9 ⟨z0, z1, z2, z3, z4, z5⟩
  subst z0
  replace z1 := z1.symm
  subst z1
  replace z2 := z2.symm
  subst z2
  replace z3 := z3.symm
  subst z3
  replace z4 := z4.symm
  subst z4
  replace z5 := z5.symm
  subst z5
  refine And.intro (Or.inl rfl) ?_
  rw [hy2]
  exact loop W 0 (by omega) (fun i hi => by omega)
end CC
