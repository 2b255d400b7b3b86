/-! CIRCUIT: bitAt, leaderOf, firstOne, lastOne -/
/-- word w of the literal lit of slot s -/
def C_lw (LA : mj_LA) (c s : Nat) (lit : Int) (w : Nat) : BitVec 64 := C_rw LA c s w ^^^ (if lit % 2 = 0 then 0#64 else LA c 9)
/-- its value at vector v -/
def C_bt (LA : mj_LA) (c s : Nat) (lit : Int) (v : Nat) : Bool := (C_lw LA c s lit (v / 64)).getLsbD (v % 64)
theorem bv_bit (x : BitVec 64) {k : Nat} (_ : k < 64) : (mj_w (x >>> k).toInt) % 2 = if x.getLsbD k = true then 1 else 0 := by
  have h1 := nu_l2i (x >>> k)
  have h2 : (x >>> k).toNat = x.toNat / 2 ^ k := by rw [BitVec.toNat_ushiftRight, Nat.shiftRight_eq_div_pow]
  have h3 : x.getLsbD k = decide (x.toNat / 2 ^ k % 2 = 1) := by
    show x.toNat.testBit k = _
    rw [Nat.testBit_eq_decide_div_mod_eq]
  rw [h2] at h1
  generalize x.toNat / 2 ^ k = q at h1 h3
  generalize mj_w (x >>> k).toInt = z at h1
  rw [h3]
  by_cases e : q % 2 = 1
  · simp [e]
    omega
  · simp [e]
    omega
theorem nat_low : ∀ (N : Nat), 0 < N → ∃ t q, N = 2 ^ t * (2 * q + 1) := by
  intro N
  induction N using Nat.strongRecOn with
  | ind N ih =>
    intro h
    by_cases e : N % 2 = 1
    · exact ⟨0, N / 2, by omega⟩
    · obtain ⟨t, q, hq⟩ := ih (N / 2) (by omega) (by omega)
      refine ⟨t + 1, q, ?_⟩
      rw [Nat.pow_succ, Nat.mul_comm (2 ^ t) 2, Nat.mul_assoc, ← hq]
      omega
theorem bv_low {x : BitVec 64} (h : ¬ x = 0#64) : ∃ t q, t < 64 ∧ x.toNat = 2 ^ t * (2 * q + 1) ∧ x.getLsbD t = true ∧ ∀ i, i < t → x.getLsbD i = false := by
  have hp : 0 < x.toNat := by
    by_cases z : x.toNat = 0
    · exact absurd (BitVec.eq_of_toNat_eq z) h
    · omega
  obtain ⟨t, q, hq⟩ := nat_low x.toNat hp
  have hlt : t < 64 := by
    by_cases z : t < 64
    · exact z
    · have h1 : 2 ^ 64 ≤ 2 ^ t := Nat.pow_le_pow_right (by decide) (by omega)
      have h2 : 2 ^ t ≤ 2 ^ t * (2 * q + 1) := Nat.le_mul_of_pos_right _ (by omega)
      have := x.isLt
      omega
  have h0 : x.toNat = 2 ^ t * (2 * q + 1) + 0 := hq
  refine ⟨t, q, hlt, hq, ?_, fun i hi => ?_⟩
  · show x.toNat.testBit t = true
    rw [h0, Nat.testBit_two_pow_mul_add _ (Nat.two_pow_pos t)]
    simp
  · show x.toNat.testBit i = false
    rw [h0, Nat.testBit_two_pow_mul_add _ (Nat.two_pow_pos t), if_pos hi]
    simp
theorem bv_high {x : BitVec 64} (h : ¬ x = 0#64) : ∃ t, t < 64 ∧ 2 ^ t ≤ x.toNat ∧ x.toNat < 2 ^ (t + 1) ∧ x.getLsbD t = true ∧ ∀ i, t < i → x.getLsbD i = false := by
  have hp : x.toNat ≠ 0 := fun z => h (BitVec.eq_of_toNat_eq z)
  have h1 := Nat.log2_self_le hp
  have h2 : x.toNat < 2 ^ (x.toNat.log2 + 1) := Nat.lt_log2_self
  generalize x.toNat.log2 = t at h1 h2
  have hlt : t < 64 := by
    by_cases z : t < 64
    · exact z
    · have h3 : 2 ^ 64 ≤ 2 ^ t := Nat.pow_le_pow_right (by decide) (by omega)
      have := x.isLt
      omega
  refine ⟨t, hlt, h1, h2, ?_, fun i hi => ?_⟩
  · show x.toNat.testBit t = true
    rw [Nat.testBit_eq_decide_div_mod_eq]
    have h3 : x.toNat / 2 ^ t = 1 := by
      have hp2 := Nat.two_pow_pos t
      rw [Nat.pow_succ] at h2
      have a1 : 1 ≤ x.toNat / 2 ^ t := (Nat.le_div_iff_mul_le hp2).mpr (by omega)
      have a2 : x.toNat / 2 ^ t < 2 := (Nat.div_lt_iff_lt_mul hp2).mpr (by omega)
      omega
    rw [h3]
    rfl
  · show x.toNat.testBit i = false
    refine Nat.testBit_lt_two_pow (Nat.lt_of_lt_of_le h2 (Nat.pow_le_pow_right (by decide) (by omega)))
theorem nu_s63 : ∀ k : Fin 64, (((Int32.ofInt (k.val : Int)).toInt64 &&& 63).toBitVec.smod 64).toNat = k.val := by decide +kernel
theorem nu_lshl (x : BitVec 64) {k : Nat} (hk : k < 64) : (Int64.ofBitVec x <<< ((Int32.ofInt (k : Int)).toInt64 &&& 63)).toBitVec = x <<< k := by
  have h := nu_s63 ⟨k, hk⟩
  show x <<< (((Int32.ofInt (k : Int)).toInt64 &&& 63).toBitVec.smod 64) = x <<< k
  rw [BitVec.shiftLeft_eq', h]
section CC
variable {sh : mj_Sh} {FR : mj_FR} {IA : mj_FI} {LA : mj_LA} {n c b : Nat}
theorem ct_C_bitAt (h : isC sh FR n c b) (hN : isNet sh FR n b) {lit : Int} {s v : Nat} (h1 : 0 ≤ lit) (h2 : lit ≤ 2001) (h3 : IA (b + 1) (lit / 2).toNat = (s : Int)) (hs : s < 315) (hv : v < 16384) : mj_Ct m_C_bitAt [.inr (.inr (.inl c)), .inl lit, .inl v] sh FR IA LA n (mj_pu (.inl (some (.inl (if C_bt LA c s lit v = true then 1 else 0)))) sh FR IA LA n) := by
  have hC := h
  obtain ⟨h0, r0, r4, r5, r6, r7, a4, a5, a6, a7⟩ := h
  refine mj_Ct_of (by decide +kernel) (by decide) (Nat.le_of_ble_eq_true rfl) ?_
  refine mj_go z_C_bitAt [] 60 ?_
  refine And.intro h0 (Exists.intro _ (And.intro r4 ?_))
  refine And.intro h0 (And.intro (Nat.le_of_ble_eq_true rfl) (And.intro (Nat.le_of_ble_eq_true rfl) (And.intro (Nat.le_of_ble_eq_true rfl) (Exists.intro _ (And.intro (ct_C_rowOf hC hN h1 h2 h3 hs) ?_)))))
  rintro r9 sh9 FR9 IA9 LA9 n9 ⟨z0, z1, z2, z3, z4, z5⟩
  subst z0
  replace z1 := z1.symm
  subst z1
  replace z2 := z2.symm
  subst z2
  replace z3 := z3.symm
  subst z3
  replace z4 := z4.symm
  subst z4
  replace z5 := z5.symm
  subst z5
  refine And.intro (Or.inl rfl) ?_
  clear h3
  refine And.intro (by decide) ?_
  refine Exists.intro (((v / 64 : Nat) : Int)) (And.intro ((nu_div (by omega) (by omega) (by omega) (by omega)).trans (by omega)) ?_)
  refine Exists.intro (((s * 256 + v / 64 : Nat) : Int)) (And.intro (by first | (rw [mj_w_id (by omega) (by omega)]; done) | (rw [mj_w_id (by omega) (by omega)]; omega) | (unfold mj_w; omega)) ?_)
  refine Exists.intro _ (Exists.intro (s * 256 + v / 64) (And.intro a4 (And.intro (by first | (rw [mj_w_id (by omega) (by omega)]; done) | (rw [mj_w_id (by omega) (by omega)]; omega) | (unfold mj_w; omega)) (And.intro (by omega) ?_))))
  refine And.intro h0 (And.intro (Nat.le_of_ble_eq_true rfl) (And.intro (Nat.le_of_ble_eq_true rfl) (And.intro (Nat.le_of_ble_eq_true rfl) (Exists.intro _ (And.intro (ct_C_flipOf hC h1 (by omega)) ?_)))))
  rintro r9 sh9 FR9 IA9 LA9 n9 ⟨z0, z1, z2, z3, z4, z5⟩
  subst z0
  replace z1 := z1.symm
  subst z1
  replace z2 := z2.symm
  subst z2
  replace z3 := z3.symm
  subst z3
  replace z4 := z4.symm
  subst z4
  replace z5 := z5.symm
  subst z5
  refine And.intro (Or.inl rfl) ?_
  refine And.intro (by decide) ?_
  refine Exists.intro (((v % 64 : Nat) : Int)) (And.intro ((nu_rem (by omega) (by omega) (by omega) (by omega)).trans (by omega)) ?_)
  refine Exists.intro ((C_lw LA c s lit (v / 64)) >>> (v % 64)) (And.intro (nu_lushr _ (by omega)) ?_)
  refine Exists.intro (mj_w ((C_lw LA c s lit (v / 64)) >>> (v % 64)).toInt) (And.intro (rfl) ?_)
  refine Exists.intro ((if C_bt LA c s lit v = true then 1 else 0)) (And.intro ((nu_and1 _).trans (bv_bit _ (by omega))) ?_)
  exact ⟨⟨rfl, rfl, rfl, rfl, rfl, rfl⟩, Nat.le_of_ble_eq_true rfl, Nat.le_of_ble_eq_true rfl⟩
/-- a literal with the sign of lit -/
def C_sg (x lit : Int) : Int := if lit % 2 = 0 then x else if x % 2 = 0 then x + 1 else x - 1
theorem ct_C_leaderOf (h : isC sh FR n c b) (hN : isNet sh FR n b) {lit : Int} {s : Nat} (h1 : 0 ≤ lit) (h2 : lit ≤ 2001) (h3 : IA (b + 1) (lit / 2).toNat = (s : Int)) (hs : s < 315) (h4 : 0 ≤ IA (c + 12) s) (h5 : IA (c + 12) s ≤ 3000) : mj_Ct m_C_leaderOf [.inr (.inr (.inl c)), .inl lit] sh FR IA LA n (mj_pu (.inl (some (.inl (C_sg (IA (c + 12) s) lit)))) sh FR IA LA n) := by
  obtain ⟨h0, r0, r4, r5, r6, r7, a4, a5, a6, a7⟩ := h
  refine mj_Ct_of (by decide +kernel) (by decide) (Nat.le_of_ble_eq_true rfl) ?_
  refine mj_go z_C_leaderOf [] 60 ?_
  refine And.intro h0 (Exists.intro _ (And.intro r6 ?_))
  refine And.intro h0 (Exists.intro _ (And.intro r0 ?_))
  refine And.intro hN.1 (And.intro (Nat.le_of_ble_eq_true rfl) (And.intro (Nat.le_of_ble_eq_true rfl) (And.intro (Nat.le_of_ble_eq_true rfl) (Exists.intro _ (And.intro (ct_N_slotFor hN h1 h2) ?_)))))
  rintro r9 sh9 FR9 IA9 LA9 n9 ⟨z0, z1, z2, z3, z4, z5⟩
  subst z0
  replace z1 := z1.symm
  subst z1
  replace z2 := z2.symm
  subst z2
  replace z3 := z3.symm
  subst z3
  replace z4 := z4.symm
  subst z4
  replace z5 := z5.symm
  subst z5
  refine And.intro (Or.inl rfl) ?_
  rw [h3]
  clear h3
  refine Exists.intro _ (Exists.intro (s) (And.intro a6 (And.intro (by first | (rw [mj_w_id (by omega) (by omega)]; done) | (rw [mj_w_id (by omega) (by omega)]; omega) | (unfold mj_w; omega)) (And.intro (by omega) ?_))))
  refine Exists.intro (lit % 2) (And.intro (nu_and1 _) ?_)
  refine Exists.intro (C_sg (IA (c + 12) s) lit) (And.intro (nu_xorb h4 (by omega) (by omega)) ?_)
  exact ⟨⟨rfl, rfl, rfl, rfl, rfl, rfl⟩, Nat.le_of_ble_eq_true rfl, Nat.le_of_ble_eq_true rfl⟩
/-- the first vector from x on at which f is true, below N; -1 without one -/
def C_fst (f : Nat → Bool) (x N : Nat) (z : Int) : Prop := (∃ y : Nat, z = (y : Int) ∧ x ≤ y ∧ y < N ∧ f y = true ∧ ∀ i, x ≤ i → i < y → f i = false) ∨ (z = -1 ∧ ∀ i, x ≤ i → i < N → f i = false)
set_option maxHeartbeats 1000000 in
theorem ct_C_firstOne (h : isC sh FR n c b) (hN : isNet sh FR n b) {lit : Int} {s v W : Nat} (h1 : 0 ≤ lit) (h2 : lit ≤ 2001) (h3 : IA (b + 1) (lit / 2).toNat = (s : Int)) (hs : s < 315) (hW : IA c 8 = (W : Int)) (hW2 : W ≤ 256) (hv : v < 64 * W) : mj_Ct m_C_firstOne [.inr (.inr (.inl c)), .inl lit, .inl v] sh FR IA LA n (mj_po (fun o J => J = IA ∧ ∃ z, o = .inl (some (.inl z)) ∧ C_fst (C_bt LA c s lit) v (64 * W) z) sh FR LA n) := by
  have hC := h
  obtain ⟨h0, r0, r4, r5, r6, r7, a4, a5, a6, a7⟩ := h
  have loop : ∀ (k w : Nat) (y : Option mj_V), w + k = W → v / 64 ≤ w → (∀ i, v ≤ i → i < 64 * w → C_bt LA c s lit i = false) → mj_G m_C_firstOne (mj_po (fun o J => J = IA ∧ ∃ z, o = .inl (some (.inl z)) ∧ C_fst (C_bt LA c s lit) v (64 * W) z) sh FR LA n) 23 [some (.inr (.inr (.inl c))), some (.inl lit), some (.inl v), some (.inl ((s * 256 : Nat) : Int)), some (.inr (.inl (if lit % 2 = 0 then 0#64 else LA c 9))), none, some (.inl ((v / 64 : Nat) : Int)), some (.inl w), y, none] [] sh FR IA LA n 0 0 := by
    clear h3
    intro k
    induction k with
    | zero =>
      intro w y hw hv2 hz
      have hw : w = W := by omega
      subst hw
      refine mj_go z_C_firstOne [23] 60 ?_
      refine And.intro h0 ?_
      rw [hW]
      refine And.intro (fun d => ?_) (fun d => ?_)
      · exact ⟨⟨rfl, rfl, rfl, rfl, rfl, _, rfl, Or.inr ⟨rfl, hz⟩⟩, Nat.le_of_ble_eq_true rfl, Nat.le_of_ble_eq_true rfl⟩
      · simp (disch := (clear d; omega)) only [mj_w_id] at d
        omega
    | succ k ih =>
      intro w y hw hv2 hz
      have fin : ∀ x : BitVec 64, (∀ i, i < 64 → x.getLsbD i = (C_bt LA c s lit (64 * w + i) && decide (v ≤ 64 * w + i))) → mj_G m_C_firstOne (mj_po (fun o J => J = IA ∧ ∃ z, o = .inl (some (.inl z)) ∧ C_fst (C_bt LA c s lit) v (64 * W) z) sh FR LA n) 66 [some (.inr (.inr (.inl c))), some (.inl lit), some (.inl v), some (.inl ((s * 256 : Nat) : Int)), some (.inr (.inl (if lit % 2 = 0 then 0#64 else LA c 9))), none, some (.inl ((v / 64 : Nat) : Int)), some (.inl w), some (.inr (.inl x)), none] [] sh FR IA LA n 0 0 := by
        intro x hx
        refine mj_go z_C_firstOne [23] 60 ?_
        refine Exists.intro _ (And.intro rfl ?_)
        refine And.intro (fun d => ?_) (fun d => ?_)
        · have d := mj_lc_z.mp d
          refine Exists.intro (((w + 1 : Nat) : Int)) (And.intro (by first | (rw [mj_w_id (by omega) (by omega)]; done) | (rw [mj_w_id (by omega) (by omega)]; omega) | (unfold mj_w; omega)) ?_)
          refine ih (w + 1) _ (by omega) (by omega) (fun i i1 i2 => ?_)
          by_cases z : i < 64 * w
          · exact hz i i1 z
          · have := hx (i - 64 * w) (by omega)
            rw [d, show 64 * w + (i - 64 * w) = i by omega] at this
            simp [i1] at this
            exact this
        · have d : ¬ x = 0#64 := fun z => d (mj_lc_z.mpr z)
          obtain ⟨t, q, t1, t2, t3, t4⟩ := bv_low d
          refine Exists.intro (((w * 64 : Nat) : Int)) (And.intro (by first | (rw [mj_w_id (by omega) (by omega)]; done) | (rw [mj_w_id (by omega) (by omega)]; omega) | (unfold mj_w; omega)) ?_)
          refine And.intro trivial (And.intro (Nat.le_of_ble_eq_true rfl) (And.intro (Nat.le_of_ble_eq_true rfl) (And.intro (Nat.le_of_ble_eq_true rfl) (Exists.intro _ (And.intro (ct_J_ntz t2 t1) ?_)))))
          rintro r9 sh9 FR9 IA9 LA9 n9 ⟨z0, z1, z2, z3, z4, z5⟩
          subst z0
          replace z1 := z1.symm
          subst z1
          replace z2 := z2.symm
          subst z2
          replace z3 := z3.symm
          subst z3
          replace z4 := z4.symm
          subst z4
          replace z5 := z5.symm
          subst z5
          refine And.intro (Or.inl rfl) ?_
          refine Exists.intro (((64 * w + t : Nat) : Int)) (And.intro (by first | (rw [mj_w_id (by omega) (by omega)]; done) | (rw [mj_w_id (by omega) (by omega)]; omega) | (unfold mj_w; omega)) ?_)
          have ht := hx t t1
          rw [t3] at ht
          have ht2 : C_bt LA c s lit (64 * w + t) = true ∧ v ≤ 64 * w + t := by simpa using ht.symm
          refine ⟨⟨rfl, rfl, rfl, rfl, rfl, _, rfl, Or.inl ⟨64 * w + t, rfl, ht2.2, by omega, ht2.1, fun i i1 i2 => ?_⟩⟩, Nat.le_of_ble_eq_true rfl, Nat.le_of_ble_eq_true rfl⟩
          by_cases z : i < 64 * w
          · exact hz i i1 z
          · have h5 := hx (i - 64 * w) (by omega)
            rw [t4 _ (by omega), show 64 * w + (i - 64 * w) = i by omega] at h5
            simp [i1] at h5
            exact h5
      have hb : ∀ i, i < 64 → C_bt LA c s lit (64 * w + i) = (C_lw LA c s lit w).getLsbD i := fun i hi => by
        unfold C_bt
        rw [show (64 * w + i) / 64 = w by omega, show (64 * w + i) % 64 = i by omega]
      refine mj_go z_C_firstOne [23, 66] 60 ?_
      refine And.intro h0 ?_
      rw [hW]
      refine And.intro (fun d => ?_) (fun d => ?_)
      · simp (disch := (clear d; omega)) only [mj_w_id] at d
        omega
      · clear d
        refine And.intro h0 (Exists.intro _ (And.intro r4 ?_))
        refine Exists.intro (((s * 256 + w : Nat) : Int)) (And.intro (by first | (rw [mj_w_id (by omega) (by omega)]; done) | (rw [mj_w_id (by omega) (by omega)]; omega) | (unfold mj_w; omega)) ?_)
        refine Exists.intro _ (Exists.intro (s * 256 + w) (And.intro a4 (And.intro (by first | (rw [mj_w_id (by omega) (by omega)]; done) | (rw [mj_w_id (by omega) (by omega)]; omega) | (unfold mj_w; omega)) (And.intro (by omega) ?_))))
        refine And.intro (fun d => ?_) (fun d => ?_)
        · simp (disch := (clear d; omega)) only [mj_w_id] at d
          refine fin _ (fun i hi => ?_)
          rw [hb i hi]
          have : v ≤ 64 * w + i := by omega
          show (C_lw LA c s lit w).getLsbD i = _
          simp [this]
        · have d := Classical.not_not.mp d
          simp (disch := (clear d; omega)) only [mj_w_id] at d
          have d : w = v / 64 := by omega
          refine And.intro (by decide) ?_
          refine Exists.intro (((v % 64 : Nat) : Int)) (And.intro ((nu_rem (by omega) (by omega) (by omega) (by omega)).trans (by omega)) ?_)
          refine Exists.intro ((0xFFFFFFFFFFFFFFFF#64 <<< (v % 64))) (And.intro (nu_lshl _ (by omega)) ?_)
          refine fin _ (fun i hi => ?_)
          rw [hb i hi, BitVec.getLsbD_and]
          show ((C_lw LA c s lit w).getLsbD i && (0xFFFFFFFFFFFFFFFF#64 <<< (v % 64)).getLsbD i) = _
          congr 1
          rw [BitVec.getLsbD_shiftLeft, show (0xFFFFFFFFFFFFFFFF#64 : BitVec 64) = BitVec.allOnes 64 from rfl, BitVec.getLsbD_allOnes]
          by_cases e : v % 64 ≤ i
          · have e2 : v ≤ 64 * w + i := by omega
            have e3 : ¬ i < v % 64 := by omega
            have e4 : i - v % 64 < 64 := by omega
            simp [hi, e2, e3, e4]
          · have e2 : ¬ v ≤ 64 * w + i := by omega
            have e3 : i < v % 64 := by omega
            simp [hi, e2, e3]
  refine mj_Ct_of (by decide +kernel) (by decide) (Nat.le_of_ble_eq_true rfl) ?_
  refine mj_go z_C_firstOne [23] 60 ?_
  refine And.intro h0 (And.intro (Nat.le_of_ble_eq_true rfl) (And.intro (Nat.le_of_ble_eq_true rfl) (And.intro (Nat.le_of_ble_eq_true rfl) (Exists.intro _ (And.intro (ct_C_rowOf hC hN h1 h2 h3 hs) ?_)))))
  rintro r9 sh9 FR9 IA9 LA9 n9 ⟨z0, z1, z2, z3, z4, z5⟩
  subst z0
  replace z1 := z1.symm
  subst z1
  replace z2 := z2.symm
  subst z2
  replace z3 := z3.symm
  subst z3
  replace z4 := z4.symm
  subst z4
  replace z5 := z5.symm
  subst z5
  refine And.intro (Or.inl rfl) ?_
  refine And.intro h0 (And.intro (Nat.le_of_ble_eq_true rfl) (And.intro (Nat.le_of_ble_eq_true rfl) (And.intro (Nat.le_of_ble_eq_true rfl) (Exists.intro _ (And.intro (ct_C_flipOf hC h1 (by omega)) ?_)))))
  rintro r9 sh9 FR9 IA9 LA9 n9 ⟨z0, z1, z2, z3, z4, z5⟩
  subst z0
  replace z1 := z1.symm
  subst z1
  replace z2 := z2.symm
  subst z2
  replace z3 := z3.symm
  subst z3
  replace z4 := z4.symm
  subst z4
  replace z5 := z5.symm
  subst z5
  refine And.intro (Or.inl rfl) ?_
  refine And.intro (by decide) ?_
  clear h3
  refine Exists.intro (((v / 64 : Nat) : Int)) (And.intro ((nu_div (by omega) (by omega) (by omega) (by omega)).trans (by omega)) ?_)
  exact loop (W - v / 64) (v / 64) none (by omega) (Nat.le_refl _) (fun i i1 i2 => by omega)
end CC
