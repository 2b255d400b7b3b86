/-! JDK: numberOfTrailingZeros, numberOfLeadingZeros -/
theorem nu_u31 : ∀ k : Fin 32, ((Int32.ofInt (k.val : Int)).toUInt32 &&& Int32.toUInt32 31) = UInt32.ofNat k.val := by decide +kernel
theorem nu_iushr {x : Int} {k : Nat} (h1 : 0 ≤ x) (h2 : x < 2147483648) (hk : k < 32) : ((Int32.ofInt x).toUInt32 >>> ((Int32.ofInt (k : Int)).toUInt32 &&& Int32.toUInt32 31)).toInt32.toInt = x / ((2 ^ k : Nat) : Int) := by
  rw [nu_u31 ⟨k, hk⟩]
  show ((Int32.ofInt x).toUInt32 >>> UInt32.ofNat k).toBitVec.toInt = _
  rw [UInt32.toBitVec_shiftRight]
  show ((Int32.ofInt x).toBitVec >>> ((BitVec.ofNat 32 k) % 32)).toInt = _
  rw [BitVec.ushiftRight_eq']
  have e : (BitVec.ofNat 32 k % 32).toNat = k := by
    rw [BitVec.toNat_umod, BitVec.toNat_ofNat]
    show k % 4294967296 % 32 = k
    omega
  rw [e]
  have hx := nu_ofInt_toNat x
  have hn : ((Int32.ofInt x).toBitVec >>> k).toNat = (Int32.ofInt x).toBitVec.toNat / 2 ^ k := by rw [BitVec.toNat_ushiftRight, Nat.shiftRight_eq_div_pow]
  have hle : (Int32.ofInt x).toBitVec.toNat / 2 ^ k ≤ (Int32.ofInt x).toBitVec.toNat := Nat.div_le_self _ _
  rw [nu_toInt_small (by omega), hn, Int.natCast_ediv, show ((Int32.ofInt x).toBitVec.toNat : Int) = x by omega]
theorem nat_tz {N t q : Nat} (h : N = 2 ^ t * (2 * q + 1)) (i : Nat) : (N.testBit i = decide (i < t) → False) ∨ True := Or.inr trivial
/-- ~x & (x - 1), at 32 bits -/
theorem bv_tz {x : BitVec 32} {t q : Nat} (h : x.toNat = 2 ^ t * (2 * q + 1)) (ht : t < 32) : ~~~x &&& (x - 1#32) = BitVec.ofNat 32 (2 ^ t - 1) := by
  have hp : 0 < 2 ^ t := Nat.two_pow_pos t
  have h1 : (x - 1#32).toNat = 2 ^ t * (2 * q) + (2 ^ t - 1) := by
    have hx := x.isLt
    have e : x.toNat = 2 ^ t * (2 * q) + 2 ^ t := by rw [h, Nat.mul_add, Nat.mul_one]
    rw [BitVec.toNat_sub]
    show (2 ^ 32 - 1 + x.toNat) % 2 ^ 32 = _
    omega
  have h0 : x.toNat = 2 ^ t * (2 * q + 1) + 0 := h
  refine BitVec.eq_of_getLsbD_eq fun i hi => ?_
  rw [BitVec.getLsbD_and, BitVec.getLsbD_not, BitVec.getLsbD_ofNat]
  simp only [hi, decide_true, Bool.true_and]
  show (!x.toNat.testBit i && (x - 1#32).toNat.testBit i) = (2 ^ t - 1).testBit i
  rw [h1, h0, Nat.testBit_two_pow_mul_add _ hp, Nat.testBit_two_pow_mul_add _ (show 2 ^ t - 1 < 2 ^ t by omega), Nat.testBit_two_pow_sub_one]
  by_cases e : i < t
  · simp [e]
  · simp only [e, if_false, decide_false]
    by_cases e2 : i = t
    · subst e2
      simp
    · obtain ⟨d, hd⟩ : ∃ d, i - t = d + 1 := ⟨i - t - 1, by omega⟩
      rw [hd, Nat.testBit_succ, Nat.testBit_succ, show (2 * q + 1) / 2 = q by omega, show 2 * q / 2 = q by omega]
      simp
theorem nu_ntz {z : Int} {t q : Nat} (h1 : -2147483648 ≤ z) (h2 : z < 2147483648) (h : z % 4294967296 = ((2 ^ t * (2 * q + 1) : Nat) : Int)) (ht : t < 32) : (Int32.ofInt (Int32.ofInt z ^^^ Int32.ofInt (-1)).toInt &&& Int32.ofInt (mj_w (z - 1))).toInt = ((2 ^ t - 1 : Nat) : Int) := by
  rw [Int32.ofInt_toInt, mj_ofw]
  have hx : (Int32.ofInt z).toBitVec.toNat = 2 ^ t * (2 * q + 1) := by
    have := nu_ofInt_toNat z
    omega
  have e1 : (Int32.ofInt z ^^^ Int32.ofInt (-1)).toBitVec = ~~~(Int32.ofInt z).toBitVec := by
    show (Int32.ofInt z).toBitVec ^^^ (Int32.ofInt (-1)).toBitVec = _
    rw [show (Int32.ofInt (-1)).toBitVec = BitVec.allOnes 32 from rfl, BitVec.xor_allOnes]
  have e2 : (Int32.ofInt (z - 1)).toBitVec = (Int32.ofInt z).toBitVec - 1#32 := by
    rw [Int32.ofInt_sub]
    rfl
  show ((Int32.ofInt z ^^^ Int32.ofInt (-1)).toBitVec &&& (Int32.ofInt (z - 1)).toBitVec).toInt = _
  have hp : 2 ^ t ≤ 2 ^ 31 := Nat.pow_le_pow_right (by decide) (by omega)
  rw [e1, e2, bv_tz hx ht, nu_toInt_small (by rw [BitVec.toNat_ofNat]; omega), BitVec.toNat_ofNat]
  have hp : 2 ^ t ≤ 2 ^ 31 := Nat.pow_le_pow_right (by decide) (by omega)
  omega
theorem nat_pw {a d : Nat} (h : d ≤ a) : 2 ^ a = 2 ^ (a - d) * 2 ^ d := by rw [← Nat.pow_add, Nat.sub_add_cancel h]
section ZZ
variable {sh : mj_Sh} {FR : mj_FR} {IA : mj_FI} {LA : mj_LA} {n : Nat}
set_option maxHeartbeats 2000000 in
theorem ct_I_ntz {z : Int} {t q : Nat} (h1 : -2147483648 ≤ z) (h2 : z < 2147483648) (h : z % 4294967296 = ((2 ^ t * (2 * q + 1) : Nat) : Int)) (ht : t < 32) : mj_Ct m_I_numberOfTrailingZeros [.inl z] sh FR IA LA n (mj_pu (.inl (some (.inl (t : Int)))) sh FR IA LA n) := by
  have hp0 : ∀ a : Nat, 0 < 2 ^ a := fun a => Nat.two_pow_pos a
  have pw : ∀ a d : Nat, a ≤ d → 2 ^ a ≤ 2 ^ d := fun a d h => Nat.pow_le_pow_right (by decide) h
  have s0 : ∀ (a m : Nat), 1 ≤ a → a ≤ 2 → m + a = t + 1 → mj_G m_I_numberOfTrailingZeros (mj_pu (.inl (some (.inl (t : Int)))) sh FR IA LA n) 74 [some (.inl ((2 ^ a - 1 : Nat) : Int)), some (.inl (m : Int))] [] sh FR IA LA n 0 0 := by
    intro a m h1 h2 h3
    have e : ((2 ^ a - 1 : Nat) : Int) = 1 ∨ ((2 ^ a - 1 : Nat) : Int) = 3 := by
      by_cases z : a = 1
      · subst z
        exact Or.inl rfl
      · have : a = 2 := by omega
        subst this
        exact Or.inr rfl
    have e2 : ((2 ^ a - 1 : Nat) : Int) / ((2 ^ 1 : Nat) : Int) = ((a - 1 : Nat) : Int) := by
      by_cases z : a = 1
      · subst z
        rfl
      · have : a = 2 := by omega
        subst this
        rfl
    refine mj_go z_I_numberOfTrailingZeros [] 60 ?_
    refine Exists.intro ((((a - 1 : Nat) : Int))) (And.intro ((nu_iushr (k := 1) (by omega) (by omega) (by decide)).trans e2) ?_)
    refine Exists.intro ((t : Int)) (And.intro (by first | (rw [mj_w_id (by omega) (by omega)]; done) | (rw [mj_w_id (by omega) (by omega)]; omega) | (unfold mj_w; omega)) ?_)
    exact ⟨⟨rfl, rfl, rfl, rfl, rfl, rfl⟩, Nat.le_of_ble_eq_true rfl, Nat.le_of_ble_eq_true rfl⟩
  have s2 : ∀ (a m : Nat), 1 ≤ a → a ≤ 4 → m + a = t + 1 → mj_G m_I_numberOfTrailingZeros (mj_pu (.inl (some (.inl (t : Int)))) sh FR IA LA n) 62 [some (.inl ((2 ^ a - 1 : Nat) : Int)), some (.inl (m : Int))] [] sh FR IA LA n 0 0 := by
    intro a m h1 h2 h3
    have b1 := hp0 a
    have b2 := pw a 4 (by omega)
    have b3 := pw 3 a
    have b4 := pw a 2
    have b5 := nat_pw (a := a) (d := 2)
    have b6 := hp0 (a - 2)
    refine mj_go z_I_numberOfTrailingZeros [74] 60 ?_
    by_cases hc : 2 < a
    · have b3 := b3 (by omega)
      have b5 := b5 (by omega)
      refine And.intro (fun c => ?_) (fun c => ?_)
      · simp (disch := (clear c; omega)) only [mj_w_id] at c
        omega
      · clear c
        refine Exists.intro (((m + 2 : Nat) : Int)) (And.intro (by first | (rw [mj_w_id (by omega) (by omega)]; done) | (rw [mj_w_id (by omega) (by omega)]; omega) | (unfold mj_w; omega)) ?_)
        refine Exists.intro ((((2 ^ (a - 2) - 1 : Nat) : Int))) (And.intro ((nu_iushr (k := 2) (by omega) (by omega) (by decide)).trans (by omega)) ?_)
        exact s0 (a - 2) (m + 2) (by omega) (by omega) (by omega)
    · have b4 := b4 (by omega)
      refine And.intro (fun c => ?_) (fun c => ?_)
      · exact s0 a m (by omega) (by omega) (by omega)
      · simp (disch := (clear c; omega)) only [mj_w_id] at c
        omega
  have s4 : ∀ (a m : Nat), 1 ≤ a → a ≤ 8 → m + a = t + 1 → mj_G m_I_numberOfTrailingZeros (mj_pu (.inl (some (.inl (t : Int)))) sh FR IA LA n) 49 [some (.inl ((2 ^ a - 1 : Nat) : Int)), some (.inl (m : Int))] [] sh FR IA LA n 0 0 := by
    intro a m h1 h2 h3
    have b1 := hp0 a
    have b2 := pw a 8 (by omega)
    have b3 := pw 5 a
    have b4 := pw a 4
    have b5 := nat_pw (a := a) (d := 4)
    have b6 := hp0 (a - 4)
    refine mj_go z_I_numberOfTrailingZeros [62] 60 ?_
    by_cases hc : 4 < a
    · have b3 := b3 (by omega)
      have b5 := b5 (by omega)
      refine And.intro (fun c => ?_) (fun c => ?_)
      · simp (disch := (clear c; omega)) only [mj_w_id] at c
        omega
      · clear c
        refine Exists.intro (((m + 4 : Nat) : Int)) (And.intro (by first | (rw [mj_w_id (by omega) (by omega)]; done) | (rw [mj_w_id (by omega) (by omega)]; omega) | (unfold mj_w; omega)) ?_)
        refine Exists.intro ((((2 ^ (a - 4) - 1 : Nat) : Int))) (And.intro ((nu_iushr (k := 4) (by omega) (by omega) (by decide)).trans (by omega)) ?_)
        exact s2 (a - 4) (m + 4) (by omega) (by omega) (by omega)
    · have b4 := b4 (by omega)
      refine And.intro (fun c => ?_) (fun c => ?_)
      · exact s2 a m (by omega) (by omega) (by omega)
      · simp (disch := (clear c; omega)) only [mj_w_id] at c
        omega
  have s8 : ∀ (a m : Nat), 1 ≤ a → a ≤ 16 → m + a = t + 1 → mj_G m_I_numberOfTrailingZeros (mj_pu (.inl (some (.inl (t : Int)))) sh FR IA LA n) 34 [some (.inl ((2 ^ a - 1 : Nat) : Int)), some (.inl (m : Int))] [] sh FR IA LA n 0 0 := by
    intro a m h1 h2 h3
    have b1 := hp0 a
    have b2 := pw a 16 (by omega)
    have b3 := pw 9 a
    have b4 := pw a 8
    have b5 := nat_pw (a := a) (d := 8)
    have b6 := hp0 (a - 8)
    refine mj_go z_I_numberOfTrailingZeros [49] 60 ?_
    by_cases hc : 8 < a
    · have b3 := b3 (by omega)
      have b5 := b5 (by omega)
      refine And.intro (fun c => ?_) (fun c => ?_)
      · simp (disch := (clear c; omega)) only [mj_w_id] at c
        omega
      · clear c
        refine Exists.intro (((m + 8 : Nat) : Int)) (And.intro (by first | (rw [mj_w_id (by omega) (by omega)]; done) | (rw [mj_w_id (by omega) (by omega)]; omega) | (unfold mj_w; omega)) ?_)
        refine Exists.intro ((((2 ^ (a - 8) - 1 : Nat) : Int))) (And.intro ((nu_iushr (k := 8) (by omega) (by omega) (by decide)).trans (by omega)) ?_)
        exact s4 (a - 8) (m + 8) (by omega) (by omega) (by omega)
    · have b4 := b4 (by omega)
      refine And.intro (fun c => ?_) (fun c => ?_)
      · exact s4 a m (by omega) (by omega) (by omega)
      · simp (disch := (clear c; omega)) only [mj_w_id] at c
        omega
  have s16 : ∀ (a m : Nat), 1 ≤ a → a ≤ 31 → m + a = t + 1 → mj_G m_I_numberOfTrailingZeros (mj_pu (.inl (some (.inl (t : Int)))) sh FR IA LA n) 19 [some (.inl ((2 ^ a - 1 : Nat) : Int)), some (.inl (m : Int))] [] sh FR IA LA n 0 0 := by
    intro a m h1 h2 h3
    have b1 := hp0 a
    have b2 := pw a 31 (by omega)
    have b3 := pw 17 a
    have b4 := pw a 16
    have b5 := nat_pw (a := a) (d := 16)
    have b6 := hp0 (a - 16)
    refine mj_go z_I_numberOfTrailingZeros [34] 60 ?_
    by_cases hc : 16 < a
    · have b3 := b3 (by omega)
      have b5 := b5 (by omega)
      refine And.intro (fun c => ?_) (fun c => ?_)
      · simp (disch := (clear c; omega)) only [mj_w_id] at c
        omega
      · clear c
        refine Exists.intro (((m + 16 : Nat) : Int)) (And.intro (by first | (rw [mj_w_id (by omega) (by omega)]; done) | (rw [mj_w_id (by omega) (by omega)]; omega) | (unfold mj_w; omega)) ?_)
        refine Exists.intro ((((2 ^ (a - 16) - 1 : Nat) : Int))) (And.intro ((nu_iushr (k := 16) (by omega) (by omega) (by decide)).trans (by omega)) ?_)
        exact s8 (a - 16) (m + 16) (by omega) (by omega) (by omega)
    · have b4 := b4 (by omega)
      refine And.intro (fun c => ?_) (fun c => ?_)
      · exact s8 a m (by omega) (by omega) (by omega)
      · simp (disch := (clear c; omega)) only [mj_w_id] at c
        omega
  refine mj_Ct_of (by decide +kernel) (by decide) (Nat.le_of_ble_eq_true rfl) ?_
  refine mj_go z_I_numberOfTrailingZeros [19] 60 ?_
  refine Exists.intro ((Int32.ofInt z ^^^ Int32.ofInt (-1)).toInt) (And.intro (rfl) ?_)
  refine Exists.intro (mj_w (z - 1)) (And.intro (rfl) ?_)
  refine Exists.intro (((2 ^ t - 1 : Nat) : Int)) (And.intro (nu_ntz h1 h2 h ht) ?_)
  have b1 := hp0 t
  have b2 := pw t 31 (by omega)
  have b3 := pw 1 t
  by_cases hc : t = 0
  · subst hc
    refine And.intro (fun c => ?_) (fun c => ?_)
    · exact absurd c (by decide)
    · refine Exists.intro ((0 : Int)) (And.intro (rfl) ?_)
      exact ⟨⟨rfl, rfl, rfl, rfl, rfl, rfl⟩, Nat.le_of_ble_eq_true rfl, Nat.le_of_ble_eq_true rfl⟩
  · have b3 := b3 (by omega)
    refine And.intro (fun c => ?_) (fun c => ?_)
    · exact s16 t 1 (by omega) (by omega) (by omega)
    · simp (disch := (clear c; omega)) only [mj_w_id] at c
      omega
set_option maxHeartbeats 2000000 in
theorem ct_I_nlz {z : Nat} {t : Nat} (h1 : 2 ^ t ≤ z) (h2 : z < 2 ^ (t + 1)) (ht : t < 31) : mj_Ct m_I_numberOfLeadingZeros [.inl (z : Int)] sh FR IA LA n (mj_pu (.inl (some (.inl (31 - (t : Int))))) sh FR IA LA n) := by
  have pw : ∀ a d : Nat, a ≤ d → 2 ^ a ≤ 2 ^ d := fun a d h => Nat.pow_le_pow_right (by decide) h
  have s0 : ∀ (a v : Nat), a ≤ 1 → a ≤ t → 2 ^ a ≤ v → v < 2 ^ (a + 1) → mj_G m_I_numberOfLeadingZeros (mj_pu (.inl (some (.inl (31 - (t : Int))))) sh FR IA LA n) 73 [some (.inl (v : Int)), some (.inl (31 - (t : Int) + a))] [] sh FR IA LA n 0 0 := by
    intro a v h1 h2 h3 h4
    have e2 : ((v : Nat) : Int) / ((2 ^ 1 : Nat) : Int) = (a : Int) := by
      by_cases z : a = 0
      · subst z
        have : v = 1 := by omega
        subst this
        rfl
      · have : a = 1 := by omega
        subst this
        have : v = 2 ∨ v = 3 := by omega
        rcases this with e | e <;> subst e <;> rfl
    have hv : v < 4 := by
      have := pw (a + 1) 2 (by omega)
      omega
    refine mj_go z_I_numberOfLeadingZeros [] 60 ?_
    refine Exists.intro (((a : Int))) (And.intro ((nu_iushr (k := 1) (by omega) (by omega) (by decide)).trans e2) ?_)
    refine Exists.intro ((31 - (t : Int))) (And.intro (by first | (rw [mj_w_id (by omega) (by omega)]; done) | (rw [mj_w_id (by omega) (by omega)]; omega) | (unfold mj_w; omega)) ?_)
    exact ⟨⟨rfl, rfl, rfl, rfl, rfl, rfl⟩, Nat.le_of_ble_eq_true rfl, Nat.le_of_ble_eq_true rfl⟩
  have s2 : ∀ (a v : Nat), a ≤ 3 → a ≤ t → 2 ^ a ≤ v → v < 2 ^ (a + 1) → mj_G m_I_numberOfLeadingZeros (mj_pu (.inl (some (.inl (31 - (t : Int))))) sh FR IA LA n) 61 [some (.inl (v : Int)), some (.inl (31 - (t : Int) + a))] [] sh FR IA LA n 0 0 := by
    intro a v h1 h2 h3 h4
    have b2 := pw (a + 1) 31 (by omega)
    have b3 := pw 2 a
    have b4 := pw (a + 1) 2
    have b5 := nat_pw (a := a) (d := 2)
    have b6 := nat_pw (a := a + 1) (d := 2)
    refine mj_go z_I_numberOfLeadingZeros [73] 60 ?_
    by_cases hc : 2 ≤ a
    · have b3 := b3 (by omega)
      have b5 := b5 (by omega)
      have b6 := b6 (by omega)
      rw [show a + 1 - 2 = a - 2 + 1 by omega] at b6
      refine And.intro (fun c => ?_) (fun c => ?_)
      · simp (disch := (clear c; omega)) only [mj_w_id] at c
        omega
      · clear c
        refine Exists.intro ((31 - (t : Int) + (a - 2 : Nat))) (And.intro (by first | (rw [mj_w_id (by omega) (by omega)]; done) | (rw [mj_w_id (by omega) (by omega)]; omega) | (unfold mj_w; omega)) ?_)
        refine Exists.intro ((((v / 2 ^ 2 : Nat) : Int))) (And.intro ((nu_iushr (k := 2) (by omega) (by omega) (by decide)).trans (by rw [Int.natCast_ediv])) ?_)
        exact s0 (a - 2) (v / 2 ^ 2) (by omega) (by omega) (by rw [Nat.le_div_iff_mul_le (by decide)]; omega) (by rw [Nat.div_lt_iff_lt_mul (by decide)]; omega)
    · have b4 := b4 (by omega)
      refine And.intro (fun c => ?_) (fun c => ?_)
      · exact s0 a v (by omega) (by omega) h3 h4
      · simp (disch := (clear c; omega)) only [mj_w_id] at c
        omega
  have s4 : ∀ (a v : Nat), a ≤ 7 → a ≤ t → 2 ^ a ≤ v → v < 2 ^ (a + 1) → mj_G m_I_numberOfLeadingZeros (mj_pu (.inl (some (.inl (31 - (t : Int))))) sh FR IA LA n) 48 [some (.inl (v : Int)), some (.inl (31 - (t : Int) + a))] [] sh FR IA LA n 0 0 := by
    intro a v h1 h2 h3 h4
    have b2 := pw (a + 1) 31 (by omega)
    have b3 := pw 4 a
    have b4 := pw (a + 1) 4
    have b5 := nat_pw (a := a) (d := 4)
    have b6 := nat_pw (a := a + 1) (d := 4)
    refine mj_go z_I_numberOfLeadingZeros [61] 60 ?_
    by_cases hc : 4 ≤ a
    · have b3 := b3 (by omega)
      have b5 := b5 (by omega)
      have b6 := b6 (by omega)
      rw [show a + 1 - 4 = a - 4 + 1 by omega] at b6
      refine And.intro (fun c => ?_) (fun c => ?_)
      · simp (disch := (clear c; omega)) only [mj_w_id] at c
        omega
      · clear c
        refine Exists.intro ((31 - (t : Int) + (a - 4 : Nat))) (And.intro (by first | (rw [mj_w_id (by omega) (by omega)]; done) | (rw [mj_w_id (by omega) (by omega)]; omega) | (unfold mj_w; omega)) ?_)
        refine Exists.intro ((((v / 2 ^ 4 : Nat) : Int))) (And.intro ((nu_iushr (k := 4) (by omega) (by omega) (by decide)).trans (by rw [Int.natCast_ediv])) ?_)
        exact s2 (a - 4) (v / 2 ^ 4) (by omega) (by omega) (by rw [Nat.le_div_iff_mul_le (by decide)]; omega) (by rw [Nat.div_lt_iff_lt_mul (by decide)]; omega)
    · have b4 := b4 (by omega)
      refine And.intro (fun c => ?_) (fun c => ?_)
      · exact s2 a v (by omega) (by omega) h3 h4
      · simp (disch := (clear c; omega)) only [mj_w_id] at c
        omega
  have s8 : ∀ (a v : Nat), a ≤ 15 → a ≤ t → 2 ^ a ≤ v → v < 2 ^ (a + 1) → mj_G m_I_numberOfLeadingZeros (mj_pu (.inl (some (.inl (31 - (t : Int))))) sh FR IA LA n) 33 [some (.inl (v : Int)), some (.inl (31 - (t : Int) + a))] [] sh FR IA LA n 0 0 := by
    intro a v h1 h2 h3 h4
    have b2 := pw (a + 1) 31 (by omega)
    have b3 := pw 8 a
    have b4 := pw (a + 1) 8
    have b5 := nat_pw (a := a) (d := 8)
    have b6 := nat_pw (a := a + 1) (d := 8)
    refine mj_go z_I_numberOfLeadingZeros [48] 60 ?_
    by_cases hc : 8 ≤ a
    · have b3 := b3 (by omega)
      have b5 := b5 (by omega)
      have b6 := b6 (by omega)
      rw [show a + 1 - 8 = a - 8 + 1 by omega] at b6
      refine And.intro (fun c => ?_) (fun c => ?_)
      · simp (disch := (clear c; omega)) only [mj_w_id] at c
        omega
      · clear c
        refine Exists.intro ((31 - (t : Int) + (a - 8 : Nat))) (And.intro (by first | (rw [mj_w_id (by omega) (by omega)]; done) | (rw [mj_w_id (by omega) (by omega)]; omega) | (unfold mj_w; omega)) ?_)
        refine Exists.intro ((((v / 2 ^ 8 : Nat) : Int))) (And.intro ((nu_iushr (k := 8) (by omega) (by omega) (by decide)).trans (by rw [Int.natCast_ediv])) ?_)
        exact s4 (a - 8) (v / 2 ^ 8) (by omega) (by omega) (by rw [Nat.le_div_iff_mul_le (by decide)]; omega) (by rw [Nat.div_lt_iff_lt_mul (by decide)]; omega)
    · have b4 := b4 (by omega)
      refine And.intro (fun c => ?_) (fun c => ?_)
      · exact s4 a v (by omega) (by omega) h3 h4
      · simp (disch := (clear c; omega)) only [mj_w_id] at c
        omega
  have s16 : ∀ (a v : Nat), a ≤ 31 → a ≤ t → 2 ^ a ≤ v → v < 2 ^ (a + 1) → mj_G m_I_numberOfLeadingZeros (mj_pu (.inl (some (.inl (31 - (t : Int))))) sh FR IA LA n) 18 [some (.inl (v : Int)), some (.inl (31 - (t : Int) + a))] [] sh FR IA LA n 0 0 := by
    intro a v h1 h2 h3 h4
    have b2 := pw (a + 1) 31 (by omega)
    have b3 := pw 16 a
    have b4 := pw (a + 1) 16
    have b5 := nat_pw (a := a) (d := 16)
    have b6 := nat_pw (a := a + 1) (d := 16)
    refine mj_go z_I_numberOfLeadingZeros [33] 60 ?_
    by_cases hc : 16 ≤ a
    · have b3 := b3 (by omega)
      have b5 := b5 (by omega)
      have b6 := b6 (by omega)
      rw [show a + 1 - 16 = a - 16 + 1 by omega] at b6
      refine And.intro (fun c => ?_) (fun c => ?_)
      · simp (disch := (clear c; omega)) only [mj_w_id] at c
        omega
      · clear c
        refine Exists.intro ((31 - (t : Int) + (a - 16 : Nat))) (And.intro (by first | (rw [mj_w_id (by omega) (by omega)]; done) | (rw [mj_w_id (by omega) (by omega)]; omega) | (unfold mj_w; omega)) ?_)
        refine Exists.intro ((((v / 2 ^ 16 : Nat) : Int))) (And.intro ((nu_iushr (k := 16) (by omega) (by omega) (by decide)).trans (by rw [Int.natCast_ediv])) ?_)
        exact s8 (a - 16) (v / 2 ^ 16) (by omega) (by omega) (by rw [Nat.le_div_iff_mul_le (by decide)]; omega) (by rw [Nat.div_lt_iff_lt_mul (by decide)]; omega)
    · have b4 := b4 (by omega)
      refine And.intro (fun c => ?_) (fun c => ?_)
      · exact s8 a v (by omega) (by omega) h3 h4
      · simp (disch := (clear c; omega)) only [mj_w_id] at c
        omega
  have b1 := pw (t + 1) 31 (by omega)
  have b2 := Nat.two_pow_pos t
  have h9 := s16 t z (by omega) (by omega) h1 h2
  rw [show 31 - (t : Int) + t = 31 by omega] at h9
  refine mj_Ct_of (by decide +kernel) (by decide) (Nat.le_of_ble_eq_true rfl) ?_
  refine mj_go z_I_numberOfLeadingZeros [18] 60 ?_
  refine And.intro (fun c => ?_) (fun c => ?_)
  · exact h9
  · simp (disch := (clear c; omega)) only [mj_w_id] at c
    omega
end ZZ
