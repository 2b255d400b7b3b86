/-! NUMBERS: the int operations on values in range -/
theorem nu_sh31 : ∀ k : Fin 32, (((Int32.ofInt (k.val : Int) &&& 31).toBitVec).smod 32).toNat = k.val := by decide +kernel
theorem nu_shr {x : Int} {k : Nat} (h1 : -2147483648 ≤ x) (h2 : x < 2147483648) (hk : k < 32) : (Int32.ofInt x >>> (Int32.ofInt (k : Int) &&& 31)).toInt = x / ((2 ^ k : Nat) : Int) := by
  have h := nu_sh31 ⟨k, hk⟩
  show ((Int32.ofInt x).toBitVec.sshiftRight' ((Int32.ofInt (k : Int) &&& 31).toBitVec.smod 32)).toInt = _
  rw [BitVec.sshiftRight_eq', h, BitVec.toInt_sshiftRight, Int.shiftRight_eq_div_pow]
  show (Int32.ofInt x).toInt / _ = _
  rw [mj_toInt, mj_w_id h1 h2]
theorem nu_ofInt_toNat (x : Int) : ((Int32.ofInt x).toBitVec.toNat : Int) = x % 4294967296 := by
  show ((BitVec.ofInt 32 x).toNat : Int) = _
  rw [BitVec.toNat_ofInt]
  omega
theorem nu_toInt_small {b : BitVec 32} (h : b.toNat < 2147483648) : b.toInt = (b.toNat : Int) := by
  rw [BitVec.toInt_eq_toNat_of_lt]
  omega
/-- x & (2^k - 1), for every x -/
theorem nu_and (x : Int) {k : Nat} (hk : k < 31) : (Int32.ofInt x &&& Int32.ofInt ((2 ^ k - 1 : Nat) : Int)).toInt = x % ((2 ^ k : Nat) : Int) := by
  have hp : 2 ^ k ≤ 2 ^ 30 := Nat.pow_le_pow_right (by decide) (by omega)
  have hp0 : 0 < 2 ^ k := Nat.two_pow_pos k
  have hm : ((Int32.ofInt ((2 ^ k - 1 : Nat) : Int)).toBitVec).toNat = 2 ^ k - 1 := by
    have := nu_ofInt_toNat ((2 ^ k - 1 : Nat) : Int)
    omega
  have hn : ((Int32.ofInt x).toBitVec &&& (Int32.ofInt ((2 ^ k - 1 : Nat) : Int)).toBitVec).toNat = (Int32.ofInt x).toBitVec.toNat % 2 ^ k := by
    rw [BitVec.toNat_and, hm, Nat.and_two_pow_sub_one_eq_mod]
  show ((Int32.ofInt x).toBitVec &&& (Int32.ofInt ((2 ^ k - 1 : Nat) : Int)).toBitVec).toInt = _
  have hlt : (Int32.ofInt x).toBitVec.toNat % 2 ^ k < 2 ^ k := Nat.mod_lt _ hp0
  rw [nu_toInt_small (by rw [hn]; omega), hn]
  have hx := nu_ofInt_toNat x
  have hd : ((2 ^ k : Nat) : Int) ∣ 4294967296 := by
    refine ⟨((2 ^ (32 - k) : Nat) : Int), ?_⟩
    rw [← Int.natCast_mul, ← Nat.pow_add, show k + (32 - k) = 32 by omega]
    rfl
  rw [Int.natCast_emod, hx, Int.emod_emod_of_dvd x hd]
theorem nu_and1 (x : Int) : (Int32.ofInt x &&& Int32.ofInt 1).toInt = x % 2 := nu_and x (k := 1) (by decide)
theorem nu_and31 (x : Int) : (Int32.ofInt x &&& Int32.ofInt 31).toInt = x % 32 := nu_and x (k := 5) (by decide)
theorem nu_and63 (x : Int) : (Int32.ofInt x &&& Int32.ofInt 63).toInt = x % 64 := nu_and x (k := 6) (by decide)
theorem nu_and255 (x : Int) : (Int32.ofInt x &&& Int32.ofInt 255).toInt = x % 256 := nu_and x (k := 8) (by decide)
theorem nu_shr1 {x : Int} (h1 : -2147483648 ≤ x) (h2 : x < 2147483648) : (Int32.ofInt x >>> (Int32.ofInt 1 &&& 31)).toInt = x / 2 := nu_shr (k := 1) h1 h2 (by decide)
theorem nu_div {x y : Int} (h1 : 0 ≤ x) (h2 : x < 2147483648) (h3 : 0 < y) (h4 : y < 2147483648) : (Int32.ofInt x / Int32.ofInt y).toInt = x / y := by
  have hy : (Int32.ofInt y).toInt = y := by rw [mj_toInt, mj_w_id (by omega) h4]
  have hx : (Int32.ofInt x).toInt = x := by rw [mj_toInt, mj_w_id (by omega) h2]
  rw [Int32.toInt_div_of_ne_right _ _ (fun e => by
    have e2 := congrArg Int32.toInt e
    rw [hy] at e2
    have : (-1 : Int32).toInt = -1 := rfl
    omega), hx, hy, Int.tdiv_eq_ediv_of_nonneg h1]
theorem nu_rem {x y : Int} (h1 : 0 ≤ x) (h2 : x < 2147483648) (h3 : 0 < y) (h4 : y < 2147483648) : (Int32.ofInt x - Int32.ofInt x / Int32.ofInt y * Int32.ofInt y).toInt = x % y := by
  have hd := nu_div h1 h2 h3 h4
  have hq : Int32.ofInt x / Int32.ofInt y = Int32.ofInt (x / y) := by rw [← hd, Int32.ofInt_toInt]
  have h5 : 0 ≤ x % y := Int.emod_nonneg x (by omega)
  have h6 : x % y < y := Int.emod_lt_of_pos x h3
  rw [hq, ← Int32.ofInt_mul, ← Int32.ofInt_sub, mj_toInt, show x - x / y * y = x % y by
    have := Int.emod_add_mul_ediv x y
    rw [Int.mul_comm] at this
    omega, mj_w_id (by omega) (by omega)]
