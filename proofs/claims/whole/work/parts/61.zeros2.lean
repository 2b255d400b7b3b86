/-! JDK: the same of longs -/
theorem nat_mod_tz {N t q : Nat} (h : N = 2 ^ t * (2 * q + 1)) (ht : t < 32) : ∃ q', N % 4294967296 = 2 ^ t * (2 * q' + 1) := by
  have e : (4294967296 : Nat) = 2 ^ t * 2 ^ (32 - t) := by
    rw [← Nat.pow_add, show t + (32 - t) = 32 by omega]
  rw [e, h, Nat.mul_mod_mul_left]
  obtain ⟨d, hd⟩ : ∃ d, 32 - t = d + 1 := ⟨31 - t, by omega⟩
  rw [hd, Nat.pow_succ]
  have h1 : (2 * q + 1) % (2 ^ d * 2) % 2 = 1 := by
    rw [Nat.mod_mod_of_dvd _ ⟨2 ^ d, Nat.mul_comm _ _⟩]
    omega
  refine ⟨(2 * q + 1) % (2 ^ d * 2) / 2, ?_⟩
  congr 1
  omega
theorem nat_div_tz {N t q : Nat} (h : N = 2 ^ t * (2 * q + 1)) (ht : 32 ≤ t) : N % 4294967296 = 0 ∧ N / 4294967296 = 2 ^ (t - 32) * (2 * q + 1) := by
  have e : 2 ^ t = 4294967296 * 2 ^ (t - 32) := by
    rw [show (4294967296 : Nat) = 2 ^ 32 by decide, ← Nat.pow_add, show 32 + (t - 32) = t by omega]
  rw [h, e, Nat.mul_assoc]
  exact ⟨Nat.mul_mod_right _ _, Nat.mul_div_cancel_left _ (by decide)⟩
theorem nu_l2i (x : BitVec 64) : mj_w x.toInt % 4294967296 = ((x.toNat % 4294967296 : Nat) : Int) := by
  rw [BitVec.toInt_eq_toNat_cond]
  unfold mj_w
  have := x.isLt
  split <;> omega
theorem nu_hi (x : BitVec 64) : (x >>> 32).toNat = x.toNat / 4294967296 := by
  rw [BitVec.toNat_ushiftRight, Nat.shiftRight_eq_div_pow]
section ZZ
variable {sh : mj_Sh} {FR : mj_FR} {IA : mj_FI} {LA : mj_LA} {n : Nat}
theorem ct_J_ntz {x : BitVec 64} {t q : Nat} (h : x.toNat = 2 ^ t * (2 * q + 1)) (ht : t < 64) : mj_Ct m_J_numberOfTrailingZeros [.inr (.inl x)] sh FR IA LA n (mj_pu (.inl (some (.inl (t : Int)))) sh FR IA LA n) := by
  have h1 := nu_l2i x
  have l1 := mj_w_lo x.toInt
  have l2 := mj_w_hi x.toInt
  have hp : ∀ a : Nat, 0 < 2 ^ a := fun a => Nat.two_pow_pos a
  generalize hz0 : mj_w x.toInt = z at h1 l1 l2
  refine mj_Ct_of (by decide +kernel) (by decide) (Nat.le_of_ble_eq_true rfl) ?_
  refine mj_go z_J_numberOfTrailingZeros [] 60 ?_
  refine Exists.intro (z) (And.intro (hz0) ?_)
  by_cases hc : t < 32
  · obtain ⟨q', hq⟩ := nat_mod_tz h hc
    have hz : ¬ z = 0 := by
      have := Nat.mul_pos (hp t) (show 0 < 2 * q' + 1 by omega)
      omega
    refine And.intro (fun c => ?_) (fun c => ?_)
    · refine And.intro trivial (And.intro (Nat.le_of_ble_eq_true rfl) (And.intro (Nat.le_of_ble_eq_true rfl) (And.intro (Nat.le_of_ble_eq_true rfl) (Exists.intro _ (And.intro (ct_I_ntz (t := t) (q := q') l1 l2 (by rw [h1, hq]) hc) ?_)))))
      rintro r9 sh9 FR9 IA9 LA9 n9 ⟨z0, z1, z2, z3, z4, z5⟩
      subst z0
      replace z1 := z1.symm
      subst z1
      replace z2 := z2.symm
      subst z2
      replace z3 := z3.symm
      subst z3
      replace z4 := z4.symm
      subst z4
      replace z5 := z5.symm
      subst z5
      refine And.intro (Or.inl rfl) ?_
      exact ⟨⟨rfl, rfl, rfl, rfl, rfl, rfl⟩, Nat.le_of_ble_eq_true rfl, Nat.le_of_ble_eq_true rfl⟩
    · have c := Classical.not_not.mp c
      rw [mj_w_id l1 l2] at c
      exact absurd c hz
  · obtain ⟨d1, d2⟩ := nat_div_tz h (by omega)
    have hz : z = 0 := by omega
    have h2 := nu_l2i (x >>> 32)
    have k1 := mj_w_lo (x >>> 32).toInt
    have k2 := mj_w_hi (x >>> 32).toInt
    rw [nu_hi, d2] at h2
    have hlt : 2 ^ (t - 32) * (2 * q + 1) < 4294967296 := by
      rw [← d2]
      have := x.isLt
      omega
    rw [Nat.mod_eq_of_lt hlt] at h2
    refine And.intro (fun c => ?_) (fun c => ?_)
    · rw [hz] at c
      exact absurd rfl c
    · clear c
      refine Exists.intro (x >>> 32) (And.intro (nu_lushr _ (by decide)) ?_)
      refine Exists.intro (mj_w (x >>> 32).toInt) (And.intro (rfl) ?_)
      refine And.intro trivial (And.intro (Nat.le_of_ble_eq_true rfl) (And.intro (Nat.le_of_ble_eq_true rfl) (And.intro (Nat.le_of_ble_eq_true rfl) (Exists.intro _ (And.intro (ct_I_ntz (t := t - 32) (q := q) k1 k2 h2 (by omega)) ?_)))))
      rintro r9 sh9 FR9 IA9 LA9 n9 ⟨z0, z1, z2, z3, z4, z5⟩
      subst z0
      replace z1 := z1.symm
      subst z1
      replace z2 := z2.symm
      subst z2
      replace z3 := z3.symm
      subst z3
      replace z4 := z4.symm
      subst z4
      replace z5 := z5.symm
      subst z5
      refine And.intro (Or.inl rfl) ?_
      refine Exists.intro ((t : Int)) (And.intro (by first | (rw [mj_w_id (by omega) (by omega)]; done) | (rw [mj_w_id (by omega) (by omega)]; omega) | (unfold mj_w; omega)) ?_)
      exact ⟨⟨rfl, rfl, rfl, rfl, rfl, rfl⟩, Nat.le_of_ble_eq_true rfl, Nat.le_of_ble_eq_true rfl⟩
/-- of an int whose 32 bits are N -/
theorem ct_I_nlz32 {z : Int} {N t : Nat} (h0 : z % 4294967296 = (N : Int)) (l1 : -2147483648 ≤ z) (l2 : z < 2147483648) (h1 : 2 ^ t ≤ N) (h2 : N < 2 ^ (t + 1)) (ht : t < 32) : mj_Ct m_I_numberOfLeadingZeros [.inl z] sh FR IA LA n (mj_pu (.inl (some (.inl (31 - (t : Int))))) sh FR IA LA n) := by
  have hp := Nat.two_pow_pos t
  by_cases hc : t < 31
  · have hb : 2 ^ (t + 1) ≤ 2 ^ 31 := Nat.pow_le_pow_right (by decide) (by omega)
    have e : z = (N : Int) := by omega
    rw [e]
    exact ct_I_nlz h1 h2 hc
  · have e : t = 31 := by omega
    subst e
    have hn : z < 0 := by omega
    refine mj_Ct_of (by decide +kernel) (by decide) (Nat.le_of_ble_eq_true rfl) ?_
    refine mj_go z_I_numberOfLeadingZeros [] 60 ?_
    refine And.intro (fun c => ?_) (fun c => ?_)
    · simp (disch := (clear c; omega)) only [mj_w_id] at c
      omega
    · clear c
      refine And.intro (fun c => ?_) (fun c => ?_)
      · clear c
        exact ⟨⟨rfl, rfl, rfl, rfl, rfl, rfl⟩, Nat.le_of_ble_eq_true rfl, Nat.le_of_ble_eq_true rfl⟩
      · have c := Classical.not_not.mp c
        rw [mj_w_id l1 l2] at c
        omega
theorem ct_J_nlz {x : BitVec 64} {t : Nat} (h1 : 2 ^ t ≤ x.toNat) (h2 : x.toNat < 2 ^ (t + 1)) (ht : t < 64) : mj_Ct m_J_numberOfLeadingZeros [.inr (.inl x)] sh FR IA LA n (mj_pu (.inl (some (.inl (63 - (t : Int))))) sh FR IA LA n) := by
  have hp := Nat.two_pow_pos t
  have hx := x.isLt
  have e1 := nu_l2i (x >>> 32)
  have k1 := mj_w_lo (x >>> 32).toInt
  have k2 := mj_w_hi (x >>> 32).toInt
  rw [nu_hi, Nat.mod_eq_of_lt (by omega)] at e1
  refine mj_Ct_of (by decide +kernel) (by decide) (Nat.le_of_ble_eq_true rfl) ?_
  refine mj_go z_J_numberOfLeadingZeros [] 60 ?_
  refine Exists.intro (x >>> 32) (And.intro (nu_lushr _ (by decide)) ?_)
  refine Exists.intro (mj_w (x >>> 32).toInt) (And.intro (rfl) ?_)
  generalize mj_w (x >>> 32).toInt = z at e1 k1 k2 ⊢
  by_cases hc : t < 32
  · have hb : 2 ^ (t + 1) ≤ 2 ^ 32 := Nat.pow_le_pow_right (by decide) (by omega)
    have hz : z = 0 := by omega
    have f1 := nu_l2i x
    have m1 := mj_w_lo x.toInt
    have m2 := mj_w_hi x.toInt
    rw [Nat.mod_eq_of_lt (by omega)] at f1
    refine And.intro (fun c => ?_) (fun c => ?_)
    · rw [hz] at c
      exact absurd rfl c
    · clear c
      refine Exists.intro (mj_w x.toInt) (And.intro (rfl) ?_)
      refine And.intro trivial (And.intro (Nat.le_of_ble_eq_true rfl) (And.intro (Nat.le_of_ble_eq_true rfl) (And.intro (Nat.le_of_ble_eq_true rfl) (Exists.intro _ (And.intro (ct_I_nlz32 (t := t) f1 m1 m2 h1 h2 hc) ?_)))))
      rintro r9 sh9 FR9 IA9 LA9 n9 ⟨z0, z1, z2, z3, z4, z5⟩
      subst z0
      replace z1 := z1.symm
      subst z1
      replace z2 := z2.symm
      subst z2
      replace z3 := z3.symm
      subst z3
      replace z4 := z4.symm
      subst z4
      replace z5 := z5.symm
      subst z5
      refine And.intro (Or.inl rfl) ?_
      refine Exists.intro ((63 - (t : Int))) (And.intro (by first | (rw [mj_w_id (by omega) (by omega)]; done) | (rw [mj_w_id (by omega) (by omega)]; omega) | (unfold mj_w; omega)) ?_)
      exact ⟨⟨rfl, rfl, rfl, rfl, rfl, rfl⟩, Nat.le_of_ble_eq_true rfl, Nat.le_of_ble_eq_true rfl⟩
  · have p1 : 2 ^ t = 4294967296 * 2 ^ (t - 32) := by
      rw [show (4294967296 : Nat) = 2 ^ 32 by decide, ← Nat.pow_add, show 32 + (t - 32) = t by omega]
    have p2 : 2 ^ (t + 1) = 4294967296 * 2 ^ (t - 32 + 1) := by
      rw [show (4294967296 : Nat) = 2 ^ 32 by decide, ← Nat.pow_add, show 32 + (t - 32 + 1) = t + 1 by omega]
    have p3 := Nat.two_pow_pos (t - 32)
    have hz : ¬ z = 0 := by omega
    refine And.intro (fun c => ?_) (fun c => ?_)
    · clear c
      refine And.intro trivial (And.intro (Nat.le_of_ble_eq_true rfl) (And.intro (Nat.le_of_ble_eq_true rfl) (And.intro (Nat.le_of_ble_eq_true rfl) (Exists.intro _ (And.intro (ct_I_nlz32 (t := t - 32) e1 k1 k2 (by omega) (by omega) (by omega)) ?_)))))
      rintro r9 sh9 FR9 IA9 LA9 n9 ⟨z0, z1, z2, z3, z4, z5⟩
      subst z0
      replace z1 := z1.symm
      subst z1
      replace z2 := z2.symm
      subst z2
      replace z3 := z3.symm
      subst z3
      replace z4 := z4.symm
      subst z4
      replace z5 := z5.symm
      subst z5
      refine And.intro (Or.inl rfl) ?_
      rw [show (31 : Int) - ((t - 32 : Nat) : Int) = 63 - (t : Int) by omega]
      exact ⟨⟨rfl, rfl, rfl, rfl, rfl, rfl⟩, Nat.le_of_ble_eq_true rfl, Nat.le_of_ble_eq_true rfl⟩
    · have c := Classical.not_not.mp c
      rw [mj_w_id k1 k2] at c
      exact absurd c hz
end ZZ
