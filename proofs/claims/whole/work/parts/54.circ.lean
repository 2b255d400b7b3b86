/-! CIRCUIT: startBit, rowOf, flipOf, hashOf, isSameOrInverse -/
def isC (sh : mj_Sh) (FR : mj_FR) (n c b : Nat) : Prop := mj_is sh n c 5 0 ∧ FR c 0 = .inl b ∧ FR c 4 = .inl (c + 10) ∧ FR c 5 = .inl (c + 11) ∧ FR c 6 = .inl (c + 12) ∧ FR c 7 = .inl (c + 13) ∧ mj_is sh n (c + 10) 3 80640 ∧ mj_is sh n (c + 11) 3 315 ∧ mj_is sh n (c + 12) 0 315 ∧ mj_is sh n (c + 13) 0 512
theorem mj_lc_z {x y : BitVec 64} : mj_w (mj_lc x y) = 0 ↔ x = y := by
  unfold mj_lc
  by_cases h : x = y
  · subst h
    rw [if_neg (Int.lt_irrefl _), if_pos rfl]
    simp [mj_w]
  · by_cases h2 : y.toInt < x.toInt
    · rw [if_pos h2]
      simp [h, mj_w]
    · rw [if_neg h2, if_neg h]
      simp [h, mj_w]
/-- the value at vector 0 -/
def C_sb (x : BitVec 64) : Int := ((x.toNat % 2 : Nat) : Int)
theorem C_sb_in (x : BitVec 64) : C_sb x = 0 ∨ C_sb x = 1 := by
  unfold C_sb
  omega
theorem nu_toInt64 {x : BitVec 64} (h : x.toNat < 9223372036854775808) : x.toInt = (x.toNat : Int) := by
  rw [BitVec.toInt_eq_toNat_of_lt]
  omega
theorem nu_sb (x : BitVec 64) : mj_w (x &&& 1#64).toInt = C_sb x := by
  have h : (x &&& 1#64).toNat = x.toNat % 2 := by
    rw [BitVec.toNat_and]
    exact Nat.and_one_is_mod _
  rw [nu_toInt64 (by rw [h]; omega), h, mj_w_id (by omega) (by omega)]
  rfl
theorem nu_u63 : ∀ k : Fin 64, ((Int32.ofInt (k.val : Int)).toInt64.toUInt64 &&& Int64.toUInt64 63) = UInt64.ofNat k.val := by decide +kernel
theorem nu_lushr (x : BitVec 64) {k : Nat} (hk : k < 64) : ((Int64.ofBitVec x).toUInt64 >>> ((Int32.ofInt (k : Int)).toInt64.toUInt64 &&& Int64.toUInt64 63)).toInt64.toBitVec = x >>> k := by
  rw [nu_u63 ⟨k, hk⟩]
  show ((Int64.ofBitVec x).toUInt64 >>> UInt64.ofNat k).toBitVec = x >>> k
  rw [UInt64.toBitVec_shiftRight]
  show x >>> ((BitVec.ofNat 64 k) % 64) = x >>> k
  rw [BitVec.ushiftRight_eq']
  congr 1
  rw [BitVec.toNat_umod, BitVec.toNat_ofNat]
  show k % 18446744073709551616 % 64 = k
  omega
/-- the hash of the first w words -/
def C_h (row : Nat → BitVec 64) (flip : BitVec 64) : Nat → BitVec 64
  | 0 => 0#64
  | w + 1 => ((C_h row flip w ^^^ row w ^^^ flip) * 0x9E3779B97F4A7C15#64) ^^^ (((C_h row flip w ^^^ row w ^^^ flip) * 0x9E3779B97F4A7C15#64) >>> 29)
/-- word w of slot s -/
def C_rw (LA : mj_LA) (c s w : Nat) : BitVec 64 := LA (c + 10) (s * 256 + w)
theorem C_rw0 {LA : mj_LA} {c s : Nat} : C_rw LA c s 0 = LA (c + 10) (s * 256) := by
  simp only [C_rw, Nat.add_zero]
def C_fl (LA : mj_LA) (c s : Nat) : BitVec 64 := if C_sb (C_rw LA c s 0) = 0 then 0#64 else LA c 9
def C_hs (LA : mj_LA) (c s W : Nat) : BitVec 64 := C_h (C_rw LA c s) (C_fl LA c s) W
/-- slot s of circuit c and slot t of circuit d have the same function or inverse ones -/
def C_si (LA : mj_LA) (c s d t W : Nat) : Prop := ∀ w, w < W → C_rw LA c s w ^^^ C_rw LA d t w = if C_sb (C_rw LA c s 0) = C_sb (C_rw LA d t 0) then 0#64 else LA c 9
section CC
variable {sh : mj_Sh} {FR : mj_FR} {IA : mj_FI} {LA : mj_LA} {n c b : Nat}
theorem ct_C_startBit (h : isC sh FR n c b) {s : Nat} (hs : s < 315) : mj_Ct m_C_startBit [.inr (.inr (.inl c)), .inl s] sh FR IA LA n (mj_pu (.inl (some (.inl (C_sb (C_rw LA c s 0))))) sh FR IA LA n) := by
  obtain ⟨h0, r0, r4, r5, r6, r7, a4, a5, a6, a7⟩ := h
  rw [C_rw0]
  refine mj_Ct_of (by decide +kernel) (by decide) (Nat.le_of_ble_eq_true rfl) ?_
  refine mj_go z_C_startBit [] 60 ?_
  refine And.intro h0 (Exists.intro _ (And.intro r4 ?_))
  refine Exists.intro (((s * 256 : Nat) : Int)) (And.intro (by first | (rw [mj_w_id (by omega) (by omega)]; done) | (rw [mj_w_id (by omega) (by omega)]; omega) | (unfold mj_w; omega)) ?_)
  refine Exists.intro _ (Exists.intro (s * 256) (And.intro a4 (And.intro (by first | (rw [mj_w_id (by omega) (by omega)]; done) | (rw [mj_w_id (by omega) (by omega)]; omega) | (unfold mj_w; omega)) (And.intro (by omega) ?_))))
  refine Exists.intro (C_sb (LA (c + 10) (s * 256))) (And.intro (nu_sb _) ?_)
  exact ⟨⟨rfl, rfl, rfl, rfl, rfl, rfl⟩, Nat.le_of_ble_eq_true rfl, Nat.le_of_ble_eq_true rfl⟩
theorem ct_C_rowOf (h : isC sh FR n c b) (hN : isNet sh FR n b) {lit : Int} {s : Nat} (h1 : 0 ≤ lit) (h2 : lit ≤ 2001) (h3 : IA (b + 1) (lit / 2).toNat = (s : Int)) (hs : s < 315) : mj_Ct m_C_rowOf [.inr (.inr (.inl c)), .inl lit] sh FR IA LA n (mj_pu (.inl (some (.inl ((s * 256 : Nat) : Int)))) sh FR IA LA n) := by
  obtain ⟨h0, r0, r4, r5, r6, r7, a4, a5, a6, a7⟩ := h
  refine mj_Ct_of (by decide +kernel) (by decide) (Nat.le_of_ble_eq_true rfl) ?_
  refine mj_go z_C_rowOf [] 60 ?_
  refine And.intro h0 (Exists.intro _ (And.intro r0 ?_))
  refine And.intro hN.1 (And.intro (Nat.le_of_ble_eq_true rfl) (And.intro (Nat.le_of_ble_eq_true rfl) (And.intro (Nat.le_of_ble_eq_true rfl) (Exists.intro _ (And.intro (ct_N_slotFor hN h1 h2) ?_)))))
  rintro r9 sh9 FR9 IA9 LA9 n9 ⟨z0, z1, z2, z3, z4, z5⟩
  subst z0
  replace z1 := z1.symm
  subst z1
  replace z2 := z2.symm
  subst z2
  replace z3 := z3.symm
  subst z3
  replace z4 := z4.symm
  subst z4
  replace z5 := z5.symm
  subst z5
  refine And.intro (Or.inl rfl) ?_
  rw [h3]
  refine Exists.intro (((s * 256 : Nat) : Int)) (And.intro (by first | (rw [mj_w_id (by omega) (by omega)]; done) | (rw [mj_w_id (by omega) (by omega)]; omega) | (unfold mj_w; omega)) ?_)
  exact ⟨⟨rfl, rfl, rfl, rfl, rfl, rfl⟩, Nat.le_of_ble_eq_true rfl, Nat.le_of_ble_eq_true rfl⟩
theorem ct_C_flipOf (h : isC sh FR n c b) {lit : Int} (h1 : 0 ≤ lit) (h2 : lit ≤ 100000) : mj_Ct m_C_flipOf [.inr (.inr (.inl c)), .inl lit] sh FR IA LA n (mj_pu (.inl (some (.inr (.inl (if lit % 2 = 0 then 0#64 else LA c 9))))) sh FR IA LA n) := by
  obtain ⟨h0, r0, r4, r5, r6, r7, a4, a5, a6, a7⟩ := h
  refine mj_Ct_of (by decide +kernel) (by decide) (Nat.le_of_ble_eq_true rfl) ?_
  refine mj_go z_C_flipOf [] 60 ?_
  refine And.intro (by decide) ?_
  refine Exists.intro (lit % 2) (And.intro (nu_rem h1 (by omega) (by omega) (by omega)) ?_)
  refine And.intro (fun d => ?_) (fun d => ?_)
  · simp (disch := (clear d; omega)) only [mj_w_id] at d
    rw [if_neg d]
    refine And.intro h0 ?_
    exact ⟨⟨rfl, rfl, rfl, rfl, rfl, rfl⟩, Nat.le_of_ble_eq_true rfl, Nat.le_of_ble_eq_true rfl⟩
  · have d := Classical.not_not.mp d
    simp (disch := (clear d; omega)) only [mj_w_id] at d
    rw [if_pos d]
    exact ⟨⟨rfl, rfl, rfl, rfl, rfl, rfl⟩, Nat.le_of_ble_eq_true rfl, Nat.le_of_ble_eq_true rfl⟩
set_option maxHeartbeats 1000000 in
theorem ct_C_hashOf (h : isC sh FR n c b) {s W : Nat} (hs : s < 315) (hW : IA c 8 = (W : Int)) (hW2 : W ≤ 256) : mj_Ct m_C_hashOf [.inr (.inr (.inl c)), .inl s] sh FR IA LA n (mj_pu (.inl (some (.inr (.inl (C_hs LA c s W))))) sh FR IA LA n) := by
  have hC := h
  obtain ⟨h0, r0, r4, r5, r6, r7, a4, a5, a6, a7⟩ := h
  have loop : ∀ (t w : Nat), w + t = W → mj_G m_C_hashOf (mj_pu (.inl (some (.inr (.inl (C_hs LA c s W))))) sh FR IA LA n) 29 [some (.inr (.inr (.inl c))), some (.inl s), some (.inl ((s * 256 : Nat) : Int)), some (.inr (.inl (C_fl LA c s))), none, some (.inr (.inl (C_h (C_rw LA c s) (C_fl LA c s) w))), none, some (.inl w)] [] sh FR IA LA n 0 0 := by
    intro t
    induction t with
    | zero =>
      intro w hw
      have hw : w = W := by omega
      subst hw
      refine mj_go z_C_hashOf [29] 60 ?_
      refine And.intro h0 ?_
      rw [hW]
      refine And.intro (fun d => ?_) (fun d => ?_)
      · exact ⟨⟨rfl, rfl, rfl, rfl, rfl, rfl⟩, Nat.le_of_ble_eq_true rfl, Nat.le_of_ble_eq_true rfl⟩
      · simp (disch := (clear d; omega)) only [mj_w_id] at d
        omega
    | succ t ih =>
      intro w hw
      refine mj_go z_C_hashOf [29] 60 ?_
      refine And.intro h0 ?_
      rw [hW]
      refine And.intro (fun d => ?_) (fun d => ?_)
      · simp (disch := (clear d; omega)) only [mj_w_id] at d
        omega
      · refine And.intro h0 (Exists.intro _ (And.intro r4 ?_))
        refine Exists.intro (((s * 256 + w : Nat) : Int)) (And.intro (by first | (rw [mj_w_id (by omega) (by omega)]; done) | (rw [mj_w_id (by omega) (by omega)]; omega) | (unfold mj_w; omega)) ?_)
        refine Exists.intro _ (Exists.intro (s * 256 + w) (And.intro a4 (And.intro (by first | (rw [mj_w_id (by omega) (by omega)]; done) | (rw [mj_w_id (by omega) (by omega)]; omega) | (unfold mj_w; omega)) (And.intro (by omega) ?_))))
        refine Exists.intro ((((C_h (C_rw LA c s) (C_fl LA c s) w ^^^ C_rw LA c s w ^^^ C_fl LA c s) * 0x9E3779B97F4A7C15#64) >>> 29)) (And.intro (nu_lushr _ (by decide)) ?_)
        refine Exists.intro (((w + 1 : Nat) : Int)) (And.intro (by first | (rw [mj_w_id (by omega) (by omega)]; done) | (rw [mj_w_id (by omega) (by omega)]; omega) | (unfold mj_w; omega)) ?_)
        exact ih (w + 1) (by omega)
  have go2 : mj_G m_C_hashOf (mj_pu (.inl (some (.inr (.inl (C_hs LA c s W))))) sh FR IA LA n) 22 [some (.inr (.inr (.inl c))), some (.inl s), some (.inl ((s * 256 : Nat) : Int)), none, none, none, none, none] [.inr (.inl (C_fl LA c s))] sh FR IA LA n 0 0 := by
    refine mj_go z_C_hashOf [29] 60 ?_
    exact loop W 0 (by omega)
  refine mj_Ct_of (by decide +kernel) (by decide) (Nat.le_of_ble_eq_true rfl) ?_
  refine mj_go z_C_hashOf [22] 60 ?_
  refine Exists.intro (((s * 256 : Nat) : Int)) (And.intro (by first | (rw [mj_w_id (by omega) (by omega)]; done) | (rw [mj_w_id (by omega) (by omega)]; omega) | (unfold mj_w; omega)) ?_)
  refine And.intro h0 (And.intro (Nat.le_of_ble_eq_true rfl) (And.intro (Nat.le_of_ble_eq_true rfl) (And.intro (Nat.le_of_ble_eq_true rfl) (Exists.intro _ (And.intro (ct_C_startBit hC hs) ?_)))))
  rintro r9 sh9 FR9 IA9 LA9 n9 ⟨z0, z1, z2, z3, z4, z5⟩
  subst z0
  replace z1 := z1.symm
  subst z1
  replace z2 := z2.symm
  subst z2
  replace z3 := z3.symm
  subst z3
  replace z4 := z4.symm
  subst z4
  replace z5 := z5.symm
  subst z5
  refine And.intro (Or.inl rfl) ?_
  unfold C_fl at go2
  rcases C_sb_in (C_rw LA c s 0) with e | e
  · rw [e] at go2 ⊢
    rw [if_pos rfl] at go2
    refine And.intro (fun d => ?_) (fun d => ?_)
    · exact absurd rfl d
    · exact go2
  · rw [e] at go2 ⊢
    rw [if_neg (by decide)] at go2
    refine And.intro (fun d => ?_) (fun d => ?_)
    · refine And.intro h0 ?_
      exact go2
    · exact absurd (show ¬ mj_w 1 = 0 by decide) d
theorem C_si_d (LA : mj_LA) (c s d t : Nat) : ∀ W, C_si LA c s d t W ∨ ¬ C_si LA c s d t W := fun _ => Classical.em _
set_option maxHeartbeats 1000000 in
theorem ct_C_isSame (h : isC sh FR n c b) {d b2 : Nat} (h2 : isC sh FR n d b2) {s t W : Nat} (hs : s < 315) (ht : t < 315) (hW : IA c 8 = (W : Int)) (hW2 : W ≤ 256) : mj_Ct m_C_isSameOrInverse [.inr (.inr (.inl c)), .inl s, .inr (.inr (.inl d)), .inl t] sh FR IA LA n (mj_po (fun o J => J = IA ∧ ((o = .inl (some (.inl 1)) ∧ LA (c + 11) s = LA (d + 11) t ∧ C_si LA c s d t W) ∨ (o = .inl (some (.inl 0)) ∧ ¬ (LA (c + 11) s = LA (d + 11) t ∧ C_si LA c s d t W)))) sh FR LA n) := by
  have hC := h
  have hC2 := h2
  obtain ⟨h0, r0, r4, r5, r6, r7, a4, a5, a6, a7⟩ := h
  obtain ⟨g0, k0, k4, k5, k6, k7, b4, b5, b6, b7⟩ := h2
  generalize hQ : mj_po (fun o J => J = IA ∧ ((o = .inl (some (.inl 1)) ∧ LA (c + 11) s = LA (d + 11) t ∧ C_si LA c s d t W) ∨ (o = .inl (some (.inl 0)) ∧ ¬ (LA (c + 11) s = LA (d + 11) t ∧ C_si LA c s d t W)))) sh FR LA n = Q
  generalize hf : (if C_sb (C_rw LA c s 0) = C_sb (C_rw LA d t 0) then 0#64 else LA c 9) = fl
  have loop : LA (c + 11) s = LA (d + 11) t → ∀ (k w : Nat), w + k = W → (∀ x, x < w → C_rw LA c s x ^^^ C_rw LA d t x = fl) → mj_G m_C_isSameOrInverse Q 58 [some (.inr (.inr (.inl c))), some (.inl s), some (.inr (.inr (.inl d))), some (.inl t), some (.inl ((s * 256 : Nat) : Int)), some (.inl ((t * 256 : Nat) : Int)), some (.inr (.inl fl)), none, some (.inl w)] [] sh FR IA LA n 0 0 := by
    intro hh k
    subst hQ
    induction k with
    | zero =>
      intro w hw hx
      have hw : w = W := by omega
      subst hw
      refine mj_go z_C_isSameOrInverse [58] 60 ?_
      refine And.intro h0 ?_
      rw [hW]
      refine And.intro (fun e => ?_) (fun e => ?_)
      · exact ⟨Or.inr rfl, ⟨rfl, rfl, rfl, rfl, rfl, Or.inl ⟨rfl, hh, fun x hx2 => by rw [hf]; exact hx x hx2⟩⟩, Nat.le_of_ble_eq_true rfl, Nat.le_of_ble_eq_true rfl⟩
      · simp (disch := (clear e; omega)) only [mj_w_id] at e
        omega
    | succ k ih =>
      intro w hw hx
      refine mj_go z_C_isSameOrInverse [58] 60 ?_
      refine And.intro h0 ?_
      rw [hW]
      refine And.intro (fun e => ?_) (fun e => ?_)
      · simp (disch := (clear e; omega)) only [mj_w_id] at e
        omega
      · refine And.intro h0 (Exists.intro _ (And.intro r4 ?_))
        refine Exists.intro (((s * 256 + w : Nat) : Int)) (And.intro (by first | (rw [mj_w_id (by omega) (by omega)]; done) | (rw [mj_w_id (by omega) (by omega)]; omega) | (unfold mj_w; omega)) ?_)
        refine Exists.intro _ (Exists.intro (s * 256 + w) (And.intro a4 (And.intro (by first | (rw [mj_w_id (by omega) (by omega)]; done) | (rw [mj_w_id (by omega) (by omega)]; omega) | (unfold mj_w; omega)) (And.intro (by omega) ?_))))
        refine And.intro g0 (Exists.intro _ (And.intro k4 ?_))
        refine Exists.intro (((t * 256 + w : Nat) : Int)) (And.intro (by first | (rw [mj_w_id (by omega) (by omega)]; done) | (rw [mj_w_id (by omega) (by omega)]; omega) | (unfold mj_w; omega)) ?_)
        refine Exists.intro _ (Exists.intro (t * 256 + w) (And.intro b4 (And.intro (by first | (rw [mj_w_id (by omega) (by omega)]; done) | (rw [mj_w_id (by omega) (by omega)]; omega) | (unfold mj_w; omega)) (And.intro (by omega) ?_))))
        refine Exists.intro _ (And.intro rfl ?_)
        refine And.intro (fun e2 => ?_) (fun e2 => ?_)
        · have e2 := mj_lc_z.mp e2
          refine Exists.intro (((w + 1 : Nat) : Int)) (And.intro (by first | (rw [mj_w_id (by omega) (by omega)]; done) | (rw [mj_w_id (by omega) (by omega)]; omega) | (unfold mj_w; omega)) ?_)
          refine ih (w + 1) (by omega) (fun x hx2 => ?_)
          by_cases z : x = w
          · subst z
            exact e2
          · exact hx x (by omega)
        · have e2 : ¬ C_rw LA c s w ^^^ C_rw LA d t w = fl := fun z => e2 (mj_lc_z.mpr z)
          exact ⟨Or.inl rfl, ⟨rfl, rfl, rfl, rfl, rfl, Or.inr ⟨rfl, fun z => e2 (by rw [← hf]; exact z.2 w (by omega))⟩⟩, Nat.le_of_ble_eq_true rfl, Nat.le_of_ble_eq_true rfl⟩
  refine mj_Ct_of (by decide +kernel) (by decide) (Nat.le_of_ble_eq_true rfl) ?_
  refine mj_go z_C_isSameOrInverse [53, 58] 60 ?_
  refine And.intro h0 (Exists.intro _ (And.intro r5 ?_))
  refine Exists.intro _ (Exists.intro (s) (And.intro a5 (And.intro (by first | (rw [mj_w_id (by omega) (by omega)]; done) | (rw [mj_w_id (by omega) (by omega)]; omega) | (unfold mj_w; omega)) (And.intro (by omega) ?_))))
  refine And.intro g0 (Exists.intro _ (And.intro k5 ?_))
  refine Exists.intro _ (Exists.intro (t) (And.intro b5 (And.intro (by first | (rw [mj_w_id (by omega) (by omega)]; done) | (rw [mj_w_id (by omega) (by omega)]; omega) | (unfold mj_w; omega)) (And.intro (by omega) ?_))))
  refine Exists.intro _ (And.intro rfl ?_)
  refine And.intro (fun e => ?_) (fun e => ?_)
  · have e := mj_lc_z.mp e
    refine Exists.intro (((s * 256 : Nat) : Int)) (And.intro (by first | (rw [mj_w_id (by omega) (by omega)]; done) | (rw [mj_w_id (by omega) (by omega)]; omega) | (unfold mj_w; omega)) ?_)
    refine Exists.intro (((t * 256 : Nat) : Int)) (And.intro (by first | (rw [mj_w_id (by omega) (by omega)]; done) | (rw [mj_w_id (by omega) (by omega)]; omega) | (unfold mj_w; omega)) ?_)
    refine And.intro h0 (And.intro (Nat.le_of_ble_eq_true rfl) (And.intro (Nat.le_of_ble_eq_true rfl) (And.intro (Nat.le_of_ble_eq_true rfl) (Exists.intro _ (And.intro (ct_C_startBit hC hs) ?_)))))
    rintro r9 sh9 FR9 IA9 LA9 n9 ⟨z0, z1, z2, z3, z4, z5⟩
    subst z0
    replace z1 := z1.symm
    subst z1
    replace z2 := z2.symm
    subst z2
    replace z3 := z3.symm
    subst z3
    replace z4 := z4.symm
    subst z4
    replace z5 := z5.symm
    subst z5
    refine And.intro (Or.inl rfl) ?_
    refine And.intro g0 (And.intro (Nat.le_of_ble_eq_true rfl) (And.intro (Nat.le_of_ble_eq_true rfl) (And.intro (Nat.le_of_ble_eq_true rfl) (Exists.intro _ (And.intro (ct_C_startBit hC2 ht) ?_)))))
    rintro r9 sh9 FR9 IA9 LA9 n9 ⟨z0, z1, z2, z3, z4, z5⟩
    subst z0
    replace z1 := z1.symm
    subst z1
    replace z2 := z2.symm
    subst z2
    replace z3 := z3.symm
    subst z3
    replace z4 := z4.symm
    subst z4
    replace z5 := z5.symm
    subst z5
    refine And.intro (Or.inl rfl) ?_
    have q1 := C_sb_in (C_rw LA c s 0)
    have q2 := C_sb_in (C_rw LA d t 0)
    refine And.intro (fun e2 => ?_) (fun e2 => ?_)
    · simp (disch := (clear e2; omega)) only [mj_w_id] at e2
      rw [if_neg e2] at hf
      subst hf
      refine And.intro h0 ?_
      refine mj_go z_C_isSameOrInverse [58] 60 ?_
      exact loop e W 0 (by omega) (fun x hx => by omega)
    · have e2 := Classical.not_not.mp e2
      simp (disch := (clear e2; omega)) only [mj_w_id] at e2
      rw [if_pos e2] at hf
      subst hf
      refine mj_go z_C_isSameOrInverse [58] 60 ?_
      exact loop e W 0 (by omega) (fun x hx => by omega)
  · have e : ¬ LA (c + 11) s = LA (d + 11) t := fun z => e (mj_lc_z.mpr z)
    subst hQ
    exact ⟨Or.inl rfl, ⟨rfl, rfl, rfl, rfl, rfl, Or.inr ⟨rfl, fun z => e z.1⟩⟩, Nat.le_of_ble_eq_true rfl, Nat.le_of_ble_eq_true rfl⟩
end CC
