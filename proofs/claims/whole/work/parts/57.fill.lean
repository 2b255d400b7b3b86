/-! CIRCUIT: fillInput, fillGate -/
/-- word w of input k -/
def C_iw (k w : Nat) (mask : BitVec 64) : BitVec 64 := if k < 6 then mj_iw k &&& mask else if (w / 2 ^ (k - 6)) % 2 = 0 then 0#64 else 0xFFFFFFFFFFFFFFFF#64
/-- the first w words of slot s set -/
def C_st (LA : mj_LA) (c s : Nat) (f : Nat → BitVec 64) (w : Nat) : mj_LA := fun q j => if q = c + 10 ∧ s * 256 ≤ j ∧ j < s * 256 + w then f (j - s * 256) else LA q j
theorem C_st_0 {LA : mj_LA} {c s : Nat} {f : Nat → BitVec 64} : C_st LA c s f 0 = LA := by
  funext q j
  unfold C_st
  rw [if_neg (by omega)]
theorem C_st_s {LA : mj_LA} {c s w : Nat} {f : Nat → BitVec 64} : mj_up (C_st LA c s f w) (c + 10) (s * 256 + w) (f w) = C_st LA c s f (w + 1) := by
  funext q j
  unfold mj_up C_st
  by_cases h1 : q = c + 10
  · by_cases h2 : j = s * 256 + w
    · rw [if_pos h1, if_pos h2, if_pos (by omega), h2, show s * 256 + w - s * 256 = w by omega]
    · rw [if_pos h1, if_neg h2]
      by_cases h3 : s * 256 ≤ j ∧ j < s * 256 + w
      · rw [if_pos ⟨h1, h3⟩, if_pos (by omega)]
      · rw [if_neg (by omega), if_neg (by omega)]
  · rw [if_neg h1, if_neg (by omega), if_neg (by omega)]
theorem C_st_o {LA : mj_LA} {c s w q : Nat} {f : Nat → BitVec 64} (h : q ≠ c + 10) : C_st LA c s f w q = LA q := by
  funext j
  unfold C_st
  rw [if_neg (by omega)]
theorem C_st_rw {LA : mj_LA} {c s t w x : Nat} {f : Nat → BitVec 64} (hx : x < 256) (hw : w ≤ 256) (h : t ≠ s) : C_rw (C_st LA c s f w) c t x = C_rw LA c t x := by
  unfold C_rw C_st
  rw [if_neg (by omega)]
theorem C_st_at {LA : mj_LA} {c s w x : Nat} {f : Nat → BitVec 64} (hx : x < w) : C_rw (C_st LA c s f w) c s x = f x := by
  unfold C_rw C_st
  rw [if_pos (by omega), show s * 256 + x - s * 256 = x by omega]
section CC
variable {sh : mj_Sh} {FR : mj_FR} {IA : mj_FI} {LA : mj_LA} {n c b : Nat}
set_option maxHeartbeats 1000000 in
theorem ct_C_fillInput (h : isC sh FR n c b) {k W : Nat} (hk : k < 14) (hW : IA c 8 = (W : Int)) (hW2 : W ≤ 256) : mj_Ct m_C_fillInput [.inr (.inr (.inl c)), .inl k] sh FR IA LA n (mj_pu (.inl none) sh FR IA (C_st LA c (1 + k) (fun w => C_iw k w (LA c 9)) W) n) := by
  obtain ⟨h0, r0, r4, r5, r6, r7, a4, a5, a6, a7⟩ := h
  have loop : ∀ (t w : Nat), w + t = W → mj_G m_C_fillInput (mj_pu (.inl none) sh FR IA (C_st LA c (1 + k) (fun w => C_iw k w (LA c 9)) W) n) 10 [some (.inr (.inr (.inl c))), some (.inl k), some (.inl (((1 + k) * 256 : Nat) : Int)), some (.inl w)] [] sh FR IA (C_st LA c (1 + k) (fun w => C_iw k w (LA c 9)) w) n 0 0 := by
    intro t
    induction t with
    | zero =>
      intro w hw
      have hw : w = W := by omega
      subst hw
      refine mj_go z_C_fillInput [10] 60 ?_
      refine And.intro h0 ?_
      rw [hW]
      refine And.intro (fun d => ?_) (fun d => ?_)
      · exact ⟨⟨rfl, rfl, rfl, rfl, rfl, rfl⟩, Nat.le_of_ble_eq_true rfl, Nat.le_of_ble_eq_true rfl⟩
      · simp (disch := (clear d; omega)) only [mj_w_id] at d
        omega
    | succ t ih =>
      intro w hw
      have ih1 := ih (w + 1) (by omega)
      rw [← C_st_s] at ih1
      have step : ∀ v, v = C_iw k w (LA c 9) → mj_G m_C_fillInput (mj_pu (.inl none) sh FR IA (C_st LA c (1 + k) (fun w => C_iw k w (LA c 9)) W) n) 71 [some (.inr (.inr (.inl c))), some (.inl k), some (.inl (((1 + k) * 256 : Nat) : Int)), some (.inl w)] [] sh FR IA (mj_up (C_st LA c (1 + k) (fun w => C_iw k w (LA c 9)) w) (c + 10) ((1 + k) * 256 + w) v) n 0 0 := by
        intro v hv
        subst hv
        refine mj_go z_C_fillInput [10] 60 ?_
        refine Exists.intro (((w + 1 : Nat) : Int)) (And.intro (by first | (rw [mj_w_id (by omega) (by omega)]; done) | (rw [mj_w_id (by omega) (by omega)]; omega) | (unfold mj_w; omega)) ?_)
        exact ih1
      refine mj_go z_C_fillInput [10, 71] 60 ?_
      refine And.intro h0 ?_
      rw [hW]
      refine And.intro (fun d => ?_) (fun d => ?_)
      · simp (disch := (clear d; omega)) only [mj_w_id] at d
        omega
      · refine And.intro (fun e => ?_) (fun e => ?_)
        · simp (disch := (clear e; omega)) only [mj_w_id] at e
          refine And.intro h0 (Exists.intro _ (And.intro r4 ?_))
          refine Exists.intro ((((1 + k) * 256 + w : Nat) : Int)) (And.intro (by first | (rw [mj_w_id (by omega) (by omega)]; done) | (rw [mj_w_id (by omega) (by omega)]; omega) | (unfold mj_w; omega)) ?_)
          refine Exists.intro ((((k - 6 : Nat) : Int))) (And.intro (by first | (rw [mj_w_id (by omega) (by omega)]; done) | (rw [mj_w_id (by omega) (by omega)]; omega) | (unfold mj_w; omega)) ?_)
          refine Exists.intro ((((w / 2 ^ (k - 6) : Nat) : Int))) (And.intro ((nu_shr (by omega) (by omega) (by omega)).trans (by rw [Int.natCast_ediv])) ?_)
          refine And.intro (by decide) ?_
          have hdiv : w / 2 ^ (k - 6) ≤ w := Nat.div_le_self _ _
          generalize hq : w / 2 ^ (k - 6) = qq at *
          refine Exists.intro ((((qq % 2 : Nat) : Int))) (And.intro ((nu_rem (by omega) (by omega) (by omega) (by omega)).trans (by omega)) ?_)
          refine And.intro (fun f => ?_) (fun f => ?_)
          · simp (disch := (clear f; omega)) only [mj_w_id] at f
            refine Exists.intro _ (Exists.intro ((1 + k) * 256 + w) (And.intro a4 (And.intro (by first | (rw [mj_w_id (by omega) (by omega)]; done) | (rw [mj_w_id (by omega) (by omega)]; omega) | (unfold mj_w; omega)) (And.intro (by omega) ?_))))
            refine step _ ?_
            unfold C_iw
            rw [if_neg (by omega), hq, if_neg (by omega)]
          · have f := Classical.not_not.mp f
            simp (disch := (clear f; omega)) only [mj_w_id] at f
            refine Exists.intro _ (Exists.intro ((1 + k) * 256 + w) (And.intro a4 (And.intro (by first | (rw [mj_w_id (by omega) (by omega)]; done) | (rw [mj_w_id (by omega) (by omega)]; omega) | (unfold mj_w; omega)) (And.intro (by omega) ?_))))
            refine step _ ?_
            unfold C_iw
            rw [if_neg (by omega), hq, if_pos (by omega)]
        · simp (disch := (clear e; omega)) only [mj_w_id] at e
          refine And.intro h0 (Exists.intro _ (And.intro r4 ?_))
          refine Exists.intro ((((1 + k) * 256 + w : Nat) : Int)) (And.intro (by first | (rw [mj_w_id (by omega) (by omega)]; done) | (rw [mj_w_id (by omega) (by omega)]; omega) | (unfold mj_w; omega)) ?_)
          refine Exists.intro k (And.intro (by rw [mj_w_id (by omega) (by omega)]) (And.intro (by omega) ?_))
          refine And.intro h0 ?_
          refine Exists.intro _ (Exists.intro ((1 + k) * 256 + w) (And.intro a4 (And.intro (by first | (rw [mj_w_id (by omega) (by omega)]; done) | (rw [mj_w_id (by omega) (by omega)]; omega) | (unfold mj_w; omega)) (And.intro (by omega) ?_))))
          refine step _ ?_
          unfold C_iw
          rw [if_pos (by omega), C_st_o (by omega)]
  refine mj_Ct_of (by decide +kernel) (by decide) (Nat.le_of_ble_eq_true rfl) ?_
  refine mj_go z_C_fillInput [10] 60 ?_
  refine Exists.intro ((((1 + k : Nat) : Int))) (And.intro (by first | (rw [mj_w_id (by omega) (by omega)]; done) | (rw [mj_w_id (by omega) (by omega)]; omega) | (unfold mj_w; omega)) ?_)
  refine Exists.intro ((((1 + k) * 256 : Nat) : Int)) (And.intro (by first | (rw [mj_w_id (by omega) (by omega)]; done) | (rw [mj_w_id (by omega) (by omega)]; omega) | (unfold mj_w; omega)) ?_)
  have h9 := loop W 0 (by omega)
  rw [C_st_0] at h9
  exact h9
/-- word w of a gate -/
def C_gw (LA : mj_LA) (c l r : Nat) (x y : Int) (w : Nat) : BitVec 64 := (C_rw LA c l w ^^^ (if x % 2 = 0 then 0#64 else LA c 9)) &&& (C_rw LA c r w ^^^ (if y % 2 = 0 then 0#64 else LA c 9))
set_option maxHeartbeats 1000000 in
theorem ct_C_fillGate (h : isC sh FR n c b) (hN : isNet sh FR n b) {s l r W : Nat} (hs : s < 315) (hW : IA c 8 = (W : Int)) (hW2 : W ≤ 256) (hl : 0 ≤ IA (b + 3) s ∧ IA (b + 3) s ≤ 2001 ∧ IA (b + 1) (IA (b + 3) s / 2).toNat = (l : Int) ∧ l < 315) (hr : 0 ≤ IA (b + 4) s ∧ IA (b + 4) s ≤ 2001 ∧ IA (b + 1) (IA (b + 4) s / 2).toNat = (r : Int) ∧ r < 315) (hls : l ≠ s) (hrs : r ≠ s) :
    mj_Ct m_C_fillGate [.inr (.inr (.inl c)), .inl s] sh FR IA LA n (mj_pu (.inl none) sh FR IA (C_st LA c s (C_gw LA c l r (IA (b + 3) s) (IA (b + 4) s)) W) n) := by
  have hC := h
  obtain ⟨h0, r0, r4, r5, r6, r7, a4, a5, a6, a7⟩ := h
  obtain ⟨l1, l2, l3, l4⟩ := hl
  obtain ⟨m1, m2, m3, m4⟩ := hr
  generalize hfx : (if IA (b + 3) s % 2 = 0 then 0#64 else LA c 9) = fx
  generalize hfy : (if IA (b + 4) s % 2 = 0 then 0#64 else LA c 9) = fy
  have hgw : ∀ w, C_gw LA c l r (IA (b + 3) s) (IA (b + 4) s) w = (LA (c + 10) (l * 256 + w) ^^^ fx) &&& (LA (c + 10) (r * 256 + w) ^^^ fy) := fun w => by
    rw [← hfx, ← hfy]
    rfl
  generalize C_gw LA c l r (IA (b + 3) s) (IA (b + 4) s) = gw at hgw
  have loop : ∀ (t w : Nat), w + t = W → mj_G m_C_fillGate (mj_pu (.inl none) sh FR IA (C_st LA c s gw W) n) 68 [some (.inr (.inr (.inl c))), some (.inl s), some (.inl ((s * 256 : Nat) : Int)), some (.inl ((l * 256 : Nat) : Int)), some (.inl ((r * 256 : Nat) : Int)), some (.inr (.inl fx)), none, some (.inr (.inl fy)), none, some (.inl w)] [] sh FR IA (C_st LA c s gw w) n 0 0 := by
    clear l3 m3
    intro t
    induction t with
    | zero =>
      intro w hw
      have hw : w = W := by omega
      subst hw
      refine mj_go z_C_fillGate [68] 60 ?_
      refine And.intro h0 ?_
      rw [hW]
      refine And.intro (fun d => ?_) (fun d => ?_)
      · exact ⟨⟨rfl, rfl, rfl, rfl, rfl, rfl⟩, Nat.le_of_ble_eq_true rfl, Nat.le_of_ble_eq_true rfl⟩
      · simp (disch := (clear d; omega)) only [mj_w_id] at d
        omega
    | succ t ih =>
      intro w hw
      have ih1 := ih (w + 1) (by omega)
      rw [← C_st_s, hgw w] at ih1
      have e1 := C_st_rw (LA := LA) (c := c) (s := s) (t := l) (w := w) (x := w) (f := gw) (by omega) (by omega) hls
      have e2 := C_st_rw (LA := LA) (c := c) (s := s) (t := r) (w := w) (x := w) (f := gw) (by omega) (by omega) hrs
      unfold C_rw at e1 e2
      refine mj_go z_C_fillGate [68] 60 ?_
      refine And.intro h0 ?_
      rw [hW]
      refine And.intro (fun d => ?_) (fun d => ?_)
      · simp (disch := (clear d; omega)) only [mj_w_id] at d
        omega
      · refine And.intro h0 (Exists.intro _ (And.intro r4 ?_))
        refine Exists.intro (((s * 256 + w : Nat) : Int)) (And.intro (by first | (rw [mj_w_id (by omega) (by omega)]; done) | (rw [mj_w_id (by omega) (by omega)]; omega) | (unfold mj_w; omega)) ?_)
        refine And.intro h0 (Exists.intro _ (And.intro r4 ?_))
        refine Exists.intro (((l * 256 + w : Nat) : Int)) (And.intro (by first | (rw [mj_w_id (by omega) (by omega)]; done) | (rw [mj_w_id (by omega) (by omega)]; omega) | (unfold mj_w; omega)) ?_)
        refine Exists.intro _ (Exists.intro (l * 256 + w) (And.intro a4 (And.intro (by first | (rw [mj_w_id (by omega) (by omega)]; done) | (rw [mj_w_id (by omega) (by omega)]; omega) | (unfold mj_w; omega)) (And.intro (by omega) ?_))))
        rw [e1]
        refine And.intro h0 (Exists.intro _ (And.intro r4 ?_))
        refine Exists.intro (((r * 256 + w : Nat) : Int)) (And.intro (by first | (rw [mj_w_id (by omega) (by omega)]; done) | (rw [mj_w_id (by omega) (by omega)]; omega) | (unfold mj_w; omega)) ?_)
        refine Exists.intro _ (Exists.intro (r * 256 + w) (And.intro a4 (And.intro (by first | (rw [mj_w_id (by omega) (by omega)]; done) | (rw [mj_w_id (by omega) (by omega)]; omega) | (unfold mj_w; omega)) (And.intro (by omega) ?_))))
        rw [e2]
        refine Exists.intro _ (Exists.intro (s * 256 + w) (And.intro a4 (And.intro (by first | (rw [mj_w_id (by omega) (by omega)]; done) | (rw [mj_w_id (by omega) (by omega)]; omega) | (unfold mj_w; omega)) (And.intro (by omega) ?_))))
        refine Exists.intro (((w + 1 : Nat) : Int)) (And.intro (by first | (rw [mj_w_id (by omega) (by omega)]; done) | (rw [mj_w_id (by omega) (by omega)]; omega) | (unfold mj_w; omega)) ?_)
        exact ih1
  refine mj_Ct_of (by decide +kernel) (by decide) (Nat.le_of_ble_eq_true rfl) ?_
  refine mj_go z_C_fillGate [68] 60 ?_
  refine Exists.intro (((s * 256 : Nat) : Int)) (And.intro (by first | (rw [mj_w_id (by omega) (by omega)]; done) | (rw [mj_w_id (by omega) (by omega)]; omega) | (unfold mj_w; omega)) ?_)
  refine And.intro h0 (Exists.intro _ (And.intro r0 ?_))
  refine And.intro hN.1 (Exists.intro _ (And.intro hN.2.2.2.1 ?_))
  refine Exists.intro _ (Exists.intro (s) (And.intro hN.2.2.2.2.2.2.2.2.2.2.2.1 (And.intro (by first | (rw [mj_w_id (by omega) (by omega)]; done) | (rw [mj_w_id (by omega) (by omega)]; omega) | (unfold mj_w; omega)) (And.intro (by omega) ?_))))
  refine And.intro h0 (And.intro (Nat.le_of_ble_eq_true rfl) (And.intro (Nat.le_of_ble_eq_true rfl) (And.intro (Nat.le_of_ble_eq_true rfl) (Exists.intro _ (And.intro (ct_C_rowOf hC hN l1 l2 l3 l4) ?_)))))
  rintro r9 sh9 FR9 IA9 LA9 n9 ⟨z0, z1, z2, z3, z4, z5⟩
  subst z0
  replace z1 := z1.symm
  subst z1
  replace z2 := z2.symm
  subst z2
  replace z3 := z3.symm
  subst z3
  replace z4 := z4.symm
  subst z4
  replace z5 := z5.symm
  subst z5
  refine And.intro (Or.inl rfl) ?_
  refine And.intro h0 (Exists.intro _ (And.intro r0 ?_))
  refine And.intro hN.1 (Exists.intro _ (And.intro hN.2.2.2.2.1 ?_))
  refine Exists.intro _ (Exists.intro (s) (And.intro hN.2.2.2.2.2.2.2.2.2.2.2.2.1 (And.intro (by first | (rw [mj_w_id (by omega) (by omega)]; done) | (rw [mj_w_id (by omega) (by omega)]; omega) | (unfold mj_w; omega)) (And.intro (by omega) ?_))))
  refine And.intro h0 (And.intro (Nat.le_of_ble_eq_true rfl) (And.intro (Nat.le_of_ble_eq_true rfl) (And.intro (Nat.le_of_ble_eq_true rfl) (Exists.intro _ (And.intro (ct_C_rowOf hC hN m1 m2 m3 m4) ?_)))))
  rintro r9 sh9 FR9 IA9 LA9 n9 ⟨z0, z1, z2, z3, z4, z5⟩
  subst z0
  replace z1 := z1.symm
  subst z1
  replace z2 := z2.symm
  subst z2
  replace z3 := z3.symm
  subst z3
  replace z4 := z4.symm
  subst z4
  replace z5 := z5.symm
  subst z5
  refine And.intro (Or.inl rfl) ?_
  refine And.intro h0 (Exists.intro _ (And.intro r0 ?_))
  refine And.intro hN.1 (Exists.intro _ (And.intro hN.2.2.2.1 ?_))
  refine Exists.intro _ (Exists.intro (s) (And.intro hN.2.2.2.2.2.2.2.2.2.2.2.1 (And.intro (by first | (rw [mj_w_id (by omega) (by omega)]; done) | (rw [mj_w_id (by omega) (by omega)]; omega) | (unfold mj_w; omega)) (And.intro (by omega) ?_))))
  refine And.intro h0 (And.intro (Nat.le_of_ble_eq_true rfl) (And.intro (Nat.le_of_ble_eq_true rfl) (And.intro (Nat.le_of_ble_eq_true rfl) (Exists.intro _ (And.intro (ct_C_flipOf hC l1 (by omega)) ?_)))))
  rintro r9 sh9 FR9 IA9 LA9 n9 ⟨z0, z1, z2, z3, z4, z5⟩
  subst z0
  replace z1 := z1.symm
  subst z1
  replace z2 := z2.symm
  subst z2
  replace z3 := z3.symm
  subst z3
  replace z4 := z4.symm
  subst z4
  replace z5 := z5.symm
  subst z5
  refine And.intro (Or.inl rfl) ?_
  rw [hfx]
  refine And.intro h0 (Exists.intro _ (And.intro r0 ?_))
  refine And.intro hN.1 (Exists.intro _ (And.intro hN.2.2.2.2.1 ?_))
  refine Exists.intro _ (Exists.intro (s) (And.intro hN.2.2.2.2.2.2.2.2.2.2.2.2.1 (And.intro (by first | (rw [mj_w_id (by omega) (by omega)]; done) | (rw [mj_w_id (by omega) (by omega)]; omega) | (unfold mj_w; omega)) (And.intro (by omega) ?_))))
  refine And.intro h0 (And.intro (Nat.le_of_ble_eq_true rfl) (And.intro (Nat.le_of_ble_eq_true rfl) (And.intro (Nat.le_of_ble_eq_true rfl) (Exists.intro _ (And.intro (ct_C_flipOf hC m1 (by omega)) ?_)))))
  rintro r9 sh9 FR9 IA9 LA9 n9 ⟨z0, z1, z2, z3, z4, z5⟩
  subst z0
  replace z1 := z1.symm
  subst z1
  replace z2 := z2.symm
  subst z2
  replace z3 := z3.symm
  subst z3
  replace z4 := z4.symm
  subst z4
  replace z5 := z5.symm
  subst z5
  refine And.intro (Or.inl rfl) ?_
  rw [hfy]
  have h9 := loop W 0 (by omega)
  rw [C_st_0] at h9
  exact h9
end CC
