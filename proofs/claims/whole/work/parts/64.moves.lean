/-! CIRCUIT: movesOf -/
def C_clr (w j : Nat) : Nat := if w / 2 ^ j % 2 = 0 then w else w - 2 ^ j
def C_set (w j : Nat) : Nat := if w / 2 ^ j % 2 = 0 then w + 2 ^ j else w
theorem nu_clr : ∀ j : Fin 8, ∀ w : Fin 256, (Int32.ofInt (w.val : Int) &&& Int32.ofInt (Int32.ofInt ((2 ^ j.val : Nat) : Int) ^^^ Int32.ofInt (-1)).toInt).toInt = ((C_clr w.val j.val : Nat) : Int) ∧ C_clr w.val j.val < 256 := by decide +kernel
theorem nu_set : ∀ j : Fin 8, ∀ w : Fin 256, (Int32.ofInt (w.val : Int) ||| Int32.ofInt ((2 ^ j.val : Nat) : Int)).toInt = ((C_set w.val j.val : Nat) : Int) ∧ C_set w.val j.val < 256 := by decide +kernel
/-- the words near word w with input k 0 and 1 -/
def C_lo (LA : mj_LA) (c s k w : Nat) : BitVec 64 := if k < 6 then C_rw LA c s w &&& (mj_iw k ^^^ 0xFFFFFFFFFFFFFFFF#64) else C_rw LA c s (C_clr w (k - 6))
def C_hi (LA : mj_LA) (c s k w : Nat) : BitVec 64 := if k < 6 then (C_rw LA c s w &&& mj_iw k) >>> (2 ^ k) else C_rw LA c s (C_set w (k - 6))
def C_U (LA : mj_LA) (c s k : Nat) (fl : BitVec 64) (w : Nat) : BitVec 64 := (C_hi LA c s k w ^^^ fl) &&& ((C_lo LA c s k w ^^^ fl) ^^^ 0xFFFFFFFFFFFFFFFF#64)
def C_D (LA : mj_LA) (c s k : Nat) (fl : BitVec 64) (w : Nat) : BitVec 64 := (C_lo LA c s k w ^^^ fl) &&& ((C_hi LA c s k w ^^^ fl) ^^^ 0xFFFFFFFFFFFFFFFF#64)
theorem bv_or0 {x y : BitVec 64} : x ||| y = 0#64 ↔ x = 0#64 ∧ y = 0#64 := by
  constructor
  · intro h
    have key : ∀ i, (x ||| y).getLsbD i = false := fun i => by rw [h]; simp
    have k2 : ∀ i, x.getLsbD i = false ∧ y.getLsbD i = false := fun i => by
      have := key i
      rw [BitVec.getLsbD_or] at this
      simpa using this
    exact ⟨BitVec.eq_of_getLsbD_eq fun i _ => by rw [(k2 i).1]; simp, BitVec.eq_of_getLsbD_eq fun i _ => by rw [(k2 i).2]; simp⟩
  · rintro ⟨h1, h2⟩
    rw [h1, h2]
    rfl
section CC
variable {sh : mj_Sh} {FR : mj_FR} {IA : mj_FI} {LA : mj_LA} {n c b : Nat}
theorem ct_C_halfWithout (h : isC sh FR n c b) {s w k : Nat} (hs : s < 315) (hw : w < 256) (hk : k < 14) : mj_Ct m_C_halfWithout [.inr (.inr (.inl c)), .inl ((s * 256 : Nat) : Int), .inl w, .inl k] sh FR IA LA n (mj_pu (.inl (some (.inr (.inl (C_lo LA c s k w))))) sh FR IA LA n) := by
  obtain ⟨h0, r0, r4, r5, r6, r7, a4, a5, a6, a7⟩ := h
  unfold C_lo C_rw
  refine mj_Ct_of (by decide +kernel) (by decide) (Nat.le_of_ble_eq_true rfl) ?_
  refine mj_go z_C_halfWithout [] 60 ?_
  refine And.intro (fun d => ?_) (fun d => ?_)
  · simp (disch := (clear d; omega)) only [mj_w_id] at d
    rw [if_neg (by omega)]
    obtain ⟨c1, c2⟩ := nu_clr ⟨k - 6, by omega⟩ ⟨w, hw⟩
    have c1 : (Int32.ofInt (w : Int) &&& Int32.ofInt (Int32.ofInt ((2 ^ (k - 6) : Nat) : Int) ^^^ Int32.ofInt (-1)).toInt).toInt = ((C_clr w (k - 6) : Nat) : Int) := c1
    have c2 : C_clr w (k - 6) < 256 := c2
    refine And.intro h0 (Exists.intro _ (And.intro r4 ?_))
    refine Exists.intro ((((k - 6 : Nat) : Int))) (And.intro (by first | (rw [mj_w_id (by omega) (by omega)]; done) | (rw [mj_w_id (by omega) (by omega)]; omega) | (unfold mj_w; omega)) ?_)
    refine Exists.intro ((((2 ^ (k - 6) : Nat) : Int))) (And.intro (nu_shl1 ⟨k - 6, by omega⟩) ?_)
    refine Exists.intro ((Int32.ofInt ((2 ^ (k - 6) : Nat) : Int) ^^^ Int32.ofInt (-1)).toInt) (And.intro (rfl) ?_)
    refine Exists.intro ((((C_clr w (k - 6) : Nat) : Int))) (And.intro (c1) ?_)
    refine Exists.intro (((s * 256 + C_clr w (k - 6) : Nat) : Int)) (And.intro (by first | (rw [mj_w_id (by omega) (by omega)]; done) | (rw [mj_w_id (by omega) (by omega)]; omega) | (unfold mj_w; omega)) ?_)
    refine Exists.intro _ (Exists.intro (s * 256 + C_clr w (k - 6)) (And.intro a4 (And.intro (by first | (rw [mj_w_id (by omega) (by omega)]; done) | (rw [mj_w_id (by omega) (by omega)]; omega) | (unfold mj_w; omega)) (And.intro (by omega) ?_))))
    exact ⟨⟨rfl, rfl, rfl, rfl, rfl, rfl⟩, Nat.le_of_ble_eq_true rfl, Nat.le_of_ble_eq_true rfl⟩
  · simp (disch := (clear d; omega)) only [mj_w_id] at d
    rw [if_pos (by omega)]
    refine And.intro h0 (Exists.intro _ (And.intro r4 ?_))
    refine Exists.intro (((s * 256 + w : Nat) : Int)) (And.intro (by first | (rw [mj_w_id (by omega) (by omega)]; done) | (rw [mj_w_id (by omega) (by omega)]; omega) | (unfold mj_w; omega)) ?_)
    refine Exists.intro _ (Exists.intro (s * 256 + w) (And.intro a4 (And.intro (by first | (rw [mj_w_id (by omega) (by omega)]; done) | (rw [mj_w_id (by omega) (by omega)]; omega) | (unfold mj_w; omega)) (And.intro (by omega) ?_))))
    refine Exists.intro k (And.intro (by rw [mj_w_id (by omega) (by omega)]) (And.intro (by omega) ?_))
    exact ⟨⟨rfl, rfl, rfl, rfl, rfl, rfl⟩, Nat.le_of_ble_eq_true rfl, Nat.le_of_ble_eq_true rfl⟩
theorem ct_C_halfWith (h : isC sh FR n c b) {s w k : Nat} (hs : s < 315) (hw : w < 256) (hk : k < 14) : mj_Ct m_C_halfWith [.inr (.inr (.inl c)), .inl ((s * 256 : Nat) : Int), .inl w, .inl k] sh FR IA LA n (mj_pu (.inl (some (.inr (.inl (C_hi LA c s k w))))) sh FR IA LA n) := by
  obtain ⟨h0, r0, r4, r5, r6, r7, a4, a5, a6, a7⟩ := h
  unfold C_hi C_rw
  refine mj_Ct_of (by decide +kernel) (by decide) (Nat.le_of_ble_eq_true rfl) ?_
  refine mj_go z_C_halfWith [] 60 ?_
  refine And.intro (fun d => ?_) (fun d => ?_)
  · simp (disch := (clear d; omega)) only [mj_w_id] at d
    rw [if_neg (by omega)]
    obtain ⟨c1, c2⟩ := nu_set ⟨k - 6, by omega⟩ ⟨w, hw⟩
    have c1 : (Int32.ofInt (w : Int) ||| Int32.ofInt ((2 ^ (k - 6) : Nat) : Int)).toInt = ((C_set w (k - 6) : Nat) : Int) := c1
    have c2 : C_set w (k - 6) < 256 := c2
    refine And.intro h0 (Exists.intro _ (And.intro r4 ?_))
    refine Exists.intro ((((k - 6 : Nat) : Int))) (And.intro (by first | (rw [mj_w_id (by omega) (by omega)]; done) | (rw [mj_w_id (by omega) (by omega)]; omega) | (unfold mj_w; omega)) ?_)
    refine Exists.intro ((((2 ^ (k - 6) : Nat) : Int))) (And.intro (nu_shl1 ⟨k - 6, by omega⟩) ?_)
    refine Exists.intro ((((C_set w (k - 6) : Nat) : Int))) (And.intro (c1) ?_)
    refine Exists.intro (((s * 256 + C_set w (k - 6) : Nat) : Int)) (And.intro (by first | (rw [mj_w_id (by omega) (by omega)]; done) | (rw [mj_w_id (by omega) (by omega)]; omega) | (unfold mj_w; omega)) ?_)
    refine Exists.intro _ (Exists.intro (s * 256 + C_set w (k - 6)) (And.intro a4 (And.intro (by first | (rw [mj_w_id (by omega) (by omega)]; done) | (rw [mj_w_id (by omega) (by omega)]; omega) | (unfold mj_w; omega)) (And.intro (by omega) ?_))))
    exact ⟨⟨rfl, rfl, rfl, rfl, rfl, rfl⟩, Nat.le_of_ble_eq_true rfl, Nat.le_of_ble_eq_true rfl⟩
  · simp (disch := (clear d; omega)) only [mj_w_id] at d
    rw [if_pos (by omega)]
    refine And.intro h0 (Exists.intro _ (And.intro r4 ?_))
    refine Exists.intro (((s * 256 + w : Nat) : Int)) (And.intro (by first | (rw [mj_w_id (by omega) (by omega)]; done) | (rw [mj_w_id (by omega) (by omega)]; omega) | (unfold mj_w; omega)) ?_)
    refine Exists.intro _ (Exists.intro (s * 256 + w) (And.intro a4 (And.intro (by first | (rw [mj_w_id (by omega) (by omega)]; done) | (rw [mj_w_id (by omega) (by omega)]; omega) | (unfold mj_w; omega)) (And.intro (by omega) ?_))))
    refine Exists.intro k (And.intro (by rw [mj_w_id (by omega) (by omega)]) (And.intro (by omega) ?_))
    have hp : 2 ^ k ≤ 2 ^ 5 := Nat.pow_le_pow_right (by decide) (by omega)
    refine Exists.intro ((((2 ^ k : Nat) : Int))) (And.intro (nu_shl1 ⟨k, by omega⟩) ?_)
    refine Exists.intro ((LA (c + 10) (s * 256 + w) &&& mj_iw k) >>> (2 ^ k)) (And.intro (nu_lushr _ (by omega)) ?_)
    exact ⟨⟨rfl, rfl, rfl, rfl, rfl, rfl⟩, Nat.le_of_ble_eq_true rfl, Nat.le_of_ble_eq_true rfl⟩
/-- 1: it goes up somewhere, 2: it goes down somewhere -/
def C_mv (LA : mj_LA) (c s k : Nat) (fl : BitVec 64) (W : Nat) (z : Int) : Prop := ∃ a d : Int, z = a + d ∧ ((a = 0 ∧ ∀ w, w < W → C_U LA c s k fl w = 0#64) ∨ (a = 1 ∧ ∃ w, w < W ∧ ¬ C_U LA c s k fl w = 0#64)) ∧ ((d = 0 ∧ ∀ w, w < W → C_D LA c s k fl w = 0#64) ∨ (d = 2 ∧ ∃ w, w < W ∧ ¬ C_D LA c s k fl w = 0#64))
theorem acc_ex {f : Nat → BitVec 64} {W : Nat} {x : BitVec 64} (h : x = 0#64 ↔ ∀ w, w < W → f w = 0#64) (hx : ¬ x = 0#64) : ∃ w, w < W ∧ ¬ f w = 0#64 := Classical.byContradiction fun z => hx (h.mpr fun w hw => Classical.byContradiction fun z2 => z ⟨w, hw, z2⟩)
set_option maxHeartbeats 1000000 in
theorem ct_C_movesOf (h : isC sh FR n c b) (hN : isNet sh FR n b) {lit : Int} {s k W : Nat} (h1 : 0 ≤ lit) (h2 : lit ≤ 2001) (h3 : IA (b + 1) (lit / 2).toNat = (s : Int)) (hs : s < 315) (hk : k < 14) (hW : IA c 8 = (W : Int)) (hW2 : W ≤ 256) : mj_Ct m_C_movesOf [.inr (.inr (.inl c)), .inl lit, .inl k] sh FR IA LA n (mj_po (fun o J => J = IA ∧ ∃ z, o = .inl (some (.inl z)) ∧ C_mv LA c s k (if lit % 2 = 0 then 0#64 else LA c 9) W z) sh FR LA n) := by
  have hC := h
  obtain ⟨h0, r0, r4, r5, r6, r7, a4, a5, a6, a7⟩ := h
  generalize hfl : (if lit % 2 = 0 then 0#64 else LA c 9) = fl
  have loop : ∀ (t w : Nat) (u d : BitVec 64) (y1 y2 : Option mj_V), (∀ v, y1 ≠ some (.inr (.inl v)) ∨ True) → w + t = W → (u = 0#64 ↔ ∀ i, i < w → C_U LA c s k fl i = 0#64) → (d = 0#64 ↔ ∀ i, i < w → C_D LA c s k fl i = 0#64) → mj_G m_C_movesOf (mj_po (fun o J => J = IA ∧ ∃ z, o = .inl (some (.inl z)) ∧ C_mv LA c s k fl W z) sh FR LA n) 22 [some (.inr (.inr (.inl c))), some (.inl lit), some (.inl k), some (.inl ((s * 256 : Nat) : Int)), some (.inr (.inl fl)), none, some (.inr (.inl u)), none, some (.inr (.inl d)), none, some (.inl w), y1, none, y2, none] [] sh FR IA LA n 0 0 := by
    clear h3
    intro t
    induction t with
    | zero =>
      intro w u d y1 y2 _ hw hu hd
      have hw : w = W := by omega
      subst hw
      have fin : ∀ a : Int, ((a = 0 ∧ ∀ i, i < w → C_U LA c s k fl i = 0#64) ∨ (a = 1 ∧ ∃ i, i < w ∧ ¬ C_U LA c s k fl i = 0#64)) → mj_G m_C_movesOf (mj_po (fun o J => J = IA ∧ ∃ z, o = .inl (some (.inl z)) ∧ C_mv LA c s k fl w z) sh FR LA n) 103 [some (.inr (.inr (.inl c))), some (.inl lit), some (.inl k), some (.inl ((s * 256 : Nat) : Int)), some (.inr (.inl fl)), none, some (.inr (.inl u)), none, some (.inr (.inl d)), none, some (.inl w), y1, none, y2, none] [.inl a] sh FR IA LA n 0 0 := by
        intro a ha
        have hor : ∀ d, (d = 0 ∨ d = 2) → (Int32.ofInt a ||| Int32.ofInt d).toInt = a + d := by
          intro d hd
          rcases ha with ⟨e, _⟩ | ⟨e, _⟩ <;> rcases hd with e2 | e2 <;> subst e <;> subst e2 <;> decide
        refine mj_go z_C_movesOf [22] 60 ?_
        refine Exists.intro _ (And.intro rfl ?_)
        refine And.intro (fun e => ?_) (fun e => ?_)
        · have e := mj_lc_z.mp e
          refine Exists.intro (a + 0) (And.intro (hor 0 (Or.inl rfl)) ?_)
          exact ⟨⟨rfl, rfl, rfl, rfl, rfl, _, rfl, a, 0, rfl, ha, Or.inl ⟨rfl, hd.mp e⟩⟩, Nat.le_of_ble_eq_true rfl, Nat.le_of_ble_eq_true rfl⟩
        · have e : ¬ d = 0#64 := fun z => e (mj_lc_z.mpr z)
          refine Exists.intro (a + 2) (And.intro (hor 2 (Or.inr rfl)) ?_)
          exact ⟨⟨rfl, rfl, rfl, rfl, rfl, _, rfl, a, 2, rfl, ha, Or.inr ⟨rfl, acc_ex hd e⟩⟩, Nat.le_of_ble_eq_true rfl, Nat.le_of_ble_eq_true rfl⟩
      refine mj_go z_C_movesOf [22, 103] 60 ?_
      refine And.intro h0 ?_
      rw [hW]
      refine And.intro (fun e => ?_) (fun e => ?_)
      · clear e
        refine Exists.intro _ (And.intro rfl ?_)
        refine And.intro (fun e => ?_) (fun e => ?_)
        · have e := mj_lc_z.mp e
          exact fin 0 (Or.inl ⟨rfl, hu.mp e⟩)
        · have e : ¬ u = 0#64 := fun z => e (mj_lc_z.mpr z)
          exact fin 1 (Or.inr ⟨rfl, acc_ex hu e⟩)
      · simp (disch := (clear e; omega)) only [mj_w_id] at e
        omega
    | succ t ih =>
      intro w u d y1 y2 _ hw hu hd
      refine mj_go z_C_movesOf [22] 60 ?_
      refine And.intro h0 ?_
      rw [hW]
      refine And.intro (fun e => ?_) (fun e => ?_)
      · simp (disch := (clear e; omega)) only [mj_w_id] at e
        omega
      · clear e
        refine And.intro h0 (And.intro (Nat.le_of_ble_eq_true rfl) (And.intro (Nat.le_of_ble_eq_true rfl) (And.intro (Nat.le_of_ble_eq_true rfl) (Exists.intro _ (And.intro (ct_C_halfWithout hC hs (by omega) hk) ?_)))))
        rintro r9 sh9 FR9 IA9 LA9 n9 ⟨z0, z1, z2, z3, z4, z5⟩
        subst z0
        replace z1 := z1.symm
        subst z1
        replace z2 := z2.symm
        subst z2
        replace z3 := z3.symm
        subst z3
        replace z4 := z4.symm
        subst z4
        replace z5 := z5.symm
        subst z5
        refine And.intro (Or.inl rfl) ?_
        refine And.intro h0 (And.intro (Nat.le_of_ble_eq_true rfl) (And.intro (Nat.le_of_ble_eq_true rfl) (And.intro (Nat.le_of_ble_eq_true rfl) (Exists.intro _ (And.intro (ct_C_halfWith hC hs (by omega) hk) ?_)))))
        rintro r9 sh9 FR9 IA9 LA9 n9 ⟨z0, z1, z2, z3, z4, z5⟩
        subst z0
        replace z1 := z1.symm
        subst z1
        replace z2 := z2.symm
        subst z2
        replace z3 := z3.symm
        subst z3
        replace z4 := z4.symm
        subst z4
        replace z5 := z5.symm
        subst z5
        refine And.intro (Or.inl rfl) ?_
        refine Exists.intro (((w + 1 : Nat) : Int)) (And.intro (by first | (rw [mj_w_id (by omega) (by omega)]; done) | (rw [mj_w_id (by omega) (by omega)]; omega) | (unfold mj_w; omega)) ?_)
        refine ih (w + 1) (u ||| C_U LA c s k fl w) (d ||| C_D LA c s k fl w) _ _ (fun _ => Or.inr trivial) (by omega) ?_ ?_
        · rw [bv_or0, hu]
          constructor
          · rintro ⟨q1, q2⟩ i hi
            by_cases z : i = w
            · subst z
              exact q2
            · exact q1 i (by omega)
          · exact fun q => ⟨fun i hi => q i (by omega), q w (by omega)⟩
        · rw [bv_or0, hd]
          constructor
          · rintro ⟨q1, q2⟩ i hi
            by_cases z : i = w
            · subst z
              exact q2
            · exact q1 i (by omega)
          · exact fun q => ⟨fun i hi => q i (by omega), q w (by omega)⟩
  refine mj_Ct_of (by decide +kernel) (by decide) (Nat.le_of_ble_eq_true rfl) ?_
  refine mj_go z_C_movesOf [22] 60 ?_
  refine And.intro h0 (And.intro (Nat.le_of_ble_eq_true rfl) (And.intro (Nat.le_of_ble_eq_true rfl) (And.intro (Nat.le_of_ble_eq_true rfl) (Exists.intro _ (And.intro (ct_C_rowOf hC hN h1 h2 h3 hs) ?_)))))
  rintro r9 sh9 FR9 IA9 LA9 n9 ⟨z0, z1, z2, z3, z4, z5⟩
  subst z0
  replace z1 := z1.symm
  subst z1
  replace z2 := z2.symm
  subst z2
  replace z3 := z3.symm
  subst z3
  replace z4 := z4.symm
  subst z4
  replace z5 := z5.symm
  subst z5
  refine And.intro (Or.inl rfl) ?_
  refine And.intro h0 (And.intro (Nat.le_of_ble_eq_true rfl) (And.intro (Nat.le_of_ble_eq_true rfl) (And.intro (Nat.le_of_ble_eq_true rfl) (Exists.intro _ (And.intro (ct_C_flipOf hC h1 (by omega)) ?_)))))
  rintro r9 sh9 FR9 IA9 LA9 n9 ⟨z0, z1, z2, z3, z4, z5⟩
  subst z0
  replace z1 := z1.symm
  subst z1
  replace z2 := z2.symm
  subst z2
  replace z3 := z3.symm
  subst z3
  replace z4 := z4.symm
  subst z4
  replace z5 := z5.symm
  subst z5
  refine And.intro (Or.inl rfl) ?_
  rw [hfl]
  exact loop W 0 0#64 0#64 none none (fun _ => Or.inr trivial) (by omega) ⟨fun _ i hi => by omega, fun _ => rfl⟩ ⟨fun _ i hi => by omega, fun _ => rfl⟩
end CC
