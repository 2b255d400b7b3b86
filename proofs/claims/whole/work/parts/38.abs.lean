/-! THE ABSTRACT PARSER: what a text says, as functions of its bytes alone -/
def mj_u (f : Nat → Int) (k : Nat) (x : Int) : Nat → Int := fun j => if j = k then x else f j
theorem mj_u_at {f : Nat → Int} {k : Nat} {x : Int} : mj_u f k x k = x := by simp [mj_u]
theorem mj_u_ne {f : Nat → Int} {k j : Nat} {x : Int} (h : j ≠ k) : mj_u f k x j = f j := by simp [mj_u, h]
theorem mj_up_row {F : Nat → Nat → Int} {q k : Nat} {x : Int} : mj_up F q k x q = mj_u (F q) k x := by
  funext j
  simp [mj_up, mj_u]
/-- what follows the number i of a line of cnt -/
def ab_fo (cnt i : Nat) : Int := if i + 1 = cnt then 10 else 32
/-- numbers i .. of a line of cnt, t of them left, from p on: ok, the place behind (or of the fault), the numbers, where they begin -/
def ab_ln (by0 : Nat → Int) (cnt : Nat) : Nat → Nat → Nat → (Nat → Int) → (Nat → Int) → Bool × Nat × (Nat → Int) × (Nat → Int)
  | 0, _, p, nu, st => (true, p, nu, st)
  | t + 1, i, p, nu, st => if ¬ (rd_num by0 9 0 0 p).1 = 0 ∧ by0 (rd_num by0 9 0 0 p).2.2 = ab_fo cnt i
      then ab_ln by0 cnt t (i + 1) ((rd_num by0 9 0 0 p).2.2 + 1) (mj_u nu i (rd_num by0 9 0 0 p).2.1) (mj_u st i p)
      else (false, (rd_num by0 9 0 0 p).2.2, mj_u nu i (rd_num by0 9 0 0 p).2.1, mj_u st i p)
def ab_L (by0 : Nat → Int) (cnt p : Nat) : Bool × Nat × (Nat → Int) × (Nat → Int) := ab_ln by0 cnt cnt 0 p (fun _ => 0) (fun _ => 0)
theorem ab_ln_base (by0 : Nat → Int) (cnt : Nat) : ∀ (t i p : Nat) (nu st nu' st' : Nat → Int), (ab_ln by0 cnt t i p nu st).1 = (ab_ln by0 cnt t i p nu' st').1 ∧ (ab_ln by0 cnt t i p nu st).2.1 = (ab_ln by0 cnt t i p nu' st').2.1 ∧
    ∀ j, ((i ≤ j ∧ j < i + t ∧ (ab_ln by0 cnt t i p nu st).1 = true) ∨ (nu j = nu' j ∧ st j = st' j)) → (ab_ln by0 cnt t i p nu st).2.2.1 j = (ab_ln by0 cnt t i p nu' st').2.2.1 j ∧ (ab_ln by0 cnt t i p nu st).2.2.2 j = (ab_ln by0 cnt t i p nu' st').2.2.2 j
  | 0, i, p, nu, st, nu', st' => ⟨rfl, rfl, fun j hj => by
    rcases hj with hj | hj
    · omega
    · exact hj⟩
  | t + 1, i, p, nu, st, nu', st' => by
    simp only [ab_ln]
    split
    · have ih := ab_ln_base by0 cnt t (i + 1) ((rd_num by0 9 0 0 p).2.2 + 1) (mj_u nu i (rd_num by0 9 0 0 p).2.1) (mj_u st i p) (mj_u nu' i (rd_num by0 9 0 0 p).2.1) (mj_u st' i p)
      refine ⟨ih.1, ih.2.1, fun j hj => ih.2.2 j ?_⟩
      by_cases e : j = i
      · subst e
        exact Or.inr ⟨by rw [mj_u_at, mj_u_at], by rw [mj_u_at, mj_u_at]⟩
      · rcases hj with ⟨h1, h2, h3⟩ | hj
        · exact Or.inl ⟨by omega, by omega, h3⟩
        · exact Or.inr ⟨by rw [mj_u_ne e, mj_u_ne e]; exact hj.1, by rw [mj_u_ne e, mj_u_ne e]; exact hj.2⟩
    · refine ⟨rfl, rfl, fun j hj => ?_⟩
      rcases hj with ⟨_, _, h3⟩ | hj
      · cases h3
      · show mj_u nu i _ j = mj_u nu' i _ j ∧ mj_u st i _ j = mj_u st' i _ j
        by_cases e : j = i
        · subst e
          exact ⟨by rw [mj_u_at, mj_u_at], by rw [mj_u_at, mj_u_at]⟩
        · exact ⟨by rw [mj_u_ne e, mj_u_ne e]; exact hj.1, by rw [mj_u_ne e, mj_u_ne e]; exact hj.2⟩
/-- the bytes end at len -/
def ab_en (by0 : Nat → Int) (len : Nat) : Prop := ∀ i, len ≤ i → by0 i = -1
theorem rd_num_e {by0 : Nat → Int} {len : Nat} (h : ab_en by0 len) : ∀ (t d : Nat) (v : Int) (p : Nat), p ≤ len → (rd_num by0 t d v p).2.2 ≤ len
  | 0, d, v, p, hp => hp
  | t + 1, d, v, p, hp => by
    simp only [rd_num]
    split
    · rename_i hc
      refine rd_num_e h t _ _ _ ?_
      by_cases e : len ≤ p
      · have := h p e
        omega
      · omega
    · exact hp
theorem rd_num_ge (by0 : Nat → Int) : ∀ (t d : Nat) (v : Int) (p : Nat), p ≤ (rd_num by0 t d v p).2.2
  | 0, d, v, p => Nat.le_refl _
  | t + 1, d, v, p => by
    simp only [rd_num]
    split
    · have := rd_num_ge by0 t (d + 1) (10 * v + by0 p - 48) (p + 1)
      omega
    · exact Nat.le_refl _
theorem ab_ln_e {by0 : Nat → Int} {len cnt : Nat} (h : ab_en by0 len) : ∀ (t i p : Nat) (nu st : Nat → Int), p ≤ len → (ab_ln by0 cnt t i p nu st).2.1 ≤ len
  | 0, i, p, nu, st, hp => hp
  | t + 1, i, p, nu, st, hp => by
    simp only [ab_ln]
    have h1 := rd_num_e h 9 0 0 p hp
    split
    · rename_i hc
      refine ab_ln_e h t _ _ _ _ ?_
      by_cases e : len ≤ (rd_num by0 9 0 0 p).2.2
      · have h2 := h _ e
        have h3 := hc.2
        rw [h2] at h3
        unfold ab_fo at h3
        split at h3 <;> omega
      · omega
    · exact h1
/-- the numbers that were read are in their range -/
theorem ab_ln_n {by0 : Nat → Int} {cnt : Nat} : ∀ (t i p : Nat) (nu st : Nat → Int) (j : Nat), ((i ≤ j ∧ j < i + t) ∨ (0 ≤ nu j ∧ nu j < 1000000000)) → (ab_ln by0 cnt t i p nu st).1 = true → 0 ≤ (ab_ln by0 cnt t i p nu st).2.2.1 j ∧ (ab_ln by0 cnt t i p nu st).2.2.1 j < 1000000000
  | 0, i, p, nu, st, j, hj, _ => by
    rcases hj with hj | hj
    · omega
    · exact hj
  | t + 1, i, p, nu, st, j, hj, ok => by
    simp only [ab_ln] at ok ⊢
    split at ok
    · rename_i hc
      rw [if_pos hc]
      refine ab_ln_n t (i + 1) _ _ _ j ?_ ok
      by_cases e : j = i
      · refine Or.inr ?_
        rw [e, mj_u_at]
        exact rd_num_v by0 9 0 0 p (by decide) (by decide)
      · rcases hj with hj | hj
        · exact Or.inl ⟨by omega, by omega⟩
        · refine Or.inr ?_
          rw [mj_u_ne e]
          exact hj
    · cases ok
theorem ab_L_n {by0 : Nat → Int} {cnt p j : Nat} (ok : (ab_L by0 cnt p).1 = true) : 0 ≤ (ab_L by0 cnt p).2.2.1 j ∧ (ab_L by0 cnt p).2.2.1 j < 1000000000 := ab_ln_n _ _ _ _ _ j (Or.inr ⟨by decide, by decide⟩) ok
theorem ab_L_e {by0 : Nat → Int} {len cnt p : Nat} (h : ab_en by0 len) (hp : p ≤ len) : (ab_L by0 cnt p).2.1 ≤ len := ab_ln_e h _ _ _ _ _ hp
/-- rd_by does not see what a line changes -/
theorem rd_by_eq {J J' : mj_FI} {r : Nat} (h0 : J' r 0 = J r 0) (h1 : J' (r + 1) = J (r + 1)) : rd_by J' r = rd_by J r := by
  funext i
  unfold rd_by
  rw [h0, h1]
theorem rd_by_en {J : mj_FI} {r len : Nat} (h : J r 0 = (len : Int)) : ab_en (rd_by J r) len := by
  intro i hi
  unfold rd_by
  rw [h, if_neg (by omega)]
/-- what rd_ln leaves, by the abstract line -/
theorem rd_ln_ab {r : Nat} {code : Int} {cnt : Nat} : ∀ (t i : Nat) (J : mj_FI) (p : Nat), J r 8 = (p : Int) →
    (rd_ln r code cnt t i J).1 = (ab_ln (rd_by J r) cnt t i p (J (r + 2)) (J (r + 3))).1 ∧
    (rd_ln r code cnt t i J).2 (r + 2) = (ab_ln (rd_by J r) cnt t i p (J (r + 2)) (J (r + 3))).2.2.1 ∧
    (rd_ln r code cnt t i J).2 (r + 3) = (ab_ln (rd_by J r) cnt t i p (J (r + 2)) (J (r + 3))).2.2.2 ∧
    (rd_ln r code cnt t i J).2 r 8 = ((ab_ln (rd_by J r) cnt t i p (J (r + 2)) (J (r + 3))).2.1 : Int) ∧
    ((rd_ln r code cnt t i J).1 = false → (rd_ln r code cnt t i J).2 r 1 = code ∧ (rd_ln r code cnt t i J).2 r 2 = ((ab_ln (rd_by J r) cnt t i p (J (r + 2)) (J (r + 3))).2.1 : Int)) ∧
    ((rd_ln r code cnt t i J).1 = true → (rd_ln r code cnt t i J).2 r 1 = J r 1 ∧ (rd_ln r code cnt t i J).2 r 2 = J r 2)
  | 0, i, J, p, hp => ⟨rfl, rfl, rfl, hp, (fun h => by cases h), fun _ => ⟨rfl, rfl⟩⟩
  | t + 1, i, J, p, hp => by
    have hpp : (J r 8).toNat = p := by rw [hp]; rfl
    have e3 : rd_t3 J r p = rd_num (rd_by J r) 9 0 0 p := rfl
    simp only [rd_ln, ab_ln, hpp, e3]
    rw [show (if i + 1 = cnt then (10 : Int) else 32) = ab_fo cnt i from rfl]
    by_cases hc : ¬ (rd_num (rd_by J r) 9 0 0 p).1 = 0 ∧ rd_by J r (rd_num (rd_by J r) 9 0 0 p).2.2 = ab_fo cnt i
    · rw [if_pos hc, if_pos hc]
      have h8 := rd_tN_8 (idx := i) (code := code) (pos := p) (IA := J) (r := r) hc
      rw [e3] at h8
      have ih := rd_ln_ab (r := r) (code := code) (cnt := cnt) t (i + 1) (rd_tN J r i (ab_fo cnt i) code p) ((rd_num (rd_by J r) 9 0 0 p).2.2 + 1) h8
      have hb : rd_by (rd_tN J r i (ab_fo cnt i) code p) r = rd_by J r := rd_by_eq (rd_tN_k (by decide) (by decide) (by decide)) (rd_tN_o (by omega) (by omega) (by omega))
      have hn : rd_tN J r i (ab_fo cnt i) code p (r + 2) = mj_u (J (r + 2)) i (rd_num (rd_by J r) 9 0 0 p).2.1 := by
        funext j
        rw [rd_tN_num]
        rfl
      have hs : rd_tN J r i (ab_fo cnt i) code p (r + 3) = mj_u (J (r + 3)) i p := by
        unfold rd_tN rd_tJ
        split
        · rw [mj_up_ne (by omega), mj_up_ne (by omega), mj_up_ne (by omega), mj_up_row]
        · rw [mj_up_ne (by omega), mj_up_ne (by omega), mj_up_ne (by omega), mj_up_ne (by omega), mj_up_row]
      have h1 : rd_tN J r i (ab_fo cnt i) code p r 1 = J r 1 := by
        unfold rd_tN rd_tJ
        rw [e3, if_pos hc, mj_up_k (by decide), mj_up_ne (by omega), mj_up_k (by decide), mj_up_ne (by omega)]
      have h2 : rd_tN J r i (ab_fo cnt i) code p r 2 = J r 2 := by
        unfold rd_tN rd_tJ
        rw [e3, if_pos hc, mj_up_k (by decide), mj_up_ne (by omega), mj_up_k (by decide), mj_up_ne (by omega)]
      rw [hb, hn, hs, h1, h2] at ih
      exact ih
    · rw [if_neg hc, if_neg hc]
      have q8 : rd_tN J r i (ab_fo cnt i) code p r 8 = ((rd_num (rd_by J r) 9 0 0 p).2.2 : Int) := by
        unfold rd_tN rd_tJ
        rw [e3, if_neg hc, mj_up_k (by decide), mj_up_k (by decide), mj_up_ne (by omega), mj_up_at]
      have q1 : rd_tN J r i (ab_fo cnt i) code p r 1 = code := by
        unfold rd_tN rd_tJ
        rw [e3, if_neg hc, mj_up_k (by decide), mj_up_at]
      have q2 : rd_tN J r i (ab_fo cnt i) code p r 2 = ((rd_num (rd_by J r) 9 0 0 p).2.2 : Int) := by
        unfold rd_tN rd_tJ
        rw [e3, if_neg hc, mj_up_at]
      have hn : rd_tN J r i (ab_fo cnt i) code p (r + 2) = mj_u (J (r + 2)) i (rd_num (rd_by J r) 9 0 0 p).2.1 := by
        funext j
        rw [rd_tN_num]
        rfl
      have hs : rd_tN J r i (ab_fo cnt i) code p (r + 3) = mj_u (J (r + 3)) i p := by
        unfold rd_tN rd_tJ
        split
        · rw [mj_up_ne (by omega), mj_up_ne (by omega), mj_up_ne (by omega), mj_up_row]
        · rw [mj_up_ne (by omega), mj_up_ne (by omega), mj_up_ne (by omega), mj_up_ne (by omega), mj_up_row]
      exact ⟨rfl, hn, hs, q8, fun _ => ⟨q1, q2⟩, (fun h => by cases h)⟩
/-- the state behind a line of cnt that begins at p -/
def ab_lp (J J' : mj_FI) (r : Nat) (code : Int) (cnt p : Nat) (ok : Bool) : Prop :=
  ok = (ab_L (rd_by J r) cnt p).1 ∧ (∀ q, q ≠ r → q ≠ r + 2 → q ≠ r + 3 → J' q = J q) ∧ (∀ k, k ≠ 1 → k ≠ 2 → k ≠ 8 → J' r k = J r k) ∧
  (ok = true → (∀ j, j < cnt → J' (r + 2) j = (ab_L (rd_by J r) cnt p).2.2.1 j ∧ J' (r + 3) j = (ab_L (rd_by J r) cnt p).2.2.2 j) ∧ J' r 8 = ((ab_L (rd_by J r) cnt p).2.1 : Int) ∧ J' r 1 = J r 1 ∧ J' r 2 = J r 2) ∧
  (ok = false → J' r 1 = code ∧ J' r 2 = ((ab_L (rd_by J r) cnt p).2.1 : Int))
theorem rd_ln_lp {r : Nat} {code : Int} {cnt p : Nat} {J : mj_FI} (hp : J r 8 = (p : Int)) : ab_lp J (rd_ln r code cnt cnt 0 J).2 r code cnt p (rd_ln r code cnt cnt 0 J).1 := by
  obtain ⟨e1, e2, e3, e4, e5, e6⟩ := rd_ln_ab (r := r) (code := code) (cnt := cnt) cnt 0 J p hp
  have hb := ab_ln_base (rd_by J r) cnt cnt 0 p (J (r + 2)) (J (r + 3)) (fun _ => 0) (fun _ => 0)
  refine ⟨e1.trans hb.1, fun q h1 h2 h3 => rd_ln_o h1 h2 h3 _ _ _, fun k h1 h2 h3 => rd_ln_k h1 h2 h3 _ _ _, fun ok => ⟨fun j hj => ?_, ?_, e6 ok⟩, fun ok => ⟨(e5 ok).1, ?_⟩⟩
  · rw [e2, e3]
    exact hb.2.2 j (Or.inl ⟨Nat.zero_le _, by omega, e1.symm.trans ok⟩)
  · rw [e4, hb.2.1]
    rfl
  · rw [(e5 ok).2, hb.2.1]
    rfl
/-- is the literal free: even, below the end, its variable stands for nothing -/
abbrev ab_fr (m : Int) (so : Nat → Int) (v : Int) : Prop := v ≤ 2 * m + 1 ∧ v % 2 = 0 ∧ so (v / 2).toNat = -1
/-- the inputs from slot s on, t of them left -/
def ab_in (by0 : Nat → Int) (m : Int) (bin : Bool) : Nat → Nat → Nat → (Nat → Int) → (Nat → Int) → (Int × Int) ⊕ (Nat × (Nat → Int) × (Nat → Int))
  | 0, _, p, so, ow => .inr (p, so, ow)
  | t + 1, s, p, so, ow => if bin = true then ab_in by0 m bin t (s + 1) p (mj_u so s s) (mj_u ow s (2 * s)) else
      if (ab_L by0 1 p).1 = true then (if ab_fr m so ((ab_L by0 1 p).2.2.1 0)
        then ab_in by0 m bin t (s + 1) (ab_L by0 1 p).2.1 (mj_u so ((ab_L by0 1 p).2.2.1 0 / 2).toNat s) (mj_u ow s ((ab_L by0 1 p).2.2.1 0)) else .inl (6, p)) else .inl (5, (ab_L by0 1 p).2.1)
/-- the outputs from k on, t of them left -/
def ab_ou (by0 : Nat → Int) (m : Int) : Nat → Nat → Nat → (Nat → Int) → (Int × Int) ⊕ (Nat × (Nat → Int))
  | 0, _, p, ou => .inr (p, ou)
  | t + 1, k, p, ou => if (ab_L by0 1 p).1 = true then (if (ab_L by0 1 p).2.2.1 0 ≤ 2 * m + 1 then ab_ou by0 m t (k + 1) (ab_L by0 1 p).2.1 (mj_u ou k ((ab_L by0 1 p).2.2.1 0)) else .inl (6, p)) else .inl (5, (ab_L by0 1 p).2.1)
abbrev ab_T : Type := Nat × (Nat → Int) × (Nat → Int) × (Nat → Int) × (Nat → Int)
/-- a gate's line -/
def ab_lg (by0 : Nat → Int) (m : Int) (s p : Nat) (so ow le ri : Nat → Int) : (Int × Int) ⊕ ab_T :=
  if (ab_L by0 3 p).1 = true then
    if ab_fr m so ((ab_L by0 3 p).2.2.1 0) then
      if (ab_L by0 3 p).2.2.1 1 ≤ 2 * m + 1 then
        if (ab_L by0 3 p).2.2.1 2 ≤ 2 * m + 1 then .inr ((ab_L by0 3 p).2.1, mj_u so ((ab_L by0 3 p).2.2.1 0 / 2).toNat s, mj_u ow s ((ab_L by0 3 p).2.2.1 0), mj_u le s ((ab_L by0 3 p).2.2.1 1), mj_u ri s ((ab_L by0 3 p).2.2.1 2))
        else .inl (6, (ab_L by0 3 p).2.2.2 2)
      else .inl (6, (ab_L by0 3 p).2.2.2 1)
    else .inl (6, p)
  else .inl (5, (ab_L by0 3 p).2.1)
/-- a step: the place of the fault, or its number and the place behind it -/
def ab_stp (by0 : Nat → Int) (p : Nat) : Nat ⊕ (Int × Nat) := if by0 p = -1 then .inl p else if by0 p < 128 then .inr (by0 p, p + 1) else if 1 ≤ by0 (p + 1) ∧ by0 (p + 1) ≤ 127 then .inr (by0 p - 128 + 128 * by0 (p + 1), p + 2) else .inl (p + 1)
/-- a gate's two steps -/
def ab_sg (by0 : Nat → Int) (s p : Nat) (so ow le ri : Nat → Int) : (Int × Int) ⊕ ab_T := match ab_stp by0 p with
  | .inl q => .inl (5, q)
  | .inr x => if x.1 = 0 ∨ 2 * (s : Int) < x.1 then .inl (6, p) else match ab_stp by0 x.2 with
    | .inl q => .inl (5, q)
    | .inr y => if 2 * (s : Int) - x.1 < y.1 then .inl (6, x.2) else .inr (y.2, mj_u so s s, mj_u ow s (2 * s), mj_u le s (2 * s - x.1), mj_u ri s (2 * s - x.1 - y.1))
/-- the gates from slot s on, t of them left -/
def ab_gs (by0 : Nat → Int) (m : Int) (bin : Bool) : Nat → Nat → Nat → (Nat → Int) → (Nat → Int) → (Nat → Int) → (Nat → Int) → (Int × Int) ⊕ ab_T
  | 0, _, p, so, ow, le, ri => .inr (p, so, ow, le, ri)
  | t + 1, s, p, so, ow, le, ri => match (if bin = true then ab_sg by0 s p so ow le ri else ab_lg by0 m s p so ow le ri) with
    | .inl e => .inl e
    | .inr x => ab_gs by0 m bin t (s + 1) x.1 x.2.1 x.2.2.1 x.2.2.2.1 x.2.2.2.2
