/-! READER -/
theorem mj_up_up {α : Type} {F : Nat → Nat → α} {q k : Nat} {x y : α} : mj_up (mj_up F q k x) q k y = mj_up F q k y := by
  funext a c
  simp only [mj_up]
  by_cases h1 : a = q
  · by_cases h2 : c = k <;> simp [h1, h2]
  · simp [h1]
theorem mj_up_self {α : Type} {F : Nat → Nat → α} {q k : Nat} {x : α} (h : F q k = x) : mj_up F q k x = F := by
  funext a c
  simp only [mj_up]
  by_cases h1 : a = q
  · by_cases h2 : c = k
    · simp [h1, h2, h]
    · simp [h1, h2]
  · simp [h1]
theorem mj_up_k {α : Type} {F : Nat → Nat → α} {q k j : Nat} {x : α} (h : j ≠ k) : mj_up F q k x q j = F q j := by rw [mj_up_eq, if_neg h]
theorem mj_up_at {α : Type} {F : Nat → Nat → α} {q k : Nat} {x : α} : mj_up F q k x q k = x := by rw [mj_up_eq, if_pos rfl]
/-- the reader at the place r: bytes, numbers, starts, the loop finder (with trail and reachedFrom) behind it; the net that it fills at b -/
def isRd (sh : mj_Sh) (FR : mj_FR) (n r b : Nat) : Prop :=
  mj_is sh n r 8 0 ∧ FR r 3 = .inl (r + 1) ∧ FR r 4 = .inl (r + 2) ∧ FR r 5 = .inl (r + 3) ∧ FR r 6 = .inl (r + 4) ∧ FR r 7 = .inl b ∧ mj_is sh n (r + 1) 1 8192 ∧ mj_is sh n (r + 2) 0 5 ∧ mj_is sh n (r + 3) 0 5 ∧
  mj_is sh n (r + 4) 6 0 ∧ FR (r + 4) 0 = .inl (r + 5) ∧ FR (r + 4) 1 = .inl (r + 6) ∧ mj_is sh n (r + 5) 0 300 ∧ mj_is sh n (r + 6) 0 315
/-- the byte at a place of the tape, -1 behind its end -/
def rd_by (IA : mj_FI) (r i : Nat) : Int := if (i : Int) < IA r 0 then IA (r + 1) i % 256 else -1
theorem rd_by_in (IA : mj_FI) (r i : Nat) : -1 ≤ rd_by IA r i ∧ rd_by IA r i < 256 := by
  unfold rd_by
  split <;> omega
section RR
variable {sh : mj_Sh} {FR : mj_FR} {IA : mj_FI} {LA : mj_LA} {n r b : Nat}
theorem ct_R_fail (h : isRd sh FR n r b) {x y : Int} : mj_Ct m_R_fail [.inr (.inr (.inl r)), .inl x, .inl y] sh FR IA LA n (mj_pu (.inl (some (.inl 0))) sh FR (mj_up (mj_up IA r 1 x) r 2 y) LA n) := by
  obtain ⟨h0, r3, r4, r5, r6, r7, a1, a2, a3, a4, s0, s1, a5, a6⟩ := h
  refine mj_Ct_of (by decide +kernel) (by decide) (Nat.le_of_ble_eq_true rfl) ?_
  refine mj_go z_R_fail [] 60 ?_
  refine And.intro h0 ?_
  refine And.intro h0 ?_
  exact ⟨Or.inl rfl, ⟨rfl, rfl, rfl, rfl, rfl, rfl⟩, Nat.le_of_ble_eq_true rfl, Nat.le_of_ble_eq_true rfl⟩
theorem ct_R_byteAt (h : isRd sh FR n r b) {i : Nat} (hi : i ≤ 1000000) (h1 : 0 ≤ IA r 0) (h2 : IA r 0 ≤ 8192) : mj_Ct m_R_byteAt [.inr (.inr (.inl r)), .inl i] sh FR IA LA n (mj_pu (.inl (some (.inl (rd_by IA r i)))) sh FR IA LA n) := by
  obtain ⟨h0, r3, r4, r5, r6, r7, a1, a2, a3, a4, s0, s1, a5, a6⟩ := h
  refine mj_Ct_of (by decide +kernel) (by decide) (Nat.le_of_ble_eq_true rfl) ?_
  refine mj_go z_R_byteAt [] 60 ?_
  refine And.intro h0 ?_
  refine And.intro (fun c => ?_) (fun c => ?_)
  · simp (disch := (clear c; omega)) only [mj_w_id] at c
    rw [show rd_by IA r i = -1 from if_neg (by omega)]
    exact ⟨⟨rfl, rfl, rfl, rfl, rfl, rfl⟩, Nat.le_of_ble_eq_true rfl, Nat.le_of_ble_eq_true rfl⟩
  · simp (disch := (clear c; omega)) only [mj_w_id] at c
    rw [show rd_by IA r i = IA (r + 1) i % 256 from if_pos (by omega)]
    refine And.intro h0 (Exists.intro _ (And.intro r3 ?_))
    refine Exists.intro _ (Exists.intro (i) (And.intro a1 (And.intro (by first | (rw [mj_w_id (by omega) (by omega)]; done) | (rw [mj_w_id (by omega) (by omega)]; omega) | (unfold mj_w; omega)) (And.intro (by omega) ?_))))
    refine Exists.intro (IA (r + 1) i % 256) (And.intro (nu_and255 _) ?_)
    exact ⟨⟨rfl, rfl, rfl, rfl, rfl, rfl⟩, Nat.le_of_ble_eq_true rfl, Nat.le_of_ble_eq_true rfl⟩
theorem ct_R_append (h : isRd sh FR n r b) {x : Int} {t : Nat} (ht : IA r 0 = (t : Int)) (h2 : t < 8192) : mj_Ct m_R_append [.inr (.inr (.inl r)), .inl x] sh FR IA LA n (mj_pu (.inl none) sh FR (mj_up (mj_up IA (r + 1) t (mj_b x)) r 0 ((t + 1 : Nat) : Int)) LA n) := by
  obtain ⟨h0, r3, r4, r5, r6, r7, a1, a2, a3, a4, s0, s1, a5, a6⟩ := h
  refine mj_Ct_of (by decide +kernel) (by decide) (Nat.le_of_ble_eq_true rfl) ?_
  refine mj_go z_R_append [] 60 ?_
  refine And.intro h0 ?_
  rw [ht]
  refine And.intro (fun c => ?_) (fun c => ?_)
  · simp (disch := (clear c; omega)) only [mj_w_id] at c
    omega
  · refine And.intro h0 (Exists.intro _ (And.intro r3 ?_))
    refine And.intro h0 ?_
    rw [ht]
    refine Exists.intro _ (Exists.intro (t) (And.intro a1 (And.intro (by first | (rw [mj_w_id (by omega) (by omega)]; done) | (rw [mj_w_id (by omega) (by omega)]; omega) | (unfold mj_w; omega)) (And.intro (by omega) ?_))))
    refine And.intro rfl ?_
    refine And.intro h0 ?_
    rw [mj_up_ne (show r ≠ r + 1 by omega), ht]
    refine Exists.intro (((t + 1 : Nat) : Int)) (And.intro (by first | (rw [mj_w_id (by omega) (by omega)]; done) | (rw [mj_w_id (by omega) (by omega)]; omega) | (unfold mj_w; omega)) ?_)
    refine And.intro h0 ?_
    exact ⟨⟨rfl, rfl, rfl, rfl, rfl, rfl⟩, Nat.le_of_ble_eq_true rfl, Nat.le_of_ble_eq_true rfl⟩
/-- what takeEnd answers and where it fails: none: the text ends rightly -/
def rd_end (IA : mj_FI) (r p : Nat) : Option Nat := if (p : Int) = IA r 0 then none else if rd_by IA r p = 99 then (if rd_by IA r (p + 1) = 10 then none else some (p + 1)) else some p
theorem ct_R_takeEnd (h : isRd sh FR n r b) {p : Nat} (hp : IA r 8 = (p : Int)) (hp2 : p ≤ 10000) (h1 : 0 ≤ IA r 0) (h2 : IA r 0 ≤ 8192) :
    mj_Ct m_R_takeEnd [.inr (.inr (.inl r))] sh FR IA LA n (mj_pu (.inl (some (.inl (if rd_end IA r p = none then 1 else 0)))) sh FR (match rd_end IA r p with
      | none => IA
      | some q => mj_up (mj_up IA r 1 5) r 2 q) LA n) := by
  have hR := h
  obtain ⟨h0, r3, r4, r5, r6, r7, a1, a2, a3, a4, s0, s1, a5, a6⟩ := h
  have g1 := rd_by_in IA r p
  have g2 := rd_by_in IA r (p + 1)
  refine mj_Ct_of (by decide +kernel) (by decide) (Nat.le_of_ble_eq_true rfl) ?_
  refine mj_go z_R_takeEnd [] 60 ?_
  refine And.intro h0 ?_
  refine And.intro h0 ?_
  rw [hp]
  refine And.intro (fun c => ?_) (fun c => ?_)
  · have e : rd_end IA r p = if rd_by IA r p = 99 then (if rd_by IA r (p + 1) = 10 then none else some (p + 1)) else some p := if_neg (fun z => c (by rw [z]))
    refine And.intro h0 ?_
    rw [hp]
    refine And.intro h0 (And.intro (Nat.le_of_ble_eq_true rfl) (And.intro (Nat.le_of_ble_eq_true rfl) (And.intro (Nat.le_of_ble_eq_true rfl) (Exists.intro _ (And.intro (ct_R_byteAt hR (by omega) h1 h2) ?_)))))
    rintro r9 sh9 FR9 IA9 LA9 n9 ⟨z0, z1, z2, z3, z4, z5⟩
    subst z0
    replace z1 := z1.symm
    subst z1
    replace z2 := z2.symm
    subst z2
    replace z3 := z3.symm
    subst z3
    replace z4 := z4.symm
    subst z4
    replace z5 := z5.symm
    subst z5
    refine And.intro (Or.inl rfl) ?_
    refine And.intro (fun d => ?_) (fun d => ?_)
    · simp (disch := (clear d; omega)) only [mj_w_id] at d
      rw [if_pos d] at e
      refine And.intro h0 ?_
      rw [hp]
      refine Exists.intro (((p + 1 : Nat) : Int)) (And.intro (by first | (rw [mj_w_id (by omega) (by omega)]; done) | (rw [mj_w_id (by omega) (by omega)]; omega) | (unfold mj_w; omega)) ?_)
      refine And.intro h0 (And.intro (Nat.le_of_ble_eq_true rfl) (And.intro (Nat.le_of_ble_eq_true rfl) (And.intro (Nat.le_of_ble_eq_true rfl) (Exists.intro _ (And.intro (ct_R_byteAt hR (by omega) h1 h2) ?_)))))
      rintro r9 sh9 FR9 IA9 LA9 n9 ⟨z0, z1, z2, z3, z4, z5⟩
      subst z0
      replace z1 := z1.symm
      subst z1
      replace z2 := z2.symm
      subst z2
      replace z3 := z3.symm
      subst z3
      replace z4 := z4.symm
      subst z4
      replace z5 := z5.symm
      subst z5
      refine And.intro (Or.inl rfl) ?_
      refine And.intro (fun f => ?_) (fun f => ?_)
      · simp (disch := (clear f; omega)) only [mj_w_id] at f
        rw [if_pos f] at e
        rw [e]
        exact ⟨Or.inr rfl, ⟨rfl, rfl, rfl, rfl, rfl, rfl⟩, Nat.le_of_ble_eq_true rfl, Nat.le_of_ble_eq_true rfl⟩
      · simp (disch := (clear f; omega)) only [mj_w_id] at f
        rw [if_neg f] at e
        rw [e]
        refine And.intro h0 ?_
        rw [hp]
        refine Exists.intro (((p + 1 : Nat) : Int)) (And.intro (by first | (rw [mj_w_id (by omega) (by omega)]; done) | (rw [mj_w_id (by omega) (by omega)]; omega) | (unfold mj_w; omega)) ?_)
        refine And.intro h0 (And.intro (Nat.le_of_ble_eq_true rfl) (And.intro (Nat.le_of_ble_eq_true rfl) (And.intro (Nat.le_of_ble_eq_true rfl) (Exists.intro _ (And.intro (ct_R_fail hR) ?_)))))
        rintro r9 sh9 FR9 IA9 LA9 n9 ⟨z0, z1, z2, z3, z4, z5⟩
        subst z0
        replace z1 := z1.symm
        subst z1
        replace z2 := z2.symm
        subst z2
        replace z3 := z3.symm
        subst z3
        replace z4 := z4.symm
        subst z4
        replace z5 := z5.symm
        subst z5
        refine And.intro (Or.inl rfl) ?_
        refine And.intro (fun g => ?_) (fun g => ?_)
        · exact ⟨Or.inl rfl, ⟨rfl, rfl, rfl, rfl, rfl, rfl⟩, Nat.le_of_ble_eq_true rfl, Nat.le_of_ble_eq_true rfl⟩
        · exact absurd (by decide) g
    · simp (disch := (clear d; omega)) only [mj_w_id] at d
      rw [if_neg d] at e
      rw [e]
      refine And.intro h0 ?_
      rw [hp]
      refine And.intro h0 (And.intro (Nat.le_of_ble_eq_true rfl) (And.intro (Nat.le_of_ble_eq_true rfl) (And.intro (Nat.le_of_ble_eq_true rfl) (Exists.intro _ (And.intro (ct_R_fail hR) ?_)))))
      rintro r9 sh9 FR9 IA9 LA9 n9 ⟨z0, z1, z2, z3, z4, z5⟩
      subst z0
      replace z1 := z1.symm
      subst z1
      replace z2 := z2.symm
      subst z2
      replace z3 := z3.symm
      subst z3
      replace z4 := z4.symm
      subst z4
      replace z5 := z5.symm
      subst z5
      refine And.intro (Or.inl rfl) ?_
      exact ⟨Or.inl rfl, ⟨rfl, rfl, rfl, rfl, rfl, rfl⟩, Nat.le_of_ble_eq_true rfl, Nat.le_of_ble_eq_true rfl⟩
  · have hc : (p : Int) = IA r 0 := by
      have c := Classical.not_not.mp c
      simp (disch := (clear c; omega)) only [mj_w_id] at c
      exact c
    rw [show rd_end IA r p = none from if_pos hc]
    exact ⟨Or.inr rfl, ⟨rfl, rfl, rfl, rfl, rfl, rfl⟩, Nat.le_of_ble_eq_true rfl, Nat.le_of_ble_eq_true rfl⟩
end RR
