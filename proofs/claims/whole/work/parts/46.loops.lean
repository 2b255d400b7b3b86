/-! LOOP FINDER: reach, reachFanins -/
def isLf (sh : mj_Sh) (FR : mj_FR) (n f : Nat) : Prop := mj_is sh n f 6 0 ∧ FR f 0 = .inl (f + 1) ∧ FR f 1 = .inl (f + 2) ∧ mj_is sh n (f + 1) 0 300 ∧ mj_is sh n (f + 2) 0 315
theorem isRd.lf {sh : mj_Sh} {FR : mj_FR} {n r b : Nat} (h : isRd sh FR n r b) : isLf sh FR n (r + 4) := by
  obtain ⟨h0, r3, r4, r5, r6, r7, a1, a2, a3, a4, s0, s1, a5, a6⟩ := h
  exact ⟨a4, s0, s1, a5, a6⟩
def lf_ap (f b : Nat) : Prop := b + 8 < f ∨ f + 2 < b
theorem nd_len : ∀ (G : Nat) (l : List Nat) (a : Nat), l.Nodup → (∀ x ∈ l, a ≤ x ∧ x < a + G) → l.length ≤ G
  | 0, l, a, _, h => by
    cases l with
    | nil => exact Nat.le_refl _
    | cons x r =>
      have := h x List.mem_cons_self
      omega
  | G + 1, l, a, hn, h => by
    have ih := nd_len G (l.erase (a + G)) a (hn.erase _) (fun x hx => by
      have h1 := (List.Nodup.mem_erase_iff hn).mp hx
      have h2 := h x h1.2
      have h3 := h1.1
      omega)
    rw [List.length_erase] at ih
    split at ih <;> omega
/-- a slot is added to the trail once, if it waits -/
def lf_add (un : Nat → Int) (tr : List Nat) (x : Nat) : List Nat := if un x = 1000000 ∧ ¬ x ∈ tr then tr ++ [x] else tr
/-- the finder's state when it has reached the trail tr from start -/
def lf_I (IA J : mj_FI) (f b : Nat) (start : Nat) (tr : List Nat) : Prop := (∀ q, q ≠ f → q ≠ f + 1 → q ≠ f + 2 → J q = IA q) ∧ J f 2 = (tr.length : Int) ∧ mj_rl (J (f + 1)) tr ∧ (∀ u, u < 315 → (J (f + 2) u = (start : Int) ↔ u ∈ tr)) ∧
  (∀ u, J (f + 2) u = (start : Int) ∨ J (f + 2) u = IA (f + 2) u) ∧ tr.Nodup ∧ (∀ u ∈ tr, u < 315 ∧ IA (b + 6) u = 1000000)
theorem lf_len {IA J : mj_FI} {f b start I G : Nat} {tr : List Nat} (h : lf_I IA J f b start tr) (hG : ∀ u, u < 315 → IA (b + 6) u = 1000000 → I + 1 ≤ u ∧ u < I + 1 + G) : tr.length ≤ G :=
  nd_len G tr (I + 1) h.2.2.2.2.2.1 (fun x hx => hG x (h.2.2.2.2.2.2 x hx).1 (h.2.2.2.2.2.2 x hx).2)
section FF
variable {sh : mj_Sh} {FR : mj_FR} {IA : mj_FI} {LA : mj_LA} {n f b : Nat}
set_option maxHeartbeats 1000000 in
theorem ct_F_reach (hF : isLf sh FR n f) (hN : isNet sh FR n b) (hap : lf_ap f b) {start x I G : Nat} {J : mj_FI} {tr : List Nat} (hx : x < 315) (hst : start < 315) (hG2 : G ≤ 300) (hG : ∀ u, u < 315 → IA (b + 6) u = 1000000 → I + 1 ≤ u ∧ u < I + 1 + G) (hd : 0 ≤ IA (b + 6) x ∧ IA (b + 6) x ≤ 1000000) (hr : 0 ≤ IA (f + 2) x ∧ IA (f + 2) x ≤ 1000) (hI : lf_I IA J f b start tr) :
    mj_Ct m_F_reach [.inr (.inr (.inl f)), .inr (.inr (.inl b)), .inl start, .inl x] sh FR J LA n (mj_po (fun o J' => o = .inl none ∧ lf_I IA J' f b start (lf_add (IA (b + 6)) tr x)) sh FR LA n) := by
  have hl := lf_len hI hG
  have hl2 : IA (b + 6) x = 1000000 → ¬ x ∈ tr → tr.length < 300 := by
    intro h1 h2
    have := nd_len G (x :: tr) (I + 1) (List.nodup_cons.mpr ⟨h2, hI.2.2.2.2.2.1⟩) (fun y hy => by
      rcases List.mem_cons.mp hy with e | e
      · subst e
        exact hG y hx h1
      · exact hG y (hI.2.2.2.2.2.2 y e).1 (hI.2.2.2.2.2.2 y e).2)
    rw [List.length_cons] at this
    omega
  obtain ⟨h0, f0, f1, a1, a2⟩ := hF
  have hI' := hI
  obtain ⟨i1, i2, i3, i4, i5, i6, i7⟩ := hI
  have hb6 : J (b + 6) = IA (b + 6) := i1 _ (by unfold lf_ap at hap; omega) (by unfold lf_ap at hap; omega) (by unfold lf_ap at hap; omega)
  have hrx : 0 ≤ J (f + 2) x ∧ J (f + 2) x ≤ 1000 := by
    rcases i5 x with e | e <;> omega
  have no : ¬ (IA (b + 6) x = 1000000 ∧ ¬ x ∈ tr) → mj_G m_F_reach (mj_po (fun o J' => o = .inl none ∧ lf_I IA J' f b start (lf_add (IA (b + 6)) tr x)) sh FR LA n) 58 [some (.inr (.inr (.inl f))), some (.inr (.inr (.inl b))), some (.inl start), some (.inl x)] [] sh FR J LA n 0 0 := by
    intro hc
    unfold lf_add
    rw [if_neg hc]
    refine mj_go z_F_reach [] 60 ?_
    exact ⟨⟨rfl, rfl, rfl, rfl, rfl, hI'⟩, Nat.le_of_ble_eq_true rfl, Nat.le_of_ble_eq_true rfl⟩
  refine mj_Ct_of (by decide +kernel) (by decide) (Nat.le_of_ble_eq_true rfl) ?_
  refine mj_go z_F_reach [58] 60 ?_
  refine And.intro hN.1 (Exists.intro _ (And.intro hN.2.2.2.2.2.2.1 ?_))
  refine Exists.intro _ (Exists.intro (x) (And.intro hN.2.2.2.2.2.2.2.2.2.2.2.2.2.2.1 (And.intro (by first | (rw [mj_w_id (by omega) (by omega)]; done) | (rw [mj_w_id (by omega) (by omega)]; omega) | (unfold mj_w; omega)) (And.intro (by omega) ?_))))
  rw [hb6]
  refine And.intro (fun c => ?_) (fun c => ?_)
  · simp (disch := (clear c; omega)) only [mj_w_id] at c
    exact no (fun z => c z.1)
  · have c := Classical.not_not.mp c
    simp (disch := (clear c; omega)) only [mj_w_id] at c
    refine And.intro h0 (Exists.intro _ (And.intro f1 ?_))
    refine Exists.intro _ (Exists.intro (x) (And.intro a2 (And.intro (by first | (rw [mj_w_id (by omega) (by omega)]; done) | (rw [mj_w_id (by omega) (by omega)]; omega) | (unfold mj_w; omega)) (And.intro (by omega) ?_))))
    refine And.intro (fun d => ?_) (fun d => ?_)
    · simp (disch := (clear d; omega)) only [mj_w_id] at d
      exact no (fun z => z.2 ((i4 x hx).mp d))
    · simp (disch := (clear d; omega)) only [mj_w_id] at d
      have hnx : ¬ x ∈ tr := fun z => d ((i4 x hx).mpr z)
      have hl3 := hl2 c hnx
      refine And.intro h0 ?_
      rw [i2]
      refine And.intro (fun e => ?_) (fun e => ?_)
      · simp (disch := (clear e; omega)) only [mj_w_id] at e
        omega
      · refine And.intro h0 (Exists.intro _ (And.intro f1 ?_))
        refine Exists.intro _ (Exists.intro (x) (And.intro a2 (And.intro (by first | (rw [mj_w_id (by omega) (by omega)]; done) | (rw [mj_w_id (by omega) (by omega)]; omega) | (unfold mj_w; omega)) (And.intro (by omega) ?_))))
        refine And.intro h0 (Exists.intro _ (And.intro f0 ?_))
        refine And.intro h0 ?_
        rw [mj_up_ne (by omega), i2]
        refine Exists.intro _ (Exists.intro (tr.length) (And.intro a1 (And.intro (by first | (rw [mj_w_id (by omega) (by omega)]; done) | (rw [mj_w_id (by omega) (by omega)]; omega) | (unfold mj_w; omega)) (And.intro (by omega) ?_))))
        refine And.intro rfl ?_
        refine And.intro h0 ?_
        rw [mj_up_ne (by omega), mj_up_ne (by omega), i2]
        refine Exists.intro (((tr.length + 1 : Nat) : Int)) (And.intro (by first | (rw [mj_w_id (by omega) (by omega)]; done) | (rw [mj_w_id (by omega) (by omega)]; omega) | (unfold mj_w; omega)) ?_)
        refine And.intro h0 ?_
        have ha : lf_add (IA (b + 6)) tr x = tr ++ [x] := if_pos ⟨c, hnx⟩
        rw [ha]
        refine mj_go z_F_reach [] 60 ?_
        refine ⟨⟨rfl, rfl, rfl, rfl, rfl, ?_, ?_, ?_, ?_, ?_, ?_, ?_⟩, Nat.le_of_ble_eq_true rfl, Nat.le_of_ble_eq_true rfl⟩
        · intro q h1 h2 h3
          rw [mj_up_ne h1, mj_up_ne h2, mj_up_ne h3]
          exact i1 q h1 h2 h3
        · rw [mj_up_at, List.length_append, List.length_singleton]
        · rw [mj_up_ne (by omega), mj_up_row, mj_up_ne (by omega)]
          exact mj_rl_app i3
        · intro u hu
          rw [mj_up_ne (by omega), mj_up_ne (by omega), mj_up_row]
          by_cases z : u = x
          · rw [z, mj_u_at]
            simp
          · rw [mj_u_ne z, i4 u hu, List.mem_append]
            simp [z]
        · intro u
          rw [mj_up_ne (by omega), mj_up_ne (by omega), mj_up_row]
          by_cases z : u = x
          · rw [z, mj_u_at]
            exact Or.inl rfl
          · rw [mj_u_ne z]
            exact i5 u
        · rw [List.nodup_append]
          refine ⟨i6, by simp, ?_⟩
          intro y hy z hz e
          have : z = x := by simpa using hz
          subst this
          subst e
          exact hnx hy
        · intro u hu
          rcases List.mem_append.mp hu with hu | hu
          · exact i7 u hu
          · have : u = x := by simpa using hu
            subst this
            exact ⟨hx, c⟩
theorem ct_F_reachFanins (hF : isLf sh FR n f) (hN : isNet sh FR n b) (hap : lf_ap f b) {start s I G : Nat} {J : mj_FI} {tr : List Nat} {L R : Nat → Nat} (hst : start < 315) (hs : s < 315) (hG2 : G ≤ 300) (hG : ∀ u, u < 315 → IA (b + 6) u = 1000000 → I + 1 ≤ u ∧ u < I + 1 + G) (hd : ∀ x, x < 315 → 0 ≤ IA (b + 6) x ∧ IA (b + 6) x ≤ 1000000) (hr : ∀ x, x < 315 → 0 ≤ IA (f + 2) x ∧ IA (f + 2) x ≤ 1000)
    (hL : 0 ≤ IA (b + 3) s ∧ IA (b + 3) s ≤ 2001 ∧ IA (b + 1) (IA (b + 3) s / 2).toNat = (L s : Int) ∧ L s < 315) (hR : 0 ≤ IA (b + 4) s ∧ IA (b + 4) s ≤ 2001 ∧ IA (b + 1) (IA (b + 4) s / 2).toNat = (R s : Int) ∧ R s < 315) (hI : lf_I IA J f b start tr) :
    mj_Ct m_F_reachFanins [.inr (.inr (.inl f)), .inr (.inr (.inl b)), .inl start, .inl s] sh FR J LA n (mj_po (fun o J' => o = .inl none ∧ lf_I IA J' f b start (lf_add (IA (b + 6)) (lf_add (IA (b + 6)) tr (L s)) (R s))) sh FR LA n) := by
  have hb : ∀ (J : mj_FI) (tr : List Nat), lf_I IA J f b start tr → J (b + 1) = IA (b + 1) ∧ J (b + 3) = IA (b + 3) ∧ J (b + 4) = IA (b + 4) := by
    intro J tr h
    unfold lf_ap at hap
    exact ⟨h.1 _ (by omega) (by omega) (by omega), h.1 _ (by omega) (by omega) (by omega), h.1 _ (by omega) (by omega) (by omega)⟩
  obtain ⟨l1, l2, l3, l4⟩ := hL
  obtain ⟨m1, m2, m3, m4⟩ := hR
  obtain ⟨b1, b3, b4⟩ := hb J tr hI
  refine mj_Ct_of (by decide +kernel) (by decide) (Nat.le_of_ble_eq_true rfl) ?_
  refine mj_go z_F_reachFanins [] 60 ?_
  refine And.intro hN.1 (Exists.intro _ (And.intro hN.2.2.2.1 ?_))
  refine Exists.intro _ (Exists.intro (s) (And.intro hN.2.2.2.2.2.2.2.2.2.2.2.1 (And.intro (by first | (rw [mj_w_id (by omega) (by omega)]; done) | (rw [mj_w_id (by omega) (by omega)]; omega) | (unfold mj_w; omega)) (And.intro (by omega) ?_))))
  rw [b3]
  refine And.intro hN.1 (And.intro (Nat.le_of_ble_eq_true rfl) (And.intro (Nat.le_of_ble_eq_true rfl) (And.intro (Nat.le_of_ble_eq_true rfl) (Exists.intro _ (And.intro (ct_N_slotFor hN l1 l2) ?_)))))
  rintro r9 sh9 FR9 IA9 LA9 n9 ⟨z0, z1, z2, z3, z4, z5⟩
  subst z0
  replace z1 := z1.symm
  subst z1
  replace z2 := z2.symm
  subst z2
  replace z3 := z3.symm
  subst z3
  replace z4 := z4.symm
  subst z4
  replace z5 := z5.symm
  subst z5
  refine And.intro (Or.inl rfl) ?_
  rw [b1, l3]
  refine And.intro hF.1 (And.intro (Nat.le_of_ble_eq_true rfl) (And.intro (Nat.le_of_ble_eq_true rfl) (And.intro (Nat.le_of_ble_eq_true rfl) (Exists.intro _ (And.intro (ct_F_reach hF hN hap l4 hst hG2 hG (hd _ l4) (hr _ l4) hI) ?_)))))
  rintro o1 sh9 FR9 J1 LA9 n9 ⟨z1, z2, z3, z4, hp1⟩
  replace z1 := z1.symm
  subst z1
  replace z2 := z2.symm
  subst z2
  replace z3 := z3.symm
  subst z3
  replace z4 := z4.symm
  subst z4
  obtain ⟨ho, hI1⟩ := hp1
  subst ho
  obtain ⟨b1, b3, b4⟩ := hb J1 _ hI1
  refine And.intro (Or.inl rfl) ?_
  refine And.intro hN.1 (Exists.intro _ (And.intro hN.2.2.2.2.1 ?_))
  refine Exists.intro _ (Exists.intro (s) (And.intro hN.2.2.2.2.2.2.2.2.2.2.2.2.1 (And.intro (by first | (rw [mj_w_id (by omega) (by omega)]; done) | (rw [mj_w_id (by omega) (by omega)]; omega) | (unfold mj_w; omega)) (And.intro (by omega) ?_))))
  rw [b4]
  refine And.intro hN.1 (And.intro (Nat.le_of_ble_eq_true rfl) (And.intro (Nat.le_of_ble_eq_true rfl) (And.intro (Nat.le_of_ble_eq_true rfl) (Exists.intro _ (And.intro (ct_N_slotFor hN m1 m2) ?_)))))
  rintro r9 sh9 FR9 IA9 LA9 n9 ⟨z0, z1, z2, z3, z4, z5⟩
  subst z0
  replace z1 := z1.symm
  subst z1
  replace z2 := z2.symm
  subst z2
  replace z3 := z3.symm
  subst z3
  replace z4 := z4.symm
  subst z4
  replace z5 := z5.symm
  subst z5
  refine And.intro (Or.inl rfl) ?_
  rw [b1, m3]
  refine And.intro hF.1 (And.intro (Nat.le_of_ble_eq_true rfl) (And.intro (Nat.le_of_ble_eq_true rfl) (And.intro (Nat.le_of_ble_eq_true rfl) (Exists.intro _ (And.intro (ct_F_reach hF hN hap m4 hst hG2 hG (hd _ m4) (hr _ m4) hI1) ?_)))))
  rintro o2 sh9 FR9 J2 LA9 n9 ⟨z1, z2, z3, z4, hp2⟩
  replace z1 := z1.symm
  subst z1
  replace z2 := z2.symm
  subst z2
  replace z3 := z3.symm
  subst z3
  replace z4 := z4.symm
  subst z4
  obtain ⟨ho, hI2⟩ := hp2
  subst ho
  refine And.intro (Or.inl rfl) ?_
  exact ⟨⟨rfl, rfl, rfl, rfl, rfl, hI2⟩, Nat.le_of_ble_eq_true rfl, Nat.le_of_ble_eq_true rfl⟩
end FF
