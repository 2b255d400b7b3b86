/-! WRITER: putGate, writeText -/
/-- the gates' text, the first k of them; sn: the slot of each number -/
def wr_q (bin : Bool) (I : Nat) (sn : Nat → Nat) (l r : Nat → Nat) : Nat → List Int
  | 0 => []
  | k + 1 => wr_q bin I sn l r k ++ wr_g bin (I + 1 + k) (max (l (sn k)) (r (sn k))) (min (l (sn k)) (r (sn k)))
theorem wr_q_len {bin : Bool} {I : Nat} {sn l r : Nat → Nat} : ∀ k, (wr_q bin I sn l r k).length ≤ 12 * k
  | 0 => Nat.le_refl _
  | k + 1 => by
    have h1 := @wr_g_len bin (I + 1 + k) (max (l (sn k)) (r (sn k))) (min (l (sn k)) (r (sn k)))
    have ih := wr_q_len (bin := bin) (I := I) (sn := sn) (l := l) (r := r) k
    simp only [wr_q, List.length_append]
    omega
section WW
variable {sh : mj_Sh} {FR : mj_FR} {B : mj_FI} {LA : mj_LA} {n w c b : Nat}
set_option maxHeartbeats 1000000 in
theorem ct_W_putGate (h : isW sh FR n w) (hC : isC sh FR n c b) (hN : isNet sh FR n b) (ha : wr_ap w c b) {J : mj_FI} {rd bin : Bool} {v s : Nat} {tx : List Int} (hT : wr_T B J w tx) (hl : tx.length + 12 ≤ 4096) (hr : B w 7 = if rd = true then 1 else 0) (hH : wr_H B c b rd) (hv : v < 315) (hs : B (w + 5) v = (s : Int)) (hs2 : s < 315)
    (hp3 : wr_st B b (B (b + 3) s) ∧ 0 ≤ B (w + 4) (wr_X B c b rd (B (b + 3) s)) ∧ B (w + 4) (wr_X B c b rd (B (b + 3) s)) < (v : Int)) (hp4 : wr_st B b (B (b + 4) s) ∧ 0 ≤ B (w + 4) (wr_X B c b rd (B (b + 4) s)) ∧ B (w + 4) (wr_X B c b rd (B (b + 4) s)) < (v : Int)) :
    mj_Ct m_W_putGate [.inr (.inr (.inl w)), .inr (.inr (.inl c)), .inl v, .inl (if bin = true then 1 else 0)] sh FR J LA n (mj_po (fun o J' => o = .inl none ∧ wr_T B J' w (tx ++ wr_g bin v (max (wr_L B w c b rd (B (b + 3) s)) (wr_L B w c b rd (B (b + 4) s))) (min (wr_L B w c b rd (B (b + 3) s)) (wr_L B w c b rd (B (b + 4) s))))) sh FR LA n) := by
  have hW := h
  obtain ⟨h0, r1, r2, r3, r4, r5, r6, a1, a2, a3, a4, a5, a6⟩ := h
  have hap := ha
  unfold wr_ap at hap
  obtain ⟨p1, p2, p3⟩ := hp3
  obtain ⟨q1, q2, q3⟩ := hp4
  have jb : ∀ k, k ≤ 8 → J (b + k) = B (b + k) := fun k hk => hT.e.b ha hk
  have j5 : J (w + 5) = B (w + 5) := hT.1 _ (by omega) (by omega)
  have b1 : wr_L B w c b rd (B (b + 3) s) < 2 * v := by
    unfold wr_L
    omega
  have b2 : wr_L B w c b rd (B (b + 4) s) < 2 * v := by
    unfold wr_L
    omega
  have c1 : mj_Ct m_W_newLiteral [.inr (.inr (.inl w)), .inr (.inr (.inl c)), .inl (B (b + 3) s)] sh FR J LA n (mj_pu (.inl (some (.inl ((wr_L B w c b rd (B (b + 3) s) : Nat) : Int)))) sh FR J LA n) := ct_W_newLiteral hW hC hN ha hT hr hH p1 ⟨p2, by omega⟩
  have c2 : mj_Ct m_W_newLiteral [.inr (.inr (.inl w)), .inr (.inr (.inl c)), .inl (B (b + 4) s)] sh FR J LA n (mj_pu (.inl (some (.inl ((wr_L B w c b rd (B (b + 4) s) : Nat) : Int)))) sh FR J LA n) := ct_W_newLiteral hW hC hN ha hT hr hH q1 ⟨q2, by omega⟩
  clear p1 p2 p3 q1 q2 q3 hH hr
  generalize wr_L B w c b rd (B (b + 3) s) = x at *
  generalize wr_L B w c b rd (B (b + 4) s) = y at *
  have l1 := @wr_n_len (2 * v)
  have l2 := @wr_n_len (max x y)
  have l3 := @wr_s_len (2 * v - max x y)
  refine mj_Ct_of (by decide +kernel) (by decide) (Nat.le_of_ble_eq_true rfl) ?_
  refine mj_go z_W_putGate [] 60 ?_
  refine And.intro h0 (Exists.intro _ (And.intro r5 ?_))
  refine Exists.intro _ (Exists.intro (v) (And.intro a5 (And.intro (by first | (rw [mj_w_id (by omega) (by omega)]; done) | (rw [mj_w_id (by omega) (by omega)]; omega) | (unfold mj_w; omega)) (And.intro (by omega) ?_))))
  rw [j5, hs]
  refine And.intro hC.1 (Exists.intro _ (And.intro hC.2.1 ?_))
  refine And.intro hN.1 (Exists.intro _ (And.intro hN.2.2.2.1 ?_))
  refine Exists.intro _ (Exists.intro (s) (And.intro hN.2.2.2.2.2.2.2.2.2.2.2.1 (And.intro (by first | (rw [mj_w_id (by omega) (by omega)]; done) | (rw [mj_w_id (by omega) (by omega)]; omega) | (unfold mj_w; omega)) (And.intro (by omega) ?_))))
  rw [jb 3 (by decide)]
  refine And.intro h0 (And.intro (Nat.le_of_ble_eq_true rfl) (And.intro (Nat.le_of_ble_eq_true rfl) (And.intro (Nat.le_of_ble_eq_true rfl) (Exists.intro _ (And.intro (c1) ?_)))))
  rintro r9 sh9 FR9 IA9 LA9 n9 ⟨z0, z1, z2, z3, z4, z5⟩
  subst z0
  replace z1 := z1.symm
  subst z1
  replace z2 := z2.symm
  subst z2
  replace z3 := z3.symm
  subst z3
  replace z4 := z4.symm
  subst z4
  replace z5 := z5.symm
  subst z5
  refine And.intro (Or.inl rfl) ?_
  refine And.intro hC.1 (Exists.intro _ (And.intro hC.2.1 ?_))
  refine And.intro hN.1 (Exists.intro _ (And.intro hN.2.2.2.2.1 ?_))
  refine Exists.intro _ (Exists.intro (s) (And.intro hN.2.2.2.2.2.2.2.2.2.2.2.2.1 (And.intro (by first | (rw [mj_w_id (by omega) (by omega)]; done) | (rw [mj_w_id (by omega) (by omega)]; omega) | (unfold mj_w; omega)) (And.intro (by omega) ?_))))
  rw [jb 4 (by decide)]
  refine And.intro h0 (And.intro (Nat.le_of_ble_eq_true rfl) (And.intro (Nat.le_of_ble_eq_true rfl) (And.intro (Nat.le_of_ble_eq_true rfl) (Exists.intro _ (And.intro (c2) ?_)))))
  rintro r9 sh9 FR9 IA9 LA9 n9 ⟨z0, z1, z2, z3, z4, z5⟩
  subst z0
  replace z1 := z1.symm
  subst z1
  replace z2 := z2.symm
  subst z2
  replace z3 := z3.symm
  subst z3
  replace z4 := z4.symm
  subst z4
  replace z5 := z5.symm
  subst z5
  refine And.intro (Or.inl rfl) ?_
  refine And.intro trivial (And.intro (Nat.le_of_ble_eq_true rfl) (And.intro (Nat.le_of_ble_eq_true rfl) (And.intro (Nat.le_of_ble_eq_true rfl) (Exists.intro _ (And.intro (ct_H_max (by omega) (by omega) (by omega) (by omega)) ?_)))))
  rintro r9 sh9 FR9 IA9 LA9 n9 ⟨z0, z1, z2, z3, z4, z5⟩
  subst z0
  replace z1 := z1.symm
  subst z1
  replace z2 := z2.symm
  subst z2
  replace z3 := z3.symm
  subst z3
  replace z4 := z4.symm
  subst z4
  replace z5 := z5.symm
  subst z5
  refine And.intro (Or.inl rfl) ?_
  refine And.intro trivial (And.intro (Nat.le_of_ble_eq_true rfl) (And.intro (Nat.le_of_ble_eq_true rfl) (And.intro (Nat.le_of_ble_eq_true rfl) (Exists.intro _ (And.intro (ct_H_min (by omega) (by omega) (by omega) (by omega)) ?_)))))
  rintro r9 sh9 FR9 IA9 LA9 n9 ⟨z0, z1, z2, z3, z4, z5⟩
  subst z0
  replace z1 := z1.symm
  subst z1
  replace z2 := z2.symm
  subst z2
  replace z3 := z3.symm
  subst z3
  replace z4 := z4.symm
  subst z4
  replace z5 := z5.symm
  subst z5
  refine And.intro (Or.inl rfl) ?_
  rw [show max (x : Int) (y : Int) = ((max x y : Nat) : Int) by omega, show min (x : Int) (y : Int) = ((min x y : Nat) : Int) by omega]
  cases bin with
  | true =>
    refine And.intro (fun d => ?_) (fun d => ?_)
    · exact absurd d (by decide)
    · clear d
      refine Exists.intro (((2 * v : Nat) : Int)) (And.intro (by first | (rw [mj_w_id (by omega) (by omega)]; done) | (rw [mj_w_id (by omega) (by omega)]; omega) | (unfold mj_w; omega)) ?_)
      refine Exists.intro (((2 * v - max x y : Nat) : Int)) (And.intro (by first | (rw [mj_w_id (by omega) (by omega)]; done) | (rw [mj_w_id (by omega) (by omega)]; omega) | (unfold mj_w; omega)) ?_)
      refine And.intro h0 (And.intro (Nat.le_of_ble_eq_true rfl) (And.intro (Nat.le_of_ble_eq_true rfl) (And.intro (Nat.le_of_ble_eq_true rfl) (Exists.intro _ (And.intro (ct_W_putStep hW hT (by omega) (by omega)) ?_)))))
      rintro o1 sh9 FR9 J1 LA9 n9 ⟨z1, z2, z3, z4, hp1⟩
      replace z1 := z1.symm
      subst z1
      replace z2 := z2.symm
      subst z2
      replace z3 := z3.symm
      subst z3
      replace z4 := z4.symm
      subst z4
      obtain ⟨ho, hT1⟩ := hp1
      subst ho
      refine And.intro (Or.inl rfl) ?_
      refine Exists.intro (((max x y - min x y : Nat) : Int)) (And.intro (by first | (rw [mj_w_id (by omega) (by omega)]; done) | (rw [mj_w_id (by omega) (by omega)]; omega) | (unfold mj_w; omega)) ?_)
      refine And.intro h0 (And.intro (Nat.le_of_ble_eq_true rfl) (And.intro (Nat.le_of_ble_eq_true rfl) (And.intro (Nat.le_of_ble_eq_true rfl) (Exists.intro _ (And.intro (ct_W_putStep hW hT1 (by rw [List.length_append]; omega) (by omega)) ?_)))))
      rintro o2 sh9 FR9 J2 LA9 n9 ⟨z1, z2, z3, z4, hp2⟩
      replace z1 := z1.symm
      subst z1
      replace z2 := z2.symm
      subst z2
      replace z3 := z3.symm
      subst z3
      replace z4 := z4.symm
      subst z4
      obtain ⟨ho, hT2⟩ := hp2
      subst ho
      refine And.intro (Or.inl rfl) ?_
      rw [List.append_assoc] at hT2
      exact ⟨⟨rfl, rfl, rfl, rfl, rfl, hT2⟩, Nat.le_of_ble_eq_true rfl, Nat.le_of_ble_eq_true rfl⟩
  | false =>
    refine And.intro (fun d => ?_) (fun d => ?_)
    · clear d
      refine Exists.intro (((2 * v : Nat) : Int)) (And.intro (by first | (rw [mj_w_id (by omega) (by omega)]; done) | (rw [mj_w_id (by omega) (by omega)]; omega) | (unfold mj_w; omega)) ?_)
      refine And.intro h0 (And.intro (Nat.le_of_ble_eq_true rfl) (And.intro (Nat.le_of_ble_eq_true rfl) (And.intro (Nat.le_of_ble_eq_true rfl) (Exists.intro _ (And.intro (ct_W_putNumber hW hT (by omega) (by omega)) ?_)))))
      rintro o1 sh9 FR9 J1 LA9 n9 ⟨z1, z2, z3, z4, hp1⟩
      replace z1 := z1.symm
      subst z1
      replace z2 := z2.symm
      subst z2
      replace z3 := z3.symm
      subst z3
      replace z4 := z4.symm
      subst z4
      obtain ⟨ho, hT1⟩ := hp1
      subst ho
      refine And.intro (Or.inl rfl) ?_
      refine And.intro h0 (And.intro (Nat.le_of_ble_eq_true rfl) (And.intro (Nat.le_of_ble_eq_true rfl) (And.intro (Nat.le_of_ble_eq_true rfl) (Exists.intro _ (And.intro (ct_W_putNumber hW hT1 (by simp only [List.length_append, List.length_singleton]; omega) (by omega)) ?_)))))
      rintro o2 sh9 FR9 J2 LA9 n9 ⟨z1, z2, z3, z4, hp2⟩
      replace z1 := z1.symm
      subst z1
      replace z2 := z2.symm
      subst z2
      replace z3 := z3.symm
      subst z3
      replace z4 := z4.symm
      subst z4
      obtain ⟨ho, hT2⟩ := hp2
      subst ho
      refine And.intro (Or.inl rfl) ?_
      refine And.intro h0 (And.intro (Nat.le_of_ble_eq_true rfl) (And.intro (Nat.le_of_ble_eq_true rfl) (And.intro (Nat.le_of_ble_eq_true rfl) (Exists.intro _ (And.intro (ct_W_putNumber hW hT2 (by simp only [List.length_append, List.length_singleton]; omega) (by omega)) ?_)))))
      rintro o3 sh9 FR9 J3 LA9 n9 ⟨z1, z2, z3, z4, hp3⟩
      replace z1 := z1.symm
      subst z1
      replace z2 := z2.symm
      subst z2
      replace z3 := z3.symm
      subst z3
      replace z4 := z4.symm
      subst z4
      obtain ⟨ho, hT3⟩ := hp3
      subst ho
      refine And.intro (Or.inl rfl) ?_
      rw [List.append_assoc, List.append_assoc] at hT3
      exact ⟨⟨rfl, rfl, rfl, rfl, rfl, hT3⟩, Nat.le_of_ble_eq_true rfl, Nat.le_of_ble_eq_true rfl⟩
    · exact absurd (show mj_w 0 = 0 by decide) d
end WW
