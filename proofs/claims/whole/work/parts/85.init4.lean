/-! CONSTRUCTORS: Reader -/
section KK
variable {sh : mj_Sh} {FR : mj_FR} {IA : mj_FI} {LA : mj_LA} {r : Nat}
set_option maxHeartbeats 4000000 in
theorem ct_R_init (h0 : sh r = (8, 0)) (hF : mj_scF (r + 1) FR) (hI : ∀ k, IA r k = 0) :
    mj_Ct m_R_init [.inr (.inr (.inl r))] sh FR IA LA (r + 1) (fun o sh' FR' IA' LA' n' => o = .inl none ∧ n' = r + 16 ∧ isRd sh' FR' n' r (r + 7) ∧ isNet sh' FR' n' (r + 7) ∧ mj_scF (r + 16) FR' ∧ gr sh FR IA LA r sh' FR' IA' LA' ∧ nN IA' (r + 7) ∧ (∀ k, IA' r k = 0)) := by
  have f1 := scF_up (q := r) (k := 3) (scF_nw hF) (show r + 1 < r + 1 + 1 by omega)
  have f2 := scF_up (q := r) (k := 4) (scF_nw f1) (show r + 1 + 1 < r + 1 + 1 + 1 by omega)
  have f3 := scF_up (q := r) (k := 5) (scF_nw f2) (show r + 1 + 1 + 1 < r + 1 + 1 + 1 + 1 by omega)
  have f4 := scF_nw f3
  refine mj_Ct_of (by decide +kernel) (by decide) (Nat.le_of_ble_eq_true rfl) ?_
  refine mj_go z_R_init [] 60 ?_
  refine And.intro (Nat.le_of_ble_eq_true rfl) ?_
  refine Exists.intro 8192 (And.intro (by decide) (And.intro (by decide) (And.intro hF (And.intro ⟨show r < r + 1 by omega, trivial⟩ (And.intro ⟨show r < r + 1 by omega, trivial⟩ (And.intro (Nat.le_of_ble_eq_true rfl) (And.intro (Nat.le_of_ble_eq_true rfl) ?_)))))))
  refine And.intro ⟨show r < r + 1 + 1 by omega, by rw [mj_nw_ne (by omega)]; exact h0⟩ ?_
  refine Exists.intro 5 (And.intro (by decide) (And.intro (by decide) (And.intro f1 (And.intro ⟨show r < r + 1 + 1 by omega, trivial⟩ (And.intro ⟨show r < r + 1 + 1 by omega, trivial⟩ (And.intro (Nat.le_of_ble_eq_true rfl) (And.intro (Nat.le_of_ble_eq_true rfl) ?_)))))))
  refine And.intro ⟨show r < r + 1 + 1 + 1 by omega, by rw [mj_nw_ne (by omega), mj_nw_ne (by omega)]; exact h0⟩ ?_
  refine Exists.intro 5 (And.intro (by decide) (And.intro (by decide) (And.intro f2 (And.intro ⟨show r < r + 1 + 1 + 1 by omega, trivial⟩ (And.intro ⟨show r < r + 1 + 1 + 1 by omega, trivial⟩ (And.intro (Nat.le_of_ble_eq_true rfl) (And.intro (Nat.le_of_ble_eq_true rfl) ?_)))))))
  refine And.intro ⟨show r < r + 1 + 1 + 1 + 1 by omega, by rw [mj_nw_ne (by omega), mj_nw_ne (by omega), mj_nw_ne (by omega)]; exact h0⟩ ?_
  refine And.intro f3 (And.intro ⟨show r < r + 1 + 1 + 1 + 1 by omega, trivial⟩ (And.intro ⟨show r < r + 1 + 1 + 1 + 1 by omega, trivial⟩ (And.intro (Nat.le_of_ble_eq_true rfl) (And.intro (Nat.le_of_ble_eq_true rfl) ?_))))
  refine And.intro rfl ?_
  refine And.intro trivial (And.intro (Nat.le_of_ble_eq_true rfl) (And.intro (Nat.le_of_ble_eq_true rfl) (And.intro (Nat.le_of_ble_eq_true rfl) (Exists.intro _ (And.intro (ct_F_init (f := r + 1 + 1 + 1 + 1) mj_nw_eq f4 (fun k => by rw [mj_nw_eq])) ?_)))))
  rintro o1 sh1 FR1 IA1 LA1 n1 ⟨p0, p1, p2, p3, p4, p5⟩
  subst p0
  subst p1
  refine And.intro (Or.inr ⟨⟨show r < r + 1 + 1 + 1 + 1 + 1 by omega, trivial⟩, show r + 1 + 1 + 1 + 1 < r + 1 + 1 + 1 + 1 + 1 by omega, show r < r + 1 + 1 + 1 + 1 + 1 by omega, trivial⟩) ?_
  have lowA : ∀ q, q < r + 1 → sh1 q = sh q ∧ IA1 q = IA q ∧ LA1 q = LA q ∧ (q ≠ r → FR1 q = FR q) := by
    intro q hq
    obtain ⟨z1, z2, z3, z4⟩ := p4 q (by omega)
    have e1 : ¬ q = r + 1 := by omega
    have e2 : ¬ q = r + 1 + 1 := by omega
    have e3 : ¬ q = r + 1 + 1 + 1 := by omega
    have e4 : ¬ q = r + 1 + 1 + 1 + 1 := by omega
    rw [z1, z2, z3, z4]
    simp only [mj_nw, e1, e2, e3, e4, if_false]
    refine ⟨trivial, trivial, trivial, fun e0 => ?_⟩
    funext j
    simp only [mj_nw, mj_up, e0, e1, e2, e3, e4, if_false]
  have s1 : sh1 r = (8, 0) := (lowA r (by omega)).1.trans h0
  have sA1 : sh1 (r + 1) = (1, 8192) := by
    rw [(p4 (r + 1) (by omega)).1]
    simp [mj_nw, Nat.add_assoc]
  have sA2 : sh1 (r + 2) = (0, 5) := by
    rw [(p4 (r + 2) (by omega)).1]
    simp [mj_nw, Nat.add_assoc]
  have sA3 : sh1 (r + 3) = (0, 5) := by
    rw [(p4 (r + 3) (by omega)).1]
    simp [mj_nw, Nat.add_assoc]
  have rA3 : FR1 r 3 = .inl (r + 1) := by
    rw [(p4 r (by omega)).2.1]
    simp [mj_nw, mj_up, Nat.add_assoc]
  have rA4 : FR1 r 4 = .inl (r + 2) := by
    rw [(p4 r (by omega)).2.1]
    simp [mj_nw, mj_up, Nat.add_assoc]
  have rA5 : FR1 r 5 = .inl (r + 3) := by
    rw [(p4 r (by omega)).2.1]
    simp [mj_nw, mj_up, Nat.add_assoc]
  have k1 := scF_up (q := r) (k := 6) p3 (show r + 1 + 1 + 1 + 1 < r + 1 + 1 + 1 + 1 + 3 by omega)
  have k2 := scF_nw k1
  refine And.intro ⟨show r < r + 1 + 1 + 1 + 1 + 3 by omega, s1⟩ ?_
  refine And.intro k1 (And.intro ⟨show r < r + 1 + 1 + 1 + 1 + 3 by omega, trivial⟩ (And.intro ⟨show r < r + 1 + 1 + 1 + 1 + 3 by omega, trivial⟩ (And.intro (Nat.le_of_ble_eq_true rfl) (And.intro (Nat.le_of_ble_eq_true rfl) ?_))))
  refine And.intro rfl ?_
  refine And.intro trivial (And.intro (Nat.le_of_ble_eq_true rfl) (And.intro (Nat.le_of_ble_eq_true rfl) (And.intro (Nat.le_of_ble_eq_true rfl) (Exists.intro _ (And.intro (ct_N_init (b := r + 1 + 1 + 1 + 1 + 3) mj_nw_eq k2) ?_)))))
  rintro o2 sh2 FR2 IA2 LA2 n2 ⟨q0, q1, q2, q3, q4, q5, q6⟩
  subst q0
  subst q1
  refine And.intro (Or.inr ⟨⟨show r < r + 1 + 1 + 1 + 1 + 3 + 1 by omega, trivial⟩, show r + 1 + 1 + 1 + 1 + 3 < r + 1 + 1 + 1 + 1 + 3 + 1 by omega, show r < r + 1 + 1 + 1 + 1 + 3 + 1 by omega, trivial⟩) ?_
  have lowB : ∀ q, q < r + 7 → sh2 q = sh1 q ∧ IA2 q = IA1 q ∧ LA2 q = LA1 q ∧ FR2 q = mj_up FR1 r 6 (.inl (r + 4)) q := by
    intro q hq
    obtain ⟨z1, z2, z3, z4⟩ := q4 q (by omega)
    have e1 : q ≠ r + 1 + 1 + 1 + 1 + 3 := by omega
    rw [z1, z2, z3, z4, mj_nw_ne e1, mj_nw_ne e1, mj_nw_ne e1, mj_nw_ne e1]
    exact ⟨rfl, rfl, rfl, rfl⟩
  have k3 := scF_up (q := r) (k := 7) q3 (show r + 7 < r + 16 by omega)
  refine And.intro ⟨show r < r + 16 by omega, by rw [(lowB r (by omega)).1]; exact s1⟩ ?_
  obtain ⟨⟨_, l0⟩, l1, l2, ⟨_, l3⟩, ⟨_, l4⟩⟩ := p2
  refine ⟨⟨rfl, rfl, ⟨⟨by omega, ?_⟩, ?_, ?_, ?_, ?_, ?_, ⟨by omega, ?_⟩, ⟨by omega, ?_⟩, ⟨by omega, ?_⟩, ⟨by omega, ?_⟩, ?_, ?_, ⟨by omega, ?_⟩, ⟨by omega, ?_⟩⟩, isNet_FR q2 (fun k => by rw [mj_up_ne (by omega)]), k3, fun q hq => ⟨?_, ?_, ?_, ?_⟩, q6, fun k => ?_⟩, Nat.le_of_ble_eq_true rfl, Nat.le_of_ble_eq_true rfl⟩
  · rw [(lowB r (by omega)).1]; exact s1
  · rw [mj_up_k (by decide), (lowB r (by omega)).2.2.2, mj_up_k (by decide)]; exact rA3
  · rw [mj_up_k (by decide), (lowB r (by omega)).2.2.2, mj_up_k (by decide)]; exact rA4
  · rw [mj_up_k (by decide), (lowB r (by omega)).2.2.2, mj_up_k (by decide)]; exact rA5
  · rw [mj_up_k (by decide), (lowB r (by omega)).2.2.2, mj_up_at]
  · rw [mj_up_at]
  · rw [(lowB (r + 1) (by omega)).1]; exact sA1
  · rw [(lowB (r + 2) (by omega)).1]; exact sA2
  · rw [(lowB (r + 3) (by omega)).1]; exact sA3
  · rw [(lowB (r + 4) (by omega)).1]; exact l0
  · rw [mj_up_ne (by omega), (lowB (r + 4) (by omega)).2.2.2, mj_up_ne (by omega)]; exact l1
  · rw [mj_up_ne (by omega), (lowB (r + 4) (by omega)).2.2.2, mj_up_ne (by omega)]; exact l2
  · rw [(lowB (r + 5) (by omega)).1]; exact l3
  · rw [(lowB (r + 6) (by omega)).1]; exact l4
  · rw [(lowB q (by omega)).1, (lowA q (by omega)).1]
  · rw [mj_up_ne (by omega), (lowB q (by omega)).2.2.2, mj_up_ne (by omega), (lowA q (by omega)).2.2.2 (by omega)]
  · rw [(lowB q (by omega)).2.1, (lowA q (by omega)).2.1]
  · rw [(lowB q (by omega)).2.2.1, (lowA q (by omega)).2.2.1]
  · rw [(lowB r (by omega)).2.1, (lowA r (by omega)).2.1]; exact hI k
end KK
