/-! CONSTRUCTORS: Circuit -/
theorem isNet_up {sh sh' : mj_Sh} {FR FR' : mj_FR} {n n' b : Nat} (h : isNet sh FR n b) (hn : n ≤ n') (e1 : ∀ q, b ≤ q → q ≤ b + 8 → sh' q = sh q) (e2 : FR' b = FR b) : isNet sh' FR' n' b := by
  unfold isNet mj_is at h ⊢
  rw [e2, e1 b (by omega) (by omega), e1 (b + 1) (by omega) (by omega), e1 (b + 2) (by omega) (by omega), e1 (b + 3) (by omega) (by omega), e1 (b + 4) (by omega) (by omega), e1 (b + 5) (by omega) (by omega), e1 (b + 6) (by omega) (by omega), e1 (b + 7) (by omega) (by omega), e1 (b + 8) (by omega) (by omega)]
  obtain ⟨⟨p0, q0⟩, f0, f1, f2, f3, f4, f5, f6, f7, ⟨p1, q1⟩, ⟨p2, q2⟩, ⟨p3, q3⟩, ⟨p4, q4⟩, ⟨p5, q5⟩, ⟨p6, q6⟩, ⟨p7, q7⟩, p8, q8⟩ := h
  exact ⟨⟨by omega, q0⟩, f0, f1, f2, f3, f4, f5, f6, f7, ⟨by omega, q1⟩, ⟨by omega, q2⟩, ⟨by omega, q3⟩, ⟨by omega, q4⟩, ⟨by omega, q5⟩, ⟨by omega, q6⟩, ⟨by omega, q7⟩, by omega, q8⟩
theorem nN_up {IA J : mj_FI} {b : Nat} (h : nN IA b) (e : ∀ q, b ≤ q → q ≤ b + 8 → J q = IA q) : nN J b := by
  unfold nN at h ⊢
  rw [e b (by omega) (by omega), e (b + 1) (by omega) (by omega)]
  obtain ⟨h1, h2, h3, h4, h5, h6, h7⟩ := h
  exact ⟨h1, h2, h3, h4, h5, h6, fun k k1 k2 j => by rw [e (b + k) (by omega) (by omega)]; exact h7 k k1 k2 j⟩
section KK
variable {sh : mj_Sh} {FR : mj_FR} {IA : mj_FI} {LA : mj_LA} {c : Nat}
set_option maxHeartbeats 2000000 in
theorem ct_C_init (h0 : sh c = (5, 0)) (hF : mj_scF (c + 1) FR) (hI : ∀ k, IA c k = 0) :
    mj_Ct m_C_init [.inr (.inr (.inl c))] sh FR IA LA (c + 1) (fun o sh' FR' IA' LA' n' => o = .inl none ∧ n' = c + 14 ∧ isC sh' FR' n' c (c + 1) ∧ isNet sh' FR' n' (c + 1) ∧ mj_scF (c + 14) FR' ∧ gr sh FR IA LA c sh' FR' IA' LA' ∧ nN IA' (c + 1) ∧ (∀ k, IA' c k = 0) ∧ (∀ j, LA' (c + 10) j = 0#64)) := by
  have g0 := scF_nw hF
  refine mj_Ct_of (by decide +kernel) (by decide) (Nat.le_of_ble_eq_true rfl) ?_
  refine mj_go z_C_init [] 60 ?_
  refine And.intro (Nat.le_of_ble_eq_true rfl) ?_
  refine And.intro hF (And.intro ⟨show c < c + 1 by omega, trivial⟩ (And.intro ⟨show c < c + 1 by omega, trivial⟩ (And.intro (Nat.le_of_ble_eq_true rfl) (And.intro (Nat.le_of_ble_eq_true rfl) ?_))))
  refine And.intro rfl ?_
  refine And.intro trivial (And.intro (Nat.le_of_ble_eq_true rfl) (And.intro (Nat.le_of_ble_eq_true rfl) (And.intro (Nat.le_of_ble_eq_true rfl) (Exists.intro _ (And.intro (ct_N_init (b := c + 1) mj_nw_eq g0) ?_)))))
  rintro o1 sh1 FR1 IA1 LA1 n1 ⟨p0, p1, p2, p3, p4, p5, p6⟩
  subst p0
  subst p1
  refine And.intro (Or.inr ⟨⟨show c < c + 1 + 1 by omega, trivial⟩, show c + 1 < c + 1 + 1 by omega, show c < c + 1 + 1 by omega, trivial⟩) ?_
  obtain ⟨a1, a2, a3, a4⟩ := p4 c (by omega)
  rw [mj_nw_ne (show c ≠ c + 1 by omega)] at a1 a2 a3 a4
  have s1 : sh1 c = (5, 0) := a1.trans h0
  have f1 := scF_up (q := c) (k := 0) p3 (show c + 1 < c + 10 by omega)
  have f2 := scF_up (q := c) (k := 4) (scF_nw f1) (show c + 10 < c + 10 + 1 by omega)
  have f3 := scF_up (q := c) (k := 5) (scF_nw f2) (show c + 10 + 1 < c + 10 + 1 + 1 by omega)
  have f4 := scF_up (q := c) (k := 6) (scF_nw f3) (show c + 10 + 1 + 1 < c + 10 + 1 + 1 + 1 by omega)
  have f5 := scF_up (q := c) (k := 7) (scF_nw f4) (show c + 10 + 1 + 1 + 1 < c + 10 + 1 + 1 + 1 + 1 by omega)
  refine And.intro ⟨show c < c + 10 by omega, s1⟩ ?_
  refine Exists.intro 80640 (And.intro (by decide) (And.intro (by decide) (And.intro f1 (And.intro ⟨show c < c + 10 by omega, trivial⟩ (And.intro ⟨show c < c + 10 by omega, trivial⟩ (And.intro (Nat.le_of_ble_eq_true rfl) (And.intro (Nat.le_of_ble_eq_true rfl) ?_)))))))
  refine And.intro ⟨show c < c + 10 + 1 by omega, by rw [mj_nw_ne (by omega)]; exact s1⟩ ?_
  refine Exists.intro 315 (And.intro (by decide) (And.intro (by decide) (And.intro f2 (And.intro ⟨show c < c + 10 + 1 by omega, trivial⟩ (And.intro ⟨show c < c + 10 + 1 by omega, trivial⟩ (And.intro (Nat.le_of_ble_eq_true rfl) (And.intro (Nat.le_of_ble_eq_true rfl) ?_)))))))
  refine And.intro ⟨show c < c + 10 + 1 + 1 by omega, by rw [mj_nw_ne (by omega), mj_nw_ne (by omega)]; exact s1⟩ ?_
  refine Exists.intro 315 (And.intro (by decide) (And.intro (by decide) (And.intro f3 (And.intro ⟨show c < c + 10 + 1 + 1 by omega, trivial⟩ (And.intro ⟨show c < c + 10 + 1 + 1 by omega, trivial⟩ (And.intro (Nat.le_of_ble_eq_true rfl) (And.intro (Nat.le_of_ble_eq_true rfl) ?_)))))))
  refine And.intro ⟨show c < c + 10 + 1 + 1 + 1 by omega, by rw [mj_nw_ne (by omega), mj_nw_ne (by omega), mj_nw_ne (by omega)]; exact s1⟩ ?_
  refine Exists.intro 512 (And.intro (by decide) (And.intro (by decide) (And.intro f4 (And.intro ⟨show c < c + 10 + 1 + 1 + 1 by omega, trivial⟩ (And.intro ⟨show c < c + 10 + 1 + 1 + 1 by omega, trivial⟩ (And.intro (Nat.le_of_ble_eq_true rfl) (And.intro (Nat.le_of_ble_eq_true rfl) ?_)))))))
  refine And.intro ⟨show c < c + 10 + 1 + 1 + 1 + 1 by omega, by rw [mj_nw_ne (by omega), mj_nw_ne (by omega), mj_nw_ne (by omega), mj_nw_ne (by omega)]; exact s1⟩ ?_
  generalize hsh : mj_nw (mj_nw (mj_nw (mj_nw sh1 (c + 10) (3, 80640)) (c + 10 + 1) (3, 315)) (c + 10 + 1 + 1) (0, 315)) (c + 10 + 1 + 1 + 1) (0, 512) = sh8
  generalize hFR : mj_up (mj_nw (mj_up (mj_nw (mj_up (mj_nw (mj_up (mj_nw (mj_up FR1 c 0 (.inl (c + 1))) (c + 10) fun _ => .inr 0) c 4 (.inl (c + 10))) (c + 10 + 1) fun _ => .inr 0) c 5 (.inl (c + 10 + 1))) (c + 10 + 1 + 1) fun _ => .inr 0) c 6 (.inl (c + 10 + 1 + 1))) (c + 10 + 1 + 1 + 1) fun _ => .inr 0) c 7 (.inl (c + 10 + 1 + 1 + 1)) = FR8 at f5 ⊢
  generalize hIA : mj_nw (mj_nw (mj_nw (mj_nw IA1 (c + 10) fun _ => 0) (c + 10 + 1) fun _ => 0) (c + 10 + 1 + 1) fun _ => 0) (c + 10 + 1 + 1 + 1) (fun _ => 0) = IA8
  generalize hLA : mj_nw (mj_nw (mj_nw (mj_nw LA1 (c + 10) fun _ => 0) (c + 10 + 1) fun _ => 0) (c + 10 + 1 + 1) fun _ => 0) (c + 10 + 1 + 1 + 1) (fun _ => 0) = LA8
  have hlow : ∀ q, q < c + 10 → sh8 q = sh1 q ∧ IA8 q = IA1 q ∧ LA8 q = LA1 q ∧ (q ≠ c → FR8 q = FR1 q) := by
    intro q hq
    rw [← hsh, ← hIA, ← hLA, ← hFR]
    have e1 : ¬ q = c + 10 := by omega
    have e2 : ¬ q = c + 10 + 1 := by omega
    have e3 : ¬ q = c + 10 + 1 + 1 := by omega
    have e4 : ¬ q = c + 10 + 1 + 1 + 1 := by omega
    simp only [mj_nw, e1, e2, e3, e4, if_false]
    refine ⟨trivial, trivial, trivial, fun e0 => ?_⟩
    funext j
    simp only [mj_nw, mj_up, e0, e1, e2, e3, e4, if_false]
  have hlow2 : ∀ q, q < c + 1 → sh1 q = sh q ∧ FR1 q = FR q ∧ IA1 q = IA q ∧ LA1 q = LA q := by
    intro q hq
    have := p4 q hq
    rw [mj_nw_ne (show q ≠ c + 1 by omega), mj_nw_ne (show q ≠ c + 1 by omega), mj_nw_ne (show q ≠ c + 1 by omega), mj_nw_ne (show q ≠ c + 1 by omega)] at this
    exact this
  have hlow3 : ∀ q, q < c → gr sh FR IA LA c sh8 FR8 IA8 LA8 := by
    intro q hq q hq
    have z1 := hlow q (by omega)
    have z2 := hlow2 q (by omega)
    exact ⟨z1.1.trans z2.1, (z1.2.2.2 (by omega)).trans z2.2.1, z1.2.1.trans z2.2.2.1, z1.2.2.1.trans z2.2.2.2⟩
  refine ⟨⟨rfl, rfl, ⟨⟨by omega, ?_⟩, ?_, ?_, ?_, ?_, ?_, ⟨by omega, ?_⟩, ⟨by omega, ?_⟩, ⟨by omega, ?_⟩, ⟨by omega, ?_⟩⟩, isNet_up p2 (by omega) (fun q h1 h2 => (hlow q (by omega)).1) ((hlow (c + 1) (by omega)).2.2.2 (by omega)), f5, fun q hq => hlow3 q hq q hq, nN_up p6 (fun q h1 h2 => (hlow q (by omega)).2.1), fun k => ?_, fun j => ?_⟩, Nat.le_of_ble_eq_true rfl, Nat.le_of_ble_eq_true rfl⟩
  · rw [(hlow c (by omega)).1]
    exact s1
  · rw [← hFR]
    simp [mj_up, mj_nw, Nat.add_assoc]
  · rw [← hFR]
    simp [mj_up, mj_nw, Nat.add_assoc]
  · rw [← hFR]
    simp [mj_up, mj_nw, Nat.add_assoc]
  · rw [← hFR]
    simp [mj_up, mj_nw, Nat.add_assoc]
  · rw [← hFR]
    simp [mj_up, mj_nw, Nat.add_assoc]
  · rw [← hsh]
    simp [mj_nw, Nat.add_assoc]
  · rw [← hsh]
    simp [mj_nw, Nat.add_assoc]
  · rw [← hsh]
    simp [mj_nw, Nat.add_assoc]
  · rw [← hsh]
    simp [mj_nw, Nat.add_assoc]
  · rw [(hlow c (by omega)).2.1, (hlow2 c (by omega)).2.2.1]
    exact hI k
  · rw [← hLA]
    simp [mj_nw, Nat.add_assoc]
end KK
