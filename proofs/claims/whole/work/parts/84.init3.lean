/-! CONSTRUCTORS: LoopFinder, Writer -/
section KK
variable {sh : mj_Sh} {FR : mj_FR} {IA : mj_FI} {LA : mj_LA} {f w : Nat}
set_option maxHeartbeats 2000000 in
theorem ct_F_init (h0 : sh f = (6, 0)) (hF : mj_scF (f + 1) FR) (hI : ∀ k, IA f k = 0) : mj_Ct m_F_init [.inr (.inr (.inl f))] sh FR IA LA (f + 1) (fun o sh' FR' IA' LA' n' => o = .inl none ∧ n' = f + 3 ∧ isLf sh' FR' n' f ∧ mj_scF (f + 3) FR' ∧ gr sh FR IA LA f sh' FR' IA' LA' ∧ (∀ q, f ≤ q → q ≤ f + 2 → ∀ k, IA' q k = 0)) := by
  have f0 := hF
  have f1 := scF_up (q := f) (k := 0) (scF_nw f0) (show (f + 1) < (f + 1) + 1 by omega)
  have f2 := scF_up (q := f) (k := 1) (scF_nw f1) (show (f + 1 + 1) < (f + 1 + 1) + 1 by omega)
  generalize hsh : (mj_nw (mj_nw sh (f + 1) (0, 300)) (f + 1 + 1) (0, 315)) = sh8
  generalize hFR : (mj_up (mj_nw (mj_up (mj_nw FR (f + 1) fun _ => .inr 0) f 0 (.inl (f + 1))) (f + 1 + 1) fun _ => .inr 0) f 1 (.inl (f + 1 + 1))) = FR8 at f2
  generalize hIA : (mj_nw (mj_nw IA (f + 1) fun _ => 0) (f + 1 + 1) fun _ => 0) = IA8
  generalize hLA : (mj_nw (mj_nw LA (f + 1) fun _ => 0) (f + 1 + 1) fun _ => 0) = LA8
  have hlow : ∀ q, q < f + 1 → sh8 q = sh q ∧ IA8 q = IA q ∧ LA8 q = LA q ∧ (q ≠ f → FR8 q = FR q) := by
    intro q hq
    rw [← hsh, ← hIA, ← hLA, ← hFR]
    have e1 : ¬ q = (f + 1) := by omega
    have e2 : ¬ q = (f + 1 + 1) := by omega
    simp only [mj_nw, e1, e2, if_false]
    refine ⟨trivial, trivial, trivial, fun e0 => ?_⟩
    funext j
    simp only [mj_nw, mj_up, e0, e1, e2, if_false]
  refine mj_Ct_of (by decide +kernel) (by decide) (Nat.le_of_ble_eq_true rfl) ?_
  refine mj_go z_F_init [] 60 ?_
  refine And.intro (Nat.le_of_ble_eq_true rfl) ?_
  refine Exists.intro 300 (And.intro (by decide) (And.intro (by decide) (And.intro f0 (And.intro ⟨show f < f + 1 by omega, trivial⟩ (And.intro ⟨show f < f + 1 by omega, trivial⟩ (And.intro (Nat.le_of_ble_eq_true rfl) (And.intro (Nat.le_of_ble_eq_true rfl) ?_)))))))
  refine And.intro ⟨show f < f + 1 + 1 by omega, by rw [mj_nw_ne (by omega)]; exact h0⟩ ?_
  refine Exists.intro 315 (And.intro (by decide) (And.intro (by decide) (And.intro f1 (And.intro ⟨show f < f + 1 + 1 by omega, trivial⟩ (And.intro ⟨show f < f + 1 + 1 by omega, trivial⟩ (And.intro (Nat.le_of_ble_eq_true rfl) (And.intro (Nat.le_of_ble_eq_true rfl) ?_)))))))
  refine And.intro ⟨show f < f + 1 + 1 + 1 by omega, by rw [mj_nw_ne (by omega), mj_nw_ne (by omega)]; exact h0⟩ ?_
  rw [hsh, hFR, hIA, hLA]
  refine ⟨⟨rfl, rfl, ?_, f2, fun q hq => ?_, fun q h1 h2 k => ?_⟩, Nat.le_of_ble_eq_true rfl, Nat.le_of_ble_eq_true rfl⟩
  · rw [← hsh, ← hFR]
    refine ⟨⟨by omega, ?_⟩, ?_, ?_, ⟨by omega, ?_⟩, ⟨by omega, ?_⟩⟩ <;> simp [mj_up, mj_nw, h0, Nat.add_assoc]
  · have := hlow q (by omega)
    exact ⟨this.1, this.2.2.2 (by omega), this.2.1, this.2.2.1⟩
  · by_cases e : q = f
    · subst e
      rw [(hlow q (by omega)).2.1]
      exact hI k
    · rw [← hIA]
      rcases (show q = f + 1 ∨ q = f + 2 by omega) with e | e <;> subst e <;> simp [mj_nw, Nat.add_assoc]
set_option maxHeartbeats 2000000 in
theorem ct_W_init (h0 : sh w = (9, 0)) (hF : mj_scF (w + 1) FR) (hI : ∀ k, IA w k = 0) : mj_Ct m_W_init [.inr (.inr (.inl w))] sh FR IA LA (w + 1) (fun o sh' FR' IA' LA' n' => o = .inl none ∧ n' = w + 7 ∧ isW sh' FR' n' w ∧ mj_scF (w + 7) FR' ∧ gr sh FR IA LA w sh' FR' IA' LA' ∧ (∀ q, w ≤ q → q ≤ w + 6 → ∀ k, IA' q k = 0)) := by
  have f0 := hF
  have f1 := scF_up (q := w) (k := 1) (scF_nw f0) (show (w + 1) < (w + 1) + 1 by omega)
  have f2 := scF_up (q := w) (k := 2) (scF_nw f1) (show (w + 1 + 1) < (w + 1 + 1) + 1 by omega)
  have f3 := scF_up (q := w) (k := 3) (scF_nw f2) (show (w + 1 + 1 + 1) < (w + 1 + 1 + 1) + 1 by omega)
  have f4 := scF_up (q := w) (k := 4) (scF_nw f3) (show (w + 1 + 1 + 1 + 1) < (w + 1 + 1 + 1 + 1) + 1 by omega)
  have f5 := scF_up (q := w) (k := 5) (scF_nw f4) (show (w + 1 + 1 + 1 + 1 + 1) < (w + 1 + 1 + 1 + 1 + 1) + 1 by omega)
  have f6 := scF_up (q := w) (k := 6) (scF_nw f5) (show (w + 1 + 1 + 1 + 1 + 1 + 1) < (w + 1 + 1 + 1 + 1 + 1 + 1) + 1 by omega)
  generalize hsh : (mj_nw (mj_nw (mj_nw (mj_nw (mj_nw (mj_nw sh (w + 1) (1, 4096)) (w + 1 + 1) (0, 315)) (w + 1 + 1 + 1) (2, 315)) (w + 1 + 1 + 1 + 1) (0, 315)) (w + 1 + 1 + 1 + 1 + 1) (0, 315)) (w + 1 + 1 + 1 + 1 + 1 + 1) (0, 302)) = sh8
  generalize hFR : (mj_up (mj_nw (mj_up (mj_nw (mj_up (mj_nw (mj_up (mj_nw (mj_up (mj_nw (mj_up (mj_nw FR (w + 1) fun _ => .inr 0) w 1 (.inl (w + 1))) (w + 1 + 1) fun _ => .inr 0) w 2 (.inl (w + 1 + 1))) (w + 1 + 1 + 1) fun _ => .inr 0) w 3 (.inl (w + 1 + 1 + 1))) (w + 1 + 1 + 1 + 1) fun _ => .inr 0) w 4 (.inl (w + 1 + 1 + 1 + 1))) (w + 1 + 1 + 1 + 1 + 1) fun _ => .inr 0) w 5 (.inl (w + 1 + 1 + 1 + 1 + 1))) (w + 1 + 1 + 1 + 1 + 1 + 1) fun _ => .inr 0) w 6 (.inl (w + 1 + 1 + 1 + 1 + 1 + 1))) = FR8 at f6
  generalize hIA : (mj_nw (mj_nw (mj_nw (mj_nw (mj_nw (mj_nw IA (w + 1) fun _ => 0) (w + 1 + 1) fun _ => 0) (w + 1 + 1 + 1) fun _ => 0) (w + 1 + 1 + 1 + 1) fun _ => 0) (w + 1 + 1 + 1 + 1 + 1) fun _ => 0) (w + 1 + 1 + 1 + 1 + 1 + 1) fun _ => 0) = IA8
  generalize hLA : (mj_nw (mj_nw (mj_nw (mj_nw (mj_nw (mj_nw LA (w + 1) fun _ => 0) (w + 1 + 1) fun _ => 0) (w + 1 + 1 + 1) fun _ => 0) (w + 1 + 1 + 1 + 1) fun _ => 0) (w + 1 + 1 + 1 + 1 + 1) fun _ => 0) (w + 1 + 1 + 1 + 1 + 1 + 1) fun _ => 0) = LA8
  have hlow : ∀ q, q < w + 1 → sh8 q = sh q ∧ IA8 q = IA q ∧ LA8 q = LA q ∧ (q ≠ w → FR8 q = FR q) := by
    intro q hq
    rw [← hsh, ← hIA, ← hLA, ← hFR]
    have e1 : ¬ q = (w + 1) := by omega
    have e2 : ¬ q = (w + 1 + 1) := by omega
    have e3 : ¬ q = (w + 1 + 1 + 1) := by omega
    have e4 : ¬ q = (w + 1 + 1 + 1 + 1) := by omega
    have e5 : ¬ q = (w + 1 + 1 + 1 + 1 + 1) := by omega
    have e6 : ¬ q = (w + 1 + 1 + 1 + 1 + 1 + 1) := by omega
    simp only [mj_nw, e1, e2, e3, e4, e5, e6, if_false]
    refine ⟨trivial, trivial, trivial, fun e0 => ?_⟩
    funext j
    simp only [mj_nw, mj_up, e0, e1, e2, e3, e4, e5, e6, if_false]
  refine mj_Ct_of (by decide +kernel) (by decide) (Nat.le_of_ble_eq_true rfl) ?_
  refine mj_go z_W_init [] 60 ?_
  refine And.intro (Nat.le_of_ble_eq_true rfl) ?_
  refine Exists.intro 4096 (And.intro (by decide) (And.intro (by decide) (And.intro f0 (And.intro ⟨show w < w + 1 by omega, trivial⟩ (And.intro ⟨show w < w + 1 by omega, trivial⟩ (And.intro (Nat.le_of_ble_eq_true rfl) (And.intro (Nat.le_of_ble_eq_true rfl) ?_)))))))
  refine And.intro ⟨show w < w + 1 + 1 by omega, by rw [mj_nw_ne (by omega)]; exact h0⟩ ?_
  refine Exists.intro 315 (And.intro (by decide) (And.intro (by decide) (And.intro f1 (And.intro ⟨show w < w + 1 + 1 by omega, trivial⟩ (And.intro ⟨show w < w + 1 + 1 by omega, trivial⟩ (And.intro (Nat.le_of_ble_eq_true rfl) (And.intro (Nat.le_of_ble_eq_true rfl) ?_)))))))
  refine And.intro ⟨show w < w + 1 + 1 + 1 by omega, by rw [mj_nw_ne (by omega), mj_nw_ne (by omega)]; exact h0⟩ ?_
  refine Exists.intro 315 (And.intro (by decide) (And.intro (by decide) (And.intro f2 (And.intro ⟨show w < w + 1 + 1 + 1 by omega, trivial⟩ (And.intro ⟨show w < w + 1 + 1 + 1 by omega, trivial⟩ (And.intro (Nat.le_of_ble_eq_true rfl) (And.intro (Nat.le_of_ble_eq_true rfl) ?_)))))))
  refine And.intro ⟨show w < w + 1 + 1 + 1 + 1 by omega, by rw [mj_nw_ne (by omega), mj_nw_ne (by omega), mj_nw_ne (by omega)]; exact h0⟩ ?_
  refine Exists.intro 315 (And.intro (by decide) (And.intro (by decide) (And.intro f3 (And.intro ⟨show w < w + 1 + 1 + 1 + 1 by omega, trivial⟩ (And.intro ⟨show w < w + 1 + 1 + 1 + 1 by omega, trivial⟩ (And.intro (Nat.le_of_ble_eq_true rfl) (And.intro (Nat.le_of_ble_eq_true rfl) ?_)))))))
  refine And.intro ⟨show w < w + 1 + 1 + 1 + 1 + 1 by omega, by rw [mj_nw_ne (by omega), mj_nw_ne (by omega), mj_nw_ne (by omega), mj_nw_ne (by omega)]; exact h0⟩ ?_
  refine Exists.intro 315 (And.intro (by decide) (And.intro (by decide) (And.intro f4 (And.intro ⟨show w < w + 1 + 1 + 1 + 1 + 1 by omega, trivial⟩ (And.intro ⟨show w < w + 1 + 1 + 1 + 1 + 1 by omega, trivial⟩ (And.intro (Nat.le_of_ble_eq_true rfl) (And.intro (Nat.le_of_ble_eq_true rfl) ?_)))))))
  refine And.intro ⟨show w < w + 1 + 1 + 1 + 1 + 1 + 1 by omega, by rw [mj_nw_ne (by omega), mj_nw_ne (by omega), mj_nw_ne (by omega), mj_nw_ne (by omega), mj_nw_ne (by omega)]; exact h0⟩ ?_
  refine Exists.intro 302 (And.intro (by decide) (And.intro (by decide) (And.intro f5 (And.intro ⟨show w < w + 1 + 1 + 1 + 1 + 1 + 1 by omega, trivial⟩ (And.intro ⟨show w < w + 1 + 1 + 1 + 1 + 1 + 1 by omega, trivial⟩ (And.intro (Nat.le_of_ble_eq_true rfl) (And.intro (Nat.le_of_ble_eq_true rfl) ?_)))))))
  refine And.intro ⟨show w < w + 1 + 1 + 1 + 1 + 1 + 1 + 1 by omega, by rw [mj_nw_ne (by omega), mj_nw_ne (by omega), mj_nw_ne (by omega), mj_nw_ne (by omega), mj_nw_ne (by omega), mj_nw_ne (by omega)]; exact h0⟩ ?_
  rw [hsh, hFR, hIA, hLA]
  refine ⟨⟨rfl, rfl, ?_, f6, fun q hq => ?_, fun q h1 h2 k => ?_⟩, Nat.le_of_ble_eq_true rfl, Nat.le_of_ble_eq_true rfl⟩
  · rw [← hsh, ← hFR]
    refine ⟨⟨by omega, ?_⟩, ?_, ?_, ?_, ?_, ?_, ?_, ⟨by omega, ?_⟩, ⟨by omega, ?_⟩, ⟨by omega, ?_⟩, ⟨by omega, ?_⟩, ⟨by omega, ?_⟩, ⟨by omega, ?_⟩⟩ <;> simp [mj_up, mj_nw, h0, Nat.add_assoc]
  · have := hlow q (by omega)
    exact ⟨this.1, this.2.2.2 (by omega), this.2.1, this.2.2.1⟩
  · by_cases e : q = w
    · subst e
      rw [(hlow q (by omega)).2.1]
      exact hI k
    · rw [← hIA]
      rcases (show q = w + 1 ∨ q = w + 2 ∨ q = w + 3 ∨ q = w + 4 ∨ q = w + 5 ∨ q = w + 6 by omega) with e | e | e | e | e | e <;> subst e <;> simp [mj_nw, Nat.add_assoc]
end KK
