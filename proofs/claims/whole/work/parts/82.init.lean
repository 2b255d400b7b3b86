/-! CONSTRUCTORS -/
theorem scF_nw {FR : mj_FR} {n : Nat} (h : mj_scF n FR) : mj_scF (n + 1) (mj_nw FR n fun _ => .inr 0) := by
  intro q k hq
  by_cases e : q = n
  · rw [e, mj_nw_eq]
    trivial
  · rw [mj_nw_ne e]
    have := h q k (by omega)
    unfold mj_scr at this ⊢
    split
    · rename_i x hx
      rw [hx] at this
      have : x < n := this
      omega
    · trivial
theorem scF_up {FR : mj_FR} {n q k r : Nat} (h : mj_scF n FR) (hr : r < n) : mj_scF n (mj_up FR q k (.inl r)) := by
  intro a j ha
  unfold mj_up
  split
  · split
    · exact hr
    · exact h a j ha
  · exact h a j ha
/-- what was there stays -/
def gr (sh : mj_Sh) (FR : mj_FR) (IA : mj_FI) (LA : mj_LA) (b : Nat) (sh' : mj_Sh) (FR' : mj_FR) (IA' : mj_FI) (LA' : mj_LA) : Prop := ∀ q, q < b → sh' q = sh q ∧ FR' q = FR q ∧ IA' q = IA q ∧ LA' q = LA q
/-- a new net: no variables -/
def nN (IA : mj_FI) (b : Nat) : Prop := IA b 9 = 0 ∧ IA b 10 = 0 ∧ IA b 11 = 0 ∧ IA b 12 = 0 ∧ IA (b + 1) 0 = 0 ∧ (∀ j, 1 ≤ j → j < 1001 → IA (b + 1) j = -1) ∧ (∀ k, 2 ≤ k → k ≤ 8 → ∀ j, IA (b + k) j = 0)
section KK
variable {sh : mj_Sh} {FR : mj_FR} {IA : mj_FI} {LA : mj_LA} {b : Nat}
set_option maxHeartbeats 2000000 in
theorem ct_N_init (h0 : sh b = (7, 0)) (hF : mj_scF (b + 1) FR) : mj_Ct m_N_init [.inr (.inr (.inl b))] sh FR IA LA (b + 1) (fun o sh' FR' IA' LA' n' => o = .inl none ∧ n' = b + 9 ∧ isNet sh' FR' n' b ∧ mj_scF (b + 9) FR' ∧ gr sh FR IA LA b sh' FR' IA' LA' ∧ LA' b = LA b ∧ nN IA' b) := by
  have f0 := hF
  have g0 := scF_nw f0
  have f1 := scF_up (q := b) (k := 0) g0 (show (b + 1) < (b + 1) + 1 by omega)
  have g1 := scF_nw f1
  have f2 := scF_up (q := b) (k := 1) g1 (show (b + 1 + 1) < (b + 1 + 1) + 1 by omega)
  have g2 := scF_nw f2
  have f3 := scF_up (q := b) (k := 2) g2 (show (b + 1 + 1 + 1) < (b + 1 + 1 + 1) + 1 by omega)
  have g3 := scF_nw f3
  have f4 := scF_up (q := b) (k := 3) g3 (show (b + 1 + 1 + 1 + 1) < (b + 1 + 1 + 1 + 1) + 1 by omega)
  have g4 := scF_nw f4
  have f5 := scF_up (q := b) (k := 4) g4 (show (b + 1 + 1 + 1 + 1 + 1) < (b + 1 + 1 + 1 + 1 + 1) + 1 by omega)
  have g5 := scF_nw f5
  have f6 := scF_up (q := b) (k := 5) g5 (show (b + 1 + 1 + 1 + 1 + 1 + 1) < (b + 1 + 1 + 1 + 1 + 1 + 1) + 1 by omega)
  have g6 := scF_nw f6
  have f7 := scF_up (q := b) (k := 6) g6 (show (b + 1 + 1 + 1 + 1 + 1 + 1 + 1) < (b + 1 + 1 + 1 + 1 + 1 + 1 + 1) + 1 by omega)
  have g7 := scF_nw f7
  have f8 := scF_up (q := b) (k := 7) g7 (show (b + 1 + 1 + 1 + 1 + 1 + 1 + 1 + 1) < (b + 1 + 1 + 1 + 1 + 1 + 1 + 1 + 1) + 1 by omega)
  generalize hsh : (mj_nw (mj_nw (mj_nw (mj_nw (mj_nw (mj_nw (mj_nw (mj_nw sh (b + 1) (0, 1001)) (b + 1 + 1) (0, 315)) (b + 1 + 1 + 1) (0, 315)) (b + 1 + 1 + 1 + 1) (0, 315)) (b + 1 + 1 + 1 + 1 + 1) (0, 16)) (b + 1 + 1 + 1 + 1 + 1 + 1) (0, 315)) (b + 1 + 1 + 1 + 1 + 1 + 1 + 1) (0, 300)) (b + 1 + 1 + 1 + 1 + 1 + 1 + 1 + 1) (0, 300)) = sh8
  generalize hFR : (mj_up (mj_nw (mj_up (mj_nw (mj_up (mj_nw (mj_up (mj_nw (mj_up (mj_nw (mj_up (mj_nw (mj_up (mj_nw (mj_up (mj_nw FR (b + 1) fun _ => .inr 0) b 0 (.inl (b + 1))) (b + 1 + 1) fun _ => .inr 0) b 1 (.inl (b + 1 + 1))) (b + 1 + 1 + 1) fun _ => .inr 0) b 2 (.inl (b + 1 + 1 + 1))) (b + 1 + 1 + 1 + 1) fun _ => .inr 0) b 3 (.inl (b + 1 + 1 + 1 + 1))) (b + 1 + 1 + 1 + 1 + 1) fun _ => .inr 0) b 4 (.inl (b + 1 + 1 + 1 + 1 + 1))) (b + 1 + 1 + 1 + 1 + 1 + 1) fun _ => .inr 0) b 5 (.inl (b + 1 + 1 + 1 + 1 + 1 + 1))) (b + 1 + 1 + 1 + 1 + 1 + 1 + 1) fun _ => .inr 0) b 6 (.inl (b + 1 + 1 + 1 + 1 + 1 + 1 + 1))) (b + 1 + 1 + 1 + 1 + 1 + 1 + 1 + 1) fun _ => .inr 0) b 7 (.inl (b + 1 + 1 + 1 + 1 + 1 + 1 + 1 + 1))) = FR8 at f8
  generalize hIA : (mj_nw (mj_nw (mj_nw (mj_nw (mj_nw (mj_nw (mj_nw (mj_nw IA (b + 1) fun _ => 0) (b + 1 + 1) fun _ => 0) (b + 1 + 1 + 1) fun _ => 0) (b + 1 + 1 + 1 + 1) fun _ => 0) (b + 1 + 1 + 1 + 1 + 1) fun _ => 0) (b + 1 + 1 + 1 + 1 + 1 + 1) fun _ => 0) (b + 1 + 1 + 1 + 1 + 1 + 1 + 1) fun _ => 0) (b + 1 + 1 + 1 + 1 + 1 + 1 + 1 + 1) fun _ => 0) = IA8
  generalize hLA : (mj_nw (mj_nw (mj_nw (mj_nw (mj_nw (mj_nw (mj_nw (mj_nw LA (b + 1) fun _ => 0) (b + 1 + 1) fun _ => 0) (b + 1 + 1 + 1) fun _ => 0) (b + 1 + 1 + 1 + 1) fun _ => 0) (b + 1 + 1 + 1 + 1 + 1) fun _ => 0) (b + 1 + 1 + 1 + 1 + 1 + 1) fun _ => 0) (b + 1 + 1 + 1 + 1 + 1 + 1 + 1) fun _ => 0) (b + 1 + 1 + 1 + 1 + 1 + 1 + 1 + 1) fun _ => 0) = LA8
  have hN : isNet sh8 FR8 (b + 9) b := by
    rw [← hsh, ← hFR]
    refine ⟨⟨by omega, ?_⟩, ?_, ?_, ?_, ?_, ?_, ?_, ?_, ?_, ⟨by omega, ?_⟩, ⟨by omega, ?_⟩, ⟨by omega, ?_⟩, ⟨by omega, ?_⟩, ⟨by omega, ?_⟩, ⟨by omega, ?_⟩, ⟨by omega, ?_⟩, ⟨by omega, ?_⟩⟩ <;> simp [mj_up, mj_nw, h0, Nat.add_assoc]
  refine mj_Ct_of (by decide +kernel) (by decide) (Nat.le_of_ble_eq_true rfl) ?_
  refine mj_go z_N_init [] 60 ?_
  refine And.intro (Nat.le_of_ble_eq_true rfl) ?_
  refine Exists.intro 1001 (And.intro (by decide) (And.intro (by decide) (And.intro f0 (And.intro ⟨show b < b + 1 by omega, trivial⟩ (And.intro ⟨show b < b + 1 by omega, trivial⟩ (And.intro (Nat.le_of_ble_eq_true rfl) (And.intro (Nat.le_of_ble_eq_true rfl) ?_)))))))
  refine And.intro ⟨show b < b + 1 + 1 by omega, by rw [mj_nw_ne (by omega)]; exact h0⟩ ?_
  refine Exists.intro 315 (And.intro (by decide) (And.intro (by decide) (And.intro f1 (And.intro ⟨show b < b + 2 by omega, trivial⟩ (And.intro ⟨show b < b + 2 by omega, trivial⟩ (And.intro (Nat.le_of_ble_eq_true rfl) (And.intro (Nat.le_of_ble_eq_true rfl) ?_)))))))
  refine And.intro ⟨show b < b + 2 + 1 by omega, by simp [mj_nw, h0, Nat.add_assoc]⟩ ?_
  refine Exists.intro 315 (And.intro (by decide) (And.intro (by decide) (And.intro f2 (And.intro ⟨show b < b + 3 by omega, trivial⟩ (And.intro ⟨show b < b + 3 by omega, trivial⟩ (And.intro (Nat.le_of_ble_eq_true rfl) (And.intro (Nat.le_of_ble_eq_true rfl) ?_)))))))
  refine And.intro ⟨show b < b + 3 + 1 by omega, by simp [mj_nw, h0, Nat.add_assoc]⟩ ?_
  refine Exists.intro 315 (And.intro (by decide) (And.intro (by decide) (And.intro f3 (And.intro ⟨show b < b + 4 by omega, trivial⟩ (And.intro ⟨show b < b + 4 by omega, trivial⟩ (And.intro (Nat.le_of_ble_eq_true rfl) (And.intro (Nat.le_of_ble_eq_true rfl) ?_)))))))
  refine And.intro ⟨show b < b + 4 + 1 by omega, by simp [mj_nw, h0, Nat.add_assoc]⟩ ?_
  refine Exists.intro 16 (And.intro (by decide) (And.intro (by decide) (And.intro f4 (And.intro ⟨show b < b + 5 by omega, trivial⟩ (And.intro ⟨show b < b + 5 by omega, trivial⟩ (And.intro (Nat.le_of_ble_eq_true rfl) (And.intro (Nat.le_of_ble_eq_true rfl) ?_)))))))
  refine And.intro ⟨show b < b + 5 + 1 by omega, by simp [mj_nw, h0, Nat.add_assoc]⟩ ?_
  refine Exists.intro 315 (And.intro (by decide) (And.intro (by decide) (And.intro f5 (And.intro ⟨show b < b + 6 by omega, trivial⟩ (And.intro ⟨show b < b + 6 by omega, trivial⟩ (And.intro (Nat.le_of_ble_eq_true rfl) (And.intro (Nat.le_of_ble_eq_true rfl) ?_)))))))
  refine And.intro ⟨show b < b + 6 + 1 by omega, by simp [mj_nw, h0, Nat.add_assoc]⟩ ?_
  refine Exists.intro 300 (And.intro (by decide) (And.intro (by decide) (And.intro f6 (And.intro ⟨show b < b + 7 by omega, trivial⟩ (And.intro ⟨show b < b + 7 by omega, trivial⟩ (And.intro (Nat.le_of_ble_eq_true rfl) (And.intro (Nat.le_of_ble_eq_true rfl) ?_)))))))
  refine And.intro ⟨show b < b + 7 + 1 by omega, by simp [mj_nw, h0, Nat.add_assoc]⟩ ?_
  refine Exists.intro 300 (And.intro (by decide) (And.intro (by decide) (And.intro f7 (And.intro ⟨show b < b + 8 by omega, trivial⟩ (And.intro ⟨show b < b + 8 by omega, trivial⟩ (And.intro (Nat.le_of_ble_eq_true rfl) (And.intro (Nat.le_of_ble_eq_true rfl) ?_)))))))
  refine And.intro ⟨show b < b + 8 + 1 by omega, by simp [mj_nw, h0, Nat.add_assoc]⟩ ?_
  rw [hsh, hFR, hIA, hLA]
  refine And.intro hN.1 (And.intro (Nat.le_of_ble_eq_true rfl) (And.intro (Nat.le_of_ble_eq_true rfl) (And.intro (Nat.le_of_ble_eq_true rfl) (Exists.intro _ (And.intro (ct_N_begin hN) ?_)))))
  rintro r9 sh9 FR9 IA9 LA9 n9 ⟨z0, z1, z2, z3, z4, z5⟩
  subst z0
  replace z1 := z1.symm
  subst z1
  replace z2 := z2.symm
  subst z2
  replace z3 := z3.symm
  subst z3
  replace z4 := z4.symm
  subst z4
  replace z5 := z5.symm
  subst z5
  refine And.intro (Or.inl rfl) ?_
  have hlow : ∀ q, q < b + 1 → sh8 q = sh q ∧ IA8 q = IA q ∧ LA8 q = LA q := by
    intro q hq
    rw [← hsh, ← hIA, ← hLA]
    have e1 : ¬ q = b + 1 := by omega
    have e2 : ¬ q = b + 1 + 1 := by omega
    have e3 : ¬ q = b + 1 + 1 + 1 := by omega
    have e4 : ¬ q = b + 1 + 1 + 1 + 1 := by omega
    have e5 : ¬ q = b + 1 + 1 + 1 + 1 + 1 := by omega
    have e6 : ¬ q = b + 1 + 1 + 1 + 1 + 1 + 1 := by omega
    have e7 : ¬ q = b + 1 + 1 + 1 + 1 + 1 + 1 + 1 := by omega
    have e8 : ¬ q = b + 1 + 1 + 1 + 1 + 1 + 1 + 1 + 1 := by omega
    simp only [mj_nw, e1, e2, e3, e4, e5, e6, e7, e8, if_false]
    exact ⟨trivial, trivial, trivial⟩
  have hFlow : ∀ q, q < b → FR8 q = FR q := by
    intro q hq
    rw [← hFR]
    have e0 : ¬ q = b := by omega
    have e1 : ¬ q = b + 1 := by omega
    have e2 : ¬ q = b + 1 + 1 := by omega
    have e3 : ¬ q = b + 1 + 1 + 1 := by omega
    have e4 : ¬ q = b + 1 + 1 + 1 + 1 := by omega
    have e5 : ¬ q = b + 1 + 1 + 1 + 1 + 1 := by omega
    have e6 : ¬ q = b + 1 + 1 + 1 + 1 + 1 + 1 := by omega
    have e7 : ¬ q = b + 1 + 1 + 1 + 1 + 1 + 1 + 1 := by omega
    have e8 : ¬ q = b + 1 + 1 + 1 + 1 + 1 + 1 + 1 + 1 := by omega
    funext j
    simp only [mj_nw, mj_up, e0, e1, e2, e3, e4, e5, e6, e7, e8, if_false]
  have hnew : ∀ k, 1 ≤ k → k ≤ 8 → ∀ j, IA8 (b + k) j = 0 := by
    intro k h1 h2 j
    rw [← hIA]
    rcases (show k = 1 ∨ k = 2 ∨ k = 3 ∨ k = 4 ∨ k = 5 ∨ k = 6 ∨ k = 7 ∨ k = 8 by omega) with e | e | e | e | e | e | e | e <;> subst e <;> simp [mj_nw, Nat.add_assoc]
  have hbeg : ∀ q, q ≠ b → q ≠ b + 1 → nt_begin IA8 b 0 0 0 0 q = IA8 q := fun q z1 z2 => by
    unfold nt_begin
    rw [mj_up_ne z2]
    funext j
    simp only [mj_fl, z2, false_and, if_false]
    rw [mj_up_ne z1, mj_up_ne z1, mj_up_ne z1, mj_up_ne z1]
  have hbb : ∀ k, nt_begin IA8 b 0 0 0 0 b k = mj_up (mj_up (mj_up (mj_up IA8 b 9 0) b 10 0) b 12 0) b 11 0 b k := fun k => by
    unfold nt_begin
    rw [mj_up_ne (by omega)]
    have : ¬ b = b + 1 := by omega
    simp only [mj_fl, this, false_and, if_false]
  refine ⟨⟨rfl, rfl, hN, f8, fun q hq => ?_, ?_, ?_, ?_, ?_, ?_, ?_, fun j h1 h2 => ?_, fun k h1 h2 j => ?_⟩, Nat.le_of_ble_eq_true rfl, Nat.le_of_ble_eq_true rfl⟩
  · have := hlow q (by omega)
    exact ⟨this.1, hFlow q hq, by rw [hbeg q (by omega) (by omega)]; exact this.2.1, this.2.2⟩
  · exact (hlow b (by omega)).2.2
  · rw [hbb, mj_up_k (by decide), mj_up_k (by decide), mj_up_k (by decide), mj_up_at]
  · rw [hbb, mj_up_k (by decide), mj_up_k (by decide), mj_up_at]
  · rw [hbb, mj_up_at]
  · rw [hbb, mj_up_k (by decide), mj_up_at]
  · unfold nt_begin
    rw [mj_up_at]
  · unfold nt_begin
    rw [mj_up_k (by omega)]
    simp only [mj_fl, h2, true_and, if_true]
  · rw [hbeg (b + k) (by omega) (by omega)]
    exact hnew k (by omega) h2 j
end KK
