/-! THE LAW: its helpers -/
/-- how a helper ends: the answer noted, or the exception's number -/
def lH (Q1 : mj_Q) (kd : Nat → Int) : mj_Q := fun o sh FR IA LA n => (∃ (z : Int) (LA1 : mj_LA), o = .inl (some (.inl 0)) ∧ Q1 (.inl (some (.inl z))) sh FR IA LA1 n ∧ LA = mj_up LA1 77 0 (BitVec.ofInt 64 (mj_w z))) ∨ (∃ e : Nat, Q1 (.inr e) sh FR IA LA n ∧ o = .inl (some (.inl (kd e))))
def lHl (Q1 : mj_Q) (kd : Nat → Int) : mj_Q := fun o sh FR IA LA n => (∃ (v : BitVec 64) (LA1 : mj_LA), o = .inl (some (.inl 0)) ∧ Q1 (.inl (some (.inr (.inl v)))) sh FR IA LA1 n ∧ LA = mj_up LA1 77 0 v) ∨ (∃ e : Nat, Q1 (.inr e) sh FR IA LA n ∧ o = .inl (some (.inl (kd e))))
section LL
variable {sh : mj_Sh} {FR : mj_FR} {IA : mj_FI} {LA : mj_LA} {n : Nat}
theorem ct_L_feed {a1 : Int} {a2 : BitVec 64} {Q1 : mj_Q} (h0 : mj_is sh n 0 4 0) (hA : mj_is sh n 77 3 1) (hc : mj_Ct m_T_feed [.inr (.inr (.inl 0)), .inl a1, .inr (.inl a2)] sh FR IA LA n Q1) (h1 : ∀ o sh1 FR1 IA1 LA1 n1, Q1 o sh1 FR1 IA1 LA1 n1 → sh1 = sh ∧ n1 = n ∧ ((∃ z : Int, o = .inl (some (.inl z))) ∨ o = .inr 0 ∨ o = .inr 1)) : mj_Ct m_L_feed [.inr (.inr (.inl 0)), .inl a1, .inr (.inl a2), .inr (.inr (.inl 77))] sh FR IA LA n (lH Q1 (fun e => if e = 0 then 1 else 2)) := by
  refine mj_Ct_of (by decide +kernel) (by decide) (Nat.le_of_ble_eq_true rfl) ?_
  refine mj_go z_L_feed [] 60 ?_
  refine And.intro h0 (And.intro (Nat.le_of_ble_eq_true rfl) (And.intro (Nat.le_of_ble_eq_true rfl) (And.intro (Nat.le_of_ble_eq_true rfl) (Exists.intro _ (And.intro hc ?_)))))
  intro o9 sh9 FR9 IA9 LA9 n9 hq
  obtain ⟨z1, z2, z3⟩ := h1 _ _ _ _ _ _ hq
  replace z1 := z1.symm
  subst z1
  replace z2 := z2.symm
  subst z2
  rcases z3 with ⟨z, e⟩ | e | e
  · subst e
    refine And.intro (Or.inl rfl) ?_
    refine Exists.intro _ (Exists.intro 0 (And.intro hA (And.intro (by decide) (And.intro (by decide) ?_))))
    exact ⟨Or.inl ⟨z, LA9, rfl, hq, rfl⟩, Nat.le_of_ble_eq_true rfl, Nat.le_of_ble_eq_true rfl⟩
  · subst e
    refine And.intro (Or.inl rfl) ?_
    exact ⟨Or.inr ⟨0, hq, rfl⟩, Nat.le_of_ble_eq_true rfl, Nat.le_of_ble_eq_true rfl⟩
  · subst e
    refine And.intro (Or.inl rfl) ?_
    exact ⟨Or.inr ⟨1, hq, rfl⟩, Nat.le_of_ble_eq_true rfl, Nat.le_of_ble_eq_true rfl⟩
theorem ct_L_load {a1 : Int} {Q1 : mj_Q} (h0 : mj_is sh n 0 4 0) (hA : mj_is sh n 77 3 1) (hc : mj_Ct m_T_load [.inr (.inr (.inl 0)), .inl a1] sh FR IA LA n Q1) (h1 : ∀ o sh1 FR1 IA1 LA1 n1, Q1 o sh1 FR1 IA1 LA1 n1 → sh1 = sh ∧ n1 = n ∧ ((∃ z : Int, o = .inl (some (.inl z))) ∨ o = .inr 0)) : mj_Ct m_L_load [.inr (.inr (.inl 0)), .inl a1, .inr (.inr (.inl 77))] sh FR IA LA n (lH Q1 (fun _ => 1)) := by
  refine mj_Ct_of (by decide +kernel) (by decide) (Nat.le_of_ble_eq_true rfl) ?_
  refine mj_go z_L_load [] 60 ?_
  refine And.intro h0 (And.intro (Nat.le_of_ble_eq_true rfl) (And.intro (Nat.le_of_ble_eq_true rfl) (And.intro (Nat.le_of_ble_eq_true rfl) (Exists.intro _ (And.intro hc ?_)))))
  intro o9 sh9 FR9 IA9 LA9 n9 hq
  obtain ⟨z1, z2, z3⟩ := h1 _ _ _ _ _ _ hq
  replace z1 := z1.symm
  subst z1
  replace z2 := z2.symm
  subst z2
  rcases z3 with ⟨z, e⟩ | e
  · subst e
    refine And.intro (Or.inl rfl) ?_
    refine Exists.intro _ (Exists.intro 0 (And.intro hA (And.intro (by decide) (And.intro (by decide) ?_))))
    exact ⟨Or.inl ⟨z, LA9, rfl, hq, rfl⟩, Nat.le_of_ble_eq_true rfl, Nat.le_of_ble_eq_true rfl⟩
  · subst e
    refine And.intro (Or.inl rfl) ?_
    exact ⟨Or.inr ⟨0, hq, rfl⟩, Nat.le_of_ble_eq_true rfl, Nat.le_of_ble_eq_true rfl⟩
theorem ct_L_literal {a1 : Int} {a2 : Int} {a3 : Int} {Q1 : mj_Q} (h0 : mj_is sh n 0 4 0) (hA : mj_is sh n 77 3 1) (hc : mj_Ct m_T_literal [.inr (.inr (.inl 0)), .inl a1, .inl a2, .inl a3] sh FR IA LA n Q1) (h1 : ∀ o sh1 FR1 IA1 LA1 n1, Q1 o sh1 FR1 IA1 LA1 n1 → sh1 = sh ∧ n1 = n ∧ ((∃ z : Int, o = .inl (some (.inl z))) ∨ o = .inr 0 ∨ o = .inr 2)) : mj_Ct m_L_literal [.inr (.inr (.inl 0)), .inl a1, .inl a2, .inl a3, .inr (.inr (.inl 77))] sh FR IA LA n (lH Q1 (fun e => if e = 0 then 1 else 2)) := by
  refine mj_Ct_of (by decide +kernel) (by decide) (Nat.le_of_ble_eq_true rfl) ?_
  refine mj_go z_L_literal [] 60 ?_
  refine And.intro h0 (And.intro (Nat.le_of_ble_eq_true rfl) (And.intro (Nat.le_of_ble_eq_true rfl) (And.intro (Nat.le_of_ble_eq_true rfl) (Exists.intro _ (And.intro hc ?_)))))
  intro o9 sh9 FR9 IA9 LA9 n9 hq
  obtain ⟨z1, z2, z3⟩ := h1 _ _ _ _ _ _ hq
  replace z1 := z1.symm
  subst z1
  replace z2 := z2.symm
  subst z2
  rcases z3 with ⟨z, e⟩ | e | e
  · subst e
    refine And.intro (Or.inl rfl) ?_
    refine Exists.intro _ (Exists.intro 0 (And.intro hA (And.intro (by decide) (And.intro (by decide) ?_))))
    exact ⟨Or.inl ⟨z, LA9, rfl, hq, rfl⟩, Nat.le_of_ble_eq_true rfl, Nat.le_of_ble_eq_true rfl⟩
  · subst e
    refine And.intro (Or.inl rfl) ?_
    exact ⟨Or.inr ⟨0, hq, rfl⟩, Nat.le_of_ble_eq_true rfl, Nat.le_of_ble_eq_true rfl⟩
  · subst e
    refine And.intro (Or.inl rfl) ?_
    exact ⟨Or.inr ⟨2, hq, rfl⟩, Nat.le_of_ble_eq_true rfl, Nat.le_of_ble_eq_true rfl⟩
theorem ct_L_value {a1 : Int} {a2 : Int} {a3 : Int} {Q1 : mj_Q} (h0 : mj_is sh n 0 4 0) (hA : mj_is sh n 77 3 1) (hc : mj_Ct m_T_value [.inr (.inr (.inl 0)), .inl a1, .inl a2, .inl a3] sh FR IA LA n Q1) (h1 : ∀ o sh1 FR1 IA1 LA1 n1, Q1 o sh1 FR1 IA1 LA1 n1 → sh1 = sh ∧ n1 = n ∧ ((∃ z : Int, o = .inl (some (.inl z))) ∨ o = .inr 0)) : mj_Ct m_L_value [.inr (.inr (.inl 0)), .inl a1, .inl a2, .inl a3, .inr (.inr (.inl 77))] sh FR IA LA n (lH Q1 (fun _ => 1)) := by
  refine mj_Ct_of (by decide +kernel) (by decide) (Nat.le_of_ble_eq_true rfl) ?_
  refine mj_go z_L_value [] 60 ?_
  refine And.intro h0 (And.intro (Nat.le_of_ble_eq_true rfl) (And.intro (Nat.le_of_ble_eq_true rfl) (And.intro (Nat.le_of_ble_eq_true rfl) (Exists.intro _ (And.intro hc ?_)))))
  intro o9 sh9 FR9 IA9 LA9 n9 hq
  obtain ⟨z1, z2, z3⟩ := h1 _ _ _ _ _ _ hq
  replace z1 := z1.symm
  subst z1
  replace z2 := z2.symm
  subst z2
  rcases z3 with ⟨z, e⟩ | e
  · subst e
    refine And.intro (Or.inl rfl) ?_
    refine Exists.intro _ (Exists.intro 0 (And.intro hA (And.intro (by decide) (And.intro (by decide) ?_))))
    exact ⟨Or.inl ⟨z, LA9, rfl, hq, rfl⟩, Nat.le_of_ble_eq_true rfl, Nat.le_of_ble_eq_true rfl⟩
  · subst e
    refine And.intro (Or.inl rfl) ?_
    exact ⟨Or.inr ⟨0, hq, rfl⟩, Nat.le_of_ble_eq_true rfl, Nat.le_of_ble_eq_true rfl⟩
theorem ct_L_compare {Q1 : mj_Q} (h0 : mj_is sh n 0 4 0) (hA : mj_is sh n 77 3 1) (hc : mj_Ct m_T_compare [.inr (.inr (.inl 0))] sh FR IA LA n Q1) (h1 : ∀ o sh1 FR1 IA1 LA1 n1, Q1 o sh1 FR1 IA1 LA1 n1 → sh1 = sh ∧ n1 = n ∧ ((∃ z : Int, o = .inl (some (.inl z))) ∨ o = .inr 1)) : mj_Ct m_L_compare [.inr (.inr (.inl 0)), .inr (.inr (.inl 77))] sh FR IA LA n (lH Q1 (fun _ => 1)) := by
  refine mj_Ct_of (by decide +kernel) (by decide) (Nat.le_of_ble_eq_true rfl) ?_
  refine mj_go z_L_compare [] 60 ?_
  refine And.intro h0 (And.intro (Nat.le_of_ble_eq_true rfl) (And.intro (Nat.le_of_ble_eq_true rfl) (And.intro (Nat.le_of_ble_eq_true rfl) (Exists.intro _ (And.intro hc ?_)))))
  intro o9 sh9 FR9 IA9 LA9 n9 hq
  obtain ⟨z1, z2, z3⟩ := h1 _ _ _ _ _ _ hq
  replace z1 := z1.symm
  subst z1
  replace z2 := z2.symm
  subst z2
  rcases z3 with ⟨z, e⟩ | e
  · subst e
    refine And.intro (Or.inl rfl) ?_
    refine Exists.intro _ (Exists.intro 0 (And.intro hA (And.intro (by decide) (And.intro (by decide) ?_))))
    exact ⟨Or.inl ⟨z, LA9, rfl, hq, rfl⟩, Nat.le_of_ble_eq_true rfl, Nat.le_of_ble_eq_true rfl⟩
  · subst e
    refine And.intro (Or.inl rfl) ?_
    exact ⟨Or.inr ⟨1, hq, rfl⟩, Nat.le_of_ble_eq_true rfl, Nat.le_of_ble_eq_true rfl⟩
theorem ct_L_witness {a1 : Int} {Q1 : mj_Q} (h0 : mj_is sh n 0 4 0) (hA : mj_is sh n 77 3 1) (hc : mj_Ct m_T_witness [.inr (.inr (.inl 0)), .inl a1] sh FR IA LA n Q1) (h1 : ∀ o sh1 FR1 IA1 LA1 n1, Q1 o sh1 FR1 IA1 LA1 n1 → sh1 = sh ∧ n1 = n ∧ ((∃ z : Int, o = .inl (some (.inl z))) ∨ o = .inr 1 ∨ o = .inr 2)) : mj_Ct m_L_witness [.inr (.inr (.inl 0)), .inl a1, .inr (.inr (.inl 77))] sh FR IA LA n (lH Q1 (fun e => if e = 1 then 1 else 2)) := by
  refine mj_Ct_of (by decide +kernel) (by decide) (Nat.le_of_ble_eq_true rfl) ?_
  refine mj_go z_L_witness [] 60 ?_
  refine And.intro h0 (And.intro (Nat.le_of_ble_eq_true rfl) (And.intro (Nat.le_of_ble_eq_true rfl) (And.intro (Nat.le_of_ble_eq_true rfl) (Exists.intro _ (And.intro hc ?_)))))
  intro o9 sh9 FR9 IA9 LA9 n9 hq
  obtain ⟨z1, z2, z3⟩ := h1 _ _ _ _ _ _ hq
  replace z1 := z1.symm
  subst z1
  replace z2 := z2.symm
  subst z2
  rcases z3 with ⟨z, e⟩ | e | e
  · subst e
    refine And.intro (Or.inl rfl) ?_
    refine Exists.intro _ (Exists.intro 0 (And.intro hA (And.intro (by decide) (And.intro (by decide) ?_))))
    exact ⟨Or.inl ⟨z, LA9, rfl, hq, rfl⟩, Nat.le_of_ble_eq_true rfl, Nat.le_of_ble_eq_true rfl⟩
  · subst e
    refine And.intro (Or.inl rfl) ?_
    exact ⟨Or.inr ⟨1, hq, rfl⟩, Nat.le_of_ble_eq_true rfl, Nat.le_of_ble_eq_true rfl⟩
  · subst e
    refine And.intro (Or.inl rfl) ?_
    exact ⟨Or.inr ⟨2, hq, rfl⟩, Nat.le_of_ble_eq_true rfl, Nat.le_of_ble_eq_true rfl⟩
theorem ct_L_least {a1 : Int} {a2 : Int} {a3 : Int} {Q1 : mj_Q} (h0 : mj_is sh n 0 4 0) (hA : mj_is sh n 77 3 1) (hc : mj_Ct m_T_least [.inr (.inr (.inl 0)), .inl a1, .inl a2, .inl a3] sh FR IA LA n Q1) (h1 : ∀ o sh1 FR1 IA1 LA1 n1, Q1 o sh1 FR1 IA1 LA1 n1 → sh1 = sh ∧ n1 = n ∧ ((∃ z : Int, o = .inl (some (.inl z))) ∨ o = .inr 0)) : mj_Ct m_L_least [.inr (.inr (.inl 0)), .inl a1, .inl a2, .inl a3, .inr (.inr (.inl 77))] sh FR IA LA n (lH Q1 (fun _ => 1)) := by
  refine mj_Ct_of (by decide +kernel) (by decide) (Nat.le_of_ble_eq_true rfl) ?_
  refine mj_go z_L_least [] 60 ?_
  refine And.intro h0 (And.intro (Nat.le_of_ble_eq_true rfl) (And.intro (Nat.le_of_ble_eq_true rfl) (And.intro (Nat.le_of_ble_eq_true rfl) (Exists.intro _ (And.intro hc ?_)))))
  intro o9 sh9 FR9 IA9 LA9 n9 hq
  obtain ⟨z1, z2, z3⟩ := h1 _ _ _ _ _ _ hq
  replace z1 := z1.symm
  subst z1
  replace z2 := z2.symm
  subst z2
  rcases z3 with ⟨z, e⟩ | e
  · subst e
    refine And.intro (Or.inl rfl) ?_
    refine Exists.intro _ (Exists.intro 0 (And.intro hA (And.intro (by decide) (And.intro (by decide) ?_))))
    exact ⟨Or.inl ⟨z, LA9, rfl, hq, rfl⟩, Nat.le_of_ble_eq_true rfl, Nat.le_of_ble_eq_true rfl⟩
  · subst e
    refine And.intro (Or.inl rfl) ?_
    exact ⟨Or.inr ⟨0, hq, rfl⟩, Nat.le_of_ble_eq_true rfl, Nat.le_of_ble_eq_true rfl⟩
theorem ct_L_greatest {a1 : Int} {a2 : Int} {Q1 : mj_Q} (h0 : mj_is sh n 0 4 0) (hA : mj_is sh n 77 3 1) (hc : mj_Ct m_T_greatest [.inr (.inr (.inl 0)), .inl a1, .inl a2] sh FR IA LA n Q1) (h1 : ∀ o sh1 FR1 IA1 LA1 n1, Q1 o sh1 FR1 IA1 LA1 n1 → sh1 = sh ∧ n1 = n ∧ ((∃ z : Int, o = .inl (some (.inl z))) ∨ o = .inr 0)) : mj_Ct m_L_greatest [.inr (.inr (.inl 0)), .inl a1, .inl a2, .inr (.inr (.inl 77))] sh FR IA LA n (lH Q1 (fun _ => 1)) := by
  refine mj_Ct_of (by decide +kernel) (by decide) (Nat.le_of_ble_eq_true rfl) ?_
  refine mj_go z_L_greatest [] 60 ?_
  refine And.intro h0 (And.intro (Nat.le_of_ble_eq_true rfl) (And.intro (Nat.le_of_ble_eq_true rfl) (And.intro (Nat.le_of_ble_eq_true rfl) (Exists.intro _ (And.intro hc ?_)))))
  intro o9 sh9 FR9 IA9 LA9 n9 hq
  obtain ⟨z1, z2, z3⟩ := h1 _ _ _ _ _ _ hq
  replace z1 := z1.symm
  subst z1
  replace z2 := z2.symm
  subst z2
  rcases z3 with ⟨z, e⟩ | e
  · subst e
    refine And.intro (Or.inl rfl) ?_
    refine Exists.intro _ (Exists.intro 0 (And.intro hA (And.intro (by decide) (And.intro (by decide) ?_))))
    exact ⟨Or.inl ⟨z, LA9, rfl, hq, rfl⟩, Nat.le_of_ble_eq_true rfl, Nat.le_of_ble_eq_true rfl⟩
  · subst e
    refine And.intro (Or.inl rfl) ?_
    exact ⟨Or.inr ⟨0, hq, rfl⟩, Nat.le_of_ble_eq_true rfl, Nat.le_of_ble_eq_true rfl⟩
theorem ct_L_same {a1 : Int} {a2 : Int} {Q1 : mj_Q} (h0 : mj_is sh n 0 4 0) (hA : mj_is sh n 77 3 1) (hc : mj_Ct m_T_same [.inr (.inr (.inl 0)), .inl a1, .inl a2] sh FR IA LA n Q1) (h1 : ∀ o sh1 FR1 IA1 LA1 n1, Q1 o sh1 FR1 IA1 LA1 n1 → sh1 = sh ∧ n1 = n ∧ ((∃ z : Int, o = .inl (some (.inl z))) ∨ o = .inr 0 ∨ o = .inr 1)) : mj_Ct m_L_same [.inr (.inr (.inl 0)), .inl a1, .inl a2, .inr (.inr (.inl 77))] sh FR IA LA n (lH Q1 (fun e => if e = 0 then 1 else 2)) := by
  refine mj_Ct_of (by decide +kernel) (by decide) (Nat.le_of_ble_eq_true rfl) ?_
  refine mj_go z_L_same [] 60 ?_
  refine And.intro h0 (And.intro (Nat.le_of_ble_eq_true rfl) (And.intro (Nat.le_of_ble_eq_true rfl) (And.intro (Nat.le_of_ble_eq_true rfl) (Exists.intro _ (And.intro hc ?_)))))
  intro o9 sh9 FR9 IA9 LA9 n9 hq
  obtain ⟨z1, z2, z3⟩ := h1 _ _ _ _ _ _ hq
  replace z1 := z1.symm
  subst z1
  replace z2 := z2.symm
  subst z2
  rcases z3 with ⟨z, e⟩ | e | e
  · subst e
    refine And.intro (Or.inl rfl) ?_
    refine Exists.intro _ (Exists.intro 0 (And.intro hA (And.intro (by decide) (And.intro (by decide) ?_))))
    exact ⟨Or.inl ⟨z, LA9, rfl, hq, rfl⟩, Nat.le_of_ble_eq_true rfl, Nat.le_of_ble_eq_true rfl⟩
  · subst e
    refine And.intro (Or.inl rfl) ?_
    exact ⟨Or.inr ⟨0, hq, rfl⟩, Nat.le_of_ble_eq_true rfl, Nat.le_of_ble_eq_true rfl⟩
  · subst e
    refine And.intro (Or.inl rfl) ?_
    exact ⟨Or.inr ⟨1, hq, rfl⟩, Nat.le_of_ble_eq_true rfl, Nat.le_of_ble_eq_true rfl⟩
theorem ct_L_implies {a1 : Int} {a2 : Int} {a3 : Int} {Q1 : mj_Q} (h0 : mj_is sh n 0 4 0) (hA : mj_is sh n 77 3 1) (hc : mj_Ct m_T_implies [.inr (.inr (.inl 0)), .inl a1, .inl a2, .inl a3] sh FR IA LA n Q1) (h1 : ∀ o sh1 FR1 IA1 LA1 n1, Q1 o sh1 FR1 IA1 LA1 n1 → sh1 = sh ∧ n1 = n ∧ ((∃ z : Int, o = .inl (some (.inl z)) ∧ (z = 0 ∨ z = 1)) ∨ o = .inr 0)) : mj_Ct m_L_implies [.inr (.inr (.inl 0)), .inl a1, .inl a2, .inl a3, .inr (.inr (.inl 77))] sh FR IA LA n (lH Q1 (fun _ => 1)) := by
  refine mj_Ct_of (by decide +kernel) (by decide) (Nat.le_of_ble_eq_true rfl) ?_
  refine mj_go z_L_implies [] 60 ?_
  refine And.intro h0 (And.intro (Nat.le_of_ble_eq_true rfl) (And.intro (Nat.le_of_ble_eq_true rfl) (And.intro (Nat.le_of_ble_eq_true rfl) (Exists.intro _ (And.intro hc ?_)))))
  intro o9 sh9 FR9 IA9 LA9 n9 hq
  obtain ⟨z1, z2, z3⟩ := h1 _ _ _ _ _ _ hq
  replace z1 := z1.symm
  subst z1
  replace z2 := z2.symm
  subst z2
  rcases z3 with ⟨z, e, e2⟩ | e
  · subst e
    rcases e2 with e2 | e2
    · subst e2
      refine And.intro (Or.inl rfl) ?_
      refine And.intro (fun _ => ?_) (fun d => absurd (by decide) d)
      refine Exists.intro _ (Exists.intro 0 (And.intro hA (And.intro (by decide) (And.intro (by decide) ?_))))
      exact ⟨Or.inl ⟨0, LA9, rfl, hq, by rw [show BitVec.ofInt 64 (mj_w 0) = 0#64 by decide]⟩, Nat.le_of_ble_eq_true rfl, Nat.le_of_ble_eq_true rfl⟩
    · subst e2
      refine And.intro (Or.inl rfl) ?_
      refine And.intro (fun d => absurd d (by decide)) (fun _ => ?_)
      refine Exists.intro _ (Exists.intro 0 (And.intro hA (And.intro (by decide) (And.intro (by decide) ?_))))
      exact ⟨Or.inl ⟨1, LA9, rfl, hq, by rw [show BitVec.ofInt 64 (mj_w 1) = 1#64 by decide]⟩, Nat.le_of_ble_eq_true rfl, Nat.le_of_ble_eq_true rfl⟩
  · subst e
    refine And.intro (Or.inl rfl) ?_
    exact ⟨Or.inr ⟨0, hq, rfl⟩, Nat.le_of_ble_eq_true rfl, Nat.le_of_ble_eq_true rfl⟩
theorem ct_L_depends {a1 : Int} {a2 : Int} {a3 : Int} {Q1 : mj_Q} (h0 : mj_is sh n 0 4 0) (hA : mj_is sh n 77 3 1) (hc : mj_Ct m_T_depends [.inr (.inr (.inl 0)), .inl a1, .inl a2, .inl a3] sh FR IA LA n Q1) (h1 : ∀ o sh1 FR1 IA1 LA1 n1, Q1 o sh1 FR1 IA1 LA1 n1 → sh1 = sh ∧ n1 = n ∧ ((∃ z : Int, o = .inl (some (.inl z)) ∧ (z = 0 ∨ z = 1)) ∨ o = .inr 0 ∨ o = .inr 2)) : mj_Ct m_L_depends [.inr (.inr (.inl 0)), .inl a1, .inl a2, .inl a3, .inr (.inr (.inl 77))] sh FR IA LA n (lH Q1 (fun e => if e = 0 then 1 else 2)) := by
  refine mj_Ct_of (by decide +kernel) (by decide) (Nat.le_of_ble_eq_true rfl) ?_
  refine mj_go z_L_depends [] 60 ?_
  refine And.intro h0 (And.intro (Nat.le_of_ble_eq_true rfl) (And.intro (Nat.le_of_ble_eq_true rfl) (And.intro (Nat.le_of_ble_eq_true rfl) (Exists.intro _ (And.intro hc ?_)))))
  intro o9 sh9 FR9 IA9 LA9 n9 hq
  obtain ⟨z1, z2, z3⟩ := h1 _ _ _ _ _ _ hq
  replace z1 := z1.symm
  subst z1
  replace z2 := z2.symm
  subst z2
  rcases z3 with ⟨z, e, e2⟩ | e | e
  · subst e
    rcases e2 with e2 | e2
    · subst e2
      refine And.intro (Or.inl rfl) ?_
      refine And.intro (fun _ => ?_) (fun d => absurd (by decide) d)
      refine Exists.intro _ (Exists.intro 0 (And.intro hA (And.intro (by decide) (And.intro (by decide) ?_))))
      exact ⟨Or.inl ⟨0, LA9, rfl, hq, by rw [show BitVec.ofInt 64 (mj_w 0) = 0#64 by decide]⟩, Nat.le_of_ble_eq_true rfl, Nat.le_of_ble_eq_true rfl⟩
    · subst e2
      refine And.intro (Or.inl rfl) ?_
      refine And.intro (fun d => absurd d (by decide)) (fun _ => ?_)
      refine Exists.intro _ (Exists.intro 0 (And.intro hA (And.intro (by decide) (And.intro (by decide) ?_))))
      exact ⟨Or.inl ⟨1, LA9, rfl, hq, by rw [show BitVec.ofInt 64 (mj_w 1) = 1#64 by decide]⟩, Nat.le_of_ble_eq_true rfl, Nat.le_of_ble_eq_true rfl⟩
  · subst e
    refine And.intro (Or.inl rfl) ?_
    exact ⟨Or.inr ⟨0, hq, rfl⟩, Nat.le_of_ble_eq_true rfl, Nat.le_of_ble_eq_true rfl⟩
  · subst e
    refine And.intro (Or.inl rfl) ?_
    exact ⟨Or.inr ⟨2, hq, rfl⟩, Nat.le_of_ble_eq_true rfl, Nat.le_of_ble_eq_true rfl⟩
theorem ct_L_rises {a1 : Int} {a2 : Int} {a3 : Int} {Q1 : mj_Q} (h0 : mj_is sh n 0 4 0) (hA : mj_is sh n 77 3 1) (hc : mj_Ct m_T_rises [.inr (.inr (.inl 0)), .inl a1, .inl a2, .inl a3] sh FR IA LA n Q1) (h1 : ∀ o sh1 FR1 IA1 LA1 n1, Q1 o sh1 FR1 IA1 LA1 n1 → sh1 = sh ∧ n1 = n ∧ ((∃ z : Int, o = .inl (some (.inl z))) ∨ o = .inr 0 ∨ o = .inr 2)) : mj_Ct m_L_rises [.inr (.inr (.inl 0)), .inl a1, .inl a2, .inl a3, .inr (.inr (.inl 77))] sh FR IA LA n (lH Q1 (fun e => if e = 0 then 1 else 2)) := by
  refine mj_Ct_of (by decide +kernel) (by decide) (Nat.le_of_ble_eq_true rfl) ?_
  refine mj_go z_L_rises [] 60 ?_
  refine And.intro h0 (And.intro (Nat.le_of_ble_eq_true rfl) (And.intro (Nat.le_of_ble_eq_true rfl) (And.intro (Nat.le_of_ble_eq_true rfl) (Exists.intro _ (And.intro hc ?_)))))
  intro o9 sh9 FR9 IA9 LA9 n9 hq
  obtain ⟨z1, z2, z3⟩ := h1 _ _ _ _ _ _ hq
  replace z1 := z1.symm
  subst z1
  replace z2 := z2.symm
  subst z2
  rcases z3 with ⟨z, e⟩ | e | e
  · subst e
    refine And.intro (Or.inl rfl) ?_
    refine Exists.intro _ (Exists.intro 0 (And.intro hA (And.intro (by decide) (And.intro (by decide) ?_))))
    exact ⟨Or.inl ⟨z, LA9, rfl, hq, rfl⟩, Nat.le_of_ble_eq_true rfl, Nat.le_of_ble_eq_true rfl⟩
  · subst e
    refine And.intro (Or.inl rfl) ?_
    exact ⟨Or.inr ⟨0, hq, rfl⟩, Nat.le_of_ble_eq_true rfl, Nat.le_of_ble_eq_true rfl⟩
  · subst e
    refine And.intro (Or.inl rfl) ?_
    exact ⟨Or.inr ⟨2, hq, rfl⟩, Nat.le_of_ble_eq_true rfl, Nat.le_of_ble_eq_true rfl⟩
theorem ct_L_leader {a1 : Int} {a2 : Int} {Q1 : mj_Q} (h0 : mj_is sh n 0 4 0) (hA : mj_is sh n 77 3 1) (hc : mj_Ct m_T_leader [.inr (.inr (.inl 0)), .inl a1, .inl a2] sh FR IA LA n Q1) (h1 : ∀ o sh1 FR1 IA1 LA1 n1, Q1 o sh1 FR1 IA1 LA1 n1 → sh1 = sh ∧ n1 = n ∧ ((∃ z : Int, o = .inl (some (.inl z))) ∨ o = .inr 0)) : mj_Ct m_L_leader [.inr (.inr (.inl 0)), .inl a1, .inl a2, .inr (.inr (.inl 77))] sh FR IA LA n (lH Q1 (fun _ => 1)) := by
  refine mj_Ct_of (by decide +kernel) (by decide) (Nat.le_of_ble_eq_true rfl) ?_
  refine mj_go z_L_leader [] 60 ?_
  refine And.intro h0 (And.intro (Nat.le_of_ble_eq_true rfl) (And.intro (Nat.le_of_ble_eq_true rfl) (And.intro (Nat.le_of_ble_eq_true rfl) (Exists.intro _ (And.intro hc ?_)))))
  intro o9 sh9 FR9 IA9 LA9 n9 hq
  obtain ⟨z1, z2, z3⟩ := h1 _ _ _ _ _ _ hq
  replace z1 := z1.symm
  subst z1
  replace z2 := z2.symm
  subst z2
  rcases z3 with ⟨z, e⟩ | e
  · subst e
    refine And.intro (Or.inl rfl) ?_
    refine Exists.intro _ (Exists.intro 0 (And.intro hA (And.intro (by decide) (And.intro (by decide) ?_))))
    exact ⟨Or.inl ⟨z, LA9, rfl, hq, rfl⟩, Nat.le_of_ble_eq_true rfl, Nat.le_of_ble_eq_true rfl⟩
  · subst e
    refine And.intro (Or.inl rfl) ?_
    exact ⟨Or.inr ⟨0, hq, rfl⟩, Nat.le_of_ble_eq_true rfl, Nat.le_of_ble_eq_true rfl⟩
theorem ct_L_functions {a1 : Int} {Q1 : mj_Q} (h0 : mj_is sh n 0 4 0) (hA : mj_is sh n 77 3 1) (hc : mj_Ct m_T_functions [.inr (.inr (.inl 0)), .inl a1] sh FR IA LA n Q1) (h1 : ∀ o sh1 FR1 IA1 LA1 n1, Q1 o sh1 FR1 IA1 LA1 n1 → sh1 = sh ∧ n1 = n ∧ ((∃ z : Int, o = .inl (some (.inl z))) ∨ o = .inr 0)) : mj_Ct m_L_functions [.inr (.inr (.inl 0)), .inl a1, .inr (.inr (.inl 77))] sh FR IA LA n (lH Q1 (fun _ => 1)) := by
  refine mj_Ct_of (by decide +kernel) (by decide) (Nat.le_of_ble_eq_true rfl) ?_
  refine mj_go z_L_functions [] 60 ?_
  refine And.intro h0 (And.intro (Nat.le_of_ble_eq_true rfl) (And.intro (Nat.le_of_ble_eq_true rfl) (And.intro (Nat.le_of_ble_eq_true rfl) (Exists.intro _ (And.intro hc ?_)))))
  intro o9 sh9 FR9 IA9 LA9 n9 hq
  obtain ⟨z1, z2, z3⟩ := h1 _ _ _ _ _ _ hq
  replace z1 := z1.symm
  subst z1
  replace z2 := z2.symm
  subst z2
  rcases z3 with ⟨z, e⟩ | e
  · subst e
    refine And.intro (Or.inl rfl) ?_
    refine Exists.intro _ (Exists.intro 0 (And.intro hA (And.intro (by decide) (And.intro (by decide) ?_))))
    exact ⟨Or.inl ⟨z, LA9, rfl, hq, rfl⟩, Nat.le_of_ble_eq_true rfl, Nat.le_of_ble_eq_true rfl⟩
  · subst e
    refine And.intro (Or.inl rfl) ?_
    exact ⟨Or.inr ⟨0, hq, rfl⟩, Nat.le_of_ble_eq_true rfl, Nat.le_of_ble_eq_true rfl⟩
theorem ct_L_allFunctions {Q1 : mj_Q} (h0 : mj_is sh n 0 4 0) (hA : mj_is sh n 77 3 1) (hc : mj_Ct m_T_allFunctions [.inr (.inr (.inl 0))] sh FR IA LA n Q1) (h1 : ∀ o sh1 FR1 IA1 LA1 n1, Q1 o sh1 FR1 IA1 LA1 n1 → sh1 = sh ∧ n1 = n ∧ ((∃ z : Int, o = .inl (some (.inl z))) ∨ o = .inr 1)) : mj_Ct m_L_allFunctions [.inr (.inr (.inl 0)), .inr (.inr (.inl 77))] sh FR IA LA n (lH Q1 (fun _ => 1)) := by
  refine mj_Ct_of (by decide +kernel) (by decide) (Nat.le_of_ble_eq_true rfl) ?_
  refine mj_go z_L_allFunctions [] 60 ?_
  refine And.intro h0 (And.intro (Nat.le_of_ble_eq_true rfl) (And.intro (Nat.le_of_ble_eq_true rfl) (And.intro (Nat.le_of_ble_eq_true rfl) (Exists.intro _ (And.intro hc ?_)))))
  intro o9 sh9 FR9 IA9 LA9 n9 hq
  obtain ⟨z1, z2, z3⟩ := h1 _ _ _ _ _ _ hq
  replace z1 := z1.symm
  subst z1
  replace z2 := z2.symm
  subst z2
  rcases z3 with ⟨z, e⟩ | e
  · subst e
    refine And.intro (Or.inl rfl) ?_
    refine Exists.intro _ (Exists.intro 0 (And.intro hA (And.intro (by decide) (And.intro (by decide) ?_))))
    exact ⟨Or.inl ⟨z, LA9, rfl, hq, rfl⟩, Nat.le_of_ble_eq_true rfl, Nat.le_of_ble_eq_true rfl⟩
  · subst e
    refine And.intro (Or.inl rfl) ?_
    exact ⟨Or.inr ⟨1, hq, rfl⟩, Nat.le_of_ble_eq_true rfl, Nat.le_of_ble_eq_true rfl⟩
theorem ct_L_write {a1 : Int} {a2 : Int} {a3 : Int} {Q1 : mj_Q} (h0 : mj_is sh n 0 4 0) (hA : mj_is sh n 77 3 1) (hc : mj_Ct m_T_write [.inr (.inr (.inl 0)), .inl a1, .inl a2, .inl a3] sh FR IA LA n Q1) (h1 : ∀ o sh1 FR1 IA1 LA1 n1, Q1 o sh1 FR1 IA1 LA1 n1 → sh1 = sh ∧ n1 = n ∧ ((∃ z : Int, o = .inl (some (.inl z))) ∨ o = .inr 0)) : mj_Ct m_L_write [.inr (.inr (.inl 0)), .inl a1, .inl a2, .inl a3, .inr (.inr (.inl 77))] sh FR IA LA n (lH Q1 (fun _ => 1)) := by
  refine mj_Ct_of (by decide +kernel) (by decide) (Nat.le_of_ble_eq_true rfl) ?_
  refine mj_go z_L_write [] 60 ?_
  refine And.intro h0 (And.intro (Nat.le_of_ble_eq_true rfl) (And.intro (Nat.le_of_ble_eq_true rfl) (And.intro (Nat.le_of_ble_eq_true rfl) (Exists.intro _ (And.intro hc ?_)))))
  intro o9 sh9 FR9 IA9 LA9 n9 hq
  obtain ⟨z1, z2, z3⟩ := h1 _ _ _ _ _ _ hq
  replace z1 := z1.symm
  subst z1
  replace z2 := z2.symm
  subst z2
  rcases z3 with ⟨z, e⟩ | e
  · subst e
    refine And.intro (Or.inl rfl) ?_
    refine Exists.intro _ (Exists.intro 0 (And.intro hA (And.intro (by decide) (And.intro (by decide) ?_))))
    exact ⟨Or.inl ⟨z, LA9, rfl, hq, rfl⟩, Nat.le_of_ble_eq_true rfl, Nat.le_of_ble_eq_true rfl⟩
  · subst e
    refine And.intro (Or.inl rfl) ?_
    exact ⟨Or.inr ⟨0, hq, rfl⟩, Nat.le_of_ble_eq_true rfl, Nat.le_of_ble_eq_true rfl⟩
theorem ct_L_out {a1 : Int} {Q1 : mj_Q} (h0 : mj_is sh n 0 4 0) (hA : mj_is sh n 77 3 1) (hc : mj_Ct m_T_out [.inr (.inr (.inl 0)), .inl a1] sh FR IA LA n Q1) (h1 : ∀ o sh1 FR1 IA1 LA1 n1, Q1 o sh1 FR1 IA1 LA1 n1 → sh1 = sh ∧ n1 = n ∧ ((∃ v : BitVec 64, o = .inl (some (.inr (.inl v)))) ∨ o = .inr 2)) : mj_Ct m_L_out [.inr (.inr (.inl 0)), .inl a1, .inr (.inr (.inl 77))] sh FR IA LA n (lHl Q1 (fun _ => 1)) := by
  refine mj_Ct_of (by decide +kernel) (by decide) (Nat.le_of_ble_eq_true rfl) ?_
  refine mj_go z_L_out [] 60 ?_
  refine And.intro h0 (And.intro (Nat.le_of_ble_eq_true rfl) (And.intro (Nat.le_of_ble_eq_true rfl) (And.intro (Nat.le_of_ble_eq_true rfl) (Exists.intro _ (And.intro hc ?_)))))
  intro o9 sh9 FR9 IA9 LA9 n9 hq
  obtain ⟨z1, z2, z3⟩ := h1 _ _ _ _ _ _ hq
  replace z1 := z1.symm
  subst z1
  replace z2 := z2.symm
  subst z2
  rcases z3 with ⟨z, e⟩ | e
  · subst e
    refine And.intro (Or.inl rfl) ?_
    refine Exists.intro _ (Exists.intro 0 (And.intro hA (And.intro (by decide) (And.intro (by decide) ?_))))
    exact ⟨Or.inl ⟨z, LA9, rfl, hq, rfl⟩, Nat.le_of_ble_eq_true rfl, Nat.le_of_ble_eq_true rfl⟩
  · subst e
    refine And.intro (Or.inl rfl) ?_
    exact ⟨Or.inr ⟨2, hq, rfl⟩, Nat.le_of_ble_eq_true rfl, Nat.le_of_ble_eq_true rfl⟩
theorem ct_L_look {a1 : Int} {a2 : Int} {Q1 : mj_Q} (h0 : mj_is sh n 0 4 0) (hA : mj_is sh n 77 3 1) (hc : mj_Ct m_T_look [.inr (.inr (.inl 0)), .inl a1, .inl a2] sh FR IA LA n Q1) (h1 : ∀ o sh1 FR1 IA1 LA1 n1, Q1 o sh1 FR1 IA1 LA1 n1 → sh1 = sh ∧ n1 = n ∧ ((∃ z : Int, o = .inl (some (.inl z))) ∨ o = .inr 0)) : mj_Ct m_L_look [.inr (.inr (.inl 0)), .inl a1, .inl a2, .inr (.inr (.inl 77))] sh FR IA LA n (lH Q1 (fun _ => 1)) := by
  refine mj_Ct_of (by decide +kernel) (by decide) (Nat.le_of_ble_eq_true rfl) ?_
  refine mj_go z_L_look [] 60 ?_
  refine And.intro h0 (And.intro (Nat.le_of_ble_eq_true rfl) (And.intro (Nat.le_of_ble_eq_true rfl) (And.intro (Nat.le_of_ble_eq_true rfl) (Exists.intro _ (And.intro hc ?_)))))
  intro o9 sh9 FR9 IA9 LA9 n9 hq
  obtain ⟨z1, z2, z3⟩ := h1 _ _ _ _ _ _ hq
  replace z1 := z1.symm
  subst z1
  replace z2 := z2.symm
  subst z2
  rcases z3 with ⟨z, e⟩ | e
  · subst e
    refine And.intro (Or.inl rfl) ?_
    refine Exists.intro _ (Exists.intro 0 (And.intro hA (And.intro (by decide) (And.intro (by decide) ?_))))
    exact ⟨Or.inl ⟨z, LA9, rfl, hq, rfl⟩, Nat.le_of_ble_eq_true rfl, Nat.le_of_ble_eq_true rfl⟩
  · subst e
    refine And.intro (Or.inl rfl) ?_
    exact ⟨Or.inr ⟨0, hq, rfl⟩, Nat.le_of_ble_eq_true rfl, Nat.le_of_ble_eq_true rfl⟩
end LL
