/-! THE OUTER CLASS: no such circuit -/
section TT
variable {sh : mj_Sh} {FR : mj_FR} {IA : mj_FI} {LA : mj_LA} {n b1 b2 b3 : Nat}
theorem ct_T_loadX (h : isTw sh FR n b1 b2 b3) {x : Int} (ix : mj_i x) (hx : ¬ (x = 0 ∨ x = 1)) : mj_Ct m_T_load [.inr (.inr (.inl 0)), .inl x] sh FR IA LA n (mj_pu (.inr 0) sh FR IA LA n) := by
  refine mj_Ct_of (by decide +kernel) (by decide) (Nat.le_of_ble_eq_true rfl) ?_
  refine mj_go z_T_load [] 60 ?_
  refine And.intro h.1 (And.intro (Nat.le_of_ble_eq_true rfl) (And.intro (Nat.le_of_ble_eq_true rfl) (And.intro (Nat.le_of_ble_eq_true rfl) (Exists.intro _ (And.intro (ct_T_namedX h ix.1 ix.2 hx) ?_)))))
  rintro r9 sh9 FR9 IA9 LA9 n9 ⟨z0, z1, z2, z3, z4, z5⟩
  subst z0
  replace z1 := z1.symm
  subst z1
  replace z2 := z2.symm
  subst z2
  replace z3 := z3.symm
  subst z3
  replace z4 := z4.symm
  subst z4
  replace z5 := z5.symm
  subst z5
  exact ⟨rfl, rfl, rfl, rfl, rfl, rfl⟩
theorem ct_T_literalX (h : isTw sh FR n b1 b2 b3) {x a1 a2 : Int} (ix : mj_i x) (hx : ¬ (x = 0 ∨ x = 1)) : mj_Ct m_T_literal [.inr (.inr (.inl 0)), .inl x, .inl a1, .inl a2] sh FR IA LA n (mj_pu (.inr 0) sh FR IA LA n) := by
  refine mj_Ct_of (by decide +kernel) (by decide) (Nat.le_of_ble_eq_true rfl) ?_
  refine mj_go z_T_literal [] 60 ?_
  refine And.intro h.1 (And.intro (Nat.le_of_ble_eq_true rfl) (And.intro (Nat.le_of_ble_eq_true rfl) (And.intro (Nat.le_of_ble_eq_true rfl) (Exists.intro _ (And.intro (ct_T_namedX h ix.1 ix.2 hx) ?_)))))
  rintro r9 sh9 FR9 IA9 LA9 n9 ⟨z0, z1, z2, z3, z4, z5⟩
  subst z0
  replace z1 := z1.symm
  subst z1
  replace z2 := z2.symm
  subst z2
  replace z3 := z3.symm
  subst z3
  replace z4 := z4.symm
  subst z4
  replace z5 := z5.symm
  subst z5
  exact ⟨rfl, rfl, rfl, rfl, rfl, rfl⟩
theorem ct_T_valueX (h : isTw sh FR n b1 b2 b3) {x a1 a2 : Int} (ix : mj_i x) (hx : ¬ (x = 0 ∨ x = 1)) : mj_Ct m_T_value [.inr (.inr (.inl 0)), .inl x, .inl a1, .inl a2] sh FR IA LA n (mj_pu (.inr 0) sh FR IA LA n) := by
  refine mj_Ct_of (by decide +kernel) (by decide) (Nat.le_of_ble_eq_true rfl) ?_
  refine mj_go z_T_value [] 60 ?_
  refine And.intro h.1 (And.intro (Nat.le_of_ble_eq_true rfl) (And.intro (Nat.le_of_ble_eq_true rfl) (And.intro (Nat.le_of_ble_eq_true rfl) (Exists.intro _ (And.intro (ct_T_namedX h ix.1 ix.2 hx) ?_)))))
  rintro r9 sh9 FR9 IA9 LA9 n9 ⟨z0, z1, z2, z3, z4, z5⟩
  subst z0
  replace z1 := z1.symm
  subst z1
  replace z2 := z2.symm
  subst z2
  replace z3 := z3.symm
  subst z3
  replace z4 := z4.symm
  subst z4
  replace z5 := z5.symm
  subst z5
  exact ⟨rfl, rfl, rfl, rfl, rfl, rfl⟩
theorem ct_T_leastX (h : isTw sh FR n b1 b2 b3) {x a1 a2 : Int} (ix : mj_i x) (hx : ¬ (x = 0 ∨ x = 1)) : mj_Ct m_T_least [.inr (.inr (.inl 0)), .inl x, .inl a1, .inl a2] sh FR IA LA n (mj_pu (.inr 0) sh FR IA LA n) := by
  refine mj_Ct_of (by decide +kernel) (by decide) (Nat.le_of_ble_eq_true rfl) ?_
  refine mj_go z_T_least [] 60 ?_
  refine And.intro h.1 (And.intro (Nat.le_of_ble_eq_true rfl) (And.intro (Nat.le_of_ble_eq_true rfl) (And.intro (Nat.le_of_ble_eq_true rfl) (Exists.intro _ (And.intro (ct_T_namedX h ix.1 ix.2 hx) ?_)))))
  rintro r9 sh9 FR9 IA9 LA9 n9 ⟨z0, z1, z2, z3, z4, z5⟩
  subst z0
  replace z1 := z1.symm
  subst z1
  replace z2 := z2.symm
  subst z2
  replace z3 := z3.symm
  subst z3
  replace z4 := z4.symm
  subst z4
  replace z5 := z5.symm
  subst z5
  exact ⟨rfl, rfl, rfl, rfl, rfl, rfl⟩
theorem ct_T_greatestX (h : isTw sh FR n b1 b2 b3) {x a1 : Int} (ix : mj_i x) (hx : ¬ (x = 0 ∨ x = 1)) : mj_Ct m_T_greatest [.inr (.inr (.inl 0)), .inl x, .inl a1] sh FR IA LA n (mj_pu (.inr 0) sh FR IA LA n) := by
  refine mj_Ct_of (by decide +kernel) (by decide) (Nat.le_of_ble_eq_true rfl) ?_
  refine mj_go z_T_greatest [] 60 ?_
  refine And.intro h.1 (And.intro (Nat.le_of_ble_eq_true rfl) (And.intro (Nat.le_of_ble_eq_true rfl) (And.intro (Nat.le_of_ble_eq_true rfl) (Exists.intro _ (And.intro (ct_T_namedX h ix.1 ix.2 hx) ?_)))))
  rintro r9 sh9 FR9 IA9 LA9 n9 ⟨z0, z1, z2, z3, z4, z5⟩
  subst z0
  replace z1 := z1.symm
  subst z1
  replace z2 := z2.symm
  subst z2
  replace z3 := z3.symm
  subst z3
  replace z4 := z4.symm
  subst z4
  replace z5 := z5.symm
  subst z5
  exact ⟨rfl, rfl, rfl, rfl, rfl, rfl⟩
theorem ct_T_impliesX (h : isTw sh FR n b1 b2 b3) {x a1 a2 : Int} (ix : mj_i x) (hx : ¬ (x = 0 ∨ x = 1)) : mj_Ct m_T_implies [.inr (.inr (.inl 0)), .inl x, .inl a1, .inl a2] sh FR IA LA n (mj_pu (.inr 0) sh FR IA LA n) := by
  refine mj_Ct_of (by decide +kernel) (by decide) (Nat.le_of_ble_eq_true rfl) ?_
  refine mj_go z_T_implies [] 60 ?_
  refine And.intro h.1 (And.intro (Nat.le_of_ble_eq_true rfl) (And.intro (Nat.le_of_ble_eq_true rfl) (And.intro (Nat.le_of_ble_eq_true rfl) (Exists.intro _ (And.intro (ct_T_namedX h ix.1 ix.2 hx) ?_)))))
  rintro r9 sh9 FR9 IA9 LA9 n9 ⟨z0, z1, z2, z3, z4, z5⟩
  subst z0
  replace z1 := z1.symm
  subst z1
  replace z2 := z2.symm
  subst z2
  replace z3 := z3.symm
  subst z3
  replace z4 := z4.symm
  subst z4
  replace z5 := z5.symm
  subst z5
  exact ⟨rfl, rfl, rfl, rfl, rfl, rfl⟩
theorem ct_T_dependsX (h : isTw sh FR n b1 b2 b3) {x a1 a2 : Int} (ix : mj_i x) (hx : ¬ (x = 0 ∨ x = 1)) : mj_Ct m_T_depends [.inr (.inr (.inl 0)), .inl x, .inl a1, .inl a2] sh FR IA LA n (mj_pu (.inr 0) sh FR IA LA n) := by
  refine mj_Ct_of (by decide +kernel) (by decide) (Nat.le_of_ble_eq_true rfl) ?_
  refine mj_go z_T_depends [] 60 ?_
  refine And.intro h.1 (And.intro (Nat.le_of_ble_eq_true rfl) (And.intro (Nat.le_of_ble_eq_true rfl) (And.intro (Nat.le_of_ble_eq_true rfl) (Exists.intro _ (And.intro (ct_T_namedX h ix.1 ix.2 hx) ?_)))))
  rintro r9 sh9 FR9 IA9 LA9 n9 ⟨z0, z1, z2, z3, z4, z5⟩
  subst z0
  replace z1 := z1.symm
  subst z1
  replace z2 := z2.symm
  subst z2
  replace z3 := z3.symm
  subst z3
  replace z4 := z4.symm
  subst z4
  replace z5 := z5.symm
  subst z5
  exact ⟨rfl, rfl, rfl, rfl, rfl, rfl⟩
theorem ct_T_risesX (h : isTw sh FR n b1 b2 b3) {x a1 a2 : Int} (ix : mj_i x) (hx : ¬ (x = 0 ∨ x = 1)) : mj_Ct m_T_rises [.inr (.inr (.inl 0)), .inl x, .inl a1, .inl a2] sh FR IA LA n (mj_pu (.inr 0) sh FR IA LA n) := by
  refine mj_Ct_of (by decide +kernel) (by decide) (Nat.le_of_ble_eq_true rfl) ?_
  refine mj_go z_T_rises [] 60 ?_
  refine And.intro h.1 (And.intro (Nat.le_of_ble_eq_true rfl) (And.intro (Nat.le_of_ble_eq_true rfl) (And.intro (Nat.le_of_ble_eq_true rfl) (Exists.intro _ (And.intro (ct_T_namedX h ix.1 ix.2 hx) ?_)))))
  rintro r9 sh9 FR9 IA9 LA9 n9 ⟨z0, z1, z2, z3, z4, z5⟩
  subst z0
  replace z1 := z1.symm
  subst z1
  replace z2 := z2.symm
  subst z2
  replace z3 := z3.symm
  subst z3
  replace z4 := z4.symm
  subst z4
  replace z5 := z5.symm
  subst z5
  exact ⟨rfl, rfl, rfl, rfl, rfl, rfl⟩
theorem ct_T_leaderX (h : isTw sh FR n b1 b2 b3) {x a1 : Int} (ix : mj_i x) (hx : ¬ (x = 0 ∨ x = 1)) : mj_Ct m_T_leader [.inr (.inr (.inl 0)), .inl x, .inl a1] sh FR IA LA n (mj_pu (.inr 0) sh FR IA LA n) := by
  refine mj_Ct_of (by decide +kernel) (by decide) (Nat.le_of_ble_eq_true rfl) ?_
  refine mj_go z_T_leader [] 60 ?_
  refine And.intro h.1 (And.intro (Nat.le_of_ble_eq_true rfl) (And.intro (Nat.le_of_ble_eq_true rfl) (And.intro (Nat.le_of_ble_eq_true rfl) (Exists.intro _ (And.intro (ct_T_namedX h ix.1 ix.2 hx) ?_)))))
  rintro r9 sh9 FR9 IA9 LA9 n9 ⟨z0, z1, z2, z3, z4, z5⟩
  subst z0
  replace z1 := z1.symm
  subst z1
  replace z2 := z2.symm
  subst z2
  replace z3 := z3.symm
  subst z3
  replace z4 := z4.symm
  subst z4
  replace z5 := z5.symm
  subst z5
  exact ⟨rfl, rfl, rfl, rfl, rfl, rfl⟩
theorem ct_T_functionsX (h : isTw sh FR n b1 b2 b3) {x : Int} (ix : mj_i x) (hx : ¬ (x = 0 ∨ x = 1)) : mj_Ct m_T_functions [.inr (.inr (.inl 0)), .inl x] sh FR IA LA n (mj_pu (.inr 0) sh FR IA LA n) := by
  refine mj_Ct_of (by decide +kernel) (by decide) (Nat.le_of_ble_eq_true rfl) ?_
  refine mj_go z_T_functions [] 60 ?_
  refine And.intro h.1 (And.intro (Nat.le_of_ble_eq_true rfl) (And.intro (Nat.le_of_ble_eq_true rfl) (And.intro (Nat.le_of_ble_eq_true rfl) (Exists.intro _ (And.intro (ct_T_namedX h ix.1 ix.2 hx) ?_)))))
  rintro r9 sh9 FR9 IA9 LA9 n9 ⟨z0, z1, z2, z3, z4, z5⟩
  subst z0
  replace z1 := z1.symm
  subst z1
  replace z2 := z2.symm
  subst z2
  replace z3 := z3.symm
  subst z3
  replace z4 := z4.symm
  subst z4
  replace z5 := z5.symm
  subst z5
  exact ⟨rfl, rfl, rfl, rfl, rfl, rfl⟩
theorem ct_T_writeX (h : isTw sh FR n b1 b2 b3) {x a1 a2 : Int} (ix : mj_i x) (hx : ¬ (x = 0 ∨ x = 1)) : mj_Ct m_T_write [.inr (.inr (.inl 0)), .inl x, .inl a1, .inl a2] sh FR IA LA n (mj_pu (.inr 0) sh FR IA LA n) := by
  refine mj_Ct_of (by decide +kernel) (by decide) (Nat.le_of_ble_eq_true rfl) ?_
  refine mj_go z_T_write [] 60 ?_
  refine And.intro h.1 (Exists.intro _ (And.intro h.2.2.2.2.1 ?_))
  refine And.intro h.1 (And.intro (Nat.le_of_ble_eq_true rfl) (And.intro (Nat.le_of_ble_eq_true rfl) (And.intro (Nat.le_of_ble_eq_true rfl) (Exists.intro _ (And.intro (ct_T_namedX h ix.1 ix.2 hx) ?_)))))
  rintro r9 sh9 FR9 IA9 LA9 n9 ⟨z0, z1, z2, z3, z4, z5⟩
  subst z0
  replace z1 := z1.symm
  subst z1
  replace z2 := z2.symm
  subst z2
  replace z3 := z3.symm
  subst z3
  replace z4 := z4.symm
  subst z4
  replace z5 := z5.symm
  subst z5
  exact ⟨rfl, rfl, rfl, rfl, rfl, rfl⟩
theorem ct_T_lookX (h : isTw sh FR n b1 b2 b3) {x a1 : Int} (ix : mj_i x) (hx : ¬ (x = 0 ∨ x = 1)) : mj_Ct m_T_look [.inr (.inr (.inl 0)), .inl x, .inl a1] sh FR IA LA n (mj_pu (.inr 0) sh FR IA LA n) := by
  refine mj_Ct_of (by decide +kernel) (by decide) (Nat.le_of_ble_eq_true rfl) ?_
  refine mj_go z_T_look [] 60 ?_
  refine And.intro h.1 (And.intro (Nat.le_of_ble_eq_true rfl) (And.intro (Nat.le_of_ble_eq_true rfl) (And.intro (Nat.le_of_ble_eq_true rfl) (Exists.intro _ (And.intro (ct_T_namedX h ix.1 ix.2 hx) ?_)))))
  rintro r9 sh9 FR9 IA9 LA9 n9 ⟨z0, z1, z2, z3, z4, z5⟩
  subst z0
  replace z1 := z1.symm
  subst z1
  replace z2 := z2.symm
  subst z2
  replace z3 := z3.symm
  subst z3
  replace z4 := z4.symm
  subst z4
  replace z5 := z5.symm
  subst z5
  exact ⟨rfl, rfl, rfl, rfl, rfl, rfl⟩
end TT
