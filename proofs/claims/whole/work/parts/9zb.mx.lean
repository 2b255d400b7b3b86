/-! THE REFERENCE: no such circuit -/
section MM
variable {sh : mj_Sh} {FR : mj_FR} {IA : mj_FI} {LA : mj_LA} {n : Nat}
theorem ct_M_valueX (h : isM sh FR n) {x a1 a2 : Int} (ix : mj_i x) (hx : ¬ (x = 0 ∨ x = 1)) : mj_Ct m_M_value [.inr (.inr (.inl 52)), .inl x, .inl a1, .inl a2] sh FR IA LA n (mj_pu (.inl (some (.inl 0))) sh FR (mj_up IA 52 0 1) LA n) := by
  refine mj_Ct_of (by decide +kernel) (by decide) (Nat.le_of_ble_eq_true rfl) ?_
  refine mj_go z_M_value [] 60 ?_
  refine And.intro (by trivial) (And.intro (Nat.le_of_ble_eq_true rfl) (And.intro (Nat.le_of_ble_eq_true rfl) (And.intro (Nat.le_of_ble_eq_true rfl) (Exists.intro _ (And.intro (ct_isC0 ix hx) ?_)))))
  rintro r9 sh9 FR9 IA9 LA9 n9 ⟨z0, z1, z2, z3, z4, z5⟩
  subst z0
  replace z1 := z1.symm
  subst z1
  replace z2 := z2.symm
  subst z2
  replace z3 := z3.symm
  subst z3
  replace z4 := z4.symm
  subst z4
  replace z5 := z5.symm
  subst z5
  refine And.intro (Or.inl rfl) ?_
  refine And.intro (fun d => ?_) (fun d => ?_)
  · clear d
    refine And.intro h.o (And.intro (Nat.le_of_ble_eq_true rfl) (And.intro (Nat.le_of_ble_eq_true rfl) (And.intro (Nat.le_of_ble_eq_true rfl) (Exists.intro _ (And.intro (ct_thr10 h) ?_)))))
    rintro r9 sh9 FR9 IA9 LA9 n9 ⟨z0, z1, z2, z3, z4, z5⟩
    subst z0
    replace z1 := z1.symm
    subst z1
    replace z2 := z2.symm
    subst z2
    replace z3 := z3.symm
    subst z3
    replace z4 := z4.symm
    subst z4
    replace z5 := z5.symm
    subst z5
    refine And.intro (Or.inl rfl) ?_
    refine And.intro (fun d => ?_) (fun d => ?_)
    · exact absurd d (by decide)
    · exact ⟨⟨rfl, rfl, rfl, rfl, rfl, rfl⟩, Nat.le_of_ble_eq_true rfl, Nat.le_of_ble_eq_true rfl⟩
  · exact absurd (show mj_w 0 = 0 by decide) d
theorem ct_M_leastX (h : isM sh FR n) {x a1 a2 : Int} (ix : mj_i x) (hx : ¬ (x = 0 ∨ x = 1)) : mj_Ct m_M_least [.inr (.inr (.inl 52)), .inl x, .inl a1, .inl a2] sh FR IA LA n (mj_pu (.inl (some (.inl 0))) sh FR (mj_up IA 52 0 1) LA n) := by
  refine mj_Ct_of (by decide +kernel) (by decide) (Nat.le_of_ble_eq_true rfl) ?_
  refine mj_go z_M_least [] 60 ?_
  refine And.intro (by trivial) (And.intro (Nat.le_of_ble_eq_true rfl) (And.intro (Nat.le_of_ble_eq_true rfl) (And.intro (Nat.le_of_ble_eq_true rfl) (Exists.intro _ (And.intro (ct_isC0 ix hx) ?_)))))
  rintro r9 sh9 FR9 IA9 LA9 n9 ⟨z0, z1, z2, z3, z4, z5⟩
  subst z0
  replace z1 := z1.symm
  subst z1
  replace z2 := z2.symm
  subst z2
  replace z3 := z3.symm
  subst z3
  replace z4 := z4.symm
  subst z4
  replace z5 := z5.symm
  subst z5
  refine And.intro (Or.inl rfl) ?_
  refine And.intro (fun d => ?_) (fun d => ?_)
  · clear d
    refine And.intro h.o (And.intro (Nat.le_of_ble_eq_true rfl) (And.intro (Nat.le_of_ble_eq_true rfl) (And.intro (Nat.le_of_ble_eq_true rfl) (Exists.intro _ (And.intro (ct_thr10 h) ?_)))))
    rintro r9 sh9 FR9 IA9 LA9 n9 ⟨z0, z1, z2, z3, z4, z5⟩
    subst z0
    replace z1 := z1.symm
    subst z1
    replace z2 := z2.symm
    subst z2
    replace z3 := z3.symm
    subst z3
    replace z4 := z4.symm
    subst z4
    replace z5 := z5.symm
    subst z5
    refine And.intro (Or.inl rfl) ?_
    refine And.intro (fun d => ?_) (fun d => ?_)
    · exact absurd d (by decide)
    · exact ⟨⟨rfl, rfl, rfl, rfl, rfl, rfl⟩, Nat.le_of_ble_eq_true rfl, Nat.le_of_ble_eq_true rfl⟩
  · exact absurd (show mj_w 0 = 0 by decide) d
theorem ct_M_greatestX (h : isM sh FR n) {x a1 : Int} (ix : mj_i x) (hx : ¬ (x = 0 ∨ x = 1)) : mj_Ct m_M_greatest [.inr (.inr (.inl 52)), .inl x, .inl a1] sh FR IA LA n (mj_pu (.inl (some (.inl 0))) sh FR (mj_up IA 52 0 1) LA n) := by
  refine mj_Ct_of (by decide +kernel) (by decide) (Nat.le_of_ble_eq_true rfl) ?_
  refine mj_go z_M_greatest [] 60 ?_
  refine And.intro (by trivial) (And.intro (Nat.le_of_ble_eq_true rfl) (And.intro (Nat.le_of_ble_eq_true rfl) (And.intro (Nat.le_of_ble_eq_true rfl) (Exists.intro _ (And.intro (ct_isC0 ix hx) ?_)))))
  rintro r9 sh9 FR9 IA9 LA9 n9 ⟨z0, z1, z2, z3, z4, z5⟩
  subst z0
  replace z1 := z1.symm
  subst z1
  replace z2 := z2.symm
  subst z2
  replace z3 := z3.symm
  subst z3
  replace z4 := z4.symm
  subst z4
  replace z5 := z5.symm
  subst z5
  refine And.intro (Or.inl rfl) ?_
  refine And.intro (fun d => ?_) (fun d => ?_)
  · clear d
    refine And.intro h.o (And.intro (Nat.le_of_ble_eq_true rfl) (And.intro (Nat.le_of_ble_eq_true rfl) (And.intro (Nat.le_of_ble_eq_true rfl) (Exists.intro _ (And.intro (ct_thr10 h) ?_)))))
    rintro r9 sh9 FR9 IA9 LA9 n9 ⟨z0, z1, z2, z3, z4, z5⟩
    subst z0
    replace z1 := z1.symm
    subst z1
    replace z2 := z2.symm
    subst z2
    replace z3 := z3.symm
    subst z3
    replace z4 := z4.symm
    subst z4
    replace z5 := z5.symm
    subst z5
    refine And.intro (Or.inl rfl) ?_
    refine And.intro (fun d => ?_) (fun d => ?_)
    · exact absurd d (by decide)
    · exact ⟨⟨rfl, rfl, rfl, rfl, rfl, rfl⟩, Nat.le_of_ble_eq_true rfl, Nat.le_of_ble_eq_true rfl⟩
  · exact absurd (show mj_w 0 = 0 by decide) d
theorem ct_M_impliesX (h : isM sh FR n) {x a1 a2 : Int} (ix : mj_i x) (hx : ¬ (x = 0 ∨ x = 1)) : mj_Ct m_M_implies [.inr (.inr (.inl 52)), .inl x, .inl a1, .inl a2] sh FR IA LA n (mj_pu (.inl (some (.inl 0))) sh FR (mj_up IA 52 0 1) LA n) := by
  refine mj_Ct_of (by decide +kernel) (by decide) (Nat.le_of_ble_eq_true rfl) ?_
  refine mj_go z_M_implies [] 60 ?_
  refine And.intro (by trivial) (And.intro (Nat.le_of_ble_eq_true rfl) (And.intro (Nat.le_of_ble_eq_true rfl) (And.intro (Nat.le_of_ble_eq_true rfl) (Exists.intro _ (And.intro (ct_isC0 ix hx) ?_)))))
  rintro r9 sh9 FR9 IA9 LA9 n9 ⟨z0, z1, z2, z3, z4, z5⟩
  subst z0
  replace z1 := z1.symm
  subst z1
  replace z2 := z2.symm
  subst z2
  replace z3 := z3.symm
  subst z3
  replace z4 := z4.symm
  subst z4
  replace z5 := z5.symm
  subst z5
  refine And.intro (Or.inl rfl) ?_
  refine And.intro (fun d => ?_) (fun d => ?_)
  · clear d
    refine And.intro h.o (And.intro (Nat.le_of_ble_eq_true rfl) (And.intro (Nat.le_of_ble_eq_true rfl) (And.intro (Nat.le_of_ble_eq_true rfl) (Exists.intro _ (And.intro (ct_thr10 h) ?_)))))
    rintro r9 sh9 FR9 IA9 LA9 n9 ⟨z0, z1, z2, z3, z4, z5⟩
    subst z0
    replace z1 := z1.symm
    subst z1
    replace z2 := z2.symm
    subst z2
    replace z3 := z3.symm
    subst z3
    replace z4 := z4.symm
    subst z4
    replace z5 := z5.symm
    subst z5
    refine And.intro (Or.inl rfl) ?_
    refine And.intro (fun d => ?_) (fun d => ?_)
    · exact absurd d (by decide)
    · exact ⟨Or.inl rfl, ⟨rfl, rfl, rfl, rfl, rfl, rfl⟩, Nat.le_of_ble_eq_true rfl, Nat.le_of_ble_eq_true rfl⟩
  · exact absurd (show mj_w 0 = 0 by decide) d
theorem ct_M_leaderX (h : isM sh FR n) {x a1 : Int} (ix : mj_i x) (hx : ¬ (x = 0 ∨ x = 1)) : mj_Ct m_M_leader [.inr (.inr (.inl 52)), .inl x, .inl a1] sh FR IA LA n (mj_pu (.inl (some (.inl 0))) sh FR (mj_up IA 52 0 1) LA n) := by
  refine mj_Ct_of (by decide +kernel) (by decide) (Nat.le_of_ble_eq_true rfl) ?_
  refine mj_go z_M_leader [] 60 ?_
  refine And.intro (by trivial) (And.intro (Nat.le_of_ble_eq_true rfl) (And.intro (Nat.le_of_ble_eq_true rfl) (And.intro (Nat.le_of_ble_eq_true rfl) (Exists.intro _ (And.intro (ct_isC0 ix hx) ?_)))))
  rintro r9 sh9 FR9 IA9 LA9 n9 ⟨z0, z1, z2, z3, z4, z5⟩
  subst z0
  replace z1 := z1.symm
  subst z1
  replace z2 := z2.symm
  subst z2
  replace z3 := z3.symm
  subst z3
  replace z4 := z4.symm
  subst z4
  replace z5 := z5.symm
  subst z5
  refine And.intro (Or.inl rfl) ?_
  refine And.intro (fun d => ?_) (fun d => ?_)
  · clear d
    refine And.intro h.o (And.intro (Nat.le_of_ble_eq_true rfl) (And.intro (Nat.le_of_ble_eq_true rfl) (And.intro (Nat.le_of_ble_eq_true rfl) (Exists.intro _ (And.intro (ct_thr10 h) ?_)))))
    rintro r9 sh9 FR9 IA9 LA9 n9 ⟨z0, z1, z2, z3, z4, z5⟩
    subst z0
    replace z1 := z1.symm
    subst z1
    replace z2 := z2.symm
    subst z2
    replace z3 := z3.symm
    subst z3
    replace z4 := z4.symm
    subst z4
    replace z5 := z5.symm
    subst z5
    refine And.intro (Or.inl rfl) ?_
    refine And.intro (fun d => ?_) (fun d => ?_)
    · exact absurd d (by decide)
    · exact ⟨⟨rfl, rfl, rfl, rfl, rfl, rfl⟩, Nat.le_of_ble_eq_true rfl, Nat.le_of_ble_eq_true rfl⟩
  · exact absurd (show mj_w 0 = 0 by decide) d
theorem ct_M_lookX (h : isM sh FR n) {x a1 : Int} (ix : mj_i x) (hx : ¬ (x = 0 ∨ x = 1)) : mj_Ct m_M_look [.inr (.inr (.inl 52)), .inl x, .inl a1] sh FR IA LA n (mj_pu (.inl (some (.inl 0))) sh FR (mj_up IA 52 0 1) LA n) := by
  refine mj_Ct_of (by decide +kernel) (by decide) (Nat.le_of_ble_eq_true rfl) ?_
  refine mj_go z_M_look [] 60 ?_
  refine And.intro (by trivial) (And.intro (Nat.le_of_ble_eq_true rfl) (And.intro (Nat.le_of_ble_eq_true rfl) (And.intro (Nat.le_of_ble_eq_true rfl) (Exists.intro _ (And.intro (ct_isC0 ix hx) ?_)))))
  rintro r9 sh9 FR9 IA9 LA9 n9 ⟨z0, z1, z2, z3, z4, z5⟩
  subst z0
  replace z1 := z1.symm
  subst z1
  replace z2 := z2.symm
  subst z2
  replace z3 := z3.symm
  subst z3
  replace z4 := z4.symm
  subst z4
  replace z5 := z5.symm
  subst z5
  refine And.intro (Or.inl rfl) ?_
  refine And.intro (fun d => ?_) (fun d => ?_)
  · clear d
    refine And.intro h.o (And.intro (Nat.le_of_ble_eq_true rfl) (And.intro (Nat.le_of_ble_eq_true rfl) (And.intro (Nat.le_of_ble_eq_true rfl) (Exists.intro _ (And.intro (ct_thr10 h) ?_)))))
    rintro r9 sh9 FR9 IA9 LA9 n9 ⟨z0, z1, z2, z3, z4, z5⟩
    subst z0
    replace z1 := z1.symm
    subst z1
    replace z2 := z2.symm
    subst z2
    replace z3 := z3.symm
    subst z3
    replace z4 := z4.symm
    subst z4
    replace z5 := z5.symm
    subst z5
    refine And.intro (Or.inl rfl) ?_
    refine And.intro (fun d => ?_) (fun d => ?_)
    · exact absurd d (by decide)
    · exact ⟨⟨rfl, rfl, rfl, rfl, rfl, rfl⟩, Nat.le_of_ble_eq_true rfl, Nat.le_of_ble_eq_true rfl⟩
  · exact absurd (show mj_w 0 = 0 by decide) d
theorem ct_M_loadX (h : isM sh FR n) {x : Int} (ix : mj_i x) (hx : ¬ (x = 0 ∨ x = 1)) : mj_Ct m_M_load [.inr (.inr (.inl 52)), .inl x] sh FR IA LA n (mj_pu (.inl (some (.inl 0))) sh FR (mj_up IA 52 0 1) LA n) := by
  refine mj_Ct_of (by decide +kernel) (by decide) (Nat.le_of_ble_eq_true rfl) ?_
  refine mj_go z_M_load [] 60 ?_
  refine And.intro (by trivial) (And.intro (Nat.le_of_ble_eq_true rfl) (And.intro (Nat.le_of_ble_eq_true rfl) (And.intro (Nat.le_of_ble_eq_true rfl) (Exists.intro _ (And.intro (ct_isC0 ix hx) ?_)))))
  rintro r9 sh9 FR9 IA9 LA9 n9 ⟨z0, z1, z2, z3, z4, z5⟩
  subst z0
  replace z1 := z1.symm
  subst z1
  replace z2 := z2.symm
  subst z2
  replace z3 := z3.symm
  subst z3
  replace z4 := z4.symm
  subst z4
  replace z5 := z5.symm
  subst z5
  refine And.intro (Or.inl rfl) ?_
  refine And.intro (fun d => ?_) (fun d => ?_)
  · exact absurd (show mj_w 0 = 0 by decide) d
  · clear d
    refine And.intro h.o (And.intro (Nat.le_of_ble_eq_true rfl) (And.intro (Nat.le_of_ble_eq_true rfl) (And.intro (Nat.le_of_ble_eq_true rfl) (Exists.intro _ (And.intro (ct_thr10 h) ?_)))))
    rintro r9 sh9 FR9 IA9 LA9 n9 ⟨z0, z1, z2, z3, z4, z5⟩
    subst z0
    replace z1 := z1.symm
    subst z1
    replace z2 := z2.symm
    subst z2
    replace z3 := z3.symm
    subst z3
    replace z4 := z4.symm
    subst z4
    replace z5 := z5.symm
    subst z5
    refine And.intro (Or.inl rfl) ?_
    refine And.intro (fun d => ?_) (fun d => ?_)
    · exact absurd d (by decide)
    · exact ⟨⟨rfl, rfl, rfl, rfl, rfl, rfl⟩, Nat.le_of_ble_eq_true rfl, Nat.le_of_ble_eq_true rfl⟩
theorem ct_M_functionsX (h : isM sh FR n) {x : Int} (ix : mj_i x) (hx : ¬ (x = 0 ∨ x = 1)) : mj_Ct m_M_functions [.inr (.inr (.inl 52)), .inl x] sh FR IA LA n (mj_pu (.inl (some (.inl 0))) sh FR (mj_up IA 52 0 1) LA n) := by
  refine mj_Ct_of (by decide +kernel) (by decide) (Nat.le_of_ble_eq_true rfl) ?_
  refine mj_go z_M_functions [] 60 ?_
  refine And.intro (by trivial) (And.intro (Nat.le_of_ble_eq_true rfl) (And.intro (Nat.le_of_ble_eq_true rfl) (And.intro (Nat.le_of_ble_eq_true rfl) (Exists.intro _ (And.intro (ct_isC0 ix hx) ?_)))))
  rintro r9 sh9 FR9 IA9 LA9 n9 ⟨z0, z1, z2, z3, z4, z5⟩
  subst z0
  replace z1 := z1.symm
  subst z1
  replace z2 := z2.symm
  subst z2
  replace z3 := z3.symm
  subst z3
  replace z4 := z4.symm
  subst z4
  replace z5 := z5.symm
  subst z5
  refine And.intro (Or.inl rfl) ?_
  refine And.intro (fun d => ?_) (fun d => ?_)
  · exact absurd (show mj_w 0 = 0 by decide) d
  · clear d
    refine And.intro h.o (And.intro (Nat.le_of_ble_eq_true rfl) (And.intro (Nat.le_of_ble_eq_true rfl) (And.intro (Nat.le_of_ble_eq_true rfl) (Exists.intro _ (And.intro (ct_thr10 h) ?_)))))
    rintro r9 sh9 FR9 IA9 LA9 n9 ⟨z0, z1, z2, z3, z4, z5⟩
    subst z0
    replace z1 := z1.symm
    subst z1
    replace z2 := z2.symm
    subst z2
    replace z3 := z3.symm
    subst z3
    replace z4 := z4.symm
    subst z4
    replace z5 := z5.symm
    subst z5
    refine And.intro (Or.inl rfl) ?_
    refine And.intro (fun d => ?_) (fun d => ?_)
    · exact absurd d (by decide)
    · exact ⟨⟨rfl, rfl, rfl, rfl, rfl, rfl⟩, Nat.le_of_ble_eq_true rfl, Nat.le_of_ble_eq_true rfl⟩
theorem ct_M_writeX (h : isM sh FR n) {x a1 a2 : Int} (ix : mj_i x) (hx : ¬ (x = 0 ∨ x = 1)) : mj_Ct m_M_write [.inr (.inr (.inl 52)), .inl x, .inl a1, .inl a2] sh FR IA LA n (mj_pu (.inl (some (.inl 0))) sh FR (mj_up IA 52 0 1) LA n) := by
  refine mj_Ct_of (by decide +kernel) (by decide) (Nat.le_of_ble_eq_true rfl) ?_
  refine mj_go z_M_write [] 60 ?_
  refine And.intro (by trivial) (And.intro (Nat.le_of_ble_eq_true rfl) (And.intro (Nat.le_of_ble_eq_true rfl) (And.intro (Nat.le_of_ble_eq_true rfl) (Exists.intro _ (And.intro (ct_isC0 ix hx) ?_)))))
  rintro r9 sh9 FR9 IA9 LA9 n9 ⟨z0, z1, z2, z3, z4, z5⟩
  subst z0
  replace z1 := z1.symm
  subst z1
  replace z2 := z2.symm
  subst z2
  replace z3 := z3.symm
  subst z3
  replace z4 := z4.symm
  subst z4
  replace z5 := z5.symm
  subst z5
  refine And.intro (Or.inl rfl) ?_
  refine And.intro (fun d => ?_) (fun d => ?_)
  · exact absurd (show mj_w 0 = 0 by decide) d
  · clear d
    refine And.intro h.o (And.intro (Nat.le_of_ble_eq_true rfl) (And.intro (Nat.le_of_ble_eq_true rfl) (And.intro (Nat.le_of_ble_eq_true rfl) (Exists.intro _ (And.intro (ct_thr10 h) ?_)))))
    rintro r9 sh9 FR9 IA9 LA9 n9 ⟨z0, z1, z2, z3, z4, z5⟩
    subst z0
    replace z1 := z1.symm
    subst z1
    replace z2 := z2.symm
    subst z2
    replace z3 := z3.symm
    subst z3
    replace z4 := z4.symm
    subst z4
    replace z5 := z5.symm
    subst z5
    refine And.intro (Or.inl rfl) ?_
    refine And.intro (fun d => ?_) (fun d => ?_)
    · exact absurd d (by decide)
    · exact ⟨⟨rfl, rfl, rfl, rfl, rfl, rfl⟩, Nat.le_of_ble_eq_true rfl, Nat.le_of_ble_eq_true rfl⟩
theorem ct_lackX (h : isM sh FR n) {x a1 a2 : Int} (ix : mj_i x) (hx : ¬ (x = 0 ∨ x = 1)) : mj_Ct m_M_lacksInput [.inr (.inr (.inl 52)), .inl x, .inl a1, .inl a2] sh FR IA LA n (mj_pu (.inl (some (.inl 1))) sh FR (mj_up IA 52 0 1) LA n) := by
  refine mj_Ct_of (by decide +kernel) (by decide) (Nat.le_of_ble_eq_true rfl) ?_
  refine mj_go z_M_lacksInput [] 60 ?_
  refine And.intro (by trivial) (And.intro (Nat.le_of_ble_eq_true rfl) (And.intro (Nat.le_of_ble_eq_true rfl) (And.intro (Nat.le_of_ble_eq_true rfl) (Exists.intro _ (And.intro (ct_isC0 ix hx) ?_)))))
  rintro r9 sh9 FR9 IA9 LA9 n9 ⟨z0, z1, z2, z3, z4, z5⟩
  subst z0
  replace z1 := z1.symm
  subst z1
  replace z2 := z2.symm
  subst z2
  replace z3 := z3.symm
  subst z3
  replace z4 := z4.symm
  subst z4
  replace z5 := z5.symm
  subst z5
  refine And.intro (Or.inl rfl) ?_
  refine And.intro (fun d => ?_) (fun d => ?_)
  · clear d
    refine And.intro (fun d => ?_) (fun d => ?_)
    · clear d
      refine And.intro h.o (And.intro (Nat.le_of_ble_eq_true rfl) (And.intro (Nat.le_of_ble_eq_true rfl) (And.intro (Nat.le_of_ble_eq_true rfl) (Exists.intro _ (And.intro (ct_thr10 h) ?_)))))
      rintro r9 sh9 FR9 IA9 LA9 n9 ⟨z0, z1, z2, z3, z4, z5⟩
      subst z0
      replace z1 := z1.symm
      subst z1
      replace z2 := z2.symm
      subst z2
      replace z3 := z3.symm
      subst z3
      replace z4 := z4.symm
      subst z4
      replace z5 := z5.symm
      subst z5
      refine And.intro (Or.inl rfl) ?_
      exact ⟨Or.inr rfl, ⟨rfl, rfl, rfl, rfl, rfl, rfl⟩, Nat.le_of_ble_eq_true rfl, Nat.le_of_ble_eq_true rfl⟩
    · exact absurd (show ¬ mj_w 1 = 0 by decide) d
  · exact absurd (show mj_w 0 = 0 by decide) d
theorem ct_M_dependsX (h : isM sh FR n) {x a1 a2 : Int} (ix : mj_i x) (hx : ¬ (x = 0 ∨ x = 1)) : mj_Ct m_M_depends [.inr (.inr (.inl 52)), .inl x, .inl a1, .inl a2] sh FR IA LA n (mj_pu (.inl (some (.inl 0))) sh FR (mj_up IA 52 0 1) LA n) := by
  refine mj_Ct_of (by decide +kernel) (by decide) (Nat.le_of_ble_eq_true rfl) ?_
  refine mj_go z_M_depends [] 60 ?_
  refine And.intro h.o (And.intro (Nat.le_of_ble_eq_true rfl) (And.intro (Nat.le_of_ble_eq_true rfl) (And.intro (Nat.le_of_ble_eq_true rfl) (Exists.intro _ (And.intro (ct_lackX h ix hx) ?_)))))
  rintro r9 sh9 FR9 IA9 LA9 n9 ⟨z0, z1, z2, z3, z4, z5⟩
  subst z0
  replace z1 := z1.symm
  subst z1
  replace z2 := z2.symm
  subst z2
  replace z3 := z3.symm
  subst z3
  replace z4 := z4.symm
  subst z4
  replace z5 := z5.symm
  subst z5
  refine And.intro (Or.inl rfl) ?_
  refine And.intro (fun d => ?_) (fun d => ?_)
  · exact absurd d (by decide)
  · exact ⟨Or.inl rfl, ⟨rfl, rfl, rfl, rfl, rfl, rfl⟩, Nat.le_of_ble_eq_true rfl, Nat.le_of_ble_eq_true rfl⟩
theorem ct_M_risesX (h : isM sh FR n) {x a1 a2 : Int} (ix : mj_i x) (hx : ¬ (x = 0 ∨ x = 1)) : mj_Ct m_M_rises [.inr (.inr (.inl 52)), .inl x, .inl a1, .inl a2] sh FR IA LA n (mj_pu (.inl (some (.inl 0))) sh FR (mj_up IA 52 0 1) LA n) := by
  refine mj_Ct_of (by decide +kernel) (by decide) (Nat.le_of_ble_eq_true rfl) ?_
  refine mj_go z_M_rises [] 60 ?_
  refine And.intro h.o (And.intro (Nat.le_of_ble_eq_true rfl) (And.intro (Nat.le_of_ble_eq_true rfl) (And.intro (Nat.le_of_ble_eq_true rfl) (Exists.intro _ (And.intro (ct_lackX h ix hx) ?_)))))
  rintro r9 sh9 FR9 IA9 LA9 n9 ⟨z0, z1, z2, z3, z4, z5⟩
  subst z0
  replace z1 := z1.symm
  subst z1
  replace z2 := z2.symm
  subst z2
  replace z3 := z3.symm
  subst z3
  replace z4 := z4.symm
  subst z4
  replace z5 := z5.symm
  subst z5
  refine And.intro (Or.inl rfl) ?_
  refine And.intro (fun d => ?_) (fun d => ?_)
  · exact absurd d (by decide)
  · exact ⟨⟨rfl, rfl, rfl, rfl, rfl, rfl⟩, Nat.le_of_ble_eq_true rfl, Nat.le_of_ble_eq_true rfl⟩
theorem ct_M_literalX (h : isM sh FR n) {x a1 a2 : Int} (ix : mj_i x) (hx : ¬ (x = 0 ∨ x = 1)) : mj_Ct m_M_literal [.inr (.inr (.inl 52)), .inl x, .inl a1, .inl a2] sh FR IA LA n (mj_pu (.inl (some (.inl 0))) sh FR (mj_up IA 52 0 1) LA n) := by
  refine mj_Ct_of (by decide +kernel) (by decide) (Nat.le_of_ble_eq_true rfl) ?_
  refine mj_go z_M_literal [] 60 ?_
  refine And.intro (by trivial) (And.intro (Nat.le_of_ble_eq_true rfl) (And.intro (Nat.le_of_ble_eq_true rfl) (And.intro (Nat.le_of_ble_eq_true rfl) (Exists.intro _ (And.intro (ct_isC0 ix hx) ?_)))))
  rintro r9 sh9 FR9 IA9 LA9 n9 ⟨z0, z1, z2, z3, z4, z5⟩
  subst z0
  replace z1 := z1.symm
  subst z1
  replace z2 := z2.symm
  subst z2
  replace z3 := z3.symm
  subst z3
  replace z4 := z4.symm
  subst z4
  replace z5 := z5.symm
  subst z5
  refine And.intro (Or.inl rfl) ?_
  refine And.intro (fun d => ?_) (fun d => ?_)
  · exact absurd (show mj_w 0 = 0 by decide) d
  · clear d
    refine And.intro (fun d => ?_) (fun d => ?_)
    · exact absurd d (by decide)
    · clear d
      refine And.intro (fun d => ?_) (fun d => ?_)
      · clear d
        refine And.intro h.o (And.intro (Nat.le_of_ble_eq_true rfl) (And.intro (Nat.le_of_ble_eq_true rfl) (And.intro (Nat.le_of_ble_eq_true rfl) (Exists.intro _ (And.intro (ct_thr11 h) ?_)))))
        rintro r9 sh9 FR9 IA9 LA9 n9 ⟨z0, z1, z2, z3, z4, z5⟩
        subst z0
        replace z1 := z1.symm
        subst z1
        replace z2 := z2.symm
        subst z2
        replace z3 := z3.symm
        subst z3
        replace z4 := z4.symm
        subst z4
        replace z5 := z5.symm
        subst z5
        refine And.intro (Or.inl rfl) ?_
        refine And.intro (fun d => ?_) (fun d => ?_)
        · exact absurd d (by decide)
        · exact ⟨⟨rfl, rfl, rfl, rfl, rfl, rfl⟩, Nat.le_of_ble_eq_true rfl, Nat.le_of_ble_eq_true rfl⟩
      · clear d
        refine And.intro (fun d => ?_) (fun d => ?_)
        · clear d
          refine And.intro h.o (And.intro (Nat.le_of_ble_eq_true rfl) (And.intro (Nat.le_of_ble_eq_true rfl) (And.intro (Nat.le_of_ble_eq_true rfl) (Exists.intro _ (And.intro (ct_thr10 h) ?_)))))
          rintro r9 sh9 FR9 IA9 LA9 n9 ⟨z0, z1, z2, z3, z4, z5⟩
          subst z0
          replace z1 := z1.symm
          subst z1
          replace z2 := z2.symm
          subst z2
          replace z3 := z3.symm
          subst z3
          replace z4 := z4.symm
          subst z4
          replace z5 := z5.symm
          subst z5
          refine And.intro (Or.inl rfl) ?_
          refine And.intro (fun d => ?_) (fun d => ?_)
          · exact absurd d (by decide)
          · exact ⟨⟨rfl, rfl, rfl, rfl, rfl, rfl⟩, Nat.le_of_ble_eq_true rfl, Nat.le_of_ble_eq_true rfl⟩
        · clear d
          refine And.intro h.o (And.intro (Nat.le_of_ble_eq_true rfl) (And.intro (Nat.le_of_ble_eq_true rfl) (And.intro (Nat.le_of_ble_eq_true rfl) (Exists.intro _ (And.intro (ct_thr11 h) ?_)))))
          rintro r9 sh9 FR9 IA9 LA9 n9 ⟨z0, z1, z2, z3, z4, z5⟩
          subst z0
          replace z1 := z1.symm
          subst z1
          replace z2 := z2.symm
          subst z2
          replace z3 := z3.symm
          subst z3
          replace z4 := z4.symm
          subst z4
          replace z5 := z5.symm
          subst z5
          refine And.intro (Or.inl rfl) ?_
          refine And.intro (fun d => ?_) (fun d => ?_)
          · exact absurd d (by decide)
          · exact ⟨⟨rfl, rfl, rfl, rfl, rfl, rfl⟩, Nat.le_of_ble_eq_true rfl, Nat.le_of_ble_eq_true rfl⟩
end MM
