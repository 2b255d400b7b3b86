/-! THE REFERENCE: value, least, greatest, implies, literal -/
section MM
variable {sh : mj_Sh} {FR : mj_FR} {IA : mj_FI} {LA : mj_LA} {n : Nat}
theorem ct_thr00 (h : isM sh FR n) : mj_Ct m_M_throwing [.inr (.inr (.inl 52)), .inl 0, .inl 0] sh FR IA LA n (mj_pu (.inl (some (.inl 0))) sh FR (mj_up IA 52 0 0) LA n) := ct_M_throwing (a := false) (b := false) h
theorem ct_thr10 (h : isM sh FR n) : mj_Ct m_M_throwing [.inr (.inr (.inl 52)), .inl 1, .inl 0] sh FR IA LA n (mj_pu (.inl (some (.inl 1))) sh FR (mj_up IA 52 0 1) LA n) := ct_M_throwing (a := true) (b := false) h
theorem ct_thr01 (h : isM sh FR n) : mj_Ct m_M_throwing [.inr (.inr (.inl 52)), .inl 0, .inl 1] sh FR IA LA n (mj_pu (.inl (some (.inl 1))) sh FR (mj_up IA 52 0 2) LA n) := ct_M_throwing (a := false) (b := true) h
theorem ct_thr11 (h : isM sh FR n) : mj_Ct m_M_throwing [.inr (.inr (.inl 52)), .inl 1, .inl 1] sh FR IA LA n (mj_pu (.inl (some (.inl 1))) sh FR (mj_up IA 52 0 1) LA n) := ct_M_throwing (a := true) (b := true) h
theorem ct_isC1 {c : Nat} (hc : c < 2) : mj_Ct m_M_isCircuit [.inl (c : Int)] sh FR IA LA n (mj_pu (.inl (some (.inl 1))) sh FR IA LA n) := by
  have q := ct_M_isCircuit (sh := sh) (FR := FR) (IA := IA) (LA := LA) (n := n) (x := (c : Int)) (by unfold mj_i; omega)
  rw [if_pos (by omega)] at q
  exact q
theorem ct_isC0 {x : Int} (ix : mj_i x) (hx : ¬ (x = 0 ∨ x = 1)) : mj_Ct m_M_isCircuit [.inl x] sh FR IA LA n (mj_pu (.inl (some (.inl 0))) sh FR IA LA n) := by
  have q := ct_M_isCircuit (sh := sh) (FR := FR) (IA := IA) (LA := LA) (n := n) (x := x) ix
  rw [if_neg hx] at q
  exact q
theorem ct_isL (h : isM sh FR n) {c : Nat} {lit : Int} (hc : c < 3) (il : mj_i lit) (hr : M_rr IA) : (M_st IA c lit → mj_Ct m_M_isLiteral [.inr (.inr (.inl 52)), .inl c, .inl lit] sh FR IA LA n (mj_pu (.inl (some (.inl 1))) sh FR IA LA n)) ∧ (¬ M_st IA c lit → mj_Ct m_M_isLiteral [.inr (.inr (.inl 52)), .inl c, .inl lit] sh FR IA LA n (mj_pu (.inl (some (.inl 0))) sh FR IA LA n)) := by
  have q := ct_M_isLiteral (LA := LA) h hc il hr
  refine ⟨fun z => ?_, fun z => ?_⟩
  · rw [if_pos z] at q
    exact q
  · rw [if_neg z] at q
    exact q
theorem ct_isV (h : isM sh FR n) {c I : Nat} {x : Int} (hc : c < 3) (ix : mj_i x) (hI : IA 55 c = (I : Int)) (hI2 : I ≤ 14) : ((0 ≤ x ∧ x < ((2 ^ I : Nat) : Int)) → mj_Ct m_M_isVector [.inr (.inr (.inl 52)), .inl c, .inl x] sh FR IA LA n (mj_pu (.inl (some (.inl 1))) sh FR IA LA n)) ∧ (¬ (0 ≤ x ∧ x < ((2 ^ I : Nat) : Int)) → mj_Ct m_M_isVector [.inr (.inr (.inl 52)), .inl c, .inl x] sh FR IA LA n (mj_pu (.inl (some (.inl 0))) sh FR IA LA n)) := by
  have q := ct_M_isVector (LA := LA) h hc ix hI hI2
  refine ⟨fun z => ?_, fun z => ?_⟩
  · rw [if_pos z] at q
    exact q
  · rw [if_neg z] at q
    exact q
/-- the vectors of I inputs -/
theorem pw_le {I : Nat} (h : I ≤ 14) : 1 ≤ 2 ^ I ∧ 2 ^ I ≤ 16384 := ⟨Nat.two_pow_pos I, by have : 2 ^ I ≤ 2 ^ 14 := Nat.pow_le_pow_right (by decide) h; omega⟩
/-- an answer or a refusal -/
def M_an (IA : mj_FI) (ok : Prop) (P : mj_O → Prop) (o : mj_O) (J : mj_FI) : Prop := (ok ∧ J = mj_up IA 52 0 0 ∧ P o) ∨ (¬ ok ∧ J = mj_up IA 52 0 1 ∧ o = .inl (some (.inl 0)))
set_option maxHeartbeats 1000000 in
theorem ct_M_value (h : isM sh FR n) {c I : Nat} {lit v : Int} (hc : c < 2) (hI : IA 55 c = (I : Int)) (hI2 : I ≤ 14) (il : mj_i lit) (iv : mj_i v) (hr : M_rr IA) :
    mj_Ct m_M_value [.inr (.inr (.inl 52)), .inl c, .inl lit, .inl v] sh FR IA LA n (mj_po (M_an IA (M_st IA c lit ∧ 0 ≤ v ∧ v < ((2 ^ I : Nat) : Int)) (fun o => o = .inl (some (.inl (if M_bt LA I c (M_ro IA c lit) lit v.toNat = true then 1 else 0))))) sh FR LA n) := by
  have hp := pw_le hI2
  have bad : ¬ (M_st IA c lit ∧ 0 ≤ v ∧ v < ((2 ^ I : Nat) : Int)) → mj_G m_M_value (mj_po (M_an IA (M_st IA c lit ∧ 0 ≤ v ∧ v < ((2 ^ I : Nat) : Int)) (fun o => o = .inl (some (.inl (if M_bt LA I c (M_ro IA c lit) lit v.toNat = true then 1 else 0))))) sh FR LA n) 26 [some (.inr (.inr (.inl 52))), some (.inl c), some (.inl lit), some (.inl v)] [.inr (.inr (.inl 52))] sh FR IA LA n 0 0 := by
    intro hb
    refine mj_go z_M_value [] 60 ?_
    refine And.intro h.o (And.intro (Nat.le_of_ble_eq_true rfl) (And.intro (Nat.le_of_ble_eq_true rfl) (And.intro (Nat.le_of_ble_eq_true rfl) (Exists.intro _ (And.intro (ct_thr10 h) ?_)))))
    rintro r9 sh9 FR9 IA9 LA9 n9 ⟨z0, z1, z2, z3, z4, z5⟩
    subst z0
    replace z1 := z1.symm
    subst z1
    replace z2 := z2.symm
    subst z2
    replace z3 := z3.symm
    subst z3
    replace z4 := z4.symm
    subst z4
    replace z5 := z5.symm
    subst z5
    refine And.intro (Or.inl rfl) ?_
    refine And.intro (fun d => ?_) (fun d => ?_)
    · exact absurd d (by decide)
    · exact ⟨⟨rfl, rfl, rfl, rfl, Or.inr ⟨hb, rfl, rfl⟩⟩, Nat.le_of_ble_eq_true rfl, Nat.le_of_ble_eq_true rfl⟩
  refine mj_Ct_of (by decide +kernel) (by decide) (Nat.le_of_ble_eq_true rfl) ?_
  refine mj_go z_M_value [26] 60 ?_
  refine And.intro (by trivial) (And.intro (Nat.le_of_ble_eq_true rfl) (And.intro (Nat.le_of_ble_eq_true rfl) (And.intro (Nat.le_of_ble_eq_true rfl) (Exists.intro _ (And.intro (ct_isC1 hc) ?_)))))
  rintro r9 sh9 FR9 IA9 LA9 n9 ⟨z0, z1, z2, z3, z4, z5⟩
  subst z0
  replace z1 := z1.symm
  subst z1
  replace z2 := z2.symm
  subst z2
  replace z3 := z3.symm
  subst z3
  replace z4 := z4.symm
  subst z4
  replace z5 := z5.symm
  subst z5
  refine And.intro (Or.inl rfl) ?_
  refine And.intro (fun d => ?_) (fun d => ?_)
  · exact absurd d (by decide)
  clear d
  by_cases z1 : M_st IA c lit
  · refine And.intro h.o (And.intro (Nat.le_of_ble_eq_true rfl) (And.intro (Nat.le_of_ble_eq_true rfl) (And.intro (Nat.le_of_ble_eq_true rfl) (Exists.intro _ (And.intro ((ct_isL h (by omega) il hr).1 z1) ?_)))))
    rintro r9 sh9 FR9 IA9 LA9 n9 ⟨z0, z1, z2, z3, z4, z5⟩
    subst z0
    replace z1 := z1.symm
    subst z1
    replace z2 := z2.symm
    subst z2
    replace z3 := z3.symm
    subst z3
    replace z4 := z4.symm
    subst z4
    replace z5 := z5.symm
    subst z5
    refine And.intro (Or.inl rfl) ?_
    refine And.intro (fun d => ?_) (fun d => ?_)
    · exact absurd d (by decide)
    clear d
    by_cases z2 : 0 ≤ v ∧ v < ((2 ^ I : Nat) : Int)
    · obtain ⟨q1, q2⟩ := z1.row hr (by omega)
      obtain ⟨w, hw⟩ : ∃ w : Nat, v = (w : Int) := ⟨v.toNat, by omega⟩
      subst hw
      refine And.intro h.o (And.intro (Nat.le_of_ble_eq_true rfl) (And.intro (Nat.le_of_ble_eq_true rfl) (And.intro (Nat.le_of_ble_eq_true rfl) (Exists.intro _ (And.intro ((ct_isV h (by omega) iv hI hI2).1 z2) ?_)))))
      rintro r9 sh9 FR9 IA9 LA9 n9 ⟨z0, z1, z2, z3, z4, z5⟩
      subst z0
      replace z1 := z1.symm
      subst z1
      replace z2 := z2.symm
      subst z2
      replace z3 := z3.symm
      subst z3
      replace z4 := z4.symm
      subst z4
      replace z5 := z5.symm
      subst z5
      refine And.intro (Or.inl rfl) ?_
      refine And.intro (fun d => ?_) (fun d => ?_)
      · refine And.intro h.o (And.intro (Nat.le_of_ble_eq_true rfl) (And.intro (Nat.le_of_ble_eq_true rfl) (And.intro (Nat.le_of_ble_eq_true rfl) (Exists.intro _ (And.intro (ct_thr00 h) ?_)))))
        rintro r9 sh9 FR9 IA9 LA9 n9 ⟨z0, z1, z2, z3, z4, z5⟩
        subst z0
        replace z1 := z1.symm
        subst z1
        replace z2 := z2.symm
        subst z2
        replace z3 := z3.symm
        subst z3
        replace z4 := z4.symm
        subst z4
        replace z5 := z5.symm
        subst z5
        refine And.intro (Or.inl rfl) ?_
        refine And.intro (fun d => ?_) (fun d => ?_)
        · clear d
          refine And.intro h.o (And.intro (Nat.le_of_ble_eq_true rfl) (And.intro (Nat.le_of_ble_eq_true rfl) (And.intro (Nat.le_of_ble_eq_true rfl) (Exists.intro _ (And.intro (ct_M_bit (c := c) (v := w) h hc (by rw [mj_up_ne (by decide)]; exact hI) hI2 z1.1 z1.2.1 (by rw [mj_up_ne (by decide)]; exact q1) q2 (by omega)) ?_)))))
          rintro r9 sh9 FR9 IA9 LA9 n9 ⟨z0, z1, z2, z3, z4, z5⟩
          subst z0
          replace z1 := z1.symm
          subst z1
          replace z2 := z2.symm
          subst z2
          replace z3 := z3.symm
          subst z3
          replace z4 := z4.symm
          subst z4
          replace z5 := z5.symm
          subst z5
          refine And.intro (Or.inl rfl) ?_
          exact ⟨⟨rfl, rfl, rfl, rfl, Or.inl ⟨⟨z1, z2⟩, rfl, rfl⟩⟩, Nat.le_of_ble_eq_true rfl, Nat.le_of_ble_eq_true rfl⟩
        · exact absurd (show mj_w 0 = 0 by decide) d
      · exact absurd d (by decide)
    · refine And.intro h.o (And.intro (Nat.le_of_ble_eq_true rfl) (And.intro (Nat.le_of_ble_eq_true rfl) (And.intro (Nat.le_of_ble_eq_true rfl) (Exists.intro _ (And.intro ((ct_isV h (by omega) iv hI hI2).2 z2) ?_)))))
      rintro r9 sh9 FR9 IA9 LA9 n9 ⟨z0, z1, z2, z3, z4, z5⟩
      subst z0
      replace z1 := z1.symm
      subst z1
      replace z2 := z2.symm
      subst z2
      replace z3 := z3.symm
      subst z3
      replace z4 := z4.symm
      subst z4
      replace z5 := z5.symm
      subst z5
      refine And.intro (Or.inl rfl) ?_
      refine And.intro (fun d => ?_) (fun d => ?_)
      · exact absurd (show mj_w 0 = 0 by decide) d
      · exact bad (fun z => z2 z.2)
  · refine And.intro h.o (And.intro (Nat.le_of_ble_eq_true rfl) (And.intro (Nat.le_of_ble_eq_true rfl) (And.intro (Nat.le_of_ble_eq_true rfl) (Exists.intro _ (And.intro ((ct_isL h (by omega) il hr).2 z1) ?_)))))
    rintro r9 sh9 FR9 IA9 LA9 n9 ⟨z0, z1, z2, z3, z4, z5⟩
    subst z0
    replace z1 := z1.symm
    subst z1
    replace z2 := z2.symm
    subst z2
    replace z3 := z3.symm
    subst z3
    replace z4 := z4.symm
    subst z4
    replace z5 := z5.symm
    subst z5
    refine And.intro (Or.inl rfl) ?_
    refine And.intro (fun d => ?_) (fun d => ?_)
    · exact bad (fun z => z1 z.1)
    · exact absurd (show mj_w 0 = 0 by decide) d
end MM
