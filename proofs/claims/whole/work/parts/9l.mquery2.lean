/-! THE REFERENCE: least, greatest, implies -/
section MM
variable {sh : mj_Sh} {FR : mj_FR} {IA : mj_FI} {LA : mj_LA} {n : Nat}
theorem M_rr.up {IA : mj_FI} {x : Int} (h : M_rr IA) : M_rr (mj_up IA 52 0 x) := fun j hj => by rw [mj_up_ne (by decide)]; exact h j hj
set_option maxHeartbeats 1000000 in
theorem ct_M_least (h : isM sh FR n) {c I : Nat} {lit v : Int} (hc : c < 2) (hI : IA 55 c = (I : Int)) (hI2 : I ≤ 14) (il : mj_i lit) (iv : mj_i v) (hr : M_rr IA) :
    mj_Ct m_M_least [.inr (.inr (.inl 52)), .inl c, .inl lit, .inl v] sh FR IA LA n (mj_po (M_an IA (M_st IA c lit ∧ 0 ≤ v ∧ v < ((2 ^ I : Nat) : Int)) (fun o => ∃ z, o = .inl (some (.inl z)) ∧ C_fst (M_bt LA I c (M_ro IA c lit) lit) v.toNat (2 ^ I) z)) sh FR LA n) := by
  have hp := pw_le hI2
  generalize hQ : mj_po (M_an IA (M_st IA c lit ∧ 0 ≤ v ∧ v < ((2 ^ I : Nat) : Int)) (fun o => ∃ z, o = .inl (some (.inl z)) ∧ C_fst (M_bt LA I c (M_ro IA c lit) lit) v.toNat (2 ^ I) z)) sh FR LA n = Q
  have bad : ¬ (M_st IA c lit ∧ 0 ≤ v ∧ v < ((2 ^ I : Nat) : Int)) → mj_G m_M_least Q 26 [some (.inr (.inr (.inl 52))), some (.inl c), some (.inl lit), some (.inl v), none] [.inr (.inr (.inl 52))] sh FR IA LA n 0 0 := by
    intro hb
    subst hQ
    refine mj_go z_M_least [] 60 ?_
    refine And.intro h.o (And.intro (Nat.le_of_ble_eq_true rfl) (And.intro (Nat.le_of_ble_eq_true rfl) (And.intro (Nat.le_of_ble_eq_true rfl) (Exists.intro _ (And.intro (ct_thr10 h) ?_)))))
    rintro r9 sh9 FR9 IA9 LA9 n9 ⟨z0, z1, z2, z3, z4, z5⟩
    subst z0
    replace z1 := z1.symm
    subst z1
    replace z2 := z2.symm
    subst z2
    replace z3 := z3.symm
    subst z3
    replace z4 := z4.symm
    subst z4
    replace z5 := z5.symm
    subst z5
    refine And.intro (Or.inl rfl) ?_
    refine And.intro (fun d => ?_) (fun d => ?_)
    · exact absurd d (by decide)
    · exact ⟨⟨rfl, rfl, rfl, rfl, Or.inr ⟨hb, rfl, rfl⟩⟩, Nat.le_of_ble_eq_true rfl, Nat.le_of_ble_eq_true rfl⟩
  refine mj_Ct_of (by decide +kernel) (by decide) (Nat.le_of_ble_eq_true rfl) ?_
  refine mj_go z_M_least [26, 43] 60 ?_
  refine And.intro (by trivial) (And.intro (Nat.le_of_ble_eq_true rfl) (And.intro (Nat.le_of_ble_eq_true rfl) (And.intro (Nat.le_of_ble_eq_true rfl) (Exists.intro _ (And.intro (ct_isC1 hc) ?_)))))
  rintro r9 sh9 FR9 IA9 LA9 n9 ⟨z0, z1, z2, z3, z4, z5⟩
  subst z0
  replace z1 := z1.symm
  subst z1
  replace z2 := z2.symm
  subst z2
  replace z3 := z3.symm
  subst z3
  replace z4 := z4.symm
  subst z4
  replace z5 := z5.symm
  subst z5
  refine And.intro (Or.inl rfl) ?_
  refine And.intro (fun d => ?_) (fun d => ?_)
  · exact absurd d (by decide)
  clear d
  by_cases z1 : M_st IA c lit
  · refine And.intro h.o (And.intro (Nat.le_of_ble_eq_true rfl) (And.intro (Nat.le_of_ble_eq_true rfl) (And.intro (Nat.le_of_ble_eq_true rfl) (Exists.intro _ (And.intro ((ct_isL h (by omega) il hr).1 z1) ?_)))))
    rintro r9 sh9 FR9 IA9 LA9 n9 ⟨z0, z1, z2, z3, z4, z5⟩
    subst z0
    replace z1 := z1.symm
    subst z1
    replace z2 := z2.symm
    subst z2
    replace z3 := z3.symm
    subst z3
    replace z4 := z4.symm
    subst z4
    replace z5 := z5.symm
    subst z5
    refine And.intro (Or.inl rfl) ?_
    refine And.intro (fun d => ?_) (fun d => ?_)
    · exact absurd d (by decide)
    clear d
    by_cases z2 : 0 ≤ v ∧ v < ((2 ^ I : Nat) : Int)
    · obtain ⟨q1, q2⟩ := z1.row hr (by omega)
      obtain ⟨w, hw⟩ : ∃ w : Nat, v = (w : Int) := ⟨v.toNat, by omega⟩
      subst hw
      have i5 : (mj_up IA 52 0 0) 55 c = (I : Int) := by rw [mj_up_ne (by decide)]; exact hI
      have loop : ∀ (t x : Nat), x + t = 2 ^ I → w ≤ x → (∀ i, w ≤ i → i < x → M_bt LA I c (M_ro IA c lit) lit i = false) → mj_G m_M_least Q 43 [some (.inr (.inr (.inl 52))), some (.inl c), some (.inl lit), some (.inl w), some (.inl x)] [] sh FR (mj_up IA 52 0 0) LA n 0 0 := by
        intro t
        induction t with
        | zero =>
          intro x hx h1 h2
          subst hQ
          refine mj_go z_M_least [43] 60 ?_
          refine And.intro h.o (Exists.intro _ (And.intro h.r5 ?_))
          refine Exists.intro _ (Exists.intro (c) (And.intro h.a5 (And.intro (by first | (rw [mj_w_id (by omega) (by omega)]; done) | (rw [mj_w_id (by omega) (by omega)]; omega) | (unfold mj_w; omega)) (And.intro (by omega) ?_))))
          rw [i5]
          refine Exists.intro (((2 ^ I : Nat) : Int)) (And.intro (nu_shl1 ⟨I, by omega⟩) ?_)
          refine And.intro (fun d => ?_) (fun d => ?_)
          · exact ⟨⟨rfl, rfl, rfl, rfl, Or.inl ⟨⟨z1, z2⟩, rfl, -1, rfl, Or.inr ⟨rfl, fun i i1 i2 => h2 i (by omega) (by omega)⟩⟩⟩, Nat.le_of_ble_eq_true rfl, Nat.le_of_ble_eq_true rfl⟩
          · clear q1
            simp (disch := (clear d; omega)) only [mj_w_id] at d
            omega
        | succ t ih =>
          intro x hx h1 h2
          refine mj_go z_M_least [43] 60 ?_
          refine And.intro h.o (Exists.intro _ (And.intro h.r5 ?_))
          refine Exists.intro _ (Exists.intro (c) (And.intro h.a5 (And.intro (by first | (rw [mj_w_id (by omega) (by omega)]; done) | (rw [mj_w_id (by omega) (by omega)]; omega) | (unfold mj_w; omega)) (And.intro (by omega) ?_))))
          rw [i5]
          refine Exists.intro (((2 ^ I : Nat) : Int)) (And.intro (nu_shl1 ⟨I, by omega⟩) ?_)
          refine And.intro (fun d => ?_) (fun d => ?_)
          · clear q1
            simp (disch := (clear d; omega)) only [mj_w_id] at d
            omega
          · clear d
            refine And.intro h.o (And.intro (Nat.le_of_ble_eq_true rfl) (And.intro (Nat.le_of_ble_eq_true rfl) (And.intro (Nat.le_of_ble_eq_true rfl) (Exists.intro _ (And.intro (ct_M_bit (c := c) (v := x) h hc i5 hI2 z1.1 z1.2.1 (by rw [mj_up_ne (by decide)]; exact q1) q2 (by omega)) ?_)))))
            rintro r9 sh9 FR9 IA9 LA9 n9 ⟨z0, z1, z2, z3, z4, z5⟩
            subst z0
            replace z1 := z1.symm
            subst z1
            replace z2 := z2.symm
            subst z2
            replace z3 := z3.symm
            subst z3
            replace z4 := z4.symm
            subst z4
            replace z5 := z5.symm
            subst z5
            refine And.intro (Or.inl rfl) ?_
            cases hb : M_bt LA I c (M_ro IA c lit) lit x with
            | true =>
              refine And.intro (fun d => ?_) (fun d => ?_)
              · exact absurd (show mj_w 1 = mj_w 1 from rfl) d
              · subst hQ
                exact ⟨⟨rfl, rfl, rfl, rfl, Or.inl ⟨⟨z1, z2⟩, rfl, x, rfl, Or.inl ⟨x, rfl, by omega, by omega, hb, fun i i1 i2 => h2 i (by omega) i2⟩⟩⟩, Nat.le_of_ble_eq_true rfl, Nat.le_of_ble_eq_true rfl⟩
            | false =>
              refine And.intro (fun d => ?_) (fun d => ?_)
              · clear q1 d
                refine Exists.intro (((x + 1 : Nat) : Int)) (And.intro (by first | (rw [mj_w_id (by omega) (by omega)]; done) | (rw [mj_w_id (by omega) (by omega)]; omega) | (unfold mj_w; omega)) ?_)
                refine ih (x + 1) (by omega) (by omega) (fun i i1 i2 => ?_)
                by_cases e : i = x
                · rw [e]; exact hb
                · exact h2 i i1 (by omega)
              · exact absurd (show ¬ mj_w 0 = mj_w 1 by decide) d
      refine And.intro h.o (And.intro (Nat.le_of_ble_eq_true rfl) (And.intro (Nat.le_of_ble_eq_true rfl) (And.intro (Nat.le_of_ble_eq_true rfl) (Exists.intro _ (And.intro ((ct_isV h (by omega) iv hI hI2).1 z2) ?_)))))
      rintro r9 sh9 FR9 IA9 LA9 n9 ⟨z0, z1, z2, z3, z4, z5⟩
      subst z0
      replace z1 := z1.symm
      subst z1
      replace z2 := z2.symm
      subst z2
      replace z3 := z3.symm
      subst z3
      replace z4 := z4.symm
      subst z4
      replace z5 := z5.symm
      subst z5
      refine And.intro (Or.inl rfl) ?_
      refine And.intro (fun d => ?_) (fun d => ?_)
      · refine And.intro h.o (And.intro (Nat.le_of_ble_eq_true rfl) (And.intro (Nat.le_of_ble_eq_true rfl) (And.intro (Nat.le_of_ble_eq_true rfl) (Exists.intro _ (And.intro (ct_thr00 h) ?_)))))
        rintro r9 sh9 FR9 IA9 LA9 n9 ⟨z0, z1, z2, z3, z4, z5⟩
        subst z0
        replace z1 := z1.symm
        subst z1
        replace z2 := z2.symm
        subst z2
        replace z3 := z3.symm
        subst z3
        replace z4 := z4.symm
        subst z4
        replace z5 := z5.symm
        subst z5
        refine And.intro (Or.inl rfl) ?_
        refine And.intro (fun d => ?_) (fun d => ?_)
        · exact loop (2 ^ I - w) w (by omega) (by omega) (fun i i1 i2 => by omega)
        · exact absurd (show mj_w 0 = 0 by decide) d
      · exact absurd d (by decide)
    · refine And.intro h.o (And.intro (Nat.le_of_ble_eq_true rfl) (And.intro (Nat.le_of_ble_eq_true rfl) (And.intro (Nat.le_of_ble_eq_true rfl) (Exists.intro _ (And.intro ((ct_isV h (by omega) iv hI hI2).2 z2) ?_)))))
      rintro r9 sh9 FR9 IA9 LA9 n9 ⟨z0, z1, z2, z3, z4, z5⟩
      subst z0
      replace z1 := z1.symm
      subst z1
      replace z2 := z2.symm
      subst z2
      replace z3 := z3.symm
      subst z3
      replace z4 := z4.symm
      subst z4
      replace z5 := z5.symm
      subst z5
      refine And.intro (Or.inl rfl) ?_
      refine And.intro (fun d => ?_) (fun d => ?_)
      · exact absurd (show mj_w 0 = 0 by decide) d
      · exact bad (fun z => z2 z.2)
  · refine And.intro h.o (And.intro (Nat.le_of_ble_eq_true rfl) (And.intro (Nat.le_of_ble_eq_true rfl) (And.intro (Nat.le_of_ble_eq_true rfl) (Exists.intro _ (And.intro ((ct_isL h (by omega) il hr).2 z1) ?_)))))
    rintro r9 sh9 FR9 IA9 LA9 n9 ⟨z0, z1, z2, z3, z4, z5⟩
    subst z0
    replace z1 := z1.symm
    subst z1
    replace z2 := z2.symm
    subst z2
    replace z3 := z3.symm
    subst z3
    replace z4 := z4.symm
    subst z4
    replace z5 := z5.symm
    subst z5
    refine And.intro (Or.inl rfl) ?_
    refine And.intro (fun d => ?_) (fun d => ?_)
    · exact bad (fun z => z1 z.1)
    · exact absurd (show mj_w 0 = 0 by decide) d
set_option maxHeartbeats 1000000 in
theorem ct_M_greatest (h : isM sh FR n) {c I : Nat} {lit : Int} (hc : c < 2) (hI : IA 55 c = (I : Int)) (hI2 : I ≤ 14) (il : mj_i lit) (hr : M_rr IA) :
    mj_Ct m_M_greatest [.inr (.inr (.inl 52)), .inl c, .inl lit] sh FR IA LA n (mj_po (M_an IA (M_st IA c lit) (fun o => ∃ z, o = .inl (some (.inl z)) ∧ C_lst (M_bt LA I c (M_ro IA c lit) lit) (2 ^ I) z)) sh FR LA n) := by
  have hp := pw_le hI2
  generalize hQ : mj_po (M_an IA (M_st IA c lit) (fun o => ∃ z, o = .inl (some (.inl z)) ∧ C_lst (M_bt LA I c (M_ro IA c lit) lit) (2 ^ I) z)) sh FR LA n = Q
  refine mj_Ct_of (by decide +kernel) (by decide) (Nat.le_of_ble_eq_true rfl) ?_
  refine mj_go z_M_greatest [42] 60 ?_
  refine And.intro (by trivial) (And.intro (Nat.le_of_ble_eq_true rfl) (And.intro (Nat.le_of_ble_eq_true rfl) (And.intro (Nat.le_of_ble_eq_true rfl) (Exists.intro _ (And.intro (ct_isC1 hc) ?_)))))
  rintro r9 sh9 FR9 IA9 LA9 n9 ⟨z0, z1, z2, z3, z4, z5⟩
  subst z0
  replace z1 := z1.symm
  subst z1
  replace z2 := z2.symm
  subst z2
  replace z3 := z3.symm
  subst z3
  replace z4 := z4.symm
  subst z4
  replace z5 := z5.symm
  subst z5
  refine And.intro (Or.inl rfl) ?_
  refine And.intro (fun d => ?_) (fun d => ?_)
  · exact absurd d (by decide)
  clear d
  by_cases z1 : M_st IA c lit
  · refine And.intro h.o (And.intro (Nat.le_of_ble_eq_true rfl) (And.intro (Nat.le_of_ble_eq_true rfl) (And.intro (Nat.le_of_ble_eq_true rfl) (Exists.intro _ (And.intro ((ct_isL h (by omega) il hr).1 z1) ?_)))))
    rintro r9 sh9 FR9 IA9 LA9 n9 ⟨z0, z1, z2, z3, z4, z5⟩
    subst z0
    replace z1 := z1.symm
    subst z1
    replace z2 := z2.symm
    subst z2
    replace z3 := z3.symm
    subst z3
    replace z4 := z4.symm
    subst z4
    replace z5 := z5.symm
    subst z5
    refine And.intro (Or.inl rfl) ?_
    obtain ⟨q1, q2⟩ := z1.row hr (by omega)
    have i5 : (mj_up IA 52 0 0) 55 c = (I : Int) := by rw [mj_up_ne (by decide)]; exact hI
    have loop : ∀ (x : Nat), x ≤ 2 ^ I → (∀ i, x ≤ i → i < 2 ^ I → M_bt LA I c (M_ro IA c lit) lit i = false) → mj_G m_M_greatest Q 42 [some (.inr (.inr (.inl 52))), some (.inl c), some (.inl lit), some (.inl ((x : Int) - 1))] [] sh FR (mj_up IA 52 0 0) LA n 0 0 := by
      intro x
      induction x with
      | zero =>
        intro h1 h2
        subst hQ
        refine mj_go z_M_greatest [42] 60 ?_
        refine And.intro (fun d => ?_) (fun d => ?_)
        · exact ⟨⟨rfl, rfl, rfl, rfl, Or.inl ⟨z1, rfl, -1, rfl, Or.inr ⟨rfl, fun i i2 => h2 i (by omega) (by omega)⟩⟩⟩, Nat.le_of_ble_eq_true rfl, Nat.le_of_ble_eq_true rfl⟩
        · exact absurd d (by decide)
      | succ x ih =>
        intro h1 h2
        rw [show ((x + 1 : Nat) : Int) - 1 = (x : Int) by omega]
        refine mj_go z_M_greatest [42] 60 ?_
        refine And.intro (fun d => ?_) (fun d => ?_)
        · clear q1
          simp (disch := (clear d; omega)) only [mj_w_id] at d
          omega
        · clear d
          refine And.intro h.o (And.intro (Nat.le_of_ble_eq_true rfl) (And.intro (Nat.le_of_ble_eq_true rfl) (And.intro (Nat.le_of_ble_eq_true rfl) (Exists.intro _ (And.intro (ct_M_bit (c := c) (v := x) h hc i5 hI2 z1.1 z1.2.1 (by rw [mj_up_ne (by decide)]; exact q1) q2 (by omega)) ?_)))))
          rintro r9 sh9 FR9 IA9 LA9 n9 ⟨z0, z1, z2, z3, z4, z5⟩
          subst z0
          replace z1 := z1.symm
          subst z1
          replace z2 := z2.symm
          subst z2
          replace z3 := z3.symm
          subst z3
          replace z4 := z4.symm
          subst z4
          replace z5 := z5.symm
          subst z5
          refine And.intro (Or.inl rfl) ?_
          cases hb : M_bt LA I c (M_ro IA c lit) lit x with
          | true =>
            refine And.intro (fun d => ?_) (fun d => ?_)
            · exact absurd (show mj_w 1 = mj_w 1 from rfl) d
            · subst hQ
              exact ⟨⟨rfl, rfl, rfl, rfl, Or.inl ⟨z1, rfl, x, rfl, Or.inl ⟨x, rfl, by omega, hb, fun i i1 i2 => h2 i (by omega) i2⟩⟩⟩, Nat.le_of_ble_eq_true rfl, Nat.le_of_ble_eq_true rfl⟩
          | false =>
            refine And.intro (fun d => ?_) (fun d => ?_)
            · clear q1 d
              refine Exists.intro (((x : Int) - 1)) (And.intro (by first | (rw [mj_w_id (by omega) (by omega)]; done) | (rw [mj_w_id (by omega) (by omega)]; omega) | (unfold mj_w; omega)) ?_)
              refine ih (by omega) (fun i i1 i2 => ?_)
              by_cases e : i = x
              · rw [e]; exact hb
              · exact h2 i (by omega) (by omega)
            · exact absurd (show ¬ mj_w 0 = mj_w 1 by decide) d
    refine And.intro (fun d => ?_) (fun d => ?_)
    · refine And.intro h.o (And.intro (Nat.le_of_ble_eq_true rfl) (And.intro (Nat.le_of_ble_eq_true rfl) (And.intro (Nat.le_of_ble_eq_true rfl) (Exists.intro _ (And.intro (ct_thr00 h) ?_)))))
      rintro r9 sh9 FR9 IA9 LA9 n9 ⟨z0, z1, z2, z3, z4, z5⟩
      subst z0
      replace z1 := z1.symm
      subst z1
      replace z2 := z2.symm
      subst z2
      replace z3 := z3.symm
      subst z3
      replace z4 := z4.symm
      subst z4
      replace z5 := z5.symm
      subst z5
      refine And.intro (Or.inl rfl) ?_
      refine And.intro (fun d => ?_) (fun d => ?_)
      · clear d q1
        refine And.intro h.o (Exists.intro _ (And.intro h.r5 ?_))
        refine Exists.intro _ (Exists.intro (c) (And.intro h.a5 (And.intro (by first | (rw [mj_w_id (by omega) (by omega)]; done) | (rw [mj_w_id (by omega) (by omega)]; omega) | (unfold mj_w; omega)) (And.intro (by omega) ?_))))
        rw [i5]
        refine Exists.intro (((2 ^ I : Nat) : Int)) (And.intro (nu_shl1 ⟨I, by omega⟩) ?_)
        refine Exists.intro ((((2 ^ I : Nat) : Int) - 1)) (And.intro (by first | (rw [mj_w_id (by omega) (by omega)]; done) | (rw [mj_w_id (by omega) (by omega)]; omega) | (unfold mj_w; omega)) ?_)
        exact loop (2 ^ I) (by omega) (fun i i1 i2 => by omega)
      · exact absurd (show mj_w 0 = 0 by decide) d
    · exact absurd d (by decide)
  · refine And.intro h.o (And.intro (Nat.le_of_ble_eq_true rfl) (And.intro (Nat.le_of_ble_eq_true rfl) (And.intro (Nat.le_of_ble_eq_true rfl) (Exists.intro _ (And.intro ((ct_isL h (by omega) il hr).2 z1) ?_)))))
    rintro r9 sh9 FR9 IA9 LA9 n9 ⟨z0, z1, z2, z3, z4, z5⟩
    subst z0
    replace z1 := z1.symm
    subst z1
    replace z2 := z2.symm
    subst z2
    replace z3 := z3.symm
    subst z3
    replace z4 := z4.symm
    subst z4
    replace z5 := z5.symm
    subst z5
    refine And.intro (Or.inl rfl) ?_
    refine And.intro (fun d => ?_) (fun d => ?_)
    · exact absurd (show mj_w 0 = 0 by decide) d
    · subst hQ
      refine And.intro h.o (And.intro (Nat.le_of_ble_eq_true rfl) (And.intro (Nat.le_of_ble_eq_true rfl) (And.intro (Nat.le_of_ble_eq_true rfl) (Exists.intro _ (And.intro (ct_thr10 h) ?_)))))
      rintro r9 sh9 FR9 IA9 LA9 n9 ⟨z0, z1, z2, z3, z4, z5⟩
      subst z0
      replace z1 := z1.symm
      subst z1
      replace z2 := z2.symm
      subst z2
      replace z3 := z3.symm
      subst z3
      replace z4 := z4.symm
      subst z4
      replace z5 := z5.symm
      subst z5
      refine And.intro (Or.inl rfl) ?_
      refine And.intro (fun d => ?_) (fun d => ?_)
      · exact absurd d (by decide)
      · exact ⟨⟨rfl, rfl, rfl, rfl, Or.inr ⟨z1, rfl, rfl⟩⟩, Nat.le_of_ble_eq_true rfl, Nat.le_of_ble_eq_true rfl⟩
set_option maxHeartbeats 1000000 in
theorem ct_M_implies (h : isM sh FR n) {c I : Nat} {lit oth : Int} (hc : c < 2) (hI : IA 55 c = (I : Int)) (hI2 : I ≤ 14) (il : mj_i lit) (io : mj_i oth) (hr : M_rr IA) :
    mj_Ct m_M_implies [.inr (.inr (.inl 52)), .inl c, .inl lit, .inl oth] sh FR IA LA n (mj_po (M_an IA (M_st IA c lit ∧ M_st IA c oth) (fun o => (o = .inl (some (.inl 1)) ∧ ∀ w, w < C_W I → M_lw LA I c (M_ro IA c lit) lit w &&& (M_lw LA I c (M_ro IA c oth) oth w ^^^ 0xFFFFFFFFFFFFFFFF#64) = 0#64) ∨ (o = .inl (some (.inl 0)) ∧ ¬ ∀ w, w < C_W I → M_lw LA I c (M_ro IA c lit) lit w &&& (M_lw LA I c (M_ro IA c oth) oth w ^^^ 0xFFFFFFFFFFFFFFFF#64) = 0#64))) sh FR LA n) := by
  have hW := (C_W_le hI2).2
  generalize hQ : mj_po (M_an IA (M_st IA c lit ∧ M_st IA c oth) (fun o => (o = .inl (some (.inl 1)) ∧ ∀ w, w < C_W I → M_lw LA I c (M_ro IA c lit) lit w &&& (M_lw LA I c (M_ro IA c oth) oth w ^^^ 0xFFFFFFFFFFFFFFFF#64) = 0#64) ∨ (o = .inl (some (.inl 0)) ∧ ¬ ∀ w, w < C_W I → M_lw LA I c (M_ro IA c lit) lit w &&& (M_lw LA I c (M_ro IA c oth) oth w ^^^ 0xFFFFFFFFFFFFFFFF#64) = 0#64))) sh FR LA n = Q
  have bad : ¬ (M_st IA c lit ∧ M_st IA c oth) → mj_G m_M_implies Q 26 [some (.inr (.inr (.inl 52))), some (.inl c), some (.inl lit), some (.inl oth), none, none] [.inr (.inr (.inl 52))] sh FR IA LA n 0 0 := by
    intro hb
    subst hQ
    refine mj_go z_M_implies [] 60 ?_
    refine And.intro h.o (And.intro (Nat.le_of_ble_eq_true rfl) (And.intro (Nat.le_of_ble_eq_true rfl) (And.intro (Nat.le_of_ble_eq_true rfl) (Exists.intro _ (And.intro (ct_thr10 h) ?_)))))
    rintro r9 sh9 FR9 IA9 LA9 n9 ⟨z0, z1, z2, z3, z4, z5⟩
    subst z0
    replace z1 := z1.symm
    subst z1
    replace z2 := z2.symm
    subst z2
    replace z3 := z3.symm
    subst z3
    replace z4 := z4.symm
    subst z4
    replace z5 := z5.symm
    subst z5
    refine And.intro (Or.inl rfl) ?_
    refine And.intro (fun d => ?_) (fun d => ?_)
    · exact absurd d (by decide)
    · exact ⟨Or.inl rfl, ⟨rfl, rfl, rfl, rfl, Or.inr ⟨hb, rfl, rfl⟩⟩, Nat.le_of_ble_eq_true rfl, Nat.le_of_ble_eq_true rfl⟩
  refine mj_Ct_of (by decide +kernel) (by decide) (Nat.le_of_ble_eq_true rfl) ?_
  refine mj_go z_M_implies [26, 46] 60 ?_
  refine And.intro (by trivial) (And.intro (Nat.le_of_ble_eq_true rfl) (And.intro (Nat.le_of_ble_eq_true rfl) (And.intro (Nat.le_of_ble_eq_true rfl) (Exists.intro _ (And.intro (ct_isC1 hc) ?_)))))
  rintro r9 sh9 FR9 IA9 LA9 n9 ⟨z0, z1, z2, z3, z4, z5⟩
  subst z0
  replace z1 := z1.symm
  subst z1
  replace z2 := z2.symm
  subst z2
  replace z3 := z3.symm
  subst z3
  replace z4 := z4.symm
  subst z4
  replace z5 := z5.symm
  subst z5
  refine And.intro (Or.inl rfl) ?_
  refine And.intro (fun d => ?_) (fun d => ?_)
  · exact absurd d (by decide)
  clear d
  by_cases z1 : M_st IA c lit
  · refine And.intro h.o (And.intro (Nat.le_of_ble_eq_true rfl) (And.intro (Nat.le_of_ble_eq_true rfl) (And.intro (Nat.le_of_ble_eq_true rfl) (Exists.intro _ (And.intro ((ct_isL h (by omega) il hr).1 z1) ?_)))))
    rintro r9 sh9 FR9 IA9 LA9 n9 ⟨z0, z1, z2, z3, z4, z5⟩
    subst z0
    replace z1 := z1.symm
    subst z1
    replace z2 := z2.symm
    subst z2
    replace z3 := z3.symm
    subst z3
    replace z4 := z4.symm
    subst z4
    replace z5 := z5.symm
    subst z5
    refine And.intro (Or.inl rfl) ?_
    refine And.intro (fun d => ?_) (fun d => ?_)
    · exact absurd d (by decide)
    clear d
    by_cases z2 : M_st IA c oth
    · obtain ⟨q1, q2⟩ := z1.row hr (by omega)
      obtain ⟨p1, p2⟩ := z2.row hr (by omega)
      have i5 : (mj_up IA 52 0 0) 55 c = (I : Int) := by rw [mj_up_ne (by decide)]; exact hI
      have loop : ∀ (t w : Nat) (b : Int), w + t = C_W I → ((b = 1 ∧ ∀ i, i < w → M_lw LA I c (M_ro IA c lit) lit i &&& (M_lw LA I c (M_ro IA c oth) oth i ^^^ 0xFFFFFFFFFFFFFFFF#64) = 0#64) ∨ (b = 0 ∧ ¬ ∀ w, w < C_W I → M_lw LA I c (M_ro IA c lit) lit w &&& (M_lw LA I c (M_ro IA c oth) oth w ^^^ 0xFFFFFFFFFFFFFFFF#64) = 0#64)) → mj_G m_M_implies Q 46 [some (.inr (.inr (.inl 52))), some (.inl c), some (.inl lit), some (.inl oth), some (.inl b), some (.inl w)] [] sh FR (mj_up IA 52 0 0) LA n 0 0 := by
        intro t
        induction t with
        | zero =>
          intro w b hw hb
          subst hQ
          refine mj_go z_M_implies [46] 60 ?_
          refine And.intro h.o (And.intro (Nat.le_of_ble_eq_true rfl) (And.intro (Nat.le_of_ble_eq_true rfl) (And.intro (Nat.le_of_ble_eq_true rfl) (Exists.intro _ (And.intro (ct_M_words h (by omega) i5 hI2) ?_)))))
          rintro r9 sh9 FR9 IA9 LA9 n9 ⟨z0, z1, z2, z3, z4, z5⟩
          subst z0
          replace z1 := z1.symm
          subst z1
          replace z2 := z2.symm
          subst z2
          replace z3 := z3.symm
          subst z3
          replace z4 := z4.symm
          subst z4
          replace z5 := z5.symm
          subst z5
          refine And.intro (Or.inl rfl) ?_
          refine And.intro (fun d => ?_) (fun d => ?_)
          · rcases hb with ⟨b1, b2⟩ | ⟨b1, b2⟩
            · subst b1
              exact ⟨Or.inr rfl, ⟨rfl, rfl, rfl, rfl, Or.inl ⟨⟨z1, z2⟩, rfl, Or.inl ⟨rfl, fun i hi => b2 i (by omega)⟩⟩⟩, Nat.le_of_ble_eq_true rfl, Nat.le_of_ble_eq_true rfl⟩
            · subst b1
              exact ⟨Or.inl rfl, ⟨rfl, rfl, rfl, rfl, Or.inl ⟨⟨z1, z2⟩, rfl, Or.inr ⟨rfl, b2⟩⟩⟩, Nat.le_of_ble_eq_true rfl, Nat.le_of_ble_eq_true rfl⟩
          · clear q1 p1
            simp (disch := (clear d; omega)) only [mj_w_id] at d
            omega
        | succ t ih =>
          intro w b hw hb
          refine mj_go z_M_implies [46] 60 ?_
          refine And.intro h.o (And.intro (Nat.le_of_ble_eq_true rfl) (And.intro (Nat.le_of_ble_eq_true rfl) (And.intro (Nat.le_of_ble_eq_true rfl) (Exists.intro _ (And.intro (ct_M_words h (by omega) i5 hI2) ?_)))))
          rintro r9 sh9 FR9 IA9 LA9 n9 ⟨z0, z1, z2, z3, z4, z5⟩
          subst z0
          replace z1 := z1.symm
          subst z1
          replace z2 := z2.symm
          subst z2
          replace z3 := z3.symm
          subst z3
          replace z4 := z4.symm
          subst z4
          replace z5 := z5.symm
          subst z5
          refine And.intro (Or.inl rfl) ?_
          refine And.intro (fun d => ?_) (fun d => ?_)
          · clear q1 p1
            simp (disch := (clear d; omega)) only [mj_w_id] at d
            omega
          · clear d
            rcases hb with ⟨b1, b2⟩ | ⟨b1, b2⟩
            · subst b1
              refine And.intro (fun d => ?_) (fun d => ?_)
              · exact absurd d (by decide)
              · clear d
                refine And.intro h.o (And.intro (Nat.le_of_ble_eq_true rfl) (And.intro (Nat.le_of_ble_eq_true rfl) (And.intro (Nat.le_of_ble_eq_true rfl) (Exists.intro _ (And.intro (ct_M_word (c := c) (w := w) h hc i5 hI2 z1.1 z1.2.1 (by rw [mj_up_ne (by decide)]; exact q1) q2 (by omega)) ?_)))))
                rintro r9 sh9 FR9 IA9 LA9 n9 ⟨z0, z1, z2, z3, z4, z5⟩
                subst z0
                replace z1 := z1.symm
                subst z1
                replace z2 := z2.symm
                subst z2
                replace z3 := z3.symm
                subst z3
                replace z4 := z4.symm
                subst z4
                replace z5 := z5.symm
                subst z5
                refine And.intro (Or.inl rfl) ?_
                refine And.intro h.o (And.intro (Nat.le_of_ble_eq_true rfl) (And.intro (Nat.le_of_ble_eq_true rfl) (And.intro (Nat.le_of_ble_eq_true rfl) (Exists.intro _ (And.intro (ct_M_word (c := c) (w := w) h hc i5 hI2 z2.1 z2.2.1 (by rw [mj_up_ne (by decide)]; exact p1) p2 (by omega)) ?_)))))
                rintro r9 sh9 FR9 IA9 LA9 n9 ⟨z0, z1, z2, z3, z4, z5⟩
                subst z0
                replace z1 := z1.symm
                subst z1
                replace z2 := z2.symm
                subst z2
                replace z3 := z3.symm
                subst z3
                replace z4 := z4.symm
                subst z4
                replace z5 := z5.symm
                subst z5
                refine And.intro (Or.inl rfl) ?_
                refine Exists.intro (mj_lc (M_lw LA I c (M_ro IA c lit) lit w &&& (M_lw LA I c (M_ro IA c oth) oth w ^^^ 0xFFFFFFFFFFFFFFFF#64)) 0#64) (And.intro (rfl) ?_)
                clear q1 p1
                refine And.intro (fun d => ?_) (fun d => ?_)
                · have d : ¬ M_lw LA I c (M_ro IA c lit) lit w &&& (M_lw LA I c (M_ro IA c oth) oth w ^^^ 0xFFFFFFFFFFFFFFFF#64) = 0#64 := fun z => d (mj_lc_z.mpr z)
                  refine Exists.intro (((w + 1 : Nat) : Int)) (And.intro (by first | (rw [mj_w_id (by omega) (by omega)]; done) | (rw [mj_w_id (by omega) (by omega)]; omega) | (unfold mj_w; omega)) ?_)
                  exact ih (w + 1) 0 (by omega) (Or.inr ⟨rfl, fun z => d (z w (by omega))⟩)
                · have d := mj_lc_z.mp (Classical.not_not.mp d)
                  refine Exists.intro (((w + 1 : Nat) : Int)) (And.intro (by first | (rw [mj_w_id (by omega) (by omega)]; done) | (rw [mj_w_id (by omega) (by omega)]; omega) | (unfold mj_w; omega)) ?_)
                  refine ih (w + 1) 1 (by omega) (Or.inl ⟨rfl, fun i hi => ?_⟩)
                  by_cases e : i = w
                  · rw [e]; exact d
                  · exact b2 i (by omega)
            · subst b1
              subst hQ
              refine And.intro (fun d => ?_) (fun d => ?_)
              · exact ⟨Or.inl rfl, ⟨rfl, rfl, rfl, rfl, Or.inl ⟨⟨z1, z2⟩, rfl, Or.inr ⟨rfl, b2⟩⟩⟩, Nat.le_of_ble_eq_true rfl, Nat.le_of_ble_eq_true rfl⟩
              · exact absurd (show mj_w 0 = 0 by decide) d
      refine And.intro h.o (And.intro (Nat.le_of_ble_eq_true rfl) (And.intro (Nat.le_of_ble_eq_true rfl) (And.intro (Nat.le_of_ble_eq_true rfl) (Exists.intro _ (And.intro ((ct_isL h (by omega) io hr).1 z2) ?_)))))
      rintro r9 sh9 FR9 IA9 LA9 n9 ⟨z0, z1, z2, z3, z4, z5⟩
      subst z0
      replace z1 := z1.symm
      subst z1
      replace z2 := z2.symm
      subst z2
      replace z3 := z3.symm
      subst z3
      replace z4 := z4.symm
      subst z4
      replace z5 := z5.symm
      subst z5
      refine And.intro (Or.inl rfl) ?_
      refine And.intro (fun d => ?_) (fun d => ?_)
      · refine And.intro h.o (And.intro (Nat.le_of_ble_eq_true rfl) (And.intro (Nat.le_of_ble_eq_true rfl) (And.intro (Nat.le_of_ble_eq_true rfl) (Exists.intro _ (And.intro (ct_thr00 h) ?_)))))
        rintro r9 sh9 FR9 IA9 LA9 n9 ⟨z0, z1, z2, z3, z4, z5⟩
        subst z0
        replace z1 := z1.symm
        subst z1
        replace z2 := z2.symm
        subst z2
        replace z3 := z3.symm
        subst z3
        replace z4 := z4.symm
        subst z4
        replace z5 := z5.symm
        subst z5
        refine And.intro (Or.inl rfl) ?_
        refine And.intro (fun d => ?_) (fun d => ?_)
        · exact loop (C_W I) 0 1 (by omega) (Or.inl ⟨rfl, fun i i1 => by omega⟩)
        · exact absurd (show mj_w 0 = 0 by decide) d
      · exact absurd d (by decide)
    · refine And.intro h.o (And.intro (Nat.le_of_ble_eq_true rfl) (And.intro (Nat.le_of_ble_eq_true rfl) (And.intro (Nat.le_of_ble_eq_true rfl) (Exists.intro _ (And.intro ((ct_isL h (by omega) io hr).2 z2) ?_)))))
      rintro r9 sh9 FR9 IA9 LA9 n9 ⟨z0, z1, z2, z3, z4, z5⟩
      subst z0
      replace z1 := z1.symm
      subst z1
      replace z2 := z2.symm
      subst z2
      replace z3 := z3.symm
      subst z3
      replace z4 := z4.symm
      subst z4
      replace z5 := z5.symm
      subst z5
      refine And.intro (Or.inl rfl) ?_
      refine And.intro (fun d => ?_) (fun d => ?_)
      · exact absurd (show mj_w 0 = 0 by decide) d
      · exact bad (fun z => z2 z.2)
  · refine And.intro h.o (And.intro (Nat.le_of_ble_eq_true rfl) (And.intro (Nat.le_of_ble_eq_true rfl) (And.intro (Nat.le_of_ble_eq_true rfl) (Exists.intro _ (And.intro ((ct_isL h (by omega) il hr).2 z1) ?_)))))
    rintro r9 sh9 FR9 IA9 LA9 n9 ⟨z0, z1, z2, z3, z4, z5⟩
    subst z0
    replace z1 := z1.symm
    subst z1
    replace z2 := z2.symm
    subst z2
    replace z3 := z3.symm
    subst z3
    replace z4 := z4.symm
    subst z4
    replace z5 := z5.symm
    subst z5
    refine And.intro (Or.inl rfl) ?_
    refine And.intro (fun d => ?_) (fun d => ?_)
    · exact bad (fun z => z1 z.1)
    · exact absurd (show mj_w 0 = 0 by decide) d
end MM
