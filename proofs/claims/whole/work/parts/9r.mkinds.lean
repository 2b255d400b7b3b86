/-! THE REFERENCE: leader, isOld, different, functions, allFunctions -/
theorem M_ro_co {IA J : mj_FI} (h6 : J 66 = IA 66) {c : Nat} {z : Int} : M_ro J c z = M_ro IA c z := by unfold M_ro; rw [h6]
theorem M_va_co {IA J : mj_FI} (h1 : J 61 = IA 61) (h2 : J 62 = IA 62) {c r : Nat} : M_va J c r = M_va IA c r := by unfold M_va; rw [h1, h2]
theorem M_be_co {IA J : mj_FI} (h1 : J 61 = IA 61) (h2 : J 62 = IA 62) (h6 : J 66 = IA 66) (h7 : J 67 = IA 67) {LA : mj_LA} {I G c K : Nat} {lit z : Int} : M_be J LA I G c lit K z ↔ M_be IA LA I G c lit K z := by
  unfold M_be M_dl M_st
  simp only [M_ro_co h6, M_va_co h1 h2, h6, h7]
theorem M_vr_co {IA J : mj_FI} (h1 : J 61 = IA 61) (h2 : J 62 = IA 62) (h6 : J 66 = IA 66) {I G c : Nat} (h : M_vr IA c I G) : M_vr J c I G := by
  unfold M_vr at h ⊢
  simp only [M_va_co h1 h2, h1, h2, h6]
  exact h
theorem M_dr_co {IA J : mj_FI} (h7 : J 67 = IA 67) {c : Nat} (h : M_dr IA c) : M_dr J c := by
  unfold M_dr at h ⊢
  rw [h7]
  exact h
section MM
variable {sh : mj_Sh} {FR : mj_FR} {IA : mj_FI} {LA : mj_LA} {n : Nat}
theorem ct_M_leader (h : isM sh FR n) {c I G : Nat} {lit : Int} (hc : c < 2) (hI : IA 55 c = (I : Int)) (hI2 : I ≤ 14) (hG : IA 56 c = (G : Int)) (hG2 : G ≤ 300) (hr : M_rr IA) (hv : M_vr IA c I G) (hD : M_dr IA c) (il : mj_i lit) :
    mj_Ct m_M_leader [.inr (.inr (.inl 52)), .inl c, .inl lit] sh FR IA LA n (mj_po (M_an IA (M_st IA c lit) (fun o => ∃ z, o = .inl (some (.inl z)) ∧ M_be IA LA I G c lit 630 z)) sh FR LA n) := by
  have e1 : (mj_up IA 52 0 0) 61 = IA 61 := mj_up_ne (by decide)
  have e2 : (mj_up IA 52 0 0) 62 = IA 62 := mj_up_ne (by decide)
  have e6 : (mj_up IA 52 0 0) 66 = IA 66 := mj_up_ne (by decide)
  have e7 : (mj_up IA 52 0 0) 67 = IA 67 := mj_up_ne (by decide)
  refine mj_Ct_of (by decide +kernel) (by decide) (Nat.le_of_ble_eq_true rfl) ?_
  refine mj_go z_M_leader [] 60 ?_
  refine And.intro (by trivial) (And.intro (Nat.le_of_ble_eq_true rfl) (And.intro (Nat.le_of_ble_eq_true rfl) (And.intro (Nat.le_of_ble_eq_true rfl) (Exists.intro _ (And.intro (ct_isC1 hc) ?_)))))
  rintro r9 sh9 FR9 IA9 LA9 n9 ⟨z0, z1, z2, z3, z4, z5⟩
  subst z0
  replace z1 := z1.symm
  subst z1
  replace z2 := z2.symm
  subst z2
  replace z3 := z3.symm
  subst z3
  replace z4 := z4.symm
  subst z4
  replace z5 := z5.symm
  subst z5
  refine And.intro (Or.inl rfl) ?_
  refine And.intro (fun d => ?_) (fun d => ?_)
  · exact absurd d (by decide)
  clear d
  by_cases z : M_st IA c lit
  · refine And.intro h.o (And.intro (Nat.le_of_ble_eq_true rfl) (And.intro (Nat.le_of_ble_eq_true rfl) (And.intro (Nat.le_of_ble_eq_true rfl) (Exists.intro _ (And.intro ((ct_isL (c := c) h (by omega) il hr).1 z) ?_)))))
    rintro r9 sh9 FR9 IA9 LA9 n9 ⟨z0, z1, z2, z3, z4, z5⟩
    subst z0
    replace z1 := z1.symm
    subst z1
    replace z2 := z2.symm
    subst z2
    replace z3 := z3.symm
    subst z3
    replace z4 := z4.symm
    subst z4
    replace z5 := z5.symm
    subst z5
    refine And.intro (Or.inl rfl) ?_
    refine And.intro (fun d => ?_) (fun d => ?_)
    · clear d
      refine And.intro h.o (And.intro (Nat.le_of_ble_eq_true rfl) (And.intro (Nat.le_of_ble_eq_true rfl) (And.intro (Nat.le_of_ble_eq_true rfl) (Exists.intro _ (And.intro (ct_thr00 h) ?_)))))
      rintro r9 sh9 FR9 IA9 LA9 n9 ⟨z0, z1, z2, z3, z4, z5⟩
      subst z0
      replace z1 := z1.symm
      subst z1
      replace z2 := z2.symm
      subst z2
      replace z3 := z3.symm
      subst z3
      replace z4 := z4.symm
      subst z4
      replace z5 := z5.symm
      subst z5
      refine And.intro (Or.inl rfl) ?_
      refine And.intro (fun d => ?_) (fun d => ?_)
      · clear d
        refine And.intro h.o (And.intro (Nat.le_of_ble_eq_true rfl) (And.intro (Nat.le_of_ble_eq_true rfl) (And.intro (Nat.le_of_ble_eq_true rfl) (Exists.intro _ (And.intro (ct_M_leaderOf (IA := mj_up IA 52 0 0) (lit := lit) h hc (by rw [mj_up_ne (by decide)]; exact hI) hI2 (by rw [mj_up_ne (by decide)]; exact hG) hG2 hr.up (M_vr_co e1 e2 e6 hv) (M_dr_co e7 hD) (by rw [M_st, e6]; exact z)) ?_)))))
        rintro o1 sh9 FR9 J1 LA9 n9 ⟨z1, z2, z3, z4, hp1⟩
        replace z1 := z1.symm
        subst z1
        replace z2 := z2.symm
        subst z2
        replace z3 := z3.symm
        subst z3
        replace z4 := z4.symm
        subst z4
        obtain ⟨hj, z1, ho, hp1⟩ := hp1
        subst hj
        subst ho
        refine And.intro (Or.inl rfl) ?_
        exact ⟨⟨rfl, rfl, rfl, rfl, Or.inl ⟨z, rfl, z1, rfl, (M_be_co e1 e2 e6 e7).mp hp1⟩⟩, Nat.le_of_ble_eq_true rfl, Nat.le_of_ble_eq_true rfl⟩
      · exact absurd (show mj_w 0 = 0 by decide) d
    · exact absurd d (by decide)
  · refine And.intro h.o (And.intro (Nat.le_of_ble_eq_true rfl) (And.intro (Nat.le_of_ble_eq_true rfl) (And.intro (Nat.le_of_ble_eq_true rfl) (Exists.intro _ (And.intro ((ct_isL (c := c) h (by omega) il hr).2 z) ?_)))))
    rintro r9 sh9 FR9 IA9 LA9 n9 ⟨z0, z1, z2, z3, z4, z5⟩
    subst z0
    replace z1 := z1.symm
    subst z1
    replace z2 := z2.symm
    subst z2
    replace z3 := z3.symm
    subst z3
    replace z4 := z4.symm
    subst z4
    replace z5 := z5.symm
    subst z5
    refine And.intro (Or.inl rfl) ?_
    refine And.intro (fun d => ?_) (fun d => ?_)
    · exact absurd (show mj_w 0 = 0 by decide) d
    · clear d
      refine And.intro h.o (And.intro (Nat.le_of_ble_eq_true rfl) (And.intro (Nat.le_of_ble_eq_true rfl) (And.intro (Nat.le_of_ble_eq_true rfl) (Exists.intro _ (And.intro (ct_thr10 h) ?_)))))
      rintro r9 sh9 FR9 IA9 LA9 n9 ⟨z0, z1, z2, z3, z4, z5⟩
      subst z0
      replace z1 := z1.symm
      subst z1
      replace z2 := z2.symm
      subst z2
      replace z3 := z3.symm
      subst z3
      replace z4 := z4.symm
      subst z4
      replace z5 := z5.symm
      subst z5
      refine And.intro (Or.inl rfl) ?_
      refine And.intro (fun d => ?_) (fun d => ?_)
      · exact absurd d (by decide)
      · exact ⟨⟨rfl, rfl, rfl, rfl, Or.inr ⟨z, rfl, rfl⟩⟩, Nat.le_of_ble_eq_true rfl, Nat.le_of_ble_eq_true rfl⟩
end MM
theorem M_lw_ev {LA : mj_LA} {I c r w : Nat} {v : Int} : M_lw LA I c r (2 * v) w = M_lw LA I c r 0 w := by
  unfold M_lw
  rw [if_pos (by omega), if_pos (by decide)]
theorem M_lw_od {LA : mj_LA} {I c r w : Nat} {v : Int} : M_lw LA I c r (2 * v + 1) w = M_lw LA I c r 1 w := by
  unfold M_lw
  rw [if_neg (by omega), if_neg (by decide)]
/-- rows that are the same or inverse -/
def M_si (LA : mj_LA) (I c r d s : Nat) : Prop := M_eq LA I c r 0 d s 0 ∨ M_eq LA I c r 0 d s 1
/-- a row that came before is the same or inverse -/
def M_ol (LA : mj_LA) (I : Nat) (G : Nat → Nat) (fr c r : Nat) : Prop := ∃ d s, fr ≤ d ∧ d ≤ c ∧ M_is I (G d) s ∧ (d < c ∨ s < r) ∧ M_si LA I c r d s
def M_cs (IA : mj_FI) (I : Nat) (G : Nat → Nat) (d : Nat) : Prop := IA 55 d = (I : Int) ∧ IA 56 d = (G d : Int) ∧ G d ≤ 300 ∧ M_vr IA d I (G d)
section MM
variable {sh : mj_Sh} {FR : mj_FR} {IA : mj_FI} {LA : mj_LA} {n : Nat}
set_option maxHeartbeats 2000000 in
theorem ct_M_isOld (h : isM sh FR n) {c r fr I : Nat} {G : Nat → Nat} (hc : c < 2) (hfr : fr ≤ c) (hI2 : I ≤ 14) (hcs : ∀ d, fr ≤ d → d ≤ c → M_cs IA I G d) (hR : M_is I (G c) r) :
    mj_Ct m_M_isOld [.inr (.inr (.inl 52)), .inl c, .inl r, .inl fr] sh FR IA LA n (mj_po (fun o J => J = IA ∧ ((o = .inl (some (.inl 1)) ∧ M_ol LA I G fr c r) ∨ (o = .inl (some (.inl 0)) ∧ ¬ M_ol LA I G fr c r))) sh FR LA n) := by
  generalize hQ : mj_po (fun o J => J = IA ∧ ((o = .inl (some (.inl 1)) ∧ M_ol LA I G fr c r) ∨ (o = .inl (some (.inl 0)) ∧ ¬ M_ol LA I G fr c r))) sh FR LA n = Q
  obtain ⟨c1, c2, c3, c4⟩ := hcs c hfr (Nat.le_refl c)
  have hr3 : r < 315 := by unfold M_is at hR; omega
  obtain ⟨a1, a2, a3, a4⟩ := c4.lit (i := 0) hI2 c3 hR (by decide)
  simp only [Int.natCast_zero, Int.add_zero] at a1 a2 a3
  have hva := c4.va hI2 hR
  have out : ∀ (t d : Nat) (y6 y7 : Option mj_V), d + t = c + 1 → fr ≤ d → (∀ d' s, fr ≤ d' → d' < d → M_is I (G d') s → (d' < c ∨ s < r) → ¬ M_si LA I c r d' s) → mj_G m_M_isOld Q 13 [some (.inr (.inr (.inl 52))), some (.inl c), some (.inl r), some (.inl fr), some (.inl (2 * M_va IA c r)), some (.inl d), y6, y7] [] sh FR IA LA n 0 0 := by
    intro t
    induction t with
    | zero =>
      intro d y6 y7 ht hd hno
      clear a3
      refine mj_go z_M_isOld [] 60 ?_
      refine And.intro (fun e => ?_) (fun e => ?_)
      · subst hQ
        exact ⟨Or.inl rfl, ⟨rfl, rfl, rfl, rfl, rfl, Or.inr ⟨rfl, fun ⟨d', s, q1, q2, q3, q4, q5⟩ => hno d' s q1 (by omega) q3 q4 q5⟩⟩, Nat.le_of_ble_eq_true rfl, Nat.le_of_ble_eq_true rfl⟩
      · simp (disch := (clear e; omega)) only [mj_w_id] at e
        omega
    | succ t ih =>
      intro d y6 y7 ht hd hno
      obtain ⟨d1, d2, d3, d4⟩ := hcs d hd (by omega)
      have inn : ∀ (u s : Nat) (y7 : Option mj_V), s + u = (if d < c then 315 else r) → (∀ s', s' < s → M_is I (G d) s' → ¬ M_si LA I c r d s') → mj_G m_M_isOld Q 22 [some (.inr (.inr (.inl 52))), some (.inl c), some (.inl r), some (.inl fr), some (.inl (2 * M_va IA c r)), some (.inl d), some (.inl s), y7] [] sh FR IA LA n 0 0 := by
        intro u
        induction u with
        | zero =>
          intro s y7 hs hn2
          have go : mj_G m_M_isOld Q 104 [some (.inr (.inr (.inl 52))), some (.inl c), some (.inl r), some (.inl fr), some (.inl (2 * M_va IA c r)), some (.inl d), some (.inl s), y7] [] sh FR IA LA n 0 0 := by
            clear a3
            refine mj_go z_M_isOld [13] 60 ?_
            refine Exists.intro (((d + 1 : Nat) : Int)) (And.intro (by first | (rw [mj_w_id (by omega) (by omega)]; done) | (rw [mj_w_id (by omega) (by omega)]; omega) | (unfold mj_w; omega)) ?_)
            refine ih (d + 1) _ _ (by omega) (by omega) (fun d' s' q1 q2 q3 q4 => ?_)
            by_cases e : d' = d
            · subst e
              refine hn2 s' ?_ q3
              split at hs
              · unfold M_is at q3
                omega
              · omega
            · exact hno d' s' q1 (by omega) q3 q4
          clear a3
          refine mj_go z_M_isOld [104] 60 ?_
          refine And.intro (fun e => ?_) (fun e => ?_)
          · simp (disch := (clear e; omega)) only [mj_w_id] at e
            rw [if_neg (by omega)] at hs
            refine And.intro (fun f => ?_) (fun f => ?_)
            · exact go
            · simp (disch := (clear f; omega)) only [mj_w_id] at f
              omega
          · simp (disch := (clear e; omega)) only [mj_w_id] at e
            rw [if_pos (by omega)] at hs
            refine And.intro (fun f => ?_) (fun f => ?_)
            · exact go
            · simp (disch := (clear f; omega)) only [mj_w_id] at f
              omega
        | succ u ihu =>
          intro s y7 hs hn2
          have hs3 : s < 315 := by split at hs <;> omega
          have hord : d < c ∨ s < r := by
            by_cases e : d < c
            · exact Or.inl e
            · rw [if_neg e] at hs
              exact Or.inr (by omega)
          have nx : ∀ y7 : Option mj_V, ¬ (M_is I (G d) s ∧ M_si LA I c r d s) → mj_G m_M_isOld Q 98 [some (.inr (.inr (.inl 52))), some (.inl c), some (.inl r), some (.inl fr), some (.inl (2 * M_va IA c r)), some (.inl d), some (.inl s), y7] [] sh FR IA LA n 0 0 := by
            intro y7 hn
            clear a3
            refine mj_go z_M_isOld [22] 60 ?_
            refine Exists.intro (((s + 1 : Nat) : Int)) (And.intro (by first | (rw [mj_w_id (by omega) (by omega)]; done) | (rw [mj_w_id (by omega) (by omega)]; omega) | (unfold mj_w; omega)) ?_)
            refine ihu (s + 1) _ (by omega) (fun s' q1 q2 q3 => ?_)
            by_cases e : s' = s
            · subst e
              exact hn ⟨q2, q3⟩
            · exact hn2 s' (by omega) q2 q3
          have body : mj_G m_M_isOld Q 40 [some (.inr (.inr (.inl 52))), some (.inl c), some (.inl r), some (.inl fr), some (.inl (2 * M_va IA c r)), some (.inl d), some (.inl s), y7] [] sh FR IA LA n 0 0 := by
            by_cases hS : M_is I (G d) s
            · obtain ⟨b1, b2, b3, b4⟩ := d4.lit (i := 0) hI2 d3 hS (by decide)
              obtain ⟨f1, f2, f3, f4⟩ := d4.lit (i := 1) hI2 d3 hS (by decide)
              have hvs := d4.va hI2 hS
              simp only [Int.natCast_zero, Int.add_zero] at b1 b2 b3
              replace f3 : IA 66 (1001 * d + ((2 * M_va IA d s + 1) / 2).toNat) = (s : Int) := f3
              refine mj_go z_M_isOld [98] 60 ?_
              refine And.intro h.o (And.intro (Nat.le_of_ble_eq_true rfl) (And.intro (Nat.le_of_ble_eq_true rfl) (And.intro (Nat.le_of_ble_eq_true rfl) (Exists.intro _ (And.intro ((ct_isR h (by omega) d1 hI2 d2 d3 hs3).1 hS) ?_)))))
              rintro r9 sh9 FR9 IA9 LA9 n9 ⟨z0, z1, z2, z3, z4, z5⟩
              subst z0
              replace z1 := z1.symm
              subst z1
              replace z2 := z2.symm
              subst z2
              replace z3 := z3.symm
              subst z3
              replace z4 := z4.symm
              subst z4
              replace z5 := z5.symm
              subst z5
              refine And.intro (Or.inl rfl) ?_
              refine And.intro (fun e => ?_) (fun e => ?_)
              · clear e
                refine And.intro h.o (And.intro (Nat.le_of_ble_eq_true rfl) (And.intro (Nat.le_of_ble_eq_true rfl) (And.intro (Nat.le_of_ble_eq_true rfl) (Exists.intro _ (And.intro (ct_M_variableOf h (by omega) hI2 d3 d4 hS) ?_)))))
                rintro r9 sh9 FR9 IA9 LA9 n9 ⟨z0, z1, z2, z3, z4, z5⟩
                subst z0
                replace z1 := z1.symm
                subst z1
                replace z2 := z2.symm
                subst z2
                replace z3 := z3.symm
                subst z3
                replace z4 := z4.symm
                subst z4
                replace z5 := z5.symm
                subst z5
                refine And.intro (Or.inl rfl) ?_
                clear a3 b3 f3
                refine Exists.intro (2 * M_va IA d s) (And.intro (by first | (rw [mj_w_id (by omega) (by omega)]; done) | (rw [mj_w_id (by omega) (by omega)]; omega) | (unfold mj_w; omega)) ?_)
                obtain ⟨_, _, a3, _⟩ := c4.lit (i := 0) hI2 c3 hR (by decide)
                obtain ⟨_, _, b3, _⟩ := d4.lit (i := 0) hI2 d3 hS (by decide)
                simp only [Int.natCast_zero, Int.add_zero] at a3 b3
                refine And.intro h.o (And.intro (Nat.le_of_ble_eq_true rfl) (And.intro (Nat.le_of_ble_eq_true rfl) (And.intro (Nat.le_of_ble_eq_true rfl) (Exists.intro _ (And.intro (ct_M_areSame (c := c) (d := d) h hc (by omega) c1 hI2 d1 hI2 a1.1 a1.2.1 a3 a4 b1.1 b1.2.1 b3 b4) ?_)))))
                rintro o1 sh9 FR9 J1 LA9 n9 ⟨z1, z2, z3, z4, hp1⟩
                replace z1 := z1.symm
                subst z1
                replace z2 := z2.symm
                subst z2
                replace z3 := z3.symm
                subst z3
                replace z4 := z4.symm
                subst z4
                obtain ⟨hj, hp1⟩ := hp1
                replace hj := hj.symm
                subst hj
                rcases hp1 with ⟨ho, he⟩ | ⟨ho, he⟩
                · subst ho
                  refine And.intro (Or.inl rfl) ?_
                  refine And.intro (fun e => ?_) (fun e => ?_)
                  · subst hQ
                    exact ⟨Or.inr rfl, ⟨rfl, rfl, rfl, rfl, rfl, Or.inl ⟨rfl, d, s, hd, by omega, hS, hord, Or.inl (fun w hw => by rw [← M_lw_ev (v := M_va IA c r), ← M_lw_ev (v := M_va IA d s)]; exact he w hw)⟩⟩, Nat.le_of_ble_eq_true rfl, Nat.le_of_ble_eq_true rfl⟩
                  · exact absurd e (by decide)
                · subst ho
                  refine And.intro (Or.inl rfl) ?_
                  refine And.intro (fun e => ?_) (fun e => ?_)
                  · exact absurd (show mj_w 0 = 0 by decide) e
                  · clear e a3 b3
                    refine Exists.intro (2 * M_va IA d s + 1) (And.intro (by first | (rw [mj_w_id (by omega) (by omega)]; done) | (rw [mj_w_id (by omega) (by omega)]; omega) | (unfold mj_w; omega)) ?_)
                    obtain ⟨_, _, a3, _⟩ := c4.lit (i := 0) hI2 c3 hR (by decide)
                    obtain ⟨_, _, f3, _⟩ := d4.lit (i := 1) hI2 d3 hS (by decide)
                    simp only [Int.natCast_zero, Int.add_zero] at a3
                    replace f3 : IA 66 (1001 * d + ((2 * M_va IA d s + 1) / 2).toNat) = (s : Int) := f3
                    refine And.intro h.o (And.intro (Nat.le_of_ble_eq_true rfl) (And.intro (Nat.le_of_ble_eq_true rfl) (And.intro (Nat.le_of_ble_eq_true rfl) (Exists.intro _ (And.intro (ct_M_areSame (c := c) (d := d) h hc (by omega) c1 hI2 d1 hI2 a1.1 a1.2.1 a3 a4 f1.1 f1.2.1 f3 f4) ?_)))))
                    rintro o2 sh9 FR9 J2 LA9 n9 ⟨z1, z2, z3, z4, hp2⟩
                    replace z1 := z1.symm
                    subst z1
                    replace z2 := z2.symm
                    subst z2
                    replace z3 := z3.symm
                    subst z3
                    replace z4 := z4.symm
                    subst z4
                    obtain ⟨hj, hp2⟩ := hp2
                    replace hj := hj.symm
                    subst hj
                    rcases hp2 with ⟨ho, he2⟩ | ⟨ho, he2⟩
                    · subst ho
                      refine And.intro (Or.inl rfl) ?_
                      refine And.intro (fun e => ?_) (fun e => ?_)
                      · exact absurd e (by decide)
                      · subst hQ
                        exact ⟨Or.inr rfl, ⟨rfl, rfl, rfl, rfl, rfl, Or.inl ⟨rfl, d, s, hd, by omega, hS, hord, Or.inr (fun w hw => by rw [← M_lw_ev (v := M_va IA c r), ← M_lw_od (v := M_va IA d s)]; exact he2 w hw)⟩⟩, Nat.le_of_ble_eq_true rfl, Nat.le_of_ble_eq_true rfl⟩
                    · subst ho
                      refine And.intro (Or.inl rfl) ?_
                      refine And.intro (fun e => ?_) (fun e => ?_)
                      · refine nx _ (fun ⟨_, z⟩ => ?_)
                        rcases z with z | z
                        · exact he (fun w hw => by rw [M_lw_ev, M_lw_ev]; exact z w hw)
                        · exact he2 (fun w hw => by rw [M_lw_ev, M_lw_od]; exact z w hw)
                      · exact absurd (show mj_w 0 = 0 by decide) e
              · exact absurd e (by decide)
            · refine mj_go z_M_isOld [98] 60 ?_
              refine And.intro h.o (And.intro (Nat.le_of_ble_eq_true rfl) (And.intro (Nat.le_of_ble_eq_true rfl) (And.intro (Nat.le_of_ble_eq_true rfl) (Exists.intro _ (And.intro ((ct_isR h (by omega) d1 hI2 d2 d3 hs3).2 hS) ?_)))))
              rintro r9 sh9 FR9 IA9 LA9 n9 ⟨z0, z1, z2, z3, z4, z5⟩
              subst z0
              replace z1 := z1.symm
              subst z1
              replace z2 := z2.symm
              subst z2
              replace z3 := z3.symm
              subst z3
              replace z4 := z4.symm
              subst z4
              replace z5 := z5.symm
              subst z5
              refine And.intro (Or.inl rfl) ?_
              refine And.intro (fun e => ?_) (fun e => ?_)
              · exact absurd (show mj_w 0 = 0 by decide) e
              · exact nx _ (fun z => hS z.1)
          clear a3
          refine mj_go z_M_isOld [40] 60 ?_
          refine And.intro (fun e => ?_) (fun e => ?_)
          · simp (disch := (clear e; omega)) only [mj_w_id] at e
            rw [if_neg (by omega)] at hs
            refine And.intro (fun f => ?_) (fun f => ?_)
            · simp (disch := (clear f; omega)) only [mj_w_id] at f
              omega
            · exact body
          · simp (disch := (clear e; omega)) only [mj_w_id] at e
            rw [if_pos (by omega)] at hs
            refine And.intro (fun f => ?_) (fun f => ?_)
            · simp (disch := (clear f; omega)) only [mj_w_id] at f
              omega
            · exact body
      clear a3
      refine mj_go z_M_isOld [22] 60 ?_
      refine And.intro (fun e => ?_) (fun e => ?_)
      · simp (disch := (clear e; omega)) only [mj_w_id] at e
        omega
      · exact inn (if d < c then 315 else r) 0 _ (by omega) (fun s' z => by omega)
  refine mj_Ct_of (by decide +kernel) (by decide) (Nat.le_of_ble_eq_true rfl) ?_
  refine mj_go z_M_isOld [13] 60 ?_
  refine And.intro h.o (And.intro (Nat.le_of_ble_eq_true rfl) (And.intro (Nat.le_of_ble_eq_true rfl) (And.intro (Nat.le_of_ble_eq_true rfl) (Exists.intro _ (And.intro (ct_M_variableOf h hc hI2 c3 c4 hR) ?_)))))
  rintro r9 sh9 FR9 IA9 LA9 n9 ⟨z0, z1, z2, z3, z4, z5⟩
  subst z0
  replace z1 := z1.symm
  subst z1
  replace z2 := z2.symm
  subst z2
  replace z3 := z3.symm
  subst z3
  replace z4 := z4.symm
  subst z4
  replace z5 := z5.symm
  subst z5
  refine And.intro (Or.inl rfl) ?_
  clear a3
  refine Exists.intro (2 * M_va IA c r) (And.intro (by first | (rw [mj_w_id (by omega) (by omega)]; done) | (rw [mj_w_id (by omega) (by omega)]; omega) | (unfold mj_w; omega)) ?_)
  exact out (c + 1 - fr) fr _ _ (by omega) (Nat.le_refl _) (fun d' s z1 z2 => by omega)
end MM
/-- the rows that are new, from circuit fr on, up to row r of circuit c: as 315 c + r -/
def M_nl (LA : mj_LA) (I : Nat) (G : Nat → Nat) (fr c r : Nat) (l : List Nat) : Prop := l.Nodup ∧ ∀ x, x ∈ l ↔ ∃ d s, x = 315 * d + s ∧ s < 315 ∧ fr ≤ d ∧ (d < c ∨ (d = c ∧ s < r)) ∧ M_is I (G d) s ∧ ¬ M_ol LA I G fr d s
theorem M_nl.add {LA : mj_LA} {I : Nat} {G : Nat → Nat} {fr c r : Nat} {l : List Nat} (h : M_nl LA I G fr c r l) (hf : fr ≤ c) (hr : r < 315) (h1 : M_is I (G c) r) (h2 : ¬ M_ol LA I G fr c r) : M_nl LA I G fr c (r + 1) (l ++ [315 * c + r]) := by
  obtain ⟨n1, n2⟩ := h
  refine ⟨?_, fun x => ?_⟩
  · rw [List.nodup_append]
    refine ⟨n1, by simp, fun a ha b hb e => ?_⟩
    rw [List.mem_singleton] at hb
    subst hb
    obtain ⟨d, s, e1, e2, e3, e4, _⟩ := (n2 a).mp ha
    omega
  · rw [List.mem_append, List.mem_singleton, n2 x]
    refine ⟨fun z => ?_, fun ⟨d, s, e1, e2, e3, e4, e5, e6⟩ => ?_⟩
    · rcases z with ⟨d, s, e1, e2, e3, e4, e5⟩ | z
      · exact ⟨d, s, e1, e2, e3, by omega, e5⟩
      · exact ⟨c, r, z, hr, hf, by omega, h1, h2⟩
    · by_cases e : x = 315 * c + r
      · exact Or.inr e
      · exact Or.inl ⟨d, s, e1, e2, e3, by omega, e5, e6⟩
theorem M_nl.skip {LA : mj_LA} {I : Nat} {G : Nat → Nat} {fr c r : Nat} {l : List Nat} (h : M_nl LA I G fr c r l) (h1 : ¬ (M_is I (G c) r ∧ ¬ M_ol LA I G fr c r)) : M_nl LA I G fr c (r + 1) l := by
  obtain ⟨n1, n2⟩ := h
  refine ⟨n1, fun x => ?_⟩
  rw [n2 x]
  refine ⟨fun ⟨d, s, e1, e2, e3, e4, e5⟩ => ⟨d, s, e1, e2, e3, by omega, e5⟩, fun ⟨d, s, e1, e2, e3, e4, e5, e6⟩ => ?_⟩
  refine ⟨d, s, e1, e2, e3, ?_, e5, e6⟩
  by_cases e : d = c ∧ s = r
  · exact absurd (e.1 ▸ e.2 ▸ ⟨e5, e6⟩) h1
  · omega
theorem M_nl.next {LA : mj_LA} {I : Nat} {G : Nat → Nat} {fr c : Nat} {l : List Nat} (h : M_nl LA I G fr c 315 l) : M_nl LA I G fr (c + 1) 0 l := by
  refine ⟨h.1, fun x => ?_⟩
  rw [h.2 x]
  exact ⟨fun ⟨d, s, e1, e2, e3, e4, e5⟩ => ⟨d, s, e1, e2, e3, by omega, e5⟩, fun ⟨d, s, e1, e2, e3, e4, e5⟩ => ⟨d, s, e1, e2, e3, by omega, e5⟩⟩
theorem M_nl.len {LA : mj_LA} {I : Nat} {G : Nat → Nat} {fr c r : Nat} {l : List Nat} (h : M_nl LA I G fr c r l) (hc : c ≤ 2) (hr : r ≤ 315) : l.length ≤ 945 := by
  refine nd_len 945 l 0 h.1 (fun x hx => ?_)
  obtain ⟨d, s, e1, e2, e3, e4, _⟩ := (h.2 x).mp hx
  omega
section MM
variable {sh : mj_Sh} {FR : mj_FR} {IA : mj_FI} {LA : mj_LA} {n : Nat}
set_option maxHeartbeats 2000000 in
theorem ct_M_different (h : isM sh FR n) {fr to I : Nat} {G : Nat → Nat} (hto : to < 2) (hfr : fr ≤ to) (hI2 : I ≤ 14) (hcs : ∀ d, fr ≤ d → d ≤ to → M_cs IA I G d) :
    mj_Ct m_M_different [.inr (.inr (.inl 52)), .inl fr, .inl to] sh FR IA LA n (mj_po (fun o J => J = IA ∧ ∃ l : List Nat, o = .inl (some (.inl (l.length : Int))) ∧ M_nl LA I G fr (to + 1) 0 l) sh FR LA n) := by
  generalize hQ : mj_po (fun o J => J = IA ∧ ∃ l : List Nat, o = .inl (some (.inl (l.length : Int))) ∧ M_nl LA I G fr (to + 1) 0 l) sh FR LA n = Q
  have out : ∀ (t c : Nat) (l : List Nat) (y5 : Option mj_V), c + t = to + 1 → fr ≤ c → M_nl LA I G fr c 0 l → mj_G m_M_different Q 5 [some (.inr (.inr (.inl 52))), some (.inl fr), some (.inl to), some (.inl l.length), some (.inl c), y5] [] sh FR IA LA n 0 0 := by
    intro t
    induction t with
    | zero =>
      intro c l y5 ht hc hl
      have e : c = to + 1 := by omega
      subst e
      refine mj_go z_M_different [] 60 ?_
      refine And.intro (fun e => ?_) (fun e => ?_)
      · subst hQ
        exact ⟨⟨rfl, rfl, rfl, rfl, rfl, l, rfl, hl⟩, Nat.le_of_ble_eq_true rfl, Nat.le_of_ble_eq_true rfl⟩
      · simp (disch := (clear e; omega)) only [mj_w_id] at e
        omega
    | succ t ih =>
      intro c l y5 ht hc hl
      obtain ⟨c1, c2, c3, c4⟩ := hcs c hc (by omega)
      have inn : ∀ (u r : Nat) (l : List Nat), r + u = 315 → M_nl LA I G fr c r l → mj_G m_M_different Q 14 [some (.inr (.inr (.inl 52))), some (.inl fr), some (.inl to), some (.inl l.length), some (.inl c), some (.inl r)] [] sh FR IA LA n 0 0 := by
        intro u
        induction u with
        | zero =>
          intro r l hr hl
          have e : r = 315 := by omega
          subst e
          refine mj_go z_M_different [5] 60 ?_
          refine And.intro (fun e => ?_) (fun e => ?_)
          · refine Exists.intro (((c + 1 : Nat) : Int)) (And.intro (by first | (rw [mj_w_id (by omega) (by omega)]; done) | (rw [mj_w_id (by omega) (by omega)]; omega) | (unfold mj_w; omega)) ?_)
            exact ih (c + 1) l _ (by omega) (by omega) hl.next
          · simp (disch := (clear e; omega)) only [mj_w_id] at e
            omega
        | succ u ihu =>
          intro r l hr hl
          have hlen := hl.len (by omega) (by omega)
          have nx : ∀ b : Int, ((b = 1 ∧ M_is I (G c) r ∧ ¬ M_ol LA I G fr c r) ∨ (b = 0 ∧ ¬ (M_is I (G c) r ∧ ¬ M_ol LA I G fr c r))) → mj_G m_M_different Q 51 [some (.inr (.inr (.inl 52))), some (.inl fr), some (.inl to), some (.inl l.length), some (.inl c), some (.inl r)] [.inl b, .inl l.length] sh FR IA LA n 0 0 := by
            intro b hb
            rcases hb with ⟨hb, h1, h2⟩ | ⟨hb, h1⟩
            · subst hb
              refine mj_go z_M_different [14] 60 ?_
              refine Exists.intro (((l.length + 1 : Nat) : Int)) (And.intro (by first | (rw [mj_w_id (by omega) (by omega)]; done) | (rw [mj_w_id (by omega) (by omega)]; omega) | (unfold mj_w; omega)) ?_)
              refine Exists.intro (((r + 1 : Nat) : Int)) (And.intro (by first | (rw [mj_w_id (by omega) (by omega)]; done) | (rw [mj_w_id (by omega) (by omega)]; omega) | (unfold mj_w; omega)) ?_)
              have key := ihu (r + 1) (l ++ [315 * c + r]) (by omega) (hl.add hc (by omega) h1 h2)
              rw [List.length_append] at key
              exact key
            · subst hb
              refine mj_go z_M_different [14] 60 ?_
              refine Exists.intro ((l.length : Int)) (And.intro (by first | (rw [mj_w_id (by omega) (by omega)]; done) | (rw [mj_w_id (by omega) (by omega)]; omega) | (unfold mj_w; omega)) ?_)
              refine Exists.intro (((r + 1 : Nat) : Int)) (And.intro (by first | (rw [mj_w_id (by omega) (by omega)]; done) | (rw [mj_w_id (by omega) (by omega)]; omega) | (unfold mj_w; omega)) ?_)
              exact ihu (r + 1) l (by omega) (hl.skip h1)
          by_cases hS : M_is I (G c) r
          · refine mj_go z_M_different [51] 60 ?_
            refine And.intro (fun e => ?_) (fun e => ?_)
            · simp (disch := (clear e; omega)) only [mj_w_id] at e
              omega
            · clear e
              refine And.intro h.o (And.intro (Nat.le_of_ble_eq_true rfl) (And.intro (Nat.le_of_ble_eq_true rfl) (And.intro (Nat.le_of_ble_eq_true rfl) (Exists.intro _ (And.intro ((ct_isR h (by omega) c1 hI2 c2 c3 (by omega)).1 hS) ?_)))))
              rintro r9 sh9 FR9 IA9 LA9 n9 ⟨z0, z1, z2, z3, z4, z5⟩
              subst z0
              replace z1 := z1.symm
              subst z1
              replace z2 := z2.symm
              subst z2
              replace z3 := z3.symm
              subst z3
              replace z4 := z4.symm
              subst z4
              replace z5 := z5.symm
              subst z5
              refine And.intro (Or.inl rfl) ?_
              refine And.intro (fun e => ?_) (fun e => ?_)
              · exact absurd e (by decide)
              · clear e
                refine And.intro h.o (And.intro (Nat.le_of_ble_eq_true rfl) (And.intro (Nat.le_of_ble_eq_true rfl) (And.intro (Nat.le_of_ble_eq_true rfl) (Exists.intro _ (And.intro (ct_M_isOld (fr := fr) (c := c) (r := r) (G := G) h (by omega) hc hI2 (fun d z1 z2 => hcs d z1 (by omega)) hS) ?_)))))
                rintro o1 sh9 FR9 J1 LA9 n9 ⟨z1, z2, z3, z4, hp1⟩
                replace z1 := z1.symm
                subst z1
                replace z2 := z2.symm
                subst z2
                replace z3 := z3.symm
                subst z3
                replace z4 := z4.symm
                subst z4
                obtain ⟨hj, hp1⟩ := hp1
                replace hj := hj.symm
                subst hj
                rcases hp1 with ⟨ho, he⟩ | ⟨ho, he⟩
                · subst ho
                  refine And.intro (Or.inl rfl) ?_
                  refine And.intro (fun e => ?_) (fun e => ?_)
                  · exact nx 0 (Or.inr ⟨rfl, fun z => z.2 he⟩)
                  · exact absurd e (by decide)
                · subst ho
                  refine And.intro (Or.inl rfl) ?_
                  refine And.intro (fun e => ?_) (fun e => ?_)
                  · exact absurd (show mj_w 0 = 0 by decide) e
                  · exact nx 1 (Or.inl ⟨rfl, hS, he⟩)
          · refine mj_go z_M_different [51] 60 ?_
            refine And.intro (fun e => ?_) (fun e => ?_)
            · simp (disch := (clear e; omega)) only [mj_w_id] at e
              omega
            · clear e
              refine And.intro h.o (And.intro (Nat.le_of_ble_eq_true rfl) (And.intro (Nat.le_of_ble_eq_true rfl) (And.intro (Nat.le_of_ble_eq_true rfl) (Exists.intro _ (And.intro ((ct_isR h (by omega) c1 hI2 c2 c3 (by omega)).2 hS) ?_)))))
              rintro r9 sh9 FR9 IA9 LA9 n9 ⟨z0, z1, z2, z3, z4, z5⟩
              subst z0
              replace z1 := z1.symm
              subst z1
              replace z2 := z2.symm
              subst z2
              replace z3 := z3.symm
              subst z3
              replace z4 := z4.symm
              subst z4
              replace z5 := z5.symm
              subst z5
              refine And.intro (Or.inl rfl) ?_
              refine And.intro (fun e => ?_) (fun e => ?_)
              · exact nx 0 (Or.inr ⟨rfl, fun z => hS z.1⟩)
              · exact absurd (show mj_w 0 = 0 by decide) e
      refine mj_go z_M_different [14] 60 ?_
      refine And.intro (fun e => ?_) (fun e => ?_)
      · simp (disch := (clear e; omega)) only [mj_w_id] at e
        omega
      · exact inn 315 0 l (by omega) hl
  refine mj_Ct_of (by decide +kernel) (by decide) (Nat.le_of_ble_eq_true rfl) ?_
  refine mj_go z_M_different [5] 60 ?_
  exact out (to + 1 - fr) fr [] _ (by omega) (Nat.le_refl _) ⟨List.nodup_nil, fun x => ⟨fun z => absurd z (by simp), fun ⟨d, s, e1, e2, e3, e4, _⟩ => by omega⟩⟩
theorem M_cs_up {IA : mj_FI} {I d : Nat} {G : Nat → Nat} {x : Int} (h : M_cs IA I G d) : M_cs (mj_up IA 52 0 x) I G d := by
  obtain ⟨h1, h2, h3, h4⟩ := h
  exact ⟨by rw [mj_up_ne (by decide)]; exact h1, by rw [mj_up_ne (by decide)]; exact h2, h3, M_vr_co (mj_up_ne (by decide)) (mj_up_ne (by decide)) (mj_up_ne (by decide)) h4⟩
theorem ct_M_functions (h : isM sh FR n) {c I G : Nat} (hc : c < 2) (hI2 : I ≤ 14) (hcs : M_cs IA I (fun _ => G) c) :
    mj_Ct m_M_functions [.inr (.inr (.inl 52)), .inl c] sh FR IA LA n (mj_po (fun o J => J = mj_up IA 52 0 0 ∧ ∃ l : List Nat, o = .inl (some (.inl (l.length : Int))) ∧ M_nl LA I (fun _ => G) c (c + 1) 0 l) sh FR LA n) := by
  refine mj_Ct_of (by decide +kernel) (by decide) (Nat.le_of_ble_eq_true rfl) ?_
  refine mj_go z_M_functions [] 60 ?_
  refine And.intro (by trivial) (And.intro (Nat.le_of_ble_eq_true rfl) (And.intro (Nat.le_of_ble_eq_true rfl) (And.intro (Nat.le_of_ble_eq_true rfl) (Exists.intro _ (And.intro (ct_isC1 hc) ?_)))))
  rintro r9 sh9 FR9 IA9 LA9 n9 ⟨z0, z1, z2, z3, z4, z5⟩
  subst z0
  replace z1 := z1.symm
  subst z1
  replace z2 := z2.symm
  subst z2
  replace z3 := z3.symm
  subst z3
  replace z4 := z4.symm
  subst z4
  replace z5 := z5.symm
  subst z5
  refine And.intro (Or.inl rfl) ?_
  refine And.intro (fun d => ?_) (fun d => ?_)
  · clear d
    refine And.intro h.o (And.intro (Nat.le_of_ble_eq_true rfl) (And.intro (Nat.le_of_ble_eq_true rfl) (And.intro (Nat.le_of_ble_eq_true rfl) (Exists.intro _ (And.intro (ct_thr00 h) ?_)))))
    rintro r9 sh9 FR9 IA9 LA9 n9 ⟨z0, z1, z2, z3, z4, z5⟩
    subst z0
    replace z1 := z1.symm
    subst z1
    replace z2 := z2.symm
    subst z2
    replace z3 := z3.symm
    subst z3
    replace z4 := z4.symm
    subst z4
    replace z5 := z5.symm
    subst z5
    refine And.intro (Or.inl rfl) ?_
    refine And.intro (fun d => ?_) (fun d => ?_)
    · clear d
      refine And.intro h.o (And.intro (Nat.le_of_ble_eq_true rfl) (And.intro (Nat.le_of_ble_eq_true rfl) (And.intro (Nat.le_of_ble_eq_true rfl) (Exists.intro _ (And.intro (ct_M_different (IA := mj_up IA 52 0 0) (fr := c) (to := c) (G := fun _ => G) h hc (Nat.le_refl _) hI2 (fun d z1 z2 => by rw [show d = c by omega]; exact M_cs_up hcs)) ?_)))))
      rintro o1 sh9 FR9 J1 LA9 n9 ⟨z1, z2, z3, z4, hp1⟩
      replace z1 := z1.symm
      subst z1
      replace z2 := z2.symm
      subst z2
      replace z3 := z3.symm
      subst z3
      replace z4 := z4.symm
      subst z4
      obtain ⟨hj, l, ho, hp1⟩ := hp1
      subst hj
      subst ho
      refine And.intro (Or.inl rfl) ?_
      exact ⟨⟨rfl, rfl, rfl, rfl, rfl, l, rfl, hp1⟩, Nat.le_of_ble_eq_true rfl, Nat.le_of_ble_eq_true rfl⟩
    · exact absurd (show mj_w 0 = 0 by decide) d
  · exact absurd d (by decide)
theorem ct_M_allFunctions (h : isM sh FR n) {I I2 : Nat} {G : Nat → Nat} (hI2 : I ≤ 14) (hJ2 : I2 ≤ 14) (h0 : M_cs IA I G 0) (h1 : M_cs IA I2 G 1) :
    mj_Ct m_M_allFunctions [.inr (.inr (.inl 52))] sh FR IA LA n (mj_po (M_an IA (I = I2) (fun o => ∃ l : List Nat, o = .inl (some (.inl (l.length : Int))) ∧ M_nl LA I G 0 2 0 l)) sh FR LA n) := by
  have hmt := ct_M_match (LA := LA) h h0.1 hI2 h1.1 hJ2
  refine mj_Ct_of (by decide +kernel) (by decide) (Nat.le_of_ble_eq_true rfl) ?_
  refine mj_go z_M_allFunctions [] 60 ?_
  refine And.intro h.o (And.intro (Nat.le_of_ble_eq_true rfl) (And.intro (Nat.le_of_ble_eq_true rfl) (And.intro (Nat.le_of_ble_eq_true rfl) (Exists.intro _ (And.intro (hmt) ?_)))))
  rintro r9 sh9 FR9 IA9 LA9 n9 ⟨z0, z1, z2, z3, z4, z5⟩
  subst z0
  replace z1 := z1.symm
  subst z1
  replace z2 := z2.symm
  subst z2
  replace z3 := z3.symm
  subst z3
  replace z4 := z4.symm
  subst z4
  replace z5 := z5.symm
  subst z5
  refine And.intro (Or.inl rfl) ?_
  by_cases hm : I = I2
  · subst hm
    rw [if_pos rfl]
    refine And.intro (fun d => ?_) (fun d => ?_)
    · clear d
      refine And.intro h.o (And.intro (Nat.le_of_ble_eq_true rfl) (And.intro (Nat.le_of_ble_eq_true rfl) (And.intro (Nat.le_of_ble_eq_true rfl) (Exists.intro _ (And.intro (ct_thr00 h) ?_)))))
      rintro r9 sh9 FR9 IA9 LA9 n9 ⟨z0, z1, z2, z3, z4, z5⟩
      subst z0
      replace z1 := z1.symm
      subst z1
      replace z2 := z2.symm
      subst z2
      replace z3 := z3.symm
      subst z3
      replace z4 := z4.symm
      subst z4
      replace z5 := z5.symm
      subst z5
      refine And.intro (Or.inl rfl) ?_
      refine And.intro (fun d => ?_) (fun d => ?_)
      · clear d
        refine And.intro h.o (And.intro (Nat.le_of_ble_eq_true rfl) (And.intro (Nat.le_of_ble_eq_true rfl) (And.intro (Nat.le_of_ble_eq_true rfl) (Exists.intro _ (And.intro (ct_M_different (IA := mj_up IA 52 0 0) (fr := 0) (to := 1) (G := G) h (by decide) (by decide) hI2 (fun d z1 z2 => by rcases Nat.le_one_iff_eq_zero_or_eq_one.mp z2 with e | e <;> (rw [e]; first | exact M_cs_up h0 | exact M_cs_up h1))) ?_)))))
        rintro o1 sh9 FR9 J1 LA9 n9 ⟨z1, z2, z3, z4, hp1⟩
        replace z1 := z1.symm
        subst z1
        replace z2 := z2.symm
        subst z2
        replace z3 := z3.symm
        subst z3
        replace z4 := z4.symm
        subst z4
        obtain ⟨hj, l, ho, hp1⟩ := hp1
        subst hj
        subst ho
        refine And.intro (Or.inl rfl) ?_
        exact ⟨⟨rfl, rfl, rfl, rfl, Or.inl ⟨rfl, rfl, l, rfl, hp1⟩⟩, Nat.le_of_ble_eq_true rfl, Nat.le_of_ble_eq_true rfl⟩
      · exact absurd (show mj_w 0 = 0 by decide) d
    · exact absurd d (by decide)
  · rw [if_neg hm]
    refine And.intro (fun d => ?_) (fun d => ?_)
    · exact absurd (show mj_w 0 = 0 by decide) d
    · clear d
      refine And.intro h.o (And.intro (Nat.le_of_ble_eq_true rfl) (And.intro (Nat.le_of_ble_eq_true rfl) (And.intro (Nat.le_of_ble_eq_true rfl) (Exists.intro _ (And.intro (ct_thr10 h) ?_)))))
      rintro r9 sh9 FR9 IA9 LA9 n9 ⟨z0, z1, z2, z3, z4, z5⟩
      subst z0
      replace z1 := z1.symm
      subst z1
      replace z2 := z2.symm
      subst z2
      replace z3 := z3.symm
      subst z3
      replace z4 := z4.symm
      subst z4
      replace z5 := z5.symm
      subst z5
      refine And.intro (Or.inl rfl) ?_
      refine And.intro (fun d => ?_) (fun d => ?_)
      · exact absurd d (by decide)
      · exact ⟨⟨rfl, rfl, rfl, rfl, Or.inr ⟨hm, rfl, rfl⟩⟩, Nat.le_of_ble_eq_true rfl, Nat.le_of_ble_eq_true rfl⟩
end MM
