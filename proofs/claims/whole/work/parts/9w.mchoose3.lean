/-! THE REFERENCE: choose, its other loops -/
section MM
variable {sh : mj_Sh} {FR : mj_FR} {IA : mj_FI} {LA : mj_LA} {n : Nat}
set_option maxHeartbeats 2000000 in
/-- the third loop: what is used -/
theorem ch_used (h : isM sh FR n) {B : mj_FI} {c O G : Nat} {od : List Nat} {rv : Int} (hc : c < 2) (hH : ch_H B c O G od) {P : mj_O → mj_FI → Prop} (h74 : ∀ r, r < 315 → B 74 r = 0)
    (hP : ∀ J : mj_FI, (∀ q, q ≠ 74 → q ≠ 76 → J q = B q) → ch_N (ch_X B c) (ch_Y B c) (ch_O B c) O G O od (J 76) → ch_D (ch_X B c) (ch_Y B c) od (J 74) → P (.inl (some (.inl (wr_ct (fun k => decide (J 76 (15 + k) = 1)) od : Int)))) J) :
    ∀ (t : Nat) (xs ys : List Nat) (J : mj_FI) (y4 y5 y6 y7 : Option mj_V), xs.length = t → od = xs ++ ys → (∀ q, q ≠ 76 → J q = B q) → ch_N (ch_X B c) (ch_Y B c) (ch_O B c) O G O ys (J 76) → mj_G m_M_choose (mj_po P sh FR LA n) 133 [some (.inr (.inr (.inl 52))), some (.inl c), some (.inl rv), some (.inl ((t : Int) - 1)), y4, y5, y6, y7] [] sh FR J LA n 0 0 := by
  obtain ⟨⟨hG, hG2⟩, ⟨hO, hO2⟩, hr, hb, htop, hfan, hos, ⟨o1, o2, o3⟩, hol⟩ := id hH
  intro t
  induction t with
  | zero =>
    intro xs ys J y4 y5 y6 y7 ht he hJ hN
    have e : xs = [] := List.length_eq_zero_iff.mp ht
    subst e
    rw [List.nil_append] at he
    subst he
    have n1 : ∀ r, r < 315 → (J 76 r = 0 ∨ J 76 r = 1) := fun r hr => by
      rcases hN.1 r hr with z | z
      · exact Or.inl z
      · exact Or.inr z.1
    have key := ch_last (LA := LA) (rv := rv) (P := P) h hc hH hJ n1 (fun J2 a b => by
      have e76 : J2 76 = J 76 := a 76 (by decide)
      have := hP J2 (fun q q1 q2 => by rw [a q q1, hJ q q2]) (by rw [e76]; exact hN) b
      rw [e76] at this
      exact this) od [] J y5 y6 y7 rfl (fun _ _ => rfl) ⟨fun r hr _ => by rw [hJ 74 (by decide)]; exact h74 r hr, fun r hr => by rw [hJ 74 (by decide), h74 r hr]; exact ⟨Int.le_refl _, by simp⟩, fun k hk => absurd hk (by simp)⟩
    refine mj_go z_M_choose [233] 60 ?_
    refine And.intro (fun d => ?_) (fun d => ?_)
    · exact key
    · exact absurd (by decide) d
  | succ t ih =>
    intro xs ys J y4 y5 y6 y7 ht he hJ hN
    obtain ⟨L, k, eL⟩ : ∃ L k, xs = L ++ [k] := by
      rcases snoc xs with e | e
      · rw [e] at ht
        simp at ht
      · exact e
    subst eL
    have hlen : L.length = t := by rw [List.length_append, List.length_singleton] at ht; omega
    have he2 : od = L ++ k :: ys := by rw [he]; simp
    have hk : k < G := o3 k (by rw [he2]; simp)
    have hl : t < G := by rw [he2, List.length_append, List.length_cons] at o1; omega
    have ho : J 68 (300 * c + t) = (k : Int) := by rw [hJ 68 (by decide)]; exact hol _ _ (by rw [he2, ← hlen]; simp)
    have e63 : J 63 = B 63 := hJ 63 (by decide)
    have e64 : J 64 = B 64 := hJ 64 (by decide)
    have e66 : J 66 = B 66 := hJ 66 (by decide)
    have e73 : J 73 = B 73 := hJ 73 (by decide)
    obtain ⟨s1, s2⟩ := hfan k hk
    have x3 := hH.tr hc s1
    have y3 := hH.tr hc s2
    have tk := htop L k ys he2
    have nx : ∀ (J2 : mj_FI) (y4 y5 y6 y7 : Option mj_V), (∀ q, q ≠ 76 → J2 q = B q) → ch_N (ch_X B c) (ch_Y B c) (ch_O B c) O G O (k :: ys) (J2 76) → mj_G m_M_choose (mj_po P sh FR LA n) 222 [some (.inr (.inr (.inl 52))), some (.inl c), some (.inl rv), some (.inl (((t + 1 : Nat) : Int) - 1)), y4, y5, y6, y7] [] sh FR J2 LA n 0 0 := by
      intro J2 y4 y5 y6 y7 a1 a2
      have key := ih L (k :: ys) J2 y4 y5 y6 y7 hlen he2 a1 a2
      clear htop hol ih he hJ ho he2 tk
      refine mj_go z_M_choose [133] 60 ?_
      refine Exists.intro ((t : Int) - 1) (And.intro (by first | (rw [mj_w_id (by omega) (by omega)]; done) | (rw [mj_w_id (by omega) (by omega)]; omega) | (unfold mj_w; omega)) ?_)
      exact key
    have hN2 := fun (z : J 76 (15 + k) = 1) => hN.mark hk (by omega) z tk
    have hN3 := fun (z : ¬ J 76 (15 + k) = 1) => hN.skip (k := k) z
    have nk : J 76 (15 + k) = 0 ∨ J 76 (15 + k) = 1 := by
      rcases hN.1 (15 + k) (by omega) with z | z
      · exact Or.inl z
      · exact Or.inr z.1
    clear htop hol ih he he2 tk hN
    refine mj_go z_M_choose [222] 90 ?_
    refine And.intro (fun d => ?_) (fun d => ?_)
    · clear ho
      simp (disch := (clear d; omega)) only [mj_w_id] at d
      omega
    · clear d
      refine And.intro h.o (Exists.intro _ (And.intro h.r18 ?_))
      refine Exists.intro (((300 * c : Nat) : Int)) (And.intro (by first | (rw [mj_w_id (by omega) (by omega)]; done) | (rw [mj_w_id (by omega) (by omega)]; omega) | (unfold mj_w; omega)) ?_)
      refine Exists.intro (((300 * c + t : Nat) : Int)) (And.intro (by first | (rw [mj_w_id (by omega) (by omega)]; done) | (rw [mj_w_id (by omega) (by omega)]; omega) | (unfold mj_w; omega)) ?_)
      refine Exists.intro _ (Exists.intro (300 * c + t) (And.intro h.a18 (And.intro (by first | (rw [mj_w_id (by omega) (by omega)]; done) | (rw [mj_w_id (by omega) (by omega)]; omega) | (unfold mj_w; omega)) (And.intro (by omega) ?_))))
      rw [ho]
      clear ho
      refine And.intro h.o (Exists.intro _ (And.intro h.r29 ?_))
      refine Exists.intro (((15 + k : Nat) : Int)) (And.intro (by first | (rw [mj_w_id (by omega) (by omega)]; done) | (rw [mj_w_id (by omega) (by omega)]; omega) | (unfold mj_w; omega)) ?_)
      refine Exists.intro _ (Exists.intro (15 + k) (And.intro h.a29 (And.intro (by first | (rw [mj_w_id (by omega) (by omega)]; done) | (rw [mj_w_id (by omega) (by omega)]; omega) | (unfold mj_w; omega)) (And.intro (by omega) ?_))))
      refine And.intro (fun d => ?_) (fun d => ?_)
      · refine nx J _ _ _ _ hJ (hN3 (fun z => ?_))
        rw [z] at d
        exact absurd d (by decide)
      · have hu : J 76 (15 + k) = 1 := by
          rcases nk with z | z
          · rw [z] at d
            exact absurd (show mj_w 0 = 0 by decide) d
          · exact z
        clear d
        have key : ∀ J2, J2 = mj_up (mj_up J 76 (ch_X B c k) 1) 76 (ch_Y B c k) 1 → ∀ (y4 y5 y6 y7 : Option mj_V), mj_G m_M_choose (mj_po P sh FR LA n) 222 [some (.inr (.inr (.inl 52))), some (.inl c), some (.inl rv), some (.inl (((t + 1 : Nat) : Int) - 1)), y4, y5, y6, y7] [] sh FR J2 LA n 0 0 := fun J2 e y4 y5 y6 y7 => nx J2 y4 y5 y6 y7 (fun q hq => by rw [e, mj_up_ne hq, mj_up_ne hq]; exact hJ q hq) (by rw [e, mj_up_row, mj_up_row]; exact hN2 hu)
        clear hN2 hN3 nx nk hu hJ
        refine And.intro h.o (Exists.intro _ (And.intro h.r29 ?_))
        refine And.intro h.o (Exists.intro _ (And.intro h.r13 ?_))
        refine Exists.intro (((300 * c : Nat) : Int)) (And.intro (by first | (rw [mj_w_id (by omega) (by omega)]; done) | (rw [mj_w_id (by omega) (by omega)]; omega) | (unfold mj_w; omega)) ?_)
        refine Exists.intro (((300 * c + k : Nat) : Int)) (And.intro (by first | (rw [mj_w_id (by omega) (by omega)]; done) | (rw [mj_w_id (by omega) (by omega)]; omega) | (unfold mj_w; omega)) ?_)
        refine Exists.intro _ (Exists.intro (300 * c + k) (And.intro h.a13 (And.intro (by first | (rw [mj_w_id (by omega) (by omega)]; done) | (rw [mj_w_id (by omega) (by omega)]; omega) | (unfold mj_w; omega)) (And.intro (by omega) ?_))))
        rw [e63]
        refine And.intro h.o (And.intro (Nat.le_of_ble_eq_true rfl) (And.intro (Nat.le_of_ble_eq_true rfl) (And.intro (Nat.le_of_ble_eq_true rfl) (Exists.intro _ (And.intro (ct_tuB h hc e66 e73 hr s1 (hb _ s1)) ?_)))))
        rintro r9 sh9 FR9 IA9 LA9 n9 ⟨z0, z1, z2, z3, z4, z5⟩
        subst z0
        replace z1 := z1.symm
        subst z1
        replace z2 := z2.symm
        subst z2
        replace z3 := z3.symm
        subst z3
        replace z4 := z4.symm
        subst z4
        replace z5 := z5.symm
        subst z5
        refine And.intro (Or.inl rfl) ?_
        refine And.intro h.o (And.intro (Nat.le_of_ble_eq_true rfl) (And.intro (Nat.le_of_ble_eq_true rfl) (And.intro (Nat.le_of_ble_eq_true rfl) (Exists.intro _ (And.intro (ct_raB h hc e66 e73 hr (hb _ s1)) ?_)))))
        rintro r9 sh9 FR9 IA9 LA9 n9 ⟨z0, z1, z2, z3, z4, z5⟩
        subst z0
        replace z1 := z1.symm
        subst z1
        replace z2 := z2.symm
        subst z2
        replace z3 := z3.symm
        subst z3
        replace z4 := z4.symm
        subst z4
        replace z5 := z5.symm
        subst z5
        refine And.intro (Or.inl rfl) ?_
        refine Exists.intro _ (Exists.intro (ch_X B c k) (And.intro h.a29 (And.intro (by first | (rw [mj_w_id (by omega) (by omega)]; done) | (rw [mj_w_id (by omega) (by omega)]; omega) | (unfold mj_w; omega)) (And.intro (by omega) ?_))))
        refine And.intro (Or.inr rfl) ?_
        have f66 : (mj_up J 76 (ch_X B c k) 1) 66 = B 66 := by rw [mj_up_ne (by decide)]; exact e66
        have f73 : (mj_up J 76 (ch_X B c k) 1) 73 = B 73 := by rw [mj_up_ne (by decide)]; exact e73
        refine And.intro h.o (Exists.intro _ (And.intro h.r29 ?_))
        refine And.intro h.o (Exists.intro _ (And.intro h.r14 ?_))
        refine Exists.intro (((300 * c : Nat) : Int)) (And.intro (by first | (rw [mj_w_id (by omega) (by omega)]; done) | (rw [mj_w_id (by omega) (by omega)]; omega) | (unfold mj_w; omega)) ?_)
        refine Exists.intro (((300 * c + k : Nat) : Int)) (And.intro (by first | (rw [mj_w_id (by omega) (by omega)]; done) | (rw [mj_w_id (by omega) (by omega)]; omega) | (unfold mj_w; omega)) ?_)
        refine Exists.intro _ (Exists.intro (300 * c + k) (And.intro h.a14 (And.intro (by first | (rw [mj_w_id (by omega) (by omega)]; done) | (rw [mj_w_id (by omega) (by omega)]; omega) | (unfold mj_w; omega)) (And.intro (by omega) ?_))))
        rw [mj_up_ne (show (64 : Nat) ≠ 76 by decide), e64]
        refine And.intro h.o (And.intro (Nat.le_of_ble_eq_true rfl) (And.intro (Nat.le_of_ble_eq_true rfl) (And.intro (Nat.le_of_ble_eq_true rfl) (Exists.intro _ (And.intro (ct_tuB h hc f66 f73 hr s2 (hb _ s2)) ?_)))))
        rintro r9 sh9 FR9 IA9 LA9 n9 ⟨z0, z1, z2, z3, z4, z5⟩
        subst z0
        replace z1 := z1.symm
        subst z1
        replace z2 := z2.symm
        subst z2
        replace z3 := z3.symm
        subst z3
        replace z4 := z4.symm
        subst z4
        replace z5 := z5.symm
        subst z5
        refine And.intro (Or.inl rfl) ?_
        refine And.intro h.o (And.intro (Nat.le_of_ble_eq_true rfl) (And.intro (Nat.le_of_ble_eq_true rfl) (And.intro (Nat.le_of_ble_eq_true rfl) (Exists.intro _ (And.intro (ct_raB h hc f66 f73 hr (hb _ s2)) ?_)))))
        rintro r9 sh9 FR9 IA9 LA9 n9 ⟨z0, z1, z2, z3, z4, z5⟩
        subst z0
        replace z1 := z1.symm
        subst z1
        replace z2 := z2.symm
        subst z2
        replace z3 := z3.symm
        subst z3
        replace z4 := z4.symm
        subst z4
        replace z5 := z5.symm
        subst z5
        refine And.intro (Or.inl rfl) ?_
        refine Exists.intro _ (Exists.intro (ch_Y B c k) (And.intro h.a29 (And.intro (by first | (rw [mj_w_id (by omega) (by omega)]; done) | (rw [mj_w_id (by omega) (by omega)]; omega) | (unfold mj_w; omega)) (And.intro (by omega) ?_))))
        refine And.intro (Or.inr rfl) ?_
        exact key _ rfl _ _ _ _
set_option maxHeartbeats 2000000 in
/-- the second loop: the outputs -/
theorem ch_outs (h : isM sh FR n) {B : mj_FI} {c O G : Nat} {od : List Nat} {rv : Int} (hc : c < 2) (hH : ch_H B c O G od) {P : mj_O → mj_FI → Prop} (h74 : ∀ r, r < 315 → B 74 r = 0)
    (hP : ∀ J : mj_FI, (∀ q, q ≠ 74 → q ≠ 76 → J q = B q) → ch_N (ch_X B c) (ch_Y B c) (ch_O B c) O G O od (J 76) → ch_D (ch_X B c) (ch_Y B c) od (J 74) → P (.inl (some (.inl (wr_ct (fun k => decide (J 76 (15 + k) = 1)) od : Int)))) J) :
    ∀ (t k : Nat) (J : mj_FI) (y4 y5 y6 y7 : Option mj_V), k + t = O → (∀ q, q ≠ 76 → J q = B q) → ch_N (ch_X B c) (ch_Y B c) (ch_O B c) O G k [] (J 76) → mj_G m_M_choose (mj_po P sh FR LA n) 81 [some (.inr (.inr (.inl 52))), some (.inl c), some (.inl rv), some (.inl k), y4, y5, y6, y7] [] sh FR J LA n 0 0 := by
  obtain ⟨⟨hG, hG2⟩, ⟨hO, hO2⟩, hr, hb, htop, hfan, hos, ⟨o1, o2, o3⟩, hol⟩ := id hH
  intro t
  induction t with
  | zero =>
    intro k J y4 y5 y6 y7 hk hJ hN
    have e : k = O := by omega
    subst e
    have e56 : J 56 c = (G : Int) := by rw [hJ 56 (by decide)]; exact hG
    have e57 : J 57 c = (k : Int) := by rw [hJ 57 (by decide)]; exact hO
    have key := ch_used (LA := LA) (rv := rv) (P := P) h hc hH h74 hP G od [] J y4 y5 y6 y7 o1 (by simp) hJ hN
    clear htop hol hJ hP hN
    refine mj_go z_M_choose [133] 60 ?_
    refine And.intro h.o (Exists.intro _ (And.intro h.r7 ?_))
    refine Exists.intro _ (Exists.intro (c) (And.intro h.a7 (And.intro (by first | (rw [mj_w_id (by omega) (by omega)]; done) | (rw [mj_w_id (by omega) (by omega)]; omega) | (unfold mj_w; omega)) (And.intro (by omega) ?_))))
    rw [e57]
    refine And.intro (fun d => ?_) (fun d => ?_)
    · clear d
      refine And.intro h.o (Exists.intro _ (And.intro h.r6 ?_))
      refine Exists.intro _ (Exists.intro (c) (And.intro h.a6 (And.intro (by first | (rw [mj_w_id (by omega) (by omega)]; done) | (rw [mj_w_id (by omega) (by omega)]; omega) | (unfold mj_w; omega)) (And.intro (by omega) ?_))))
      rw [e56]
      refine Exists.intro ((G : Int) - 1) (And.intro (by first | (rw [mj_w_id (by omega) (by omega)]; done) | (rw [mj_w_id (by omega) (by omega)]; omega) | (unfold mj_w; omega)) ?_)
      exact key
    · simp (disch := (clear d; omega)) only [mj_w_id] at d
      omega
  | succ t ih =>
    intro k J y4 y5 y6 y7 hk hJ hN
    have e57 : J 57 c = (O : Int) := by rw [hJ 57 (by decide)]; exact hO
    have e65 : J 65 = B 65 := hJ 65 (by decide)
    have e66 : J 66 = B 66 := hJ 66 (by decide)
    have e73 : J 73 = B 73 := hJ 73 (by decide)
    have s1 := hos k (by omega)
    have x3 := hH.tr hc s1
    have key : ∀ J2, J2 = mj_up J 76 (ch_O B c k) 1 → mj_G m_M_choose (mj_po P sh FR LA n) 81 [some (.inr (.inr (.inl 52))), some (.inl c), some (.inl rv), some (.inl ((k + 1 : Nat) : Int)), y4, y5, y6, y7] [] sh FR J2 LA n 0 0 := fun J2 e => ih (k + 1) J2 y4 y5 y6 y7 (by omega) (fun q hq => by rw [e, mj_up_ne hq]; exact hJ q hq) (by rw [e, mj_up_row]; exact hN.out (by omega))
    clear htop hol hJ hP hN ih
    refine mj_go z_M_choose [81] 60 ?_
    refine And.intro h.o (Exists.intro _ (And.intro h.r7 ?_))
    refine Exists.intro _ (Exists.intro (c) (And.intro h.a7 (And.intro (by first | (rw [mj_w_id (by omega) (by omega)]; done) | (rw [mj_w_id (by omega) (by omega)]; omega) | (unfold mj_w; omega)) (And.intro (by omega) ?_))))
    rw [e57]
    refine And.intro (fun d => ?_) (fun d => ?_)
    · simp (disch := (clear d; omega)) only [mj_w_id] at d
      omega
    · clear d
      refine And.intro h.o (Exists.intro _ (And.intro h.r29 ?_))
      refine And.intro h.o (Exists.intro _ (And.intro h.r15 ?_))
      refine Exists.intro (((16 * c : Nat) : Int)) (And.intro (by first | (rw [mj_w_id (by omega) (by omega)]; done) | (rw [mj_w_id (by omega) (by omega)]; omega) | (unfold mj_w; omega)) ?_)
      refine Exists.intro (((16 * c + k : Nat) : Int)) (And.intro (by first | (rw [mj_w_id (by omega) (by omega)]; done) | (rw [mj_w_id (by omega) (by omega)]; omega) | (unfold mj_w; omega)) ?_)
      refine Exists.intro _ (Exists.intro (16 * c + k) (And.intro h.a15 (And.intro (by first | (rw [mj_w_id (by omega) (by omega)]; done) | (rw [mj_w_id (by omega) (by omega)]; omega) | (unfold mj_w; omega)) (And.intro (by omega) ?_))))
      rw [e65]
      refine And.intro h.o (And.intro (Nat.le_of_ble_eq_true rfl) (And.intro (Nat.le_of_ble_eq_true rfl) (And.intro (Nat.le_of_ble_eq_true rfl) (Exists.intro _ (And.intro (ct_tuB h hc e66 e73 hr s1 (hb _ s1)) ?_)))))
      rintro r9 sh9 FR9 IA9 LA9 n9 ⟨z0, z1, z2, z3, z4, z5⟩
      subst z0
      replace z1 := z1.symm
      subst z1
      replace z2 := z2.symm
      subst z2
      replace z3 := z3.symm
      subst z3
      replace z4 := z4.symm
      subst z4
      replace z5 := z5.symm
      subst z5
      refine And.intro (Or.inl rfl) ?_
      refine And.intro h.o (And.intro (Nat.le_of_ble_eq_true rfl) (And.intro (Nat.le_of_ble_eq_true rfl) (And.intro (Nat.le_of_ble_eq_true rfl) (Exists.intro _ (And.intro (ct_raB h hc e66 e73 hr (hb _ s1)) ?_)))))
      rintro r9 sh9 FR9 IA9 LA9 n9 ⟨z0, z1, z2, z3, z4, z5⟩
      subst z0
      replace z1 := z1.symm
      subst z1
      replace z2 := z2.symm
      subst z2
      replace z3 := z3.symm
      subst z3
      replace z4 := z4.symm
      subst z4
      replace z5 := z5.symm
      subst z5
      refine And.intro (Or.inl rfl) ?_
      refine Exists.intro _ (Exists.intro (ch_O B c k) (And.intro h.a29 (And.intro (by first | (rw [mj_w_id (by omega) (by omega)]; done) | (rw [mj_w_id (by omega) (by omega)]; omega) | (unfold mj_w; omega)) (And.intro (by omega) ?_))))
      refine And.intro (Or.inr rfl) ?_
      refine Exists.intro (((k + 1 : Nat) : Int)) (And.intro (by first | (rw [mj_w_id (by omega) (by omega)]; done) | (rw [mj_w_id (by omega) (by omega)]; omega) | (unfold mj_w; omega)) ?_)
      exact key _ rfl
end MM
theorem M_be_co2 {IA J : mj_FI} (h1 : J 61 = IA 61) (h2 : J 62 = IA 62) (h6 : J 66 = IA 66) (h7 : J 67 = IA 67) {LA : mj_LA} {I G c K : Nat} {lit z : Int} (h : M_be J LA I G c lit K z) : M_be IA LA I G c lit K z := (M_be_co h1 h2 h6 h7).mp h
theorem ch_A.step {IA : mj_FI} {LA : mj_LA} {I G c r : Nat} {rd : Bool} {J J2 : mj_FI} (h : ch_A IA LA I G c rd r J) (h1 : ∀ q, (q < 73 ∨ 76 < q) → J2 q = J q) (h2 : ∀ s, s ≠ r → J2 73 s = J 73 s ∧ J2 74 s = J 74 s ∧ J2 75 s = J 75 s ∧ J2 76 s = J 76 s) (h4 : J2 74 r = 0) (h5 : J2 75 r = 0) (h6 : J2 76 r = 0) (h3 : M_is I G r → ch_b IA LA I G c rd r (J2 73 r)) : ch_A IA LA I G c rd (r + 1) J2 := by
  refine ⟨fun q hq => by rw [h1 q hq]; exact h.1 q hq, fun s hs => ?_⟩
  by_cases e : s = r
  · subst e
    exact ⟨h4, h5, h6, h3⟩
  · obtain ⟨a1, a2, a3, a4⟩ := h2 s e
    rw [a1, a2, a3, a4]
    exact h.2 s (by omega)
section MM
variable {sh : mj_Sh} {FR : mj_FR} {IA : mj_FI} {LA : mj_LA} {n : Nat}
set_option maxHeartbeats 2000000 in
theorem ct_M_choose (h : isM sh FR n) {c I O G : Nat} {od : List Nat} {rd : Bool} (hc : c < 2) (hS : M_S IA c I O G od) :
    mj_Ct m_M_choose [.inr (.inr (.inl 52)), .inl c, .inl (if rd = true then 1 else 0)] sh FR IA LA n (mj_po (ch_q IA LA c I O G od rd) sh FR LA n) := by
  obtain ⟨⟨hI, hI2⟩, ⟨hG, hG2⟩, ⟨hO, hO2⟩, hrr, hv, hd, hos, hsr, hfan, ⟨o1, o2, o3⟩, hol, hdp, hpw⟩ := id hS
  have loop : ∀ (t r : Nat) (J : mj_FI), r + t = 315 → ch_A IA LA I G c rd r J → mj_G m_M_choose (mj_po (ch_q IA LA c I O G od rd) sh FR LA n) 2 [some (.inr (.inr (.inl 52))), some (.inl c), some (.inl (if rd = true then 1 else 0)), some (.inl r), none, none, none, none] [] sh FR J LA n 0 0 := by
    intro t
    induction t with
    | zero =>
      intro r J ht hA
      have e : r = 315 := by omega
      subst e
      obtain ⟨k1, k2⟩ := ch_top hc hS hA
      have f : ∀ q, (q < 73 ∨ 76 < q) → J q = IA q := hA.1
      have hH : ch_H J c O G od := ⟨⟨by rw [f 56 (by decide)]; exact hG, hG2⟩, ⟨by rw [f 57 (by decide)]; exact hO, hO2⟩, by unfold M_rr; rw [f 66 (by decide)]; exact hrr, k1, k2, fun k hk => by rw [M_st_co (f 66 (by decide)), M_st_co (f 66 (by decide)), f 63 (by decide), f 64 (by decide)]; exact hfan k hk, fun k hk => by rw [M_st_co (f 66 (by decide)), f 65 (by decide)]; exact hos k hk, ⟨o1, o2, o3⟩, fun i s z => by rw [f 68 (by decide)]; exact hol i s z⟩
      have key := ch_outs (LA := LA) (rv := if rd = true then 1 else 0) (P := ch_q IA LA c I O G od rd) h hc hH (fun r hr => (hA.2 r hr).1) (fun J2 a b d => by
        have e66 : J2 66 = J 66 := a 66 (by decide) (by decide)
        have e73 : J2 73 = J 73 := a 73 (by decide) (by decide)
        have eX : ch_X J2 c = ch_X J c := funext fun k => by unfold ch_X; rw [M_tr_f e66 e73, a 63 (by decide) (by decide)]
        have eY : ch_Y J2 c = ch_Y J c := funext fun k => by unfold ch_Y; rw [M_tr_f e66 e73, a 64 (by decide) (by decide)]
        have eO : ch_O J2 c = ch_O J c := funext fun k => by unfold ch_O; rw [M_tr_f e66 e73, a 65 (by decide) (by decide)]
        refine ⟨fun q hq => by rw [a q (by omega) (by omega)]; exact f q hq, fun r hr => by rw [e73]; exact (hA.2 r (by unfold M_is at hr; omega)).2.2.2 hr, fun r hr => by rw [a 75 (by decide) (by decide)]; exact (hA.2 r hr).2.1, ?_, ?_, rfl⟩
        · rw [eX, eY, eO]
          exact b.fin (nodup_all o2 o1 o3)
        · rw [eX, eY]
          exact d) O 0 J none none none none (by omega) (fun _ _ => rfl) ⟨fun r hr => Or.inl (hA.2 r hr).2.2.1, fun k hk => by omega, fun k hk => absurd hk (by simp)⟩
      refine mj_go z_M_choose [81] 60 ?_
      refine And.intro (fun d => ?_) (fun d => ?_)
      · exact key
      · exact absurd (show mj_w 315 ≤ mj_w ((315 : Nat) : Int) by decide) d
    | succ t ih =>
      intro r J ht hA
      have f : ∀ q, (q < 73 ∨ 76 < q) → J q = IA q := hA.1
      generalize hJ2 : mj_up (mj_up (mj_up J 76 r 0) 75 r 0) 74 r 0 = J2
      have f2 : ∀ q, (q < 73 ∨ 76 < q) → J2 q = J q := fun q hq => by rw [← hJ2, mj_up_ne (by omega), mj_up_ne (by omega), mj_up_ne (by omega)]
      have f2' : ∀ q, (q < 73 ∨ 76 < q) → J2 q = IA q := fun q hq => by rw [f2 q hq]; exact f q hq
      have g4 : J2 74 r = 0 := by rw [← hJ2, mj_up_at]
      have g5 : J2 75 r = 0 := by rw [← hJ2, mj_up_ne (by decide), mj_up_at]
      have g6 : J2 76 r = 0 := by rw [← hJ2, mj_up_ne (by decide), mj_up_ne (by decide), mj_up_at]
      have g73 : J2 73 = J 73 := by rw [← hJ2, mj_up_ne (by decide), mj_up_ne (by decide), mj_up_ne (by decide)]
      have gs : ∀ s, s ≠ r → J2 74 s = J 74 s ∧ J2 75 s = J 75 s ∧ J2 76 s = J 76 s := fun s hs => by
        rw [← hJ2]
        refine ⟨?_, ?_, ?_⟩
        · rw [mj_up_k hs, mj_up_ne (by decide), mj_up_ne (by decide)]
        · rw [mj_up_ne (by decide), mj_up_k hs, mj_up_ne (by decide)]
        · rw [mj_up_ne (by decide), mj_up_ne (by decide), mj_up_k hs]
      have nx : ∀ J3, ch_A IA LA I G c rd (r + 1) J3 → mj_G m_M_choose (mj_po (ch_q IA LA c I O G od rd) sh FR LA n) 73 [some (.inr (.inr (.inl 52))), some (.inl c), some (.inl (if rd = true then 1 else 0)), some (.inl r), none, none, none, none] [] sh FR J3 LA n 0 0 := by
        intro J3 hA3
        refine mj_go z_M_choose [2] 60 ?_
        refine Exists.intro (((r + 1 : Nat) : Int)) (And.intro (by first | (rw [mj_w_id (by omega) (by omega)]; done) | (rw [mj_w_id (by omega) (by omega)]; omega) | (unfold mj_w; omega)) ?_)
        exact ih (r + 1) J3 (by omega) hA3
      have set : ∀ z, ch_b IA LA I G c rd r z → mj_G m_M_choose (mj_po (ch_q IA LA c I O G od rd) sh FR LA n) 72 [some (.inr (.inr (.inl 52))), some (.inl c), some (.inl (if rd = true then 1 else 0)), some (.inl r), none, none, none, none] [.inl z, .inl r, .inr (.inr (.inl 73))] sh FR J2 LA n 0 0 := by
        intro z hz
        refine mj_go z_M_choose [73] 60 ?_
        refine Exists.intro _ (Exists.intro (r) (And.intro h.a26 (And.intro (by first | (rw [mj_w_id (by omega) (by omega)]; done) | (rw [mj_w_id (by omega) (by omega)]; omega) | (unfold mj_w; omega)) (And.intro (by omega) ?_))))
        refine nx _ (hA.step (fun q hq => by rw [mj_up_ne (by omega)]; exact f2 q hq) (fun s hs => ?_) ?_ ?_ ?_ (fun _ => by rw [mj_up_at]; exact hz))
        · rw [mj_up_k hs, mj_up_ne (by decide), mj_up_ne (by decide), mj_up_ne (by decide), g73]
          exact ⟨rfl, gs s hs⟩
        · rw [mj_up_ne (by decide)]; exact g4
        · rw [mj_up_ne (by decide)]; exact g5
        · rw [mj_up_ne (by decide)]; exact g6
      have p55 : J2 55 c = (I : Int) := by rw [f2' 55 (by decide)]; exact hI
      have p56 : J2 56 c = (G : Int) := by rw [f2' 56 (by decide)]; exact hG
      have pv : M_vr J2 c I G := M_vr_co (f2' 61 (by decide)) (f2' 62 (by decide)) (f2' 66 (by decide)) hv
      have pd : M_dr J2 c := M_dr_co (f2' 67 (by decide)) hd
      have pr : M_rr J2 := by unfold M_rr; rw [f2' 66 (by decide)]; exact hrr
      have pva : M_va J2 c r = M_va IA c r := M_va_co (f2' 61 (by decide)) (f2' 62 (by decide))
      by_cases hR : M_is I G r
      · obtain ⟨va0, va1, _⟩ := hv.va hI2 hR
        refine mj_go z_M_choose [72, 73] 60 ?_
        refine And.intro (fun d => ?_) (fun d => ?_)
        · simp (disch := (clear d; omega)) only [mj_w_id] at d
          omega
        · clear d
          refine And.intro h.o (Exists.intro _ (And.intro h.r29 ?_))
          refine Exists.intro _ (Exists.intro (r) (And.intro h.a29 (And.intro (by first | (rw [mj_w_id (by omega) (by omega)]; done) | (rw [mj_w_id (by omega) (by omega)]; omega) | (unfold mj_w; omega)) (And.intro (by omega) ?_))))
          refine And.intro (Or.inl rfl) ?_
          refine And.intro h.o (Exists.intro _ (And.intro h.r28 ?_))
          refine Exists.intro _ (Exists.intro (r) (And.intro h.a28 (And.intro (by first | (rw [mj_w_id (by omega) (by omega)]; done) | (rw [mj_w_id (by omega) (by omega)]; omega) | (unfold mj_w; omega)) (And.intro (by omega) ?_))))
          refine And.intro h.o (Exists.intro _ (And.intro h.r27 ?_))
          refine Exists.intro _ (Exists.intro (r) (And.intro h.a27 (And.intro (by first | (rw [mj_w_id (by omega) (by omega)]; done) | (rw [mj_w_id (by omega) (by omega)]; omega) | (unfold mj_w; omega)) (And.intro (by omega) ?_))))
          rw [hJ2]
          refine And.intro h.o (And.intro (Nat.le_of_ble_eq_true rfl) (And.intro (Nat.le_of_ble_eq_true rfl) (And.intro (Nat.le_of_ble_eq_true rfl) (Exists.intro _ (And.intro ((ct_isR h hc p55 hI2 p56 hG2 (by omega)).1 hR) ?_)))))
          rintro r9 sh9 FR9 IA9 LA9 n9 ⟨z0, z1, z2, z3, z4, z5⟩
          subst z0
          replace z1 := z1.symm
          subst z1
          replace z2 := z2.symm
          subst z2
          replace z3 := z3.symm
          subst z3
          replace z4 := z4.symm
          subst z4
          replace z5 := z5.symm
          subst z5
          refine And.intro (Or.inl rfl) ?_
          refine And.intro (fun d => ?_) (fun d => ?_)
          · exact absurd d (by decide)
          · clear d
            refine And.intro h.o (Exists.intro _ (And.intro h.r26 ?_))
            by_cases hrd : rd = true
            · subst hrd
              refine And.intro (fun d => ?_) (fun d => ?_)
              · exact absurd d (by decide)
              · clear d
                refine And.intro h.o (And.intro (Nat.le_of_ble_eq_true rfl) (And.intro (Nat.le_of_ble_eq_true rfl) (And.intro (Nat.le_of_ble_eq_true rfl) (Exists.intro _ (And.intro (ct_M_variableOf h hc hI2 hG2 pv hR) ?_)))))
                rintro r9 sh9 FR9 IA9 LA9 n9 ⟨z0, z1, z2, z3, z4, z5⟩
                subst z0
                replace z1 := z1.symm
                subst z1
                replace z2 := z2.symm
                subst z2
                replace z3 := z3.symm
                subst z3
                replace z4 := z4.symm
                subst z4
                replace z5 := z5.symm
                subst z5
                refine And.intro (Or.inl rfl) ?_
                rw [pva]
                refine Exists.intro (2 * M_va IA c r) (And.intro (by first | (rw [mj_w_id (by omega) (by omega)]; done) | (rw [mj_w_id (by omega) (by omega)]; omega) | (unfold mj_w; omega)) ?_)
                have st : M_st J2 c (2 * M_va IA c r) := by
                  have := (hv.lit (i := 0) hI2 hG2 hR (by decide)).1
                  simp only [Int.natCast_zero, Int.add_zero] at this
                  exact (M_st_co (f2' 66 (by decide))).mpr this
                refine And.intro h.o (And.intro (Nat.le_of_ble_eq_true rfl) (And.intro (Nat.le_of_ble_eq_true rfl) (And.intro (Nat.le_of_ble_eq_true rfl) (Exists.intro _ (And.intro (ct_M_leaderOf h hc p55 hI2 p56 hG2 pr pv pd st) ?_)))))
                rintro o1 sh9 FR9 J4 LA9 n9 ⟨z1, z2, z3, z4, hp1⟩
                replace z1 := z1.symm
                subst z1
                replace z2 := z2.symm
                subst z2
                replace z3 := z3.symm
                subst z3
                replace z4 := z4.symm
                subst z4
                obtain ⟨hj, z, ho, hp1⟩ := hp1
                replace hj := hj.symm
                subst hj
                subst ho
                refine And.intro (Or.inl rfl) ?_
                exact set z (by unfold ch_b; rw [if_pos rfl]; exact M_be_co2 (f2' 61 (by decide)) (f2' 62 (by decide)) (f2' 66 (by decide)) (f2' 67 (by decide)) hp1)
            · have hrd : rd = false := by simpa using hrd
              subst hrd
              refine And.intro (fun d => ?_) (fun d => ?_)
              · clear d
                refine And.intro h.o (And.intro (Nat.le_of_ble_eq_true rfl) (And.intro (Nat.le_of_ble_eq_true rfl) (And.intro (Nat.le_of_ble_eq_true rfl) (Exists.intro _ (And.intro (ct_M_variableOf h hc hI2 hG2 pv hR) ?_)))))
                rintro r9 sh9 FR9 IA9 LA9 n9 ⟨z0, z1, z2, z3, z4, z5⟩
                subst z0
                replace z1 := z1.symm
                subst z1
                replace z2 := z2.symm
                subst z2
                replace z3 := z3.symm
                subst z3
                replace z4 := z4.symm
                subst z4
                replace z5 := z5.symm
                subst z5
                refine And.intro (Or.inl rfl) ?_
                rw [pva]
                refine Exists.intro (2 * M_va IA c r) (And.intro (by first | (rw [mj_w_id (by omega) (by omega)]; done) | (rw [mj_w_id (by omega) (by omega)]; omega) | (unfold mj_w; omega)) ?_)
                exact set _ (by unfold ch_b; rw [if_neg (by decide)])
              · exact absurd (show mj_w 0 = 0 by decide) d
      · refine mj_go z_M_choose [72, 73] 60 ?_
        refine And.intro (fun d => ?_) (fun d => ?_)
        · simp (disch := (clear d; omega)) only [mj_w_id] at d
          omega
        · clear d
          refine And.intro h.o (Exists.intro _ (And.intro h.r29 ?_))
          refine Exists.intro _ (Exists.intro (r) (And.intro h.a29 (And.intro (by first | (rw [mj_w_id (by omega) (by omega)]; done) | (rw [mj_w_id (by omega) (by omega)]; omega) | (unfold mj_w; omega)) (And.intro (by omega) ?_))))
          refine And.intro (Or.inl rfl) ?_
          refine And.intro h.o (Exists.intro _ (And.intro h.r28 ?_))
          refine Exists.intro _ (Exists.intro (r) (And.intro h.a28 (And.intro (by first | (rw [mj_w_id (by omega) (by omega)]; done) | (rw [mj_w_id (by omega) (by omega)]; omega) | (unfold mj_w; omega)) (And.intro (by omega) ?_))))
          refine And.intro h.o (Exists.intro _ (And.intro h.r27 ?_))
          refine Exists.intro _ (Exists.intro (r) (And.intro h.a27 (And.intro (by first | (rw [mj_w_id (by omega) (by omega)]; done) | (rw [mj_w_id (by omega) (by omega)]; omega) | (unfold mj_w; omega)) (And.intro (by omega) ?_))))
          rw [hJ2]
          refine And.intro h.o (And.intro (Nat.le_of_ble_eq_true rfl) (And.intro (Nat.le_of_ble_eq_true rfl) (And.intro (Nat.le_of_ble_eq_true rfl) (Exists.intro _ (And.intro ((ct_isR h hc p55 hI2 p56 hG2 (by omega)).2 hR) ?_)))))
          rintro r9 sh9 FR9 IA9 LA9 n9 ⟨z0, z1, z2, z3, z4, z5⟩
          subst z0
          replace z1 := z1.symm
          subst z1
          replace z2 := z2.symm
          subst z2
          replace z3 := z3.symm
          subst z3
          replace z4 := z4.symm
          subst z4
          replace z5 := z5.symm
          subst z5
          refine And.intro (Or.inl rfl) ?_
          refine And.intro (fun d => ?_) (fun d => ?_)
          · exact nx J2 (hA.step f2 (fun s hs => by rw [g73]; exact ⟨rfl, gs s hs⟩) g4 g5 g6 (fun z => absurd z hR))
          · exact absurd (show mj_w 0 = 0 by decide) d
  refine mj_Ct_of (by decide +kernel) (by decide) (Nat.le_of_ble_eq_true rfl) ?_
  refine mj_go z_M_choose [2] 60 ?_
  exact loop 315 0 IA (by omega) ⟨fun _ _ => rfl, fun s hs => by omega⟩
end MM
