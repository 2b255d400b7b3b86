/-! CONSTRUCTORS: the twin -/
theorem nA_mv {IA J : mj_FI} {b m I O G : Nat} {od : List Nat} (h : nA IA b m I O G od) (e0 : ∀ k, k ≠ 8 → J b k = IA b k) (e : ∀ k, 1 ≤ k → k ≤ 7 → J (b + k) = IA (b + k)) : nA J b m I O G od := by
  obtain ⟨h1, h2, h3, h4, h5⟩ := h
  refine ⟨nW_mv h1 e0 (fun k k1 k2 => e k k1 (by omega)), ?_, ?_, ?_, ?_⟩
  · unfold nNo nU at h2 ⊢
    rw [e 1 (by decide) (by decide), e 3 (by decide) (by decide), e 4 (by decide) (by decide), e 5 (by decide) (by decide)]
    exact h2
  · rw [nt_wl_co (J := J) (IA := IA) (e0 10 (by decide)) (e 1 (by decide) (by decide)), e 1 (by decide) (by decide), e 2 (by decide) (by decide), e 3 (by decide) (by decide), e 4 (by decide) (by decide), e 6 (by decide) (by decide)]
    exact h3
  · rw [e 7 (by decide) (by decide)]
    exact h4
  · rw [e 2 (by decide) (by decide)]
    exact h5
theorem cS_mv {IA J : mj_FI} {LA K : mj_LA} {c b m I O G : Nat} {od ld : List Nat} (h : cS IA LA c b m I O G od ld) (e0 : ∀ k, k ≠ 8 → J b k = IA b k) (e : ∀ k, 1 ≤ k → k ≤ 7 → J (b + k) = IA (b + k)) (c3 : J c 3 = IA c 3) (c8 : J c 8 = IA c 8) (c12 : J (c + 12) = IA (c + 12)) (c13 : J (c + 13) = IA (c + 13)) (l9 : K c 9 = LA c 9) (l10 : K (c + 10) = LA (c + 10)) (l11 : K (c + 11) = LA (c + 11)) : cS J K c b m I O G od ld := by
  have hw := C_W_le h.1.1.2.1
  obtain ⟨h1, h2, h3, h4, h5, h6⟩ := h
  have hr : ∀ s w, C_rw K c s w = C_rw LA c s w := fun s w => by
    unfold C_rw
    rw [l10]
  refine ⟨nA_mv h1 e0 e, by rw [c8]; exact h2, by rw [l9]; exact h3, ⟨fun w hw => by rw [hr]; exact h4.1 w hw, fun k hk w hw => by rw [hr]; exact h4.2.1 k hk w hw, fun s hs w hw => ?_⟩, se_V_row h5 hw.1 l11 l9 (fun s _ w _ => hr s w) c13 c12 c3 (e 2 (by decide) (by decide)), fun j hj => by rw [l10]; exact h6 j hj⟩
  have := h4.2.2 s hs w hw
  unfold C_gw at this ⊢
  rw [hr, hr, hr, l9, e 1 (by decide) (by decide), e 3 (by decide) (by decide), e 4 (by decide) (by decide)]
  exact this
/-- a new net is arranged -/
theorem nN.nA {IA : mj_FI} {b : Nat} (h : nN IA b) : nA IA b 0 0 0 0 [] := by
  obtain ⟨h1, h2, h3, h4, h5, h6, h7⟩ := h
  refine ⟨⟨by decide, by decide, by decide, by decide, by decide, h1, h2, h3, h4, ⟨h5, fun j j1 j2 => Or.inl (h6 j j1 j2), fun i i1 i2 => by omega⟩, fun j j1 j2 => by omega, fun k hk => by omega⟩, ?_, ⟨fun s hs => by simp [nt_wl] at hs, fun s s1 _ => h7 6 (by decide) (by decide) s, fun s hs => by simp at hs, List.Pairwise.nil, rfl⟩, fun i s hi => by simp at hi, h7 2 (by decide) (by decide) 0⟩
  rintro lit (⟨k, hk, _⟩ | ⟨j, hj, _⟩)
  · omega
  · omega
/-- what settle leaves is a settled circuit -/
theorem se_q.cS {IA J : mj_FI} {LA K : mj_LA} {c b m I O G : Nat} {od : List Nat} {o : mj_O} (h : se_q IA LA c b I od o J K) (hA : nA IA b m I O G od) (hap : C_ap c b) (hz : ∀ j, j < 256 → LA (c + 10) j = 0#64) : ∃ ld, cS J K c b m I O G od ld := by
  obtain ⟨_, f, h8, h9, ht, ld, hv⟩ := h
  unfold C_ap at hap
  have e : ∀ k, k ≤ 8 → J (b + k) = IA (b + k) := fun k hk => f.1 _ (by omega) (by omega) (by omega)
  refine ⟨ld, nA_mv hA (fun k _ => by rw [show J b = IA b from e 0 (by decide)]) (fun k _ hk => e k (by omega)), h8, h9, ?_, hv, fun j hj => by rw [f.2.2.2 j hj]; exact hz j hj⟩
  unfold tb_E at ht ⊢
  rw [e 1 (by decide), e 3 (by decide), e 4 (by decide)]
  exact ht
theorem isC_up {sh sh' : mj_Sh} {FR FR' : mj_FR} {n n' c b : Nat} (h : isC sh FR n c b) (hn : n ≤ n') (e1 : ∀ q, c ≤ q → q ≤ c + 13 → sh' q = sh q) (e2 : FR' c = FR c) : isC sh' FR' n' c b := by
  unfold isC mj_is at h ⊢
  rw [e2, e1 c (by omega) (by omega), e1 (c + 10) (by omega) (by omega), e1 (c + 11) (by omega) (by omega), e1 (c + 12) (by omega) (by omega), e1 (c + 13) (by omega) (by omega)]
  obtain ⟨⟨p0, q0⟩, f0, f1, f2, f3, f4, ⟨p1, q1⟩, ⟨p2, q2⟩, ⟨p3, q3⟩, p4, q4⟩ := h
  exact ⟨⟨by omega, q0⟩, f0, f1, f2, f3, f4, ⟨by omega, q1⟩, ⟨by omega, q2⟩, ⟨by omega, q3⟩, by omega, q4⟩
theorem isRd_up {sh sh' : mj_Sh} {FR FR' : mj_FR} {n n' r b : Nat} (h : isRd sh FR n r b) (hn : n ≤ n') (e1 : ∀ q, r ≤ q → q ≤ r + 6 → sh' q = sh q) (e2 : FR' r = FR r) (e3 : FR' (r + 4) = FR (r + 4)) : isRd sh' FR' n' r b := by
  unfold isRd mj_is at h ⊢
  rw [e2, e3, e1 r (by omega) (by omega), e1 (r + 1) (by omega) (by omega), e1 (r + 2) (by omega) (by omega), e1 (r + 3) (by omega) (by omega), e1 (r + 4) (by omega) (by omega), e1 (r + 5) (by omega) (by omega), e1 (r + 6) (by omega) (by omega)]
  obtain ⟨⟨p0, q0⟩, f0, f1, f2, f3, f4, ⟨p1, q1⟩, ⟨p2, q2⟩, ⟨p3, q3⟩, ⟨p4, q4⟩, f5, f6, ⟨p5, q5⟩, p6, q6⟩ := h
  exact ⟨⟨by omega, q0⟩, f0, f1, f2, f3, f4, ⟨by omega, q1⟩, ⟨by omega, q2⟩, ⟨by omega, q3⟩, ⟨by omega, q4⟩, f5, f6, ⟨by omega, q5⟩, by omega, q6⟩
section KK
variable {sh : mj_Sh} {FR : mj_FR} {IA : mj_FI} {LA : mj_LA}
set_option maxHeartbeats 4000000 in
theorem ct_T_init (h0 : sh 0 = (4, 0)) (hF : mj_scF 1 FR) :
    mj_Ct m_T_init [.inr (.inr (.inl 0))] sh FR IA LA 1 (fun o sh' FR' IA' LA' n' => o = .inl none ∧ n' = 52 ∧ isTw sh' FR' 52 2 16 36 ∧ mj_scF 52 FR' ∧ (∃ ld, cS IA' LA' 1 2 0 0 0 0 [] ld) ∧ (∃ ld, cS IA' LA' 15 16 0 0 0 0 [] ld) ∧ IA' 29 0 = 0 ∧ IA' 38 0 = 0 ∧ IA' 45 0 = 0 ∧ IA' 1 1 = 0 ∧ IA' 1 2 = 0 ∧ IA' 15 1 = 0 ∧ IA' 15 2 = 0) := by
  have f1 := scF_nw hF
  refine mj_Ct_of (by decide +kernel) (by decide) (Nat.le_of_ble_eq_true rfl) ?_
  refine mj_go z_T_init [] 60 ?_
  refine And.intro (Nat.le_of_ble_eq_true rfl) ?_
  -- the first circuit
  refine And.intro hF (And.intro ⟨show 0 < 1 by decide, trivial⟩ (And.intro ⟨show 0 < 1 by decide, trivial⟩ (And.intro (Nat.le_of_ble_eq_true rfl) (And.intro (Nat.le_of_ble_eq_true rfl) ?_))))
  refine And.intro rfl ?_
  refine And.intro trivial (And.intro (Nat.le_of_ble_eq_true rfl) (And.intro (Nat.le_of_ble_eq_true rfl) (And.intro (Nat.le_of_ble_eq_true rfl) (Exists.intro _ (And.intro (ct_C_init (c := 1) mj_nw_eq f1 (fun k => by rw [mj_nw_eq])) ?_)))))
  rintro o1 sh1 FR1 IA1 LA1 n1 ⟨p0, p1, p2, p3, p4, p5, p6, p7, p8⟩
  subst p0
  subst p1
  refine And.intro (Or.inr ⟨⟨show 0 < 2 by decide, trivial⟩, show 1 < 2 by decide, show 0 < 2 by decide, trivial⟩) ?_
  have sA0 : sh1 0 = (4, 0) := by
    rw [(p5 0 (by decide)).1, mj_nw_ne (by decide)]
    exact h0
  refine And.intro ⟨show 0 < 15 by decide, sA0⟩ ?_
  refine And.intro ⟨show 0 < 15 by decide, sA0⟩ (Exists.intro _ (And.intro mj_up_at ?_))
  have hC1 : isC sh1 (mj_up FR1 0 0 (.inl 1)) 15 1 2 := isC_up p2 (by decide) (fun _ _ _ => rfl) (mj_up_ne (by decide))
  have hN1 : isNet sh1 (mj_up FR1 0 0 (.inl 1)) 15 2 := isNet_up p3 (by decide) (fun _ _ _ => rfl) (mj_up_ne (by decide))
  have k1 := scF_up (q := 0) (k := 0) p4 (show 1 < 15 by decide)
  refine And.intro hC1.1 (And.intro (Nat.le_of_ble_eq_true rfl) (And.intro (Nat.le_of_ble_eq_true rfl) (And.intro (Nat.le_of_ble_eq_true rfl) (Exists.intro _ (And.intro (ct_C_settle (IA := IA1) (LA := LA1) hC1 hN1 (by unfold C_ap; decide) p6.nA (fun j _ => p8 j)) ?_)))))
  rintro o2 sh9 FR9 IA2 LA2 n9 ⟨z1, z2, z3, hp2⟩
  replace z1 := z1.symm
  subst z1
  replace z2 := z2.symm
  subst z2
  replace z3 := z3.symm
  subst z3
  obtain ⟨ld1, hS1⟩ := hp2.cS p6.nA (by unfold C_ap; decide) (fun j _ => p8 j)
  have g2 := hp2.2.1
  have ho2 := hp2.1
  subst ho2
  refine And.intro (Or.inl rfl) ?_
  have v1 : IA2 1 1 = 0 := by rw [g2.2.1 1 (by decide) (by decide)]; exact p7 1
  have v2 : IA2 1 2 = 0 := by rw [g2.2.1 2 (by decide) (by decide)]; exact p7 2
  have k2 := scF_nw k1
  -- the second circuit
  refine And.intro k1 (And.intro ⟨show 0 < 15 by decide, trivial⟩ (And.intro ⟨show 0 < 15 by decide, trivial⟩ (And.intro (Nat.le_of_ble_eq_true rfl) (And.intro (Nat.le_of_ble_eq_true rfl) ?_))))
  refine And.intro rfl ?_
  refine And.intro trivial (And.intro (Nat.le_of_ble_eq_true rfl) (And.intro (Nat.le_of_ble_eq_true rfl) (And.intro (Nat.le_of_ble_eq_true rfl) (Exists.intro _ (And.intro (ct_C_init (c := 15) mj_nw_eq k2 (fun k => by rw [mj_nw_eq])) ?_)))))
  rintro o3 sh3 FR3 IA3 LA3 n3 ⟨q0, q1, q2, q3, q4, q5, q6, q7, q8⟩
  subst q0
  subst q1
  refine And.intro (Or.inr ⟨⟨show 0 < 16 by decide, trivial⟩, show 15 < 16 by decide, show 0 < 16 by decide, trivial⟩) ?_
  have low3 : ∀ q, q < 15 → sh3 q = sh1 q ∧ FR3 q = mj_up FR1 0 0 (.inl 1) q ∧ IA3 q = IA2 q ∧ LA3 q = LA2 q := by
    intro q hq
    obtain ⟨z1, z2, z3, z4⟩ := q5 q hq
    rw [z1, z2, z3, z4, mj_nw_ne (by omega), mj_nw_ne (by omega), mj_nw_ne (by omega), mj_nw_ne (by omega)]
    exact ⟨rfl, rfl, rfl, rfl⟩
  have sB0 : sh3 0 = (4, 0) := (low3 0 (by decide)).1.trans sA0
  refine And.intro ⟨show 0 < 29 by decide, sB0⟩ ?_
  refine And.intro ⟨show 0 < 29 by decide, sB0⟩ (Exists.intro _ (And.intro mj_up_at ?_))
  have hC2 : isC sh3 (mj_up FR3 0 1 (.inl 15)) 29 15 16 := isC_up q2 (by decide) (fun _ _ _ => rfl) (mj_up_ne (by decide))
  have hN2 : isNet sh3 (mj_up FR3 0 1 (.inl 15)) 29 16 := isNet_up q3 (by decide) (fun _ _ _ => rfl) (mj_up_ne (by decide))
  have k3 := scF_up (q := 0) (k := 1) q4 (show 15 < 29 by decide)
  refine And.intro hC2.1 (And.intro (Nat.le_of_ble_eq_true rfl) (And.intro (Nat.le_of_ble_eq_true rfl) (And.intro (Nat.le_of_ble_eq_true rfl) (Exists.intro _ (And.intro (ct_C_settle (IA := IA3) (LA := LA3) hC2 hN2 (by unfold C_ap; decide) q6.nA (fun j _ => q8 j)) ?_)))))
  rintro o4 sh9 FR9 IA4 LA4 n9 ⟨z1, z2, z3, hp4⟩
  replace z1 := z1.symm
  subst z1
  replace z2 := z2.symm
  subst z2
  replace z3 := z3.symm
  subst z3
  obtain ⟨ld2, hS2⟩ := hp4.cS q6.nA (by unfold C_ap; decide) (fun j _ => q8 j)
  have g4 := hp4.2.1
  have ho4 := hp4.1
  subst ho4
  refine And.intro (Or.inl rfl) ?_
  have v3 : IA4 15 1 = 0 := by rw [g4.2.1 1 (by decide) (by decide)]; exact q7 1
  have v4 : IA4 15 2 = 0 := by rw [g4.2.1 2 (by decide) (by decide)]; exact q7 2
  have low4 : ∀ q, q < 15 → IA4 q = IA2 q ∧ LA4 q = LA2 q := fun q hq => ⟨(g4.1 q (by omega) (by omega) (by omega)).trans (low3 q hq).2.2.1, (g4.2.2.1 q (by omega) (by omega) (by omega)).trans (low3 q hq).2.2.2⟩
  have hS1' : cS IA4 LA4 1 2 0 0 0 0 [] ld1 := cS_mv hS1 (fun k _ => by rw [(low4 2 (by decide)).1]) (fun k h1 h2 => (low4 (2 + k) (by omega)).1) (by rw [(low4 1 (by decide)).1]) (by rw [(low4 1 (by decide)).1]) ((low4 13 (by decide)).1) ((low4 14 (by decide)).1) (by rw [(low4 1 (by decide)).2]) ((low4 11 (by decide)).2) ((low4 12 (by decide)).2)
  have k4 := scF_nw k3
  -- the reader
  refine And.intro k3 (And.intro ⟨show 0 < 29 by decide, trivial⟩ (And.intro ⟨show 0 < 29 by decide, trivial⟩ (And.intro (Nat.le_of_ble_eq_true rfl) (And.intro (Nat.le_of_ble_eq_true rfl) ?_))))
  refine And.intro rfl ?_
  refine And.intro trivial (And.intro (Nat.le_of_ble_eq_true rfl) (And.intro (Nat.le_of_ble_eq_true rfl) (And.intro (Nat.le_of_ble_eq_true rfl) (Exists.intro _ (And.intro (ct_R_init (r := 29) mj_nw_eq k4 (fun k => by rw [mj_nw_eq])) ?_)))))
  rintro o5 sh5 FR5 IA5 LA5 n5 ⟨r0, r1, r2, r3, r4, r5, r6, r7⟩
  subst r0
  subst r1
  refine And.intro (Or.inr ⟨⟨show 0 < 30 by decide, trivial⟩, show 29 < 30 by decide, show 0 < 30 by decide, trivial⟩) ?_
  have low5 : ∀ q, q < 29 → sh5 q = sh3 q ∧ FR5 q = mj_up FR3 0 1 (.inl 15) q ∧ IA5 q = IA4 q ∧ LA5 q = LA4 q := by
    intro q hq
    obtain ⟨z1, z2, z3, z4⟩ := r5 q hq
    rw [z1, z2, z3, z4, mj_nw_ne (by omega), mj_nw_ne (by omega), mj_nw_ne (by omega), mj_nw_ne (by omega)]
    exact ⟨rfl, rfl, rfl, rfl⟩
  have sC0 : sh5 0 = (4, 0) := (low5 0 (by decide)).1.trans sB0
  refine And.intro ⟨show 0 < 45 by decide, sC0⟩ ?_
  have k5 := scF_up (q := 0) (k := 2) r4 (show 29 < 45 by decide)
  have k6 := scF_nw k5
  -- the writer
  refine And.intro k5 (And.intro ⟨show 0 < 45 by decide, trivial⟩ (And.intro ⟨show 0 < 45 by decide, trivial⟩ (And.intro (Nat.le_of_ble_eq_true rfl) (And.intro (Nat.le_of_ble_eq_true rfl) ?_))))
  refine And.intro rfl ?_
  refine And.intro trivial (And.intro (Nat.le_of_ble_eq_true rfl) (And.intro (Nat.le_of_ble_eq_true rfl) (And.intro (Nat.le_of_ble_eq_true rfl) (Exists.intro _ (And.intro (ct_W_init (w := 45) mj_nw_eq k6 (fun k => by rw [mj_nw_eq])) ?_)))))
  rintro o6 sh6 FR6 IA6 LA6 n6 ⟨u0, u1, u2, u3, u4, u5⟩
  subst u0
  subst u1
  refine And.intro (Or.inr ⟨⟨show 0 < 46 by decide, trivial⟩, show 45 < 46 by decide, show 0 < 46 by decide, trivial⟩) ?_
  have low6 : ∀ q, q < 45 → sh6 q = sh5 q ∧ FR6 q = mj_up FR5 0 2 (.inl 29) q ∧ IA6 q = IA5 q ∧ LA6 q = LA5 q := by
    intro q hq
    obtain ⟨z1, z2, z3, z4⟩ := u4 q hq
    rw [z1, z2, z3, z4, mj_nw_ne (by omega), mj_nw_ne (by omega), mj_nw_ne (by omega), mj_nw_ne (by omega)]
    exact ⟨rfl, rfl, rfl, rfl⟩
  have sD0 : sh6 0 = (4, 0) := (low6 0 (by decide)).1.trans sC0
  refine And.intro ⟨show 0 < 52 by decide, sD0⟩ ?_
  have k7 := scF_up (q := 0) (k := 3) u3 (show 45 < 52 by decide)
  generalize hF8 : mj_up FR6 0 3 (.inl 45) = FR8 at k7 ⊢
  have hfr : ∀ q, 0 < q → q < 45 → FR8 q = FR5 q := fun q h1 h2 => by rw [← hF8, mj_up_ne (by omega), (low6 q h2).2.1, mj_up_ne (by omega)]
  have hfr2 : ∀ q, 0 < q → q < 29 → FR8 q = FR3 q := fun q h1 h2 => by rw [hfr q h1 (by omega), (low5 q h2).2.1, mj_up_ne (by omega)]
  have hfr3 : ∀ q, 0 < q → q < 15 → FR8 q = FR1 q := fun q h1 h2 => by rw [hfr2 q h1 (by omega), (low3 q h2).2.1, mj_up_ne (by omega)]
  have low8 : ∀ q, q < 29 → sh6 q = sh3 q ∧ IA6 q = IA4 q ∧ LA6 q = LA4 q := fun q hq => ⟨(low6 q (by omega)).1.trans (low5 q hq).1, (low6 q (by omega)).2.2.1.trans (low5 q hq).2.2.1, (low6 q (by omega)).2.2.2.trans (low5 q hq).2.2.2⟩
  have hz0 : FR8 0 0 = .inl 1 := by rw [← hF8, mj_up_k (by decide), (low6 0 (by decide)).2.1, mj_up_k (by decide), (low5 0 (by decide)).2.1, mj_up_k (by decide), (low3 0 (by decide)).2.1, mj_up_at]
  have hz1 : FR8 0 1 = .inl 15 := by rw [← hF8, mj_up_k (by decide), (low6 0 (by decide)).2.1, mj_up_k (by decide), (low5 0 (by decide)).2.1, mj_up_at]
  have hz2 : FR8 0 2 = .inl 29 := by rw [← hF8, mj_up_k (by decide), (low6 0 (by decide)).2.1, mj_up_at]
  have hz3 : FR8 0 3 = .inl 45 := by rw [← hF8, mj_up_at]
  refine ⟨⟨rfl, rfl, ⟨⟨by decide, sD0⟩, hz0, hz1, hz2, hz3, ?_, ?_, ?_, ?_, ?_, ?_, ?_, by decide⟩, k7, ⟨ld1, ?_⟩, ⟨ld2, ?_⟩, ?_, ?_, ?_, ?_, ?_, ?_, ?_⟩, Nat.le_of_ble_eq_true rfl, Nat.le_of_ble_eq_true rfl⟩
  · exact isC_up p2 (by decide) (fun q _ h2 => (low8 q (by omega)).1.trans (low3 q (by omega)).1) (hfr3 1 (by decide) (by decide))
  · exact isC_up q2 (by decide) (fun q _ h2 => (low8 q (by omega)).1) (hfr2 15 (by decide) (by decide))
  · exact isRd_up r2 (by decide) (fun q _ h2 => (low6 q (by omega)).1) (hfr 29 (by decide) (by decide)) (hfr 33 (by decide) (by decide))
  · obtain ⟨y0, y1, y2, y3, y4, y5, y6, y7⟩ := u2
    have e : FR8 45 = FR6 45 := by rw [← hF8, mj_up_ne (by decide)]
    refine ⟨y0, ?_, ?_, ?_, ?_, ?_, ?_, y7⟩ <;> rw [e] <;> assumption
  · exact isNet_up p3 (by decide) (fun q _ h2 => (low8 q (by omega)).1.trans (low3 q (by omega)).1) (hfr3 2 (by decide) (by decide))
  · exact isNet_up q3 (by decide) (fun q _ h2 => (low8 q (by omega)).1) (hfr2 16 (by decide) (by decide))
  · exact isNet_up r3 (by decide) (fun q _ h2 => (low6 q (by omega)).1) (hfr 36 (by decide) (by decide))
  · exact cS_mv hS1' (fun k _ => by rw [(low8 2 (by decide)).2.1]) (fun k h1 h2 => (low8 (2 + k) (by omega)).2.1) (by rw [(low8 1 (by decide)).2.1]) (by rw [(low8 1 (by decide)).2.1]) ((low8 13 (by decide)).2.1) ((low8 14 (by decide)).2.1) (by rw [(low8 1 (by decide)).2.2]) ((low8 11 (by decide)).2.2) ((low8 12 (by decide)).2.2)
  · exact cS_mv hS2 (fun k _ => by rw [(low8 16 (by decide)).2.1]) (fun k h1 h2 => (low8 (16 + k) (by omega)).2.1) (by rw [(low8 15 (by decide)).2.1]) (by rw [(low8 15 (by decide)).2.1]) ((low8 27 (by decide)).2.1) ((low8 28 (by decide)).2.1) (by rw [(low8 15 (by decide)).2.2]) ((low8 25 (by decide)).2.2) ((low8 26 (by decide)).2.2)
  · rw [(low6 29 (by decide)).2.2.1]
    exact r7 0
  · rw [(low6 38 (by decide)).2.2.1]
    exact r6.2.2.2.2.2.2 2 (by decide) (by decide) 0
  · exact u5 45 (by decide) (by decide) 0
  · rw [(low8 1 (by decide)).2.1, (low4 1 (by decide)).1]
    exact v1
  · rw [(low8 1 (by decide)).2.1, (low4 1 (by decide)).1]
    exact v2
  · rw [(low8 15 (by decide)).2.1]
    exact v3
  · rw [(low8 15 (by decide)).2.1]
    exact v4
end KK
