/-! CIRCUIT: settle, its walk -/
def C_ap (c b : Nat) : Prop := c + 13 < b ∨ b + 8 < c ∨ (c < b ∧ b + 8 < c + 10)
/-- a net that has been arranged: its gates in their order -/
def nA (IA : mj_FI) (b m I O G : Nat) (od : List Nat) : Prop := nW IA b m I O G ∧ nNo IA b I O G ∧ ar_T (nF (IA (b + 1)) (IA (b + 3))) (nF (IA (b + 1)) (IA (b + 4))) (IA (b + 2)) (nt_wl IA b m) (IA (b + 6)) od ∧ mj_rl (IA (b + 7)) od ∧ IA (b + 2) 0 = 0
/-- what settle leaves -/
def se_q (IA : mj_FI) (LA : mj_LA) (c b I : Nat) (od : List Nat) (o : mj_O) (J : mj_FI) (K : mj_LA) : Prop := o = .inl none ∧ se_f IA J LA K c ∧ J c 8 = (C_W I : Int) ∧ K c 9 = C_mk I ∧ tb_E IA K c b I od ∧ ∃ ld, se_V J K c b (C_W I) (List.range (I + 1) ++ od) ld
section CC
variable {sh : mj_Sh} {FR : mj_FR} {IA : mj_FI} {LA : mj_LA} {n c b : Nat}
theorem nA.own {m I O G : Nat} {od : List Nat} (h : nA IA b m I O G od) {t : Nat} (ht : t < I + G + 1) : 0 ≤ IA (b + 2) t ∧ IA (b + 2) t ≤ 2001 ∧ IA (b + 2) t % 2 = 0 := by
  obtain ⟨⟨w1, w2, w3, w4, w5, w6, w7, w8, w9, w10, w11, w12⟩, _, _, _, h0⟩ := h
  by_cases e : t = 0
  · subst e
    omega
  · obtain ⟨j, j1, j2, j3, j4⟩ := w10.2.2 t (by omega) (by omega)
    omega
theorem nA.od {m I O G : Nat} {od : List Nat} (h : nA IA b m I O G od) : od.Nodup ∧ od.length = G ∧ (∀ s, s ∈ od ↔ lf_g I G s) := by
  obtain ⟨hW, _, ⟨t1, t2, t3, t4, t5⟩, _, _⟩ := h
  have hg := fun s => nt_wl_g (s := s) hW
  refine ⟨t4.imp (fun q e => ?_), by rw [t5]; exact (nt_wl_G hW).2, fun s => ⟨fun z => (hg s).mp (t3 s z), fun z => (t1 s ((hg s).mpr z)).1⟩⟩
  subst e
  unfold ar_lx at q
  omega
set_option maxHeartbeats 2000000 in
theorem se_gates (h : isC sh FR n c b) (hN : isNet sh FR n b) (hap : C_ap c b) {m I O G : Nat} {od : List Nat} (hA : nA IA b m I O G od) :
    ∀ (ys xs : List Nat) (J : mj_FI) (K : mj_LA) (ld : List Nat) (x : Int), od = xs ++ ys → se_f IA J LA K c → J c 8 = (C_W I : Int) → K c 9 = C_mk I → tb_E IA K c b I xs → se_V J K c b (C_W I) (List.range (I + 1) ++ xs) ld →
      mj_G m_C_settle (mj_pl (se_q IA LA c b I od) sh FR n) 120 [some (.inr (.inr (.inl c))), some (.inl x), some (.inl xs.length)] [] sh FR J K n 0 0 := by
  have hC := h
  obtain ⟨h0, r0, r4, r5, r6, r7, a4, a5, a6, a7⟩ := h
  obtain ⟨od1, od2, od3⟩ := hA.od
  have hown := fun t ht => hA.own (t := t) ht
  obtain ⟨hW, hno, hT, hrl, hz⟩ := id hA
  have hfan := fun s hs => hW.fan hno (s := s) hs
  obtain ⟨w1, w2, w3, w4, w5, w6, w7, w8, w9, w10, w11, w12⟩ := id hW
  obtain ⟨W1, W2⟩ := C_W_le w2
  have hg := fun s => nt_wl_g (s := s) hW
  have hap' := hap
  unfold C_ap at hap'
  have hrow : ∀ (J : mj_FI) (K : mj_LA), se_f IA J LA K c → ∀ k, k ≤ 8 → J (b + k) = IA (b + k) := fun J K hf k hk => hf.1 _ (by omega) (by omega) (by omega)
  intro ys
  induction ys with
  | nil =>
    intro xs J K ld x hod hf e8 e9 ht hv
    rw [List.append_nil] at hod
    subst hod
    have e11 : J b 11 = (od.length : Int) := by rw [show J b = IA b from hrow J K hf 0 (by decide), od2]; exact w8
    refine mj_go z_C_settle [120] 60 ?_
    refine And.intro h0 (Exists.intro _ (And.intro r0 ?_))
    refine And.intro hN.1 ?_
    rw [e11]
    refine And.intro (fun d => ?_) (fun d => ?_)
    · exact ⟨⟨rfl, rfl, rfl, rfl, hf, e8, e9, ht, ld, hv⟩, Nat.le_of_ble_eq_true rfl, Nat.le_of_ble_eq_true rfl⟩
    · simp (disch := (clear d; omega)) only [mj_w_id] at d
      omega
  | cons s ys ih =>
    intro xs J K ld x hod hf e8 e9 ht hv
    have hb := hrow J K hf
    have hlen : xs.length + ys.length + 1 = G := by rw [← od2, hod, List.length_append, List.length_cons]; omega
    have e11 : J b 11 = (G : Int) := by rw [show J b = IA b from hb 0 (by decide)]; exact w8
    have hs1 : lf_g I G s := (od3 s).mp (by rw [hod]; simp)
    have es : J (b + 7) xs.length = (s : Int) := by
      rw [hb 7 (by decide)]
      refine hrl xs.length s ?_
      rw [hod, List.getElem?_append_right (Nat.le_refl _), Nat.sub_self]
      rfl
    have hs2 : s < 315 := by unfold lf_g at hs1; omega
    obtain ⟨fl, fr⟩ := hfan s hs1
    have hds := (hT.1 s ((hg s).mpr hs1)).2.2.2
    generalize hL : nF (IA (b + 1)) (IA (b + 3)) = L at *
    generalize hR : nF (IA (b + 1)) (IA (b + 4)) = R at *
    have hls : L s ≠ s := fun e => by rw [e] at hds; omega
    have hrs : R s ≠ s := fun e => by rw [e] at hds; omega
    have hxs : ∀ g ∈ xs, g ≠ s ∧ lf_g I G g ∧ L g ≠ s ∧ R g ≠ s := by
      intro g hg2
      have g1 : lf_g I G g := (od3 g).mp (by rw [hod]; exact List.mem_append_left _ hg2)
      have g2 := (hT.1 g ((hg g).mpr g1)).2.2.2
      have hp := hT.2.2.2.1
      rw [hod, List.pairwise_append] at hp
      have g3 := hp.2.2 g hg2 s List.mem_cons_self
      unfold ar_lx at g3
      refine ⟨fun e => ?_, g1, fun e => ?_, fun e => ?_⟩
      · subst e
        omega
      · rw [e] at g2
        omega
      · rw [e] at g2
        omega
    have hsn : ¬ s ∈ List.range (I + 1) ++ xs := by
      intro z
      rcases List.mem_append.mp z with z | z
      · have := List.mem_range.mp z
        unfold lf_g at hs1
        omega
      · exact (hxs s z).1 rfl
    have j1 : J (b + 1) = IA (b + 1) := hb 1 (by decide)
    have j3 : J (b + 3) = IA (b + 3) := hb 3 (by decide)
    have j4 : J (b + 4) = IA (b + 4) := hb 4 (by decide)
    have hgw1 : ∀ (l r : Nat) (x y : Int) (w : Nat) (f : Nat → BitVec 64), l ≠ s → r ≠ s → w < C_W I → C_gw (C_st K c s f (C_W I)) c l r x y w = C_gw K c l r x y w := fun l r x y w f h1 h2 h3 => by
      unfold C_gw
      rw [C_st_rw (by omega) W2 h1, C_st_rw (by omega) W2 h2, C_st_o (by omega)]
    refine mj_go z_C_settle [120] 60 ?_
    refine And.intro h0 (Exists.intro _ (And.intro r0 ?_))
    refine And.intro hN.1 ?_
    rw [e11]
    refine And.intro (fun d => ?_) (fun d => ?_)
    · simp (disch := (clear d; omega)) only [mj_w_id] at d
      omega
    · refine And.intro h0 (Exists.intro _ (And.intro r0 ?_))
      refine And.intro hN.1 (Exists.intro _ (And.intro hN.2.2.2.2.2.2.2.1 ?_))
      refine Exists.intro _ (Exists.intro (xs.length) (And.intro hN.2.2.2.2.2.2.2.2.2.2.2.2.2.2.2.1 (And.intro (by first | (rw [mj_w_id (by omega) (by omega)]; done) | (rw [mj_w_id (by omega) (by omega)]; omega) | (unfold mj_w; omega)) (And.intro (by omega) ?_))))
      rw [es]
      refine And.intro h0 (And.intro (Nat.le_of_ble_eq_true rfl) (And.intro (Nat.le_of_ble_eq_true rfl) (And.intro (Nat.le_of_ble_eq_true rfl) (Exists.intro _ (And.intro (ct_C_fillGate (IA := J) (LA := K) (l := L s) (r := R s) hC hN hs2 e8 W2 (by rw [j1, j3]; exact fl) (by rw [j1, j4]; exact fr) hls hrs) ?_)))))
      rintro r9 sh9 FR9 IA9 LA9 n9 ⟨z0, z1, z2, z3, z4, z5⟩
      subst z0
      replace z1 := z1.symm
      subst z1
      replace z2 := z2.symm
      subst z2
      replace z3 := z3.symm
      subst z3
      replace z4 := z4.symm
      subst z4
      replace z5 := z5.symm
      subst z5
      refine And.intro (Or.inl rfl) ?_
      rw [j3, j4]
      generalize hK1 : C_st K c s (C_gw K c (L s) (R s) (IA (b + 3) s) (IA (b + 4) s)) (C_W I) = K1
      have f1 : se_f IA J LA K1 c := by
        rw [← hK1]
        exact hf.trans (C_st_f (by unfold lf_g at hs1; omega))
      have k9 : K1 c 9 = C_mk I := by rw [← hK1, C_st_o (by omega)]; exact e9
      have krw : ∀ t, t ≠ s → ∀ w, w < C_W I → C_rw K1 c t w = C_rw K c t w := fun t h1 w h2 => by rw [← hK1, C_st_rw (by omega) W2 h1]
      have hv1 : se_V J K1 c b (C_W I) (List.range (I + 1) ++ xs) ld := se_V_row hv W1 (by rw [← hK1, C_st_o (by omega)]) (by rw [k9, e9]) (fun t h1 w h2 => krw t (fun e => hsn (e ▸ h1)) w h2) rfl rfl rfl rfl
      have ht1 : tb_E IA K1 c b I (xs ++ [s]) := by
        obtain ⟨t1, t2, t3⟩ := ht
        unfold lf_g at hs1
        refine ⟨fun w hw => by rw [krw 0 (by omega) w hw]; exact t1 w hw, fun k hk w hw => by rw [krw (1 + k) (by omega) w hw]; exact t2 k hk w hw, fun g hg2 w hw => ?_⟩
        rw [hL, hR] at t3 ⊢
        rcases List.mem_append.mp hg2 with hg2 | hg2
        · obtain ⟨g1, _, g2, g3⟩ := hxs g hg2
          rw [krw g g1 w hw, t3 g hg2 w hw, ← hK1, hgw1 _ _ _ _ w _ g2 g3 hw]
        · have : g = s := by simpa using hg2
          subst this
          rw [← hK1, hgw1 _ _ _ _ w _ hls hrs hw, C_st_at hw]
      clear hK1 krw
      refine And.intro h0 (Exists.intro _ (And.intro r0 ?_))
      refine And.intro hN.1 (Exists.intro _ (And.intro hN.2.2.2.2.2.2.2.1 ?_))
      refine Exists.intro _ (Exists.intro (xs.length) (And.intro hN.2.2.2.2.2.2.2.2.2.2.2.2.2.2.2.1 (And.intro (by first | (rw [mj_w_id (by omega) (by omega)]; done) | (rw [mj_w_id (by omega) (by omega)]; omega) | (unfold mj_w; omega)) (And.intro (by omega) ?_))))
      rw [es]
      have ho2 : ∀ t ∈ List.range (I + 1) ++ xs ++ [s], 0 ≤ J (b + 2) t ∧ J (b + 2) t ≤ 2001 ∧ J (b + 2) t % 2 = 0 := by
        intro t h1
        rw [hb 2 (by decide)]
        refine hown t ?_
        unfold lf_g at hs1
        rcases List.mem_append.mp h1 with z | z
        · rcases List.mem_append.mp z with z | z
          · have := List.mem_range.mp z
            omega
          · have := (hxs t z).2.1
            unfold lf_g at this
            omega
        · have : t = s := by simpa using z
          omega
      refine And.intro h0 (And.intro (Nat.le_of_ble_eq_true rfl) (And.intro (Nat.le_of_ble_eq_true rfl) (And.intro (Nat.le_of_ble_eq_true rfl) (Exists.intro _ (And.intro (ct_C_enter (IA := J) (LA := K1) hC hN hap hs2 e8 W2 hv1 hsn (by rw [List.length_append, List.length_range]; omega) ho2) ?_)))))
      rintro o1 sh9 FR9 J2 K2 n9 ⟨z1, z2, z3, hp⟩
      replace z1 := z1.symm
      subst z1
      replace z2 := z2.symm
      subst z2
      replace z3 := z3.symm
      subst z3
      obtain ⟨p1, p2, p3, p4, ld2, p5⟩ := hp
      subst p1
      refine And.intro (Or.inl rfl) ?_
      refine Exists.intro (((xs.length + 1 : Nat) : Int)) (And.intro (by first | (rw [mj_w_id (by omega) (by omega)]; done) | (rw [mj_w_id (by omega) (by omega)]; omega) | (unfold mj_w; omega)) ?_)
      have f2 : se_f J J2 K1 K2 c := ⟨p3, fun k h1 _ => p4 k h1, fun q h1 h2 h3 => by rw [p2, mj_up_ne h3], fun j hj => by rw [p2, mj_up_ne (by omega)]⟩
      have kr2 : ∀ t w, C_rw K2 c t w = C_rw K1 c t w := fun t w => by
        unfold C_rw
        rw [p2, mj_up_ne (by omega)]
      have k92 : K2 c 9 = K1 c 9 := by rw [p2, mj_up_ne (by omega)]
      have ih1 := ih (xs ++ [s]) J2 K2 ld2 x (by rw [hod]; simp) (f1.trans f2) (by rw [p4 8 (by decide)]; exact e8) (by rw [k92]; exact k9) ⟨fun w hw => by rw [kr2]; exact ht1.1 w hw, fun k hk w hw => by rw [kr2]; exact ht1.2.1 k hk w hw, fun g hg2 w hw => by
        have := ht1.2.2 g hg2 w hw
        unfold C_gw at this ⊢
        rw [kr2, kr2, kr2, k92]
        exact this⟩ (by rw [← List.append_assoc]; exact p5)
      rw [List.length_append, List.length_singleton] at ih1
      exact ih1
set_option maxHeartbeats 2000000 in
theorem se_inputs (h : isC sh FR n c b) (hN : isNet sh FR n b) (hap : C_ap c b) {m I O G : Nat} {od : List Nat} (hA : nA IA b m I O G od) (hz0 : ∀ j, j < 256 → LA (c + 10) j = 0#64) :
    ∀ (t k : Nat) (J : mj_FI) (K : mj_LA) (ld : List Nat) (x : Int), k + t = I → se_f IA J LA K c → J c 8 = (C_W I : Int) → K c 9 = C_mk I → (∀ i, i < k → ∀ w, w < C_W I → C_rw K c (1 + i) w = C_iw i w (C_mk I)) → se_V J K c b (C_W I) (List.range (k + 1)) ld →
      mj_G m_C_settle (mj_pl (se_q IA LA c b I od) sh FR n) 89 [some (.inr (.inr (.inl c))), some (.inl x), some (.inl k)] [] sh FR J K n 0 0 := by
  have hC := h
  obtain ⟨h0, r0, r4, r5, r6, r7, a4, a5, a6, a7⟩ := h
  have hown := fun t ht => hA.own (t := t) ht
  obtain ⟨hW, hno, hT, hrl, hz⟩ := id hA
  obtain ⟨w1, w2, w3, w4, w5, w6, w7, w8, w9, w10, w11, w12⟩ := id hW
  obtain ⟨W1, W2⟩ := C_W_le w2
  have hap' := hap
  unfold C_ap at hap'
  have hrow : ∀ (J : mj_FI) (K : mj_LA), se_f IA J LA K c → ∀ k, k ≤ 8 → J (b + k) = IA (b + k) := fun J K hf k hk => hf.1 _ (by omega) (by omega) (by omega)
  intro t
  induction t with
  | zero =>
    intro k J K ld x hk hf e8 e9 ht hv
    have hk : k = I := by omega
    subst hk
    have e10 : J b 10 = (k : Int) := by rw [show J b = IA b from hrow J K hf 0 (by decide)]; exact w7
    have hg := se_gates hC hN hap hA od [] J K ld x rfl hf e8 e9 ⟨fun w hw => ?_, ht, fun s hs => by simp at hs⟩ (by rw [List.append_nil]; exact hv)
    · refine mj_go z_C_settle [89, 120] 60 ?_
      refine And.intro h0 (Exists.intro _ (And.intro r0 ?_))
      refine And.intro hN.1 ?_
      rw [e10]
      refine And.intro (fun d => ?_) (fun d => ?_)
      · exact hg
      · simp (disch := (clear d; omega)) only [mj_w_id] at d
        omega
    · unfold C_rw
      rw [hf.2.2.2 _ (by omega)]
      exact hz0 _ (by omega)
  | succ t ih =>
    intro k J K ld x hk hf e8 e9 ht hv
    have hb := hrow J K hf
    have e10 : J b 10 = (I : Int) := by rw [show J b = IA b from hb 0 (by decide)]; exact w7
    refine mj_go z_C_settle [89, 120] 60 ?_
    refine And.intro h0 (Exists.intro _ (And.intro r0 ?_))
    refine And.intro hN.1 ?_
    rw [e10]
    refine And.intro (fun d => ?_) (fun d => ?_)
    · simp (disch := (clear d; omega)) only [mj_w_id] at d
      omega
    · clear d
      refine And.intro h0 (And.intro (Nat.le_of_ble_eq_true rfl) (And.intro (Nat.le_of_ble_eq_true rfl) (And.intro (Nat.le_of_ble_eq_true rfl) (Exists.intro _ (And.intro (ct_C_fillInput (IA := J) (LA := K) (k := k) hC (by omega) e8 W2) ?_)))))
      rintro r9 sh9 FR9 IA9 LA9 n9 ⟨z0, z1, z2, z3, z4, z5⟩
      subst z0
      replace z1 := z1.symm
      subst z1
      replace z2 := z2.symm
      subst z2
      replace z3 := z3.symm
      subst z3
      replace z4 := z4.symm
      subst z4
      replace z5 := z5.symm
      subst z5
      refine And.intro (Or.inl rfl) ?_
      rw [e9]
      generalize hK1 : C_st K c (1 + k) (fun w => C_iw k w (C_mk I)) (C_W I) = K1
      have f1 : se_f IA J LA K1 c := by
        rw [← hK1]
        exact hf.trans (C_st_f (by omega))
      have k9 : K1 c 9 = C_mk I := by rw [← hK1, C_st_o (by omega)]; exact e9
      have krw : ∀ t, t ≠ 1 + k → ∀ w, w < C_W I → C_rw K1 c t w = C_rw K c t w := fun t h1 w h2 => by rw [← hK1, C_st_rw (by omega) W2 h1]
      have hv1 : se_V J K1 c b (C_W I) (List.range (k + 1)) ld := se_V_row hv W1 (by rw [← hK1, C_st_o (by omega)]) (by rw [k9, e9]) (fun t h1 w h2 => krw t (by have := List.mem_range.mp h1; omega) w h2) rfl rfl rfl rfl
      have ht1 : ∀ i, i < k + 1 → ∀ w, w < C_W I → C_rw K1 c (1 + i) w = C_iw i w (C_mk I) := by
        intro i hi w hw
        by_cases e : i = k
        · subst e
          rw [← hK1, C_st_at hw]
        · rw [krw (1 + i) (by omega) w hw]
          exact ht i (by omega) w hw
      clear hK1 krw
      have hsn : ¬ 1 + k ∈ List.range (k + 1) := by
        intro z
        have := List.mem_range.mp z
        omega
      have ho2 : ∀ t ∈ List.range (k + 1) ++ [1 + k], 0 ≤ J (b + 2) t ∧ J (b + 2) t ≤ 2001 ∧ J (b + 2) t % 2 = 0 := by
        intro t h1
        rw [hb 2 (by decide)]
        refine hown t ?_
        rcases List.mem_append.mp h1 with z | z
        · have := List.mem_range.mp z
          omega
        · have : t = 1 + k := by simpa using z
          omega
      refine Exists.intro (((1 + k : Nat) : Int)) (And.intro (by first | (rw [mj_w_id (by omega) (by omega)]; done) | (rw [mj_w_id (by omega) (by omega)]; omega) | (unfold mj_w; omega)) ?_)
      refine And.intro h0 (And.intro (Nat.le_of_ble_eq_true rfl) (And.intro (Nat.le_of_ble_eq_true rfl) (And.intro (Nat.le_of_ble_eq_true rfl) (Exists.intro _ (And.intro (ct_C_enter (IA := J) (LA := K1) hC hN hap (by omega) e8 W2 hv1 hsn (by rw [List.length_range]; omega) ho2) ?_)))))
      rintro o1 sh9 FR9 J2 K2 n9 ⟨z1, z2, z3, hp⟩
      replace z1 := z1.symm
      subst z1
      replace z2 := z2.symm
      subst z2
      replace z3 := z3.symm
      subst z3
      obtain ⟨p1, p2, p3, p4, ld2, p5⟩ := hp
      subst p1
      refine And.intro (Or.inl rfl) ?_
      refine Exists.intro (((k + 1 : Nat) : Int)) (And.intro (by first | (rw [mj_w_id (by omega) (by omega)]; done) | (rw [mj_w_id (by omega) (by omega)]; omega) | (unfold mj_w; omega)) ?_)
      have f2 : se_f J J2 K1 K2 c := ⟨p3, fun k h1 _ => p4 k h1, fun q h1 h2 h3 => by rw [p2, mj_up_ne h3], fun j hj => by rw [p2, mj_up_ne (by omega)]⟩
      have kr2 : ∀ t w, C_rw K2 c t w = C_rw K1 c t w := fun t w => by
        unfold C_rw
        rw [p2, mj_up_ne (by omega)]
      have k92 : K2 c 9 = K1 c 9 := by rw [p2, mj_up_ne (by omega)]
      exact ih (k + 1) J2 K2 ld2 x (by omega) (f1.trans f2) (by rw [p4 8 (by decide)]; exact e8) (by rw [k92]; exact k9) (fun i hi w hw => by rw [kr2]; exact ht1 i hi w hw) (by rw [List.range_succ, show k + 1 = 1 + k by omega]; rw [show k + 1 = 1 + k by omega] at p5; exact p5)
set_option maxHeartbeats 2000000 in
theorem ct_C_settle (h : isC sh FR n c b) (hN : isNet sh FR n b) (hap : C_ap c b) {m I O G : Nat} {od : List Nat} (hA : nA IA b m I O G od) (hz0 : ∀ j, j < 256 → LA (c + 10) j = 0#64) :
    mj_Ct m_C_settle [.inr (.inr (.inl c))] sh FR IA LA n (mj_pl (se_q IA LA c b I od) sh FR n) := by
  have hC := h
  obtain ⟨h0, r0, r4, r5, r6, r7, a4, a5, a6, a7⟩ := h
  have hown0 := hA.own (t := 0) (by omega)
  obtain ⟨hW, hno, hT, hrl, hz⟩ := id hA
  obtain ⟨w1, w2, w3, w4, w5, w6, w7, w8, w9, w10, w11, w12⟩ := id hW
  obtain ⟨W1, W2⟩ := C_W_le w2
  have hap' := hap
  unfold C_ap at hap'
  have hb : b ≠ c := by omega
  have rest : ∀ z : Int, mj_G m_C_settle (mj_pl (se_q IA LA c b I od) sh FR n) 69 [some (.inr (.inr (.inl c))), some (.inl z), none] [] sh FR (mj_up IA c 8 (C_W I : Int)) (mj_up LA c 9 (C_mk I)) n 0 0 := by
    intro z
    generalize hJ : mj_fl (mj_up (mj_up IA c 8 (C_W I : Int)) c 3 0) (c + 13) 512 (-1) = J
    generalize hK : mj_up LA c 9 (C_mk I) = K
    have jo : ∀ q, q ≠ c → q ≠ c + 13 → J q = IA q := fun q h1 h2 => by
      rw [← hJ]
      funext j
      simp only [mj_fl, h2, false_and, if_false]
      rw [mj_up_ne h1, mj_up_ne h1]
    have jc : ∀ k, J c k = mj_up (mj_up IA c 8 (C_W I : Int)) c 3 0 c k := fun k => by
      rw [← hJ]
      have : ¬ c = c + 13 := by omega
      simp only [mj_fl, this, false_and, if_false]
    have j8 : J c 8 = (C_W I : Int) := by rw [jc, mj_up_k (by decide), mj_up_at]
    have j3 : J c 3 = 0 := by rw [jc, mj_up_at]
    have j13 : ∀ p, p < 512 → J (c + 13) p = -1 := fun p hp => by
      rw [← hJ]
      simp only [mj_fl, hp, true_and, if_true]
    have k9 : K c 9 = C_mk I := by rw [← hK, mj_up_at]
    have f0 : se_f IA J LA K c := ⟨fun q h1 h2 h3 => jo q h1 h3, fun k h1 h2 => by rw [jc, mj_up_k h1, mj_up_k h2], fun q h1 h2 h3 => by rw [← hK, mj_up_ne h1], fun j hj => by rw [← hK, mj_up_ne (by omega)]⟩
    have v0 : se_V J K c b (C_W I) [] [] := ⟨fun s hs => by simp at hs, ⟨fun p hp => Or.inl (j13 p hp), fun t ht => by simp at ht, [], fun p hp hn => absurd (j13 p hp) hn, Nat.le_refl _, by decide, fun p q hp _ _ hn => absurd (j13 p hp) hn⟩, by rw [j3]; rfl, List.Sublist.refl _, List.nodup_nil, List.Pairwise.nil, fun s hs => by simp at hs, fun xs t ys he ht => by simp at ht⟩
    have hb2 : J (b + 2) = IA (b + 2) := jo _ (by omega) (by omega)
    have ho0 : ∀ t ∈ ([] : List Nat) ++ [0], 0 ≤ J (b + 2) t ∧ J (b + 2) t ≤ 2001 ∧ J (b + 2) t % 2 = 0 := by
      intro t ht
      have e : t = 0 := by simpa using ht
      subst e
      rw [hb2]
      exact hown0
    refine mj_go z_C_settle [89] 60 ?_
    refine And.intro h0 ?_
    refine And.intro h0 (Exists.intro _ (And.intro r7 ?_))
    refine And.intro trivial (And.intro (Nat.le_of_ble_eq_true rfl) (And.intro (Nat.le_of_ble_eq_true rfl) (And.intro (Nat.le_of_ble_eq_true rfl) (Exists.intro _ (And.intro (ct_A_fill a7 (by decide)) ?_)))))
    rintro r9 sh9 FR9 IA9 LA9 n9 ⟨z0, z1, z2, z3, z4, z5⟩
    subst z0
    replace z1 := z1.symm
    subst z1
    replace z2 := z2.symm
    subst z2
    replace z3 := z3.symm
    subst z3
    replace z4 := z4.symm
    subst z4
    replace z5 := z5.symm
    subst z5
    refine And.intro (Or.inl rfl) ?_
    rw [hJ]
    refine And.intro h0 (And.intro (Nat.le_of_ble_eq_true rfl) (And.intro (Nat.le_of_ble_eq_true rfl) (And.intro (Nat.le_of_ble_eq_true rfl) (Exists.intro _ (And.intro (ct_C_enter (IA := J) (LA := K) (s := 0) (en := []) hC hN hap (by decide) j8 W2 v0 (by simp) (by decide) ho0) ?_)))))
    rintro o1 sh9 FR9 J2 K2 n9 ⟨z1, z2, z3, hp⟩
    replace z1 := z1.symm
    subst z1
    replace z2 := z2.symm
    subst z2
    replace z3 := z3.symm
    subst z3
    obtain ⟨p1, p2, p3, p4, ld2, p5⟩ := hp
    subst p1
    refine And.intro (Or.inl rfl) ?_
    have f2 : se_f J J2 K K2 c := ⟨p3, fun k h1 _ => p4 k h1, fun q h1 h2 h3 => by rw [p2, mj_up_ne h3], fun j hj => by rw [p2, mj_up_ne (by omega)]⟩
    exact se_inputs hC hN hap hA hz0 I 0 J2 K2 ld2 z (by omega) (f0.trans f2) (by rw [p4 8 (by decide)]; exact j8) (by rw [p2, mj_up_ne (by omega)]; exact k9) (fun i hi => by omega) p5
  refine mj_Ct_of (by decide +kernel) (by decide) (Nat.le_of_ble_eq_true rfl) ?_
  refine mj_go z_C_settle [69] 60 ?_
  refine And.intro h0 (Exists.intro _ (And.intro r0 ?_))
  refine And.intro hN.1 ?_
  rw [w7]
  by_cases hI : I < 6
  · have eW : C_W I = 1 := if_pos hI
    have eM : C_mk I = (1#64 <<< (2 ^ I)) - 1#64 := if_pos hI
    refine And.intro (fun d => ?_) (fun d => ?_)
    · simp (disch := (clear d; omega)) only [mj_w_id] at d
      omega
    · clear d
      refine And.intro (fun d => ?_) (fun d => ?_)
      · exact absurd d (by decide)
      · refine And.intro h0 ?_
        refine And.intro (fun d2 => ?_) (fun d2 => ?_)
        · exact absurd d2 (by decide)
        · refine And.intro h0 (Exists.intro _ (And.intro r0 ?_))
          refine And.intro hN.1 ?_
          rw [mj_up_ne hb, w7]
          refine Exists.intro ((((2 ^ I : Nat) : Int))) (And.intro (nu_shl1 ⟨I, by omega⟩) ?_)
          refine Exists.intro (1#64 <<< (2 ^ I)) (And.intro (nu_lshl1 ⟨I, hI⟩) ?_)
          refine And.intro h0 ?_
          have hr := rest 1
          rw [eW, eM] at hr
          exact hr
  · have eW : C_W I = 2 ^ (I - 6) := if_neg hI
    have eM : C_mk I = 0xFFFFFFFFFFFFFFFF#64 := if_neg hI
    refine And.intro (fun d => ?_) (fun d => ?_)
    · clear d
      refine And.intro (fun d => ?_) (fun d => ?_)
      · refine And.intro h0 (Exists.intro _ (And.intro r0 ?_))
        refine And.intro hN.1 ?_
        rw [w7]
        refine Exists.intro ((((I - 6 : Nat) : Int))) (And.intro (by first | (rw [mj_w_id (by omega) (by omega)]; done) | (rw [mj_w_id (by omega) (by omega)]; omega) | (unfold mj_w; omega)) ?_)
        refine Exists.intro ((((2 ^ (I - 6) : Nat) : Int))) (And.intro (nu_shl1 ⟨I - 6, by omega⟩) ?_)
        refine And.intro h0 ?_
        refine And.intro (fun d2 => ?_) (fun d2 => ?_)
        · refine And.intro h0 ?_
          have hr := rest 0
          rw [eW, eM] at hr
          exact hr
        · exact absurd (by decide) d2
      · exact absurd (by decide) d
    · simp (disch := (clear d; omega)) only [mj_w_id] at d
      omega
end CC
