/-! THE LAW: its loop and its start -/
theorem mj_is_up {sh sh2 : mj_Sh} {n n2 q t len : Nat} (h : mj_is sh n q t len) (hn : n ≤ n2) (e : sh2 q = sh q) : mj_is sh2 n2 q t len := ⟨Nat.lt_of_lt_of_le h.1 hn, by rw [e]; exact h.2⟩
theorem isM_up {sh sh2 : mj_Sh} {FR FR2 : mj_FR} {n n2 : Nat} (h : isM sh FR n) (hn : n ≤ n2) (e : ∀ q, 52 ≤ q → q ≤ 76 → sh2 q = sh q) (eF : FR2 52 = FR 52) : isM sh2 FR2 n2 := by
  obtain ⟨h0, hF, a53, a54, a55, a56, a57, a58, a59, a60, a61, a62, a63, a64, a65, a66, a67, a68, a69, a70, a71, a72, a73, a74, a75, a76⟩ := h
  exact ⟨mj_is_up h0 hn (e 52 (by decide) (by decide)), by rw [eF]; exact hF, mj_is_up a53 hn (e 53 (by decide) (by decide)), mj_is_up a54 hn (e 54 (by decide) (by decide)), mj_is_up a55 hn (e 55 (by decide) (by decide)), mj_is_up a56 hn (e 56 (by decide) (by decide)), mj_is_up a57 hn (e 57 (by decide) (by decide)), mj_is_up a58 hn (e 58 (by decide) (by decide)), mj_is_up a59 hn (e 59 (by decide) (by decide)), mj_is_up a60 hn (e 60 (by decide) (by decide)), mj_is_up a61 hn (e 61 (by decide) (by decide)), mj_is_up a62 hn (e 62 (by decide) (by decide)), mj_is_up a63 hn (e 63 (by decide) (by decide)), mj_is_up a64 hn (e 64 (by decide) (by decide)), mj_is_up a65 hn (e 65 (by decide) (by decide)), mj_is_up a66 hn (e 66 (by decide) (by decide)), mj_is_up a67 hn (e 67 (by decide) (by decide)), mj_is_up a68 hn (e 68 (by decide) (by decide)), mj_is_up a69 hn (e 69 (by decide) (by decide)), mj_is_up a70 hn (e 70 (by decide) (by decide)), mj_is_up a71 hn (e 71 (by decide) (by decide)), mj_is_up a72 hn (e 72 (by decide) (by decide)), mj_is_up a73 hn (e 73 (by decide) (by decide)), mj_is_up a74 hn (e 74 (by decide) (by decide)), mj_is_up a75 hn (e 75 (by decide) (by decide)), mj_is_up a76 hn (e 76 (by decide) (by decide))⟩
theorem isW_up {sh sh2 : mj_Sh} {FR FR2 : mj_FR} {n n2 w : Nat} (h : isW sh FR n w) (hn : n ≤ n2) (e : ∀ q, w ≤ q → q ≤ w + 6 → sh2 q = sh q) (eF : FR2 w = FR w) : isW sh2 FR2 n2 w := by
  obtain ⟨h0, r1, r2, r3, r4, r5, r6, a1, a2, a3, a4, a5, a6⟩ := h
  exact ⟨mj_is_up h0 hn (e w (by omega) (by omega)), by rw [eF]; exact r1, by rw [eF]; exact r2, by rw [eF]; exact r3, by rw [eF]; exact r4, by rw [eF]; exact r5, by rw [eF]; exact r6, mj_is_up a1 hn (e (w + 1) (by omega) (by omega)), mj_is_up a2 hn (e (w + 2) (by omega) (by omega)), mj_is_up a3 hn (e (w + 3) (by omega) (by omega)), mj_is_up a4 hn (e (w + 4) (by omega) (by omega)), mj_is_up a5 hn (e (w + 5) (by omega) (by omega)), mj_is_up a6 hn (e (w + 6) (by omega) (by omega))⟩
theorem isTw_up {sh sh2 : mj_Sh} {FR FR2 : mj_FR} {n n2 b1 b2 b3 : Nat} (h : isTw sh FR n b1 b2 b3) (hn : n ≤ n2) (e : ∀ q, q < 52 → sh2 q = sh q ∧ FR2 q = FR q) : isTw sh2 FR2 n2 b1 b2 b3 := by
  have hbb := h.bb
  unfold bb3 at hbb
  obtain ⟨t0, t1, t2, t3, t4, hC1, hC2, hRd, hW, hN1, hN2, hN3, hb⟩ := h
  exact ⟨mj_is_up t0 hn (e 0 (by decide)).1, by rw [(e 0 (by decide)).2]; exact t1, by rw [(e 0 (by decide)).2]; exact t2, by rw [(e 0 (by decide)).2]; exact t3, by rw [(e 0 (by decide)).2]; exact t4, isC_up hC1 hn (fun q _ _ => (e q (by omega)).1) (e 1 (by decide)).2, isC_up hC2 hn (fun q _ _ => (e q (by omega)).1) (e 15 (by decide)).2, isRd_up hRd hn (fun q _ _ => (e q (by omega)).1) (e 29 (by decide)).2 (e (29 + 4) (by decide)).2, isW_up hW hn (fun q _ _ => (e q (by omega)).1) (e 45 (by decide)).2, isNet_up hN1 hn (fun q _ _ => (e q (by omega)).1) (e b1 (by omega)).2, isNet_up hN2 hn (fun q _ _ => (e q (by omega)).1) (e b2 (by omega)).2, isNet_up hN3 hn (fun q _ _ => (e q (by omega)).1) (e b3 (by omega)).2, hb⟩
/-- a new circuit on both sides -/
theorem cp_init {IA : mj_FI} {LA : mj_LA} {x c b : Nat} {ld : List Nat} (hS : cS IA LA c b 0 0 0 0 [] ld) (hx : x < 2) (hm : mN0 IA LA) (v1 : IA c 1 = 0) (v2 : IA c 2 = 0) : cp IA LA x c b 0 0 0 0 [] ld := by
  obtain ⟨m1, m2, m3, m4⟩ := hm
  have z : ∀ q k, 53 ≤ q → q ≤ 76 → q ≠ 66 → IA q k = 0 := fun q k h1 h2 h3 => m2 q h1 h2 h3 k
  obtain ⟨w1, w2, w3, w4, w5, w6, w7, w8, w9, V, wg, wo⟩ := hS.1.1
  have s0 : ∀ s, nS 0 0 s → s = 0 := fun s hs => by
    unfold nS lf_g at hs
    omega
  refine ⟨hS, ⟨z 55 x (by decide) (by decide) (by decide), z 56 x (by decide) (by decide) (by decide), z 57 x (by decide) (by decide) (by decide), z 58 x (by decide) (by decide) (by decide), ⟨(m3 x (by omega)).1, fun j j1 j2 => ?_⟩, fun k hk => absurd hk (Nat.not_lt_zero k), fun k hk => absurd hk (Nat.not_lt_zero k), fun k hk => absurd hk (Nat.not_lt_zero k)⟩, fun s hs => ?_, ⟨[], ⟨rfl, List.nodup_nil, fun k hk => absurd hk List.not_mem_nil⟩, fun i s hi => (by cases hi), List.Pairwise.nil⟩, fun s hs w hw => ?_, fun r hr => ?_, ?_, ?_⟩
  · rw [(m3 x (by omega)).2 j j1 j2]
    rcases V.2.1 j j1 (by omega) with q | q
    · rw [q]
      rfl
    · omega
  · rw [z 67 _ (by decide) (by decide) (by decide), s0 s hs]
    exact ((hS.1.dp (Or.inl (Nat.le_refl 0))).2.2.1 (Nat.le_refl 0)).symm
  · rw [s0 s hs, hS.2.2.2.1.1 w hw, M_rw_at, m4]
  · rw [z 67 _ (by decide) (by decide) (by decide)]
    omega
  · rw [v1, z 59 _ (by decide) (by decide) (by decide)]
  · rw [v2, z 60 _ (by decide) (by decide) (by decide)]
theorem iv_init {sh1 sh3 : mj_Sh} {FR1 FR3 : mj_FR} {IA1 IA3 : mj_FI} {LA1 LA3 : mj_LA} (hTw : isTw sh1 FR1 52 2 16 36) (hS1 : ∃ ld, cS IA1 LA1 1 2 0 0 0 0 [] ld) (hS2 : ∃ ld, cS IA1 LA1 15 16 0 0 0 0 [] ld) (z29 : IA1 29 0 = 0) (z38 : IA1 38 0 = 0) (z45 : IA1 45 0 = 0) (v1 : IA1 1 1 = 0) (v2 : IA1 1 2 = 0) (v3 : IA1 15 1 = 0) (v4 : IA1 15 2 = 0) (hM : isM sh3 FR3 77) (hg : ∀ q, q < 52 → sh3 q = sh1 q ∧ FR3 q = FR1 q ∧ IA3 q = IA1 q ∧ LA3 q = LA1 q) (hm : mN0 IA3 LA3) : Iv (mj_nw sh3 77 (3, 1)) (mj_nw FR3 77 fun _ => .inr 0) (mj_nw IA3 77 fun _ => 0) (mj_nw LA3 77 fun _ => 0) 2 16 36 := by
  generalize hJ : mj_nw IA3 77 (fun _ => 0) = J
  generalize hK : mj_nw LA3 77 (fun _ => 0) = K
  have eJ : ∀ q, q ≠ 77 → J q = IA3 q := fun q hq => by rw [← hJ, mj_nw_ne hq]
  have eK : ∀ q, q ≠ 77 → K q = LA3 q := fun q hq => by rw [← hK, mj_nw_ne hq]
  have lJ : ∀ q, q < 52 → J q = IA1 q := fun q hq => by rw [eJ q (by omega), (hg q hq).2.2.1]
  have lK : ∀ q, q < 52 → K q = LA1 q := fun q hq => by rw [eK q (by omega), (hg q hq).2.2.2]
  have hm4 : mN0 J K := by
    obtain ⟨m1, m2, m3, m4⟩ := hm
    refine ⟨fun k => by rw [eJ 52 (by decide)]; exact m1 k, fun q h1 h2 h3 k => by rw [eJ q (by omega)]; exact m2 q h1 h2 h3 k, fun c hc => by rw [eJ 66 (by decide)]; exact m3 c hc, fun j => by rw [eK 69 (by decide)]; exact m4 j⟩
  have z : ∀ q k, 53 ≤ q → q ≤ 76 → q ≠ 66 → J q k = 0 := fun q k h1 h2 h3 => hm4.2.1 q h1 h2 h3 k
  obtain ⟨ld1, hS1⟩ := hS1
  obtain ⟨ld2, hS2⟩ := hS2
  have hS1' : cS J K 1 2 0 0 0 0 [] ld1 := cS_mv hS1 (fun k _ => by rw [lJ 2 (by decide)]) (fun k h1 h2 => lJ (2 + k) (by omega)) (by rw [lJ 1 (by decide)]) (by rw [lJ 1 (by decide)]) (lJ 13 (by decide)) (lJ 14 (by decide)) (by rw [lK 1 (by decide)]) (lK 11 (by decide)) (lK 12 (by decide))
  have hS2' : cS J K 15 16 0 0 0 0 [] ld2 := cS_mv hS2 (fun k _ => by rw [lJ 16 (by decide)]) (fun k h1 h2 => lJ (16 + k) (by omega)) (by rw [lJ 15 (by decide)]) (by rw [lJ 15 (by decide)]) (lJ 27 (by decide)) (lJ 28 (by decide)) (by rw [lK 15 (by decide)]) (lK 25 (by decide)) (lK 26 (by decide))
  refine ⟨isTw_up hTw (by decide) (fun q hq => by rw [mj_nw_ne (by omega), mj_nw_ne (by omega)]; exact ⟨(hg q hq).1, (hg q hq).2.1⟩), isM_up hM (by decide) (fun q h1 h2 => mj_nw_ne (by omega)) (mj_nw_ne (by decide)), ⟨by decide, mj_nw_eq⟩, ⟨0, by decide, ?_, hm4.1 2, fun j hj => absurd hj (Nat.not_lt_zero j)⟩, fun j => ?_, ⟨0, by decide, ?_, hm4.1 4, fun j hj => absurd hj (Nat.not_lt_zero j)⟩, fun j hj => ?_, ?_, ?_, fun x hx w hw => ?_, ⟨0, 0, 0, 0, [], ld1, ?_⟩, ⟨0, 0, 0, 0, [], ld2, ?_⟩⟩
  · rw [lJ 29 (by decide)]
    exact z29
  · rw [z 53 j (by decide) (by decide) (by decide)]
    omega
  · rw [lJ 45 (by decide)]
    exact z45
  · rcases Nat.eq_zero_or_pos (j % 1001) with q | q
    · have := (hm4.2.2.1 (j / 1001) (by omega)).1
      rw [show 1001 * (j / 1001) = j by omega] at this
      rw [this]
      omega
    · have := (hm4.2.2.1 (j / 1001) (by omega)).2 (j % 1001) q (by omega)
      rw [show 1001 * (j / 1001) + j % 1001 = j by omega] at this
      rw [this]
      omega
  · exact (hm4.2.2.1 2 (by decide)).1
  · rw [lJ (36 + 2) (by decide)]
    exact z38
  · rw [M_rw_at]
    exact hm4.2.2.2 _
  · exact cp_init hS1' (by decide) hm4 (by rw [lJ 1 (by decide)]; exact v1) (by rw [lJ 1 (by decide)]; exact v2)
  · exact cp_init hS2' (by decide) hm4 (by rw [lJ 15 (by decide)]; exact v3) (by rw [lJ 15 (by decide)]; exact v4)
section WW
variable {L : Nat} {sc : Nat → Int}
def q_w_start (L : Nat) (sc : Nat → Int) : List (Nat × mj_Sem) := [(0, o_new 0 4 601024 7293034 3), (3, o_dup 4), (4, o_call m_T_init 1 601024 7293034 7 mj_ri), (7, o_as 1 8), (8, o_new 6 30 601024 7293034 11), (11, o_dup 12), (12, o_call m_M_init 1 601024 7293034 15 mj_ri), (15, o_as 2 16), (16, o_ic 1 17), (17, o_na 3 601024 7293034 19), (19, o_as 3 20), (20, o_ic 0 21), (21, o_is 4 23)]
set_option maxRecDepth 100000 in
theorem e_w_start : ((q_L_law L sc).drop 0).take 13 = q_w_start L sc := rfl
theorem z_w_start : mj_Code (m_L_law L sc) (q_w_start L sc) := fun q hq => z_L_law L sc q (List.mem_of_mem_drop (List.mem_of_mem_take (by rw [e_w_start]; exact hq)))
def q_w_head (L : Nat) (sc : Nat → Int) : List (Nat × mj_Sem) := [(23, o_il 4 25), (25, o_al 0 26), (26, o_slen L 27), (27, o_ic 4 28), (28, o_isub 29), (29, o_icgt 1419 32), (32, o_al 0 33), (33, o_il 4 35), (35, o_sal L sc 36), (36, o_ic 31 38), (38, o_iand 39), (39, o_tsw [124, 224, 280, 360, 440, 484, 540, 620, 688, 756, 843, 930, 1010, 1078, 1134, 1178, 1290, 1345] 1413)]
set_option maxRecDepth 100000 in
theorem e_w_head : ((q_L_law L sc).drop 13).take 12 = q_w_head L sc := rfl
theorem z_w_head : mj_Code (m_L_law L sc) (q_w_head L sc) := fun q hq => z_L_law L sc q (List.mem_of_mem_drop (List.mem_of_mem_take (by rw [e_w_head]; exact hq)))
def q_w_tail (L : Nat) (sc : Nat → Int) : List (Nat × mj_Sem) := [(1413, o_inc 4 4 1416), (1416, o_goto 23), (1419, o_ic 1 1420), (1420, o_zret 601024 7293034)]
set_option maxRecDepth 100000 in
theorem e_w_tail : ((q_L_law L sc).drop 870).take 4 = q_w_tail L sc := rfl
theorem z_w_tail : mj_Code (m_L_law L sc) (q_w_tail L sc) := fun q hq => z_L_law L sc q (List.mem_of_mem_drop (List.mem_of_mem_take (by rw [e_w_tail]; exact hq)))
set_option maxHeartbeats 2000000 in
theorem lw_loop (hL : L ≤ 2048) (hsc : ∀ j, -2147483648 ≤ sc j ∧ sc j < 2147483648) {sh : mj_Sh} : ∀ (t i : Nat) (FR : mj_FR) (IA : mj_FI) (LA : mj_LA) (kc ks : Nat) (x5 x6 x7 : Option mj_V), L ≤ i + t → i ≤ 2048 → (∃ b1 b2 b3, Iv sh FR IA LA b1 b2 b3) → kc ≤ 78 + 3 * i → ks ≤ 373691 + 18 * i → mj_G (m_L_law L sc) en_Q 23 [some (.inr (.inr (.inr 1))), some (.inr (.inr (.inl 0))), some (.inr (.inr (.inl 52))), some (.inr (.inr (.inl 77))), some (.inl (i : Int)), x5, x6, x7] [] sh FR IA LA 78 kc ks := by
  have exit : ∀ (i : Nat) (FR : mj_FR) (IA : mj_FI) (LA : mj_LA) (kc ks : Nat) (x5 x6 x7 : Option mj_V), i ≤ 2048 → kc ≤ 78 + 3 * i → ks ≤ 373691 + 18 * i → mj_G (m_L_law L sc) en_Q 1419 [some (.inr (.inr (.inr 1))), some (.inr (.inr (.inl 0))), some (.inr (.inr (.inl 52))), some (.inr (.inr (.inl 77))), some (.inl (i : Int)), x5, x6, x7] [] sh FR IA LA 78 kc ks := by
    intro i FR IA LA kc ks x5 x6 x7 hi hkc hks
    refine mj_go z_w_tail [] 10 ?_
    exact ⟨Or.inr rfl, rfl, by omega, by omega⟩
  intro t
  induction t with
  | zero =>
    intro i FR IA LA kc ks x5 x6 x7 ht hi hI hkc hks
    refine mj_go z_w_head [1413, 1419] 40 ?_
    refine Exists.intro ((L : Int) - 4) (And.intro (by first | (rw [mj_w_id (by omega) (by omega)]; done) | (rw [mj_w_id (by omega) (by omega)]; omega) | (unfold mj_w; omega)) ?_)
    refine And.intro (fun d => ?_) (fun d => ?_)
    · exact exit i FR IA LA kc ks x5 x6 x7 hi hkc hks
    · exfalso
      rw [mj_w_id (by omega) (by omega), mj_w_id (by omega) (by omega)] at d
      omega
  | succ t ih =>
    intro i FR IA LA kc ks x5 x6 x7 ht hi hI hkc hks
    refine mj_go z_w_head [1413, 1419, 124, 224, 280, 360, 440, 484, 540, 620, 688, 756, 843, 930, 1010, 1078, 1134, 1178, 1290, 1345] 40 ?_
    refine Exists.intro ((L : Int) - 4) (And.intro (by first | (rw [mj_w_id (by omega) (by omega)]; done) | (rw [mj_w_id (by omega) (by omega)]; omega) | (unfold mj_w; omega)) ?_)
    refine And.intro (fun d => ?_) (fun d => ?_)
    · exact exit i FR IA LA kc ks x5 x6 x7 hi hkc hks
    · rw [mj_w_id (by omega) (by omega), mj_w_id (by omega) (by omega)] at d
      have hi4 : i + 3 < L := by omega
      clear d
      have hT : lwT L sc sh i kc ks := by
        intro FR IA LA kc2 ks2 x5 x6 x7 hI hk1 hk2
        refine mj_go z_w_tail [23] 10 ?_
        refine Exists.intro ((i + 4 : Nat) : Int) (And.intro (by first | (rw [mj_w_id (by omega) (by omega)]; done) | (rw [mj_w_id (by omega) (by omega)]; omega) | (unfold mj_w; omega)) ?_)
        exact ih (i + 4) FR IA LA kc2 ks2 x5 x6 x7 (by omega) (by omega) hI (by omega) (by omega)
      refine Exists.intro i (And.intro (by first | (rw [mj_w_id (by omega) (by omega)]; done) | (rw [mj_w_id (by omega) (by omega)]; omega) | (unfold mj_w; omega)) (And.intro (by omega) ?_))
      refine Exists.intro _ (And.intro rfl ?_)
      obtain ⟨b1, b2, b3, hI⟩ := hI
      refine And.intro (fun idx t ht hz => ?_) (fun d => ?_)
      · clear hz
        rcases idx with _ | _ | _ | _ | _ | _ | _ | _ | _ | _ | _ | _ | _ | _ | _ | _ | _ | _ | idx
        · cases ht
          exact lc_feed hI hi4 hL hsc (by omega) (by omega) hT x5 x6 x7
        · cases ht
          exact lc_load hI hi4 hL hsc (by omega) (by omega) hT x5 x6 x7
        · cases ht
          exact lc_literal hI hi4 hL hsc (by omega) (by omega) hT x5 x6 x7
        · cases ht
          exact lc_value hI hi4 hL hsc (by omega) (by omega) hT x5 x6 x7
        · cases ht
          exact lc_compare hI hi4 hL hsc (by omega) (by omega) hT x5 x6 x7
        · cases ht
          exact lc_witness hI hi4 hL hsc (by omega) (by omega) hT x5 x6 x7
        · cases ht
          exact lc_least hI hi4 hL hsc (by omega) (by omega) hT x5 x6 x7
        · cases ht
          exact lc_greatest hI hi4 hL hsc (by omega) (by omega) hT x5 x6 x7
        · cases ht
          exact lc_same hI hi4 hL hsc (by omega) (by omega) hT x5 x6 x7
        · cases ht
          exact lc_implies hI hi4 hL hsc (by omega) (by omega) hT x5 x6 x7
        · cases ht
          exact lc_depends hI hi4 hL hsc (by omega) (by omega) hT x5 x6 x7
        · cases ht
          exact lc_rises hI hi4 hL hsc (by omega) (by omega) hT x5 x6 x7
        · cases ht
          exact lc_leader hI hi4 hL hsc (by omega) (by omega) hT x5 x6 x7
        · cases ht
          exact lc_functions hI hi4 hL hsc (by omega) (by omega) hT x5 x6 x7
        · cases ht
          exact lc_allFunctions hI hi4 hL hsc (by omega) (by omega) hT x5 x6 x7
        · cases ht
          exact lc_write hI hi4 hL hsc (by omega) (by omega) hT x5 x6 x7
        · cases ht
          exact lc_out hI hi4 hL hsc (by omega) (by omega) hT x5 x6 x7
        · cases ht
          exact lc_look hI hi4 hL hsc (by omega) (by omega) hT x5 x6 x7
        · simp at ht
      · exact hT FR IA LA kc ks x5 x6 x7 ⟨b1, b2, b3, hI⟩ (by omega) (by omega)
end WW
set_option maxHeartbeats 2000000 in
theorem en_G_ok : en_G := by
  intro L sc hL hsc
  have f0 : mj_scF 0 (fun _ _ => .inr 0 : mj_FR) := fun q k hq => absurd hq (Nat.not_lt_zero _)
  have f1 := scF_nw f0
  refine mj_go z_w_start [23] 40 ?_
  refine And.intro f0 (And.intro ⟨trivial, trivial⟩ (And.intro trivial (And.intro (Nat.le_of_ble_eq_true rfl) (And.intro (Nat.le_of_ble_eq_true rfl) ?_))))
  refine And.intro rfl ?_
  refine And.intro trivial (And.intro (Nat.le_of_ble_eq_true rfl) (And.intro (Nat.le_of_ble_eq_true rfl) (And.intro (Nat.le_of_ble_eq_true rfl) (Exists.intro _ (And.intro (ct_T_init mj_nw_eq f1) ?_)))))
  rintro o1 sh1 FR1 IA1 LA1 n1 ⟨p0, p1, p2, p3, p4, p5, p6, p7, p8, p9, p10, p11, p12⟩
  subst p0
  subst p1
  refine And.intro (Or.inr ⟨⟨trivial, trivial⟩, show 0 < 1 by decide, trivial⟩) ?_
  have f2 := scF_nw p3
  refine And.intro p3 (And.intro ⟨trivial, show 0 < 52 by decide, trivial⟩ (And.intro trivial (And.intro (Nat.le_of_ble_eq_true rfl) (And.intro (Nat.le_of_ble_eq_true rfl) ?_))))
  refine And.intro rfl ?_
  refine And.intro trivial (And.intro (Nat.le_of_ble_eq_true rfl) (And.intro (Nat.le_of_ble_eq_true rfl) (And.intro (Nat.le_of_ble_eq_true rfl) (Exists.intro _ (And.intro (ct_M_init (w := 52) rfl mj_nw_eq f2 (fun k => by rw [mj_nw_eq])) ?_)))))
  rintro o2 sh2 FR2 IA2 LA2 n2 ⟨q0, q1, q2, q3, q4, q5⟩
  subst q0
  subst q1
  refine And.intro (Or.inr ⟨⟨trivial, show 0 < 53 by decide, trivial⟩, show 52 < 53 by decide, trivial⟩) ?_
  refine Exists.intro 1 (And.intro (by decide) (And.intro (by decide) (And.intro q3 (And.intro ⟨trivial, show 0 < 77 by decide, show 52 < 77 by decide, trivial⟩ (And.intro trivial (And.intro (Nat.le_of_ble_eq_true rfl) (And.intro (Nat.le_of_ble_eq_true rfl) ?_)))))))
  exact lw_loop hL hsc L 0 _ _ _ _ _ _ _ _ (by omega) (by omega) ⟨2, 16, 36, iv_init p2 p4 p5 p6 p7 p8 p9 p10 p11 p12 q2 (fun q hq => by
    have := q4 q hq
    rw [mj_nw_ne (by omega), mj_nw_ne (by omega), mj_nw_ne (by omega), mj_nw_ne (by omega)] at this
    exact this) q5⟩ (Nat.le_of_ble_eq_true rfl) (Nat.le_of_ble_eq_true rfl)
