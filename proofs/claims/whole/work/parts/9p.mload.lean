/-! THE REFERENCE: load -/
/-- a text that was read to its end gives a well-formed net -/
def ab_W (m I O G : Nat) (so ow le ri ou : Nat → Int) : Prop := m ≤ 1000 ∧ I ≤ 14 ∧ O ≤ 16 ∧ G ≤ 300 ∧ I + G ≤ m ∧ ab_V m (I + G + 1) so ow ∧ (∀ j, I + 1 ≤ j → j < I + 1 + G → (0 ≤ le j ∧ le j ≤ 2 * (m : Int) + 1) ∧ 0 ≤ ri j ∧ ri j ≤ 2 * (m : Int) + 1) ∧ (∀ k, k < O → 0 ≤ ou k ∧ ou k ≤ 2 * (m : Int) + 1)
theorem ab_bd_w {by0 : Nat → Int} {len : Nat} (he : ab_en by0 len) (hby : ∀ i, -1 ≤ by0 i) {bin : Bool} {m I O G p : Nat} {so ow le ri ou : Nat → Int} {C : ab_C} (hp : p ≤ len) (hm : m ≤ 1000) (hI : I ≤ 14) (hO : O ≤ 16) (hG : G ≤ 300) (hIG : I + G ≤ m) (hbm : bin = true → m = I + G) (hs0 : so 0 = 0) (hs1 : ∀ j, 1 ≤ j → j < 1001 → so j = -1) (h : ab_bd by0 len bin m I O G p so ow le ri ou = .inr C) :
    C.1 = (m, I, O, G) ∧ ab_W m I O G C.2.1 C.2.2.1 C.2.2.2.1 C.2.2.2.2.1 C.2.2.2.2.2 := by
  have hV1 : ab_V m 1 so ow := ⟨hs0, fun j j1 j2 => Or.inl (hs1 j j1 j2), fun i i1 i2 => by omega⟩
  unfold ab_bd at h
  cases hi : ab_in by0 m bin I 1 p so ow with
  | inl e => rw [hi] at h; cases h
  | inr x =>
    rw [hi] at h
    obtain ⟨px, so1, ow1⟩ := x
    obtain ⟨xw1, xw2, xw3⟩ := ab_in_w (len := len) hm he I 1 p so ow (px, so1, ow1) (by omega) hp hV1 (fun hb => ⟨by omega, hs1⟩) hi
    simp only [] at h xw1 xw2 xw3
    cases hi2 : ab_ou by0 m O 0 px ou with
    | inl e => rw [hi2] at h; cases h
    | inr z =>
      rw [hi2] at h
      obtain ⟨py, ou1⟩ := z
      obtain ⟨yw1, yw2, yw3⟩ := ab_ou_w (len := len) he O 0 px ou (py, ou1) xw1 hi2
      simp only [] at h yw1 yw2 yw3
      cases hi3 : ab_gs by0 m bin G (I + 1) py so1 ow1 le ri with
      | inl e => rw [hi3] at h; cases h
      | inr t =>
        rw [hi3] at h
        obtain ⟨pz, so2, ow2, le2, ri2⟩ := t
        obtain ⟨zw1, zw2, zw3, zw4⟩ := ab_gs_w (len := len) hm he hby G (I + 1) py so1 ow1 le ri _ (by omega) yw1 (by rw [show I + 1 = 1 + I by omega]; exact xw2) (fun hb => ⟨by have := hbm hb; omega, fun j j1 j2 => xw3 hb j (by omega) j2⟩) hi3
        simp only [] at h zw1 zw2 zw3 zw4
        split at h
        · cases h
        · cases h
          exact ⟨rfl, hm, hI, hO, hG, hIG, by rw [show I + G + 1 = I + 1 + G by omega]; exact zw2, zw3, fun k hk => yw2 k (by omega) (by omega)⟩
theorem ab_k4 {by0 : Nat → Int} {len : Nat} (he : ab_en by0 len) (hk : ab_kd by0) : 4 ≤ len := by
  refine Classical.byContradiction fun hc => ?_
  have h1 := he 3 (by omega)
  have h2 := hk.2.2.2
  omega
theorem ab_rd_w {by0 : Nat → Int} {len : Nat} (he : ab_en by0 len) (hby : ∀ i, -1 ≤ by0 i) {f ow le ri ou : Nat → Int} {C : ab_C} (h : ab_rd by0 len (ab_s0 f) ow le ri ou = .inr C) :
    ab_W C.1.1 C.1.2.1 C.1.2.2.1 C.1.2.2.2 C.2.1 C.2.2.1 C.2.2.2.1 C.2.2.2.2.1 C.2.2.2.2.2 := by
  unfold ab_rd at h
  split at h
  · rename_i hk
    split at h
    · rename_i hok
      split at h
      · split at h
        · cases h
        · rename_i hbs
          have n0 := ab_L_n (j := 0) hok
          have n1 := ab_L_n (j := 1) hok
          have n3 := ab_L_n (j := 3) hok
          have n4 := ab_L_n (j := 4) hok
          have hb2 : ab_bn by0 = true → ¬ ¬ (ab_L by0 5 4).2.2.1 0 = (ab_L by0 5 4).2.2.1 1 + (ab_L by0 5 4).2.2.1 4 := fun hb z => hbs (Or.inr (Or.inr ⟨hb, z⟩))
          have hb0 : ¬ (1000 < (ab_L by0 5 4).2.2.1 0 ∨ 14 < (ab_L by0 5 4).2.2.1 1 ∨ 16 < (ab_L by0 5 4).2.2.1 3 ∨ 300 < (ab_L by0 5 4).2.2.1 4) := fun z => hbs (Or.inl z)
          have hb1 : ¬ (ab_L by0 5 4).2.2.1 0 < (ab_L by0 5 4).2.2.1 1 + (ab_L by0 5 4).2.2.1 4 := fun z => hbs (Or.inr (Or.inl z))
          obtain ⟨e, hW⟩ := ab_bd_w he hby (ab_L_e he (ab_k4 he hk)) (by omega) (by omega) (by omega) (by omega) (by omega) (fun hb => by have := hb2 hb; omega) (by simp [ab_s0]) (fun j j1 j2 => by unfold ab_s0; rw [if_neg (by omega), if_pos j2]) h
          rw [e]
          exact hW
      · cases h
    · cases h
  · cases h
/-- the rows of the fan-ins in a net without a missing variable -/
theorem mRow_X {J : mj_FI} {m I O G : Nat} {so ow le ri ou : Nat → Int} (hW : ab_W m I O G so ow le ri ou) (hN : mN J 2 m I O G so ow le ri ou) (hn : md_mn (nUx le ri ou I O G) so (-1)) : mX J G (mRow I so le) (mRow I so ri) := by
  obtain ⟨w1, w2, w3, w4, w5, ⟨v0, v1, v2⟩, w7, w8⟩ := hW
  obtain ⟨n1, n2, n3, n4, ⟨n5, n5'⟩, n6, n7, n8⟩ := hN
  have hno : ∀ lit, nUx le ri ou I O G lit → ¬ so (lit / 2).toNat = -1 := by
    rcases hn with ⟨_, z⟩ | ⟨z, _⟩
    · exact z
    · exact absurd z (by decide)
  have key : ∀ lit, nUx le ri ou I O G lit → 0 ≤ lit → lit ≤ 2 * (m : Int) + 1 → J 66 (2002 + (lit / 2).toNat) = ((rho I (so (lit / 2).toNat)).toNat : Int) ∧ (rho I (so (lit / 2).toNat)).toNat < 315 := by
    intro lit hu h1 h2
    have hz := hno lit hu
    by_cases e : (lit / 2).toNat = 0
    · rw [e, v0]
      exact ⟨n5, by simp [rho]⟩
    · rcases v1 (lit / 2).toNat (by omega) (by omega) with z | z
      · exact absurd z hz
      · obtain ⟨q1, q2⟩ := rho_lt (I := I) (G := G) (s := so (lit / 2).toNat) (by omega) (by omega) w2 w4
        exact ⟨by rw [← q1]; exact n5' _ (by omega) (by omega), q2⟩
  intro k hk
  obtain ⟨_, g2, g3⟩ := n7 k hk
  obtain ⟨⟨x1, x2⟩, x3, x4⟩ := w7 (I + 1 + k) (by omega) (by omega)
  rw [show 300 * 2 + k = 600 + k by omega] at g2 g3
  rw [g2, g3]
  have a := key _ (Or.inr ⟨k, hk, Or.inl rfl⟩) x1 x2
  have b := key _ (Or.inr ⟨k, hk, Or.inr rfl⟩) x3 x4
  exact ⟨⟨x1, by omega, a.1, a.2⟩, x3, by omega, b.1, b.2⟩
theorem nodup_all {G : Nat} {l : List Nat} (hn : l.Nodup) (hl : l.length = G) (hlt : ∀ k ∈ l, k < G) : ∀ k, k < G → k ∈ l := by
  intro k hk
  refine Classical.byContradiction fun hc => ?_
  have h3 := nd_len G (k :: l) 0 (List.nodup_cons.mpr ⟨hc, hn⟩) (fun x hx => ⟨Nat.zero_le _, by
    rcases List.mem_cons.mp hx with e | e
    · omega
    · have := hlt x e
      omega⟩)
  rw [List.length_cons] at h3
  omega
/-- the order is by depth -/
theorem mo_top {X Y : Nat → Nat} {G : Nat} {D : Nat → Int} {pl : List Nat} (hI : ma_I X Y G D pl) : ∀ xs k ys, mo_d D G G = xs ++ k :: ys → ∀ j ∈ k :: ys, X k ≠ 15 + j ∧ Y k ≠ 15 + j := by
  obtain ⟨i1, i2, i3, i4⟩ := hI
  intro xs k ys e j hj
  have pw := mo_d_pw (D := D) (G := G) G
  rw [e] at pw
  have p2 := (List.pairwise_append.mp pw).2.1
  have hkm : k ∈ mo_d D G G := by rw [e]; simp
  obtain ⟨k1, k2, k3⟩ := mo_d_mem.mp hkm
  have hle : D (15 + k) ≤ D (15 + j) := by
    rcases List.mem_cons.mp hj with z | z
    · rw [z]; exact Int.le_refl _
    · exact (List.pairwise_cons.mp p2).1 j z
  rcases i3 k k1 with z | ⟨z1, z2, z3, z4⟩
  · omega
  · refine ⟨fun z => ?_, fun z => ?_⟩
    · rw [← z] at hle; omega
    · rw [← z] at hle; omega
/-- what load leaves -/
def ml_s (J1 : mj_FI) (c : Nat) (e p : Int) : mj_FI := mj_up (mj_up (mj_up J1 52 2 0) 59 c e) 60 c p
def ml_q (IA : mj_FI) (LA : mj_LA) (R : (Int × Int) ⊕ ab_C) (c : Nat) (o : mj_O) (J : mj_FI) (K : mj_LA) : Prop := ∃ J1 : mj_FI, md_d IA J1 ∧ md_rr J1 ∧ mt_q R J1 ∧ o = .inl (some (.inl (J1 52 21))) ∧
  ((1 ≤ J1 52 21 ∧ K = LA ∧ J = ml_s J1 c (J1 52 21) (J1 52 22)) ∨
   (J1 52 21 = 0 ∧ ∃ C : ab_C, R = .inr C ∧ tk (ml_s J1 c 0 0) J c 14 16 300 1001 315 ∧ mf_q J LA c C.1.2.1 C.1.2.2.2 (mRow C.1.2.1 C.2.1 C.2.2.2.1) (mRow C.1.2.1 C.2.1 C.2.2.2.2.1) (.inl none) J K))
theorem ml_s_o {J1 : mj_FI} {c q : Nat} {e p : Int} (h1 : q ≠ 52) (h2 : q ≠ 59) (h3 : q ≠ 60) : ml_s J1 c e p q = J1 q := by
  unfold ml_s
  rw [mj_up_ne h3, mj_up_ne h2, mj_up_ne h1]
theorem ml_s_52 {J1 : mj_FI} {c k : Nat} {e p : Int} (h : k ≠ 2) : ml_s J1 c e p 52 k = J1 52 k := by
  unfold ml_s
  rw [mj_up_ne (by decide), mj_up_ne (by decide), mj_up_k h]
section MM
variable {sh : mj_Sh} {FR : mj_FR} {IA : mj_FI} {LA : mj_LA} {n : Nat}
set_option maxHeartbeats 2000000 in
theorem ct_M_load (h : isM sh FR n) {c len : Nat} {f ow le ri ou : Nat → Int} (hc : c < 2) (hlen : IA 52 2 = (len : Int)) (hl2 : len ≤ 8192) (htb : md_tb IA) (hr : md_rr IA) (h0 : IA 66 2002 = 0) :
    mj_Ct m_M_load [.inr (.inr (.inl 52)), .inl c] sh FR IA LA n (mj_pl (ml_q (mj_up IA 52 0 0) LA (ab_rd (md_by IA) len (ab_s0 f) ow le ri ou) c) sh FR n) := by
  generalize hQ : mj_pl (ml_q (mj_up IA 52 0 0) LA (ab_rd (md_by IA) len (ab_s0 f) ow le ri ou) c) sh FR n = Q
  have hb0 : md_by (mj_up IA 52 0 0) = md_by IA := md_by_eq (by rw [mj_up_k (by decide)]) (by rw [mj_up_ne (by decide)])
  have mid : ∀ J1 : mj_FI, md_d (mj_up IA 52 0 0) J1 → md_rr J1 → mt_q (ab_rd (md_by IA) len (ab_s0 f) ow le ri ou) J1 → mj_G m_M_load Q 26 [some (.inr (.inr (.inl 52))), some (.inl c)] [] sh FR J1 LA n 0 0 := by
    intro J1 hd1 hr1 hq1
    have rng : 0 ≤ J1 52 21 ∧ J1 52 21 ≤ 8 := by
      cases hR : ab_rd (md_by IA) len (ab_s0 f) ow le ri ou with
      | inl e =>
        rw [hR] at hq1
        have := ab_rd_x hR
        rw [hq1.1]
        omega
      | inr C =>
        rw [hR] at hq1
        rcases hq1.2 with ⟨z, _⟩ | ⟨_, D, pl, _, _, ⟨z, _⟩ | ⟨_, z, _⟩⟩ <;> omega
    by_cases hw : J1 52 21 = 0
    · have hex : ∃ C : ab_C, ab_rd (md_by IA) len (ab_s0 f) ow le ri ou = .inr C := by
        cases hR : ab_rd (md_by IA) len (ab_s0 f) ow le ri ou with
        | inl e =>
          rw [hR] at hq1
          have := ab_rd_x hR
          have := hq1.1
          omega
        | inr C => exact ⟨C, rfl⟩
      obtain ⟨C, hR⟩ := hex
      have hW := ab_rd_w (md_en hlen) (fun i => (md_by_in IA i).1) hR
      have hq2 := hq1
      rw [hR] at hq2
      obtain ⟨hN, hcr⟩ := hq2
      obtain ⟨hmn, D, pl, hI, hS, hlg, hD, hod⟩ : md_mn (nUx C.2.2.2.1 C.2.2.2.2.1 C.2.2.2.2.2 C.1.2.1 C.1.2.2.1 C.1.2.2.2) C.2.1 (-1) ∧ ∃ (D : Nat → Int) (pl : List Nat), ma_I (mRow C.1.2.1 C.2.1 C.2.2.2.1) (mRow C.1.2.1 C.2.1 C.2.2.2.2.1) C.1.2.2.2 D pl ∧ ma_S (mRow C.1.2.1 C.2.1 C.2.2.2.1) (mRow C.1.2.1 C.2.1 C.2.2.2.2.1) C.1.2.2.2 D ∧ (mo_d D C.1.2.2.2 C.1.2.2.2).length = C.1.2.2.2 ∧ (∀ r, r < 315 → J1 67 (630 + r) = D r) ∧ ∀ (i s : Nat), (mo_d D C.1.2.2.2 C.1.2.2.2)[i]? = some s → J1 68 (600 + i) = (s : Int) := by
        rcases hcr with ⟨z, _⟩ | ⟨hm, D, pl, hI, hS, ⟨_, z1, z2, z3⟩ | ⟨_, z, _⟩⟩
        · omega
        · exact ⟨hm, D, pl, hI, hS, z1, z2, z3⟩
        · omega
      have hX := mRow_X hW hN hmn
      have hX2 : mX (ml_s J1 c 0 0) C.1.2.2.2 (mRow C.1.2.1 C.2.1 C.2.2.2.1) (mRow C.1.2.1 C.2.1 C.2.2.2.2.1) := by
        intro k hk
        rw [ml_s_o (by decide) (by decide) (by decide), ml_s_o (by decide) (by decide) (by decide), ml_s_o (by decide) (by decide) (by decide)]
        exact hX k hk
      have n55 : (ml_s J1 c 0 0) 55 2 = (C.1.2.1 : Int) := by rw [ml_s_o (by decide) (by decide) (by decide)]; exact hN.1
      have n56 : (ml_s J1 c 0 0) 56 2 = (C.1.2.2.2 : Int) := by rw [ml_s_o (by decide) (by decide) (by decide)]; exact hN.2.1
      have hlt : ∀ k ∈ mo_d D C.1.2.2.2 C.1.2.2.2, k < C.1.2.2.2 := fun k hk => (mo_d_mem.mp hk).1
      have tkc := ct_M_take (LA := LA) (c := c) h hc n55 hW.2.1 n56 hW.2.2.2.1 hlg (fun i s his => by rw [ml_s_o (by decide) (by decide) (by decide)]; exact hod i s his) hlt (nodup_all (mo_d_nd _) hlg hlt) hX2 (mo_top hI) (mo_d_nd _)
      refine mj_go z_M_load [] 60 ?_
      refine And.intro h.o ?_
      refine And.intro h.o (Exists.intro _ (And.intro h.r9 ?_))
      refine And.intro h.o ?_
      rw [mj_up_k (show (21 : Nat) ≠ 2 by decide), hw]
      refine Exists.intro _ (Exists.intro (c) (And.intro h.a9 (And.intro (by first | (rw [mj_w_id (by omega) (by omega)]; done) | (rw [mj_w_id (by omega) (by omega)]; omega) | (unfold mj_w; omega)) (And.intro (by omega) ?_))))
      refine And.intro h.o (Exists.intro _ (And.intro h.r10 ?_))
      refine And.intro h.o ?_
      rw [mj_up_ne (show (52 : Nat) ≠ 59 by decide), mj_up_k (show (21 : Nat) ≠ 2 by decide), hw]
      refine And.intro (fun d => ?_) (fun d => ?_)
      · clear d
        refine Exists.intro _ (Exists.intro (c) (And.intro h.a10 (And.intro (by first | (rw [mj_w_id (by omega) (by omega)]; done) | (rw [mj_w_id (by omega) (by omega)]; omega) | (unfold mj_w; omega)) (And.intro (by omega) ?_))))
        refine And.intro h.o ?_
        rw [mj_up_ne (show (52 : Nat) ≠ 60 by decide), mj_up_ne (show (52 : Nat) ≠ 59 by decide), mj_up_k (show (21 : Nat) ≠ 2 by decide), hw]
        refine And.intro (fun d => ?_) (fun d => ?_)
        · exact absurd (show mj_w 0 = 0 by decide) d
        · clear d
          refine And.intro h.o (And.intro (Nat.le_of_ble_eq_true rfl) (And.intro (Nat.le_of_ble_eq_true rfl) (And.intro (Nat.le_of_ble_eq_true rfl) (Exists.intro _ (And.intro (tkc) ?_)))))
          rintro o1 sh9 FR9 J2 K2 n9 ⟨z1, z2, z3, hp1⟩
          replace z1 := z1.symm
          subst z1
          replace z2 := z2.symm
          subst z2
          replace z3 := z3.symm
          subst z3
          obtain ⟨ht, ho, hf⟩ := hp1
          subst ho
          refine And.intro (Or.inl rfl) ?_
          refine And.intro h.o ?_
          subst hQ
          have e21 : J2 52 21 = J1 52 21 := by rw [ht.1 52 (Or.inl (by decide)), ml_s_52 (by decide)]
          rw [e21]
          exact ⟨⟨rfl, rfl, rfl, J1, hd1, hr1, hq1, rfl, Or.inr ⟨hw, C, hR, ht, rfl, hf⟩⟩, Nat.le_of_ble_eq_true rfl, Nat.le_of_ble_eq_true rfl⟩
      · exact absurd d (by decide)
    · obtain ⟨w, hw1⟩ : ∃ w : Nat, J1 52 21 = (w : Int) := ⟨(J1 52 21).toNat, by omega⟩
      refine mj_go z_M_load [] 60 ?_
      refine And.intro h.o ?_
      refine And.intro h.o (Exists.intro _ (And.intro h.r9 ?_))
      refine And.intro h.o ?_
      rw [mj_up_k (show (21 : Nat) ≠ 2 by decide)]
      refine Exists.intro _ (Exists.intro (c) (And.intro h.a9 (And.intro (by first | (rw [mj_w_id (by omega) (by omega)]; done) | (rw [mj_w_id (by omega) (by omega)]; omega) | (unfold mj_w; omega)) (And.intro (by omega) ?_))))
      refine And.intro h.o (Exists.intro _ (And.intro h.r10 ?_))
      refine And.intro h.o ?_
      rw [mj_up_ne (show (52 : Nat) ≠ 59 by decide), mj_up_k (show (21 : Nat) ≠ 2 by decide)]
      refine And.intro (fun d => ?_) (fun d => ?_)
      · simp (disch := (clear d; omega)) only [mj_w_id] at d
        omega
      · clear d
        refine And.intro h.o ?_
        rw [mj_up_ne (show (52 : Nat) ≠ 59 by decide), mj_up_k (show (22 : Nat) ≠ 2 by decide)]
        refine Exists.intro _ (Exists.intro (c) (And.intro h.a10 (And.intro (by first | (rw [mj_w_id (by omega) (by omega)]; done) | (rw [mj_w_id (by omega) (by omega)]; omega) | (unfold mj_w; omega)) (And.intro (by omega) ?_))))
        refine And.intro h.o ?_
        rw [mj_up_ne (show (52 : Nat) ≠ 60 by decide), mj_up_ne (show (52 : Nat) ≠ 59 by decide), mj_up_k (show (21 : Nat) ≠ 2 by decide)]
        refine And.intro (fun d => ?_) (fun d => ?_)
        · clear d
          refine And.intro h.o ?_
          rw [mj_up_ne (show (52 : Nat) ≠ 60 by decide), mj_up_ne (show (52 : Nat) ≠ 59 by decide), mj_up_k (show (21 : Nat) ≠ 2 by decide)]
          subst hQ
          exact ⟨⟨rfl, rfl, rfl, J1, hd1, hr1, hq1, rfl, Or.inl ⟨by omega, rfl, rfl⟩⟩, Nat.le_of_ble_eq_true rfl, Nat.le_of_ble_eq_true rfl⟩
        · simp (disch := (clear d; omega)) only [mj_w_id] at d
          omega
  refine mj_Ct_of (by decide +kernel) (by decide) (Nat.le_of_ble_eq_true rfl) ?_
  refine mj_go z_M_load [26] 60 ?_
  refine And.intro (by trivial) (And.intro (Nat.le_of_ble_eq_true rfl) (And.intro (Nat.le_of_ble_eq_true rfl) (And.intro (Nat.le_of_ble_eq_true rfl) (Exists.intro _ (And.intro (ct_isC1 hc) ?_)))))
  rintro r9 sh9 FR9 IA9 LA9 n9 ⟨z0, z1, z2, z3, z4, z5⟩
  subst z0
  replace z1 := z1.symm
  subst z1
  replace z2 := z2.symm
  subst z2
  replace z3 := z3.symm
  subst z3
  replace z4 := z4.symm
  subst z4
  replace z5 := z5.symm
  subst z5
  refine And.intro (Or.inl rfl) ?_
  refine And.intro (fun d => ?_) (fun d => ?_)
  · clear d
    refine And.intro h.o (And.intro (Nat.le_of_ble_eq_true rfl) (And.intro (Nat.le_of_ble_eq_true rfl) (And.intro (Nat.le_of_ble_eq_true rfl) (Exists.intro _ (And.intro (ct_thr00 h) ?_)))))
    rintro r9 sh9 FR9 IA9 LA9 n9 ⟨z0, z1, z2, z3, z4, z5⟩
    subst z0
    replace z1 := z1.symm
    subst z1
    replace z2 := z2.symm
    subst z2
    replace z3 := z3.symm
    subst z3
    replace z4 := z4.symm
    subst z4
    replace z5 := z5.symm
    subst z5
    refine And.intro (Or.inl rfl) ?_
    refine And.intro (fun d => ?_) (fun d => ?_)
    · clear d
      refine And.intro h.o (And.intro (Nat.le_of_ble_eq_true rfl) (And.intro (Nat.le_of_ble_eq_true rfl) (And.intro (Nat.le_of_ble_eq_true rfl) (Exists.intro _ (And.intro (ct_M_readText (IA := mj_up IA 52 0 0) (f := f) (ow := ow) (le := le) (ri := ri) (ou := ou) h (by rw [mj_up_k (by decide)]; exact hlen) hl2 (fun j => by rw [mj_up_ne (by decide)]; exact htb j) (fun j hj => by rw [mj_up_ne (by decide)]; exact hr j hj) (by rw [mj_up_ne (by decide)]; exact h0)) ?_)))))
      rintro o1 sh9 FR9 J1 LA9 n9 ⟨z1, z2, z3, z4, hp1⟩
      replace z1 := z1.symm
      subst z1
      replace z2 := z2.symm
      subst z2
      replace z3 := z3.symm
      subst z3
      replace z4 := z4.symm
      subst z4
      obtain ⟨ho, hd1, hr1, hq1⟩ := hp1
      subst ho
      refine And.intro (Or.inl rfl) ?_
      rw [hb0] at hq1
      exact mid J1 hd1 hr1 hq1
    · exact absurd (show mj_w 0 = 0 by decide) d
  · exact absurd d (by decide)
end MM
