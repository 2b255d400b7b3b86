/-! WRITER: writeText -/
theorem wr_F_co {IA J : mj_FI} {c b : Nat} {rd : Bool} {lit : Int} (h1 : J (b + 1) = IA (b + 1)) (h12 : J (c + 12) = IA (c + 12)) : wr_F J c b rd lit = wr_F IA c b rd lit := by
  unfold wr_F wr_sl
  rw [h1, h12]
theorem wr_X_co {IA J : mj_FI} {c b : Nat} {rd : Bool} {lit : Int} (h1 : J (b + 1) = IA (b + 1)) (h12 : J (c + 12) = IA (c + 12)) : wr_X J c b rd lit = wr_X IA c b rd lit := by
  unfold wr_X wr_sl
  rw [wr_F_co h1 h12, h1]
theorem wr_st_co {IA J : mj_FI} {b : Nat} {lit : Int} (h1 : J (b + 1) = IA (b + 1)) : wr_st J b lit ↔ wr_st IA b lit := by
  unfold wr_st
  rw [h1]
theorem wr_H_co {IA J : mj_FI} {c b : Nat} {rd : Bool} (h1 : J (b + 1) = IA (b + 1)) (h12 : J (c + 12) = IA (c + 12)) (h : wr_H IA c b rd) : wr_H J c b rd := by
  intro lit hl
  have := h lit ((wr_st_co h1).mp hl)
  rw [wr_F_co h1 h12, wr_st_co h1]
  unfold wr_sl at this ⊢
  rw [h1, h12]
  exact this
/-- the text that writeText writes -/
def wr_txt (IA : mj_FI) (c b m I O : Nat) (rd bin : Bool) (od : List Nat) (tx : List Int) : Prop := ∃ (D N num : Nat → Int) (sn : Nat → Nat), wr_D IA c b rd od D ∧ (∀ t, t < 315 → (N t = 0 ∨ N t = 1) ∧ (N t = 1 ↔ wr_N IA c b O rd od t)) ∧ (∀ s, s ≤ I → num s = (s : Int)) ∧
  (∀ s ∈ nt_wl IA b m, N s = 1 → num s = ((I + 1 + wr_rk N D (IA (b + 2)) (nt_wl IA b m) s : Nat) : Int) ∧ sn (wr_rk N D (IA (b + 2)) (nt_wl IA b m) s) = s) ∧
  tx = wr_h bin I O (wr_ct (wr_pn N) (nt_wl IA b m)) ++ ((if bin = true then [] else wr_i I) ++ (wr_o (fun k => (2 * num (wr_X IA c b rd (IA (b + 5) k)) + wr_F IA c b rd (IA (b + 5) k) % 2).toNat) O ++
    wr_q bin I sn (fun s => (2 * num (wr_X IA c b rd (IA (b + 3) s)) + wr_F IA c b rd (IA (b + 3) s) % 2).toNat) (fun s => (2 * num (wr_X IA c b rd (IA (b + 4) s)) + wr_F IA c b rd (IA (b + 4) s) % 2).toNat) (wr_ct (wr_pn N) (nt_wl IA b m))))
section WW
variable {sh : mj_Sh} {FR : mj_FR} {IA : mj_FI} {LA : mj_LA} {n w c b : Nat}
set_option maxHeartbeats 4000000 in
theorem ct_W_writeText (h : isW sh FR n w) (hC : isC sh FR n c b) (hN : isNet sh FR n b) (ha : wr_ap w c b) {rd bin : Bool} {m I O G : Nat} {od : List Nat} (hA : nA IA b m I O G od) (hH : wr_H IA c b rd) (hO7 : ∀ xs s ys, od = xs ++ s :: ys → ∀ g ∈ s :: ys, ¬ wr_X IA c b rd (IA (b + 3) s) = g ∧ ¬ wr_X IA c b rd (IA (b + 4) s) = g) :
    mj_Ct m_W_writeText [.inr (.inr (.inl w)), .inr (.inr (.inl c)), .inl (if bin = true then 1 else 0), .inl (if rd = true then 1 else 0)] sh FR IA LA n (mj_po (fun o J => (∀ q, q < w ∨ w + 6 < q → J q = IA q) ∧ ∃ tx : List Int, o = .inl (some (.inl (tx.length : Int))) ∧ tx.length ≤ 4096 ∧ J w 0 = (tx.length : Int) ∧ (∀ i x, tx[i]? = some x → J (w + 1) i = mj_b x) ∧ wr_txt IA c b m I O rd bin od tx) sh FR LA n) := by
  have hW := h
  obtain ⟨h0, r1, r2, r3, r4, r5, r6, a1, a2, a3, a4, a5, a6⟩ := h
  obtain ⟨od1, od2, od3⟩ := hA.od
  obtain ⟨hnW, hno, hT0, hrl, hz⟩ := id hA
  have hfan := fun s hs => hnW.fan hno (s := s) hs
  obtain ⟨nd1, nd2⟩ := nt_wl_G hnW
  have hpw := nt_wl_pw hnW m (Nat.le_refl _)
  have hg := fun s => nt_wl_g (s := s) hnW
  have hso := hnW.so
  obtain ⟨w1, w2, w3, w4, w5, w6, w7, w8, w9, ⟨v0, v1, v2⟩, w11, w12⟩ := id hnW
  have hap := ha
  unfold wr_ap at hap
  have hst3 : ∀ s, lf_g I G s → wr_st IA b (IA (b + 3) s) ∧ wr_st IA b (IA (b + 4) s) := fun s hs => by
    have := hfan s hs
    unfold wr_st
    omega
  have hou : ∀ k, k < O → wr_st IA b (IA (b + 5) k) := fun k hk => by
    have q1 := w12 k hk
    have q2 := hno _ (Or.inl ⟨k, hk, rfl⟩)
    have q3 := hso (IA (b + 5) k / 2).toNat (by omega)
    unfold wr_st
    omega
  have hO0 : wr_O IA c b G rd od := ⟨w8, w4, od2, hrl, od1, fun s hs => by
    have q := (od3 s).mp hs
    have q2 := hst3 s q
    unfold lf_g at q
    exact ⟨by omega, by omega, q2.1, q2.2⟩, hO7⟩
  have hXs : ∀ lit, wr_st IA b lit → wr_X IA c b rd lit ≤ I ∨ lf_g I G (wr_X IA c b rd lit) := by
    intro lit hl
    obtain ⟨⟨f1, f2, f3, f4⟩, _⟩ := hH lit hl
    have : IA (b + 1) (wr_F IA c b rd lit / 2).toNat ≤ (I + G : Int) := by
      by_cases e : (wr_F IA c b rd lit / 2).toNat = 0
      · rw [e]
        omega
      · rcases v1 (wr_F IA c b rd lit / 2).toNat (by omega) (by omega) with q | ⟨_, q, _, _⟩ <;> omega
    unfold wr_X wr_sl lf_g
    omega
  generalize hQ : mj_po (fun o J => (∀ q, q < w ∨ w + 6 < q → J q = IA q) ∧ ∃ tx : List Int, o = .inl (some (.inl (tx.length : Int))) ∧ tx.length ≤ 4096 ∧ J w 0 = (tx.length : Int) ∧ (∀ i x, tx[i]? = some x → J (w + 1) i = mj_b x) ∧ wr_txt IA c b m I O rd bin od tx) sh FR LA n = Q
  generalize hJ0 : mj_up IA w 7 (if rd = true then 1 else 0) = J0
  have e0 : ∀ q, q ≠ w → J0 q = IA q := fun q hq => by rw [← hJ0, mj_up_ne hq]
  have e07 : J0 w 7 = if rd = true then 1 else 0 := by rw [← hJ0, mj_up_at]
  have eb0 : ∀ k, k ≤ 8 → J0 (b + k) = IA (b + k) := fun k hk => e0 _ (by omega)
  have ec0 : J0 (c + 12) = IA (c + 12) := e0 _ (by omega)
  have hX0 : ∀ lit, wr_X J0 c b rd lit = wr_X IA c b rd lit := fun lit => wr_X_co (eb0 1 (by decide)) ec0
  have hO0' : wr_O J0 c b G rd od := by
    obtain ⟨p1, p2, p3, p4, p5, p6, p7⟩ := hO0
    refine ⟨by rw [show J0 b = IA b from eb0 0 (by decide)]; exact p1, p2, p3, by rw [eb0 7 (by decide)]; exact p4, p5, fun s hs => ?_, fun xs s ys he g hg => ?_⟩
    · rw [eb0 3 (by decide), eb0 4 (by decide), wr_st_co (eb0 1 (by decide)), wr_st_co (eb0 1 (by decide))]
      exact p6 s hs
    · rw [hX0, hX0, eb0 3 (by decide), eb0 4 (by decide)]
      exact p7 xs s ys he g hg
  refine mj_Ct_of (by decide +kernel) (by decide) (Nat.le_of_ble_eq_true rfl) ?_
  refine mj_go z_W_writeText [49, 57] 60 ?_
  refine And.intro h0 (And.intro (by cases rd <;> simp) ?_)
  rw [hJ0]
  refine And.intro h0 (And.intro (Nat.le_of_ble_eq_true rfl) (And.intro (Nat.le_of_ble_eq_true rfl) (And.intro (Nat.le_of_ble_eq_true rfl) (Exists.intro _ (And.intro (ct_W_measure (IA := J0) hW hC hN ha e07 (wr_H_co (eb0 1 (by decide)) ec0 hH) hO0') ?_)))))
  rintro o1 sh9 FR9 J1 LA9 n9 ⟨z1, z2, z3, z4, hp1⟩
  replace z1 := z1.symm
  subst z1
  replace z2 := z2.symm
  subst z2
  replace z3 := z3.symm
  subst z3
  replace z4 := z4.symm
  subst z4
  obtain ⟨ho, m1, m2⟩ := hp1
  subst ho
  have hD : wr_D IA c b rd od (J1 (w + 2)) := by
    obtain ⟨d1, d2, d3⟩ := m2
    refine ⟨d1, d2, fun s hs => ?_⟩
    have := d3 s hs
    rw [hX0, hX0, eb0 3 (by decide), eb0 4 (by decide)] at this
    exact this
  have e1 : ∀ q, q ≠ w → q ≠ w + 2 → J1 q = IA q := fun q h1 h2 => (m1 q h2).trans (e0 q h1)
  have e17 : J1 w 7 = if rd = true then 1 else 0 := by rw [m1 w (by omega)]; exact e07
  have eb1 : ∀ k, k ≤ 8 → J1 (b + k) = IA (b + k) := fun k hk => e1 _ (by omega) (by omega)
  have ec1 : J1 (c + 12) = IA (c + 12) := e1 _ (by omega) (by omega)
  have hX1 : ∀ lit, wr_X J1 c b rd lit = wr_X IA c b rd lit := fun lit => wr_X_co (eb1 1 (by decide)) ec1
  have hO1' : wr_O J1 c b G rd od := by
    obtain ⟨p1, p2, p3, p4, p5, p6, p7⟩ := hO0
    refine ⟨by rw [show J1 b = IA b from eb1 0 (by decide)]; exact p1, p2, p3, by rw [eb1 7 (by decide)]; exact p4, p5, fun s hs => ?_, fun xs s ys he g hg => ?_⟩
    · rw [eb1 3 (by decide), eb1 4 (by decide), wr_st_co (eb1 1 (by decide)), wr_st_co (eb1 1 (by decide))]
      exact p6 s hs
    · rw [hX1, hX1, eb1 3 (by decide), eb1 4 (by decide)]
      exact p7 xs s ys he g hg
  clear hO0' m2 hJ0
  refine And.intro (Or.inl rfl) ?_
  refine And.intro h0 (And.intro (Nat.le_of_ble_eq_true rfl) (And.intro (Nat.le_of_ble_eq_true rfl) (And.intro (Nat.le_of_ble_eq_true rfl) (Exists.intro _ (And.intro (ct_W_markNeeded (IA := J1) (O := O) hW hC hN ha e17 (wr_H_co (eb1 1 (by decide)) ec1 hH) hO1' (by rw [show J1 b = IA b from eb1 0 (by decide)]; exact w9) w3 (fun k hk => by rw [eb1 5 (by decide), wr_st_co (eb1 1 (by decide))]; exact hou k hk)) ?_)))))
  rintro o2 sh9 FR9 J2 LA9 n9 ⟨z1, z2, z3, z4, hp2⟩
  replace z1 := z1.symm
  subst z1
  replace z2 := z2.symm
  subst z2
  replace z3 := z3.symm
  subst z3
  replace z4 := z4.symm
  subst z4
  obtain ⟨ho, m3, m4⟩ := hp2
  subst ho
  have hNd : ∀ t, t < 315 → (J2 (w + 3) t = 0 ∨ J2 (w + 3) t = 1) ∧ (J2 (w + 3) t = 1 ↔ wr_N IA c b O rd od t) := by
    intro t ht
    have := m4 t ht
    refine ⟨this.1, this.2.trans ?_⟩
    unfold wr_N
    simp only [hX1, eb1 3 (by decide), eb1 4 (by decide), eb1 5 (by decide)]
  clear m4 hO1'
  have e2 : ∀ q, q ≠ w → q ≠ w + 2 → q ≠ w + 3 → J2 q = IA q := fun q h1 h2 h3 => (m3 q h3).trans (e1 q h1 h2)
  have eb2 : ∀ k, k ≤ 8 → J2 (b + k) = IA (b + k) := fun k hk => e2 _ (by omega) (by omega) (by omega)
  have eD2 : J2 (w + 2) = J1 (w + 2) := m3 _ (by omega)
  refine And.intro (Or.inl rfl) ?_
  refine And.intro hC.1 (Exists.intro _ (And.intro hC.2.1 ?_))
  refine And.intro h0 (And.intro (Nat.le_of_ble_eq_true rfl) (And.intro (Nat.le_of_ble_eq_true rfl) (And.intro (Nat.le_of_ble_eq_true rfl) (Exists.intro _ (And.intro (ct_W_numberGates (IA := J2) (m := m) (I := I) (O := O) (G := G) hW hN (by omega) (nW_mv hnW (fun k _ => by rw [show J2 b = IA b from eb2 0 (by decide)]) (fun k _ hk => eb2 k (by omega))) (fun s hs => (hNd s hs).1) (fun s hs => by rw [eD2]; have := hD.2.1 s hs; omega)) ?_)))))
  rintro o3 sh9 FR9 J3 LA9 n9 ⟨z1, z2, z3, z4, hp3⟩
  replace z1 := z1.symm
  subst z1
  replace z2 := z2.symm
  subst z2
  replace z3 := z3.symm
  subst z3
  replace z4 := z4.symm
  subst z4
  obtain ⟨ho, m5, m6, m7, m8, m9⟩ := hp3
  subst ho
  have ewl : nt_wl J2 b m = nt_wl IA b m := nt_wl_co (by rw [show J2 b = IA b from eb2 0 (by decide)]) (eb2 1 (by decide)) m
  rw [ewl, eD2, eb2 2 (by decide)] at m9
  rw [ewl] at m7
  generalize hD0 : J1 (w + 2) = D at *
  generalize hN0 : J2 (w + 3) = N at *
  refine And.intro (Or.inl rfl) ?_
  refine And.intro h0 ?_
  generalize hB : mj_up J3 w 0 0 = B
  have e3 : ∀ q, q < w ∨ w + 6 < q → B q = IA q := fun q hq => by rw [← hB, mj_up_ne (by omega), m5 q (by omega) (by omega) (by omega) (by omega)]; exact e2 q (by omega) (by omega) (by omega)
  have eb : ∀ k, k ≤ 8 → B (b + k) = IA (b + k) := fun k hk => e3 _ (by omega)
  have ec : B (c + 12) = IA (c + 12) := e3 _ (by omega)
  have bw7 : B w 7 = if rd = true then 1 else 0 := by rw [← hB, mj_up_k (by decide), m6 7 (by decide), m3 w (by omega)]; exact e17
  have bw8 : B w 8 = ((wr_ct (wr_pn N) (nt_wl IA b m) : Nat) : Int) := by rw [← hB, mj_up_k (by decide)]; exact m7
  have bw4 : B (w + 4) = J3 (w + 4) := by rw [← hB, mj_up_ne (by omega)]
  have bw5 : B (w + 5) = J3 (w + 5) := by rw [← hB, mj_up_ne (by omega)]
  rw [← bw4] at m8 m9
  rw [← bw5] at m9
  have hTB : wr_T B B w [] := ⟨fun _ _ _ => rfl, fun _ _ => rfl, by rw [← hB, mj_up_at]; rfl, fun i x hx => by simp at hx⟩
  have hXB : ∀ lit, wr_X B c b rd lit = wr_X IA c b rd lit := fun lit => wr_X_co (eb 1 (by decide)) ec
  have hFB : ∀ lit, wr_F B c b rd lit = wr_F IA c b rd lit := fun lit => wr_F_co (eb 1 (by decide)) ec
  have hHB : wr_H B c b rd := wr_H_co (eb 1 (by decide)) ec hH
  have hgG : wr_ct (wr_pn N) (nt_wl IA b m) ≤ G := by
    have := wr_ct_le (P := wr_pn N) (l := nt_wl IA b m)
    omega
  have hrkG : ∀ s ∈ nt_wl IA b m, N s = 1 → wr_rk N D (IA (b + 2)) (nt_wl IA b m) s < wr_ct (wr_pn N) (nt_wl IA b m) := fun s hs h1 => wr_rk_n nd1 hs h1
  have hlf : ∀ s, lf_g I G s → s < 315 := fun s hs => by
    unfold lf_g at hs
    omega
  -- numbers of what is needed
  have hnum : ∀ t, (t ≤ I ∨ lf_g I G t) → wr_N IA c b O rd od t → 0 ≤ B (w + 4) t ∧ B (w + 4) t ≤ 314 := by
    intro t ht hn
    rcases ht with ht | ht
    · rw [m8 t ht]
      omega
    · have h1 := (hNd t (hlf t ht)).2.mpr hn
      have h2 := hrkG t ((hg t).mpr ht) h1
      rw [(m9 t ((hg t).mpr ht) h1).1]
      omega
  clear hB m5 m6 m7
  generalize hgg : wr_ct (wr_pn N) (nt_wl IA b m) = g at *
  have hLB : ∀ lit, wr_L B w c b rd lit = (2 * B (w + 4) (wr_X IA c b rd lit) + wr_F IA c b rd lit % 2).toNat := fun lit => by
    unfold wr_L
    rw [hXB, hFB]
  generalize hsn : (fun k => (B (w + 5) (I + 1 + k)).toNat) = sn
  have hsn2 : ∀ k, sn k = (B (w + 5) (I + 1 + k)).toNat := fun k => by rw [← hsn]
  generalize hl0 : (fun s => wr_L B w c b rd (B (b + 3) s)) = l0
  generalize hr0 : (fun s => wr_L B w c b rd (B (b + 4) s)) = r0'
  have hl1 : ∀ s, l0 s = wr_L B w c b rd (B (b + 3) s) := fun s => by rw [← hl0]
  have hr1 : ∀ s, r0' s = wr_L B w c b rd (B (b + 4) s) := fun s => by rw [← hr0]
  have loop : ∀ (tx : List Int), tx.length ≤ 200 → wr_txt IA c b m I O rd bin od (tx ++ wr_q bin I sn l0 r0' g) → ∀ (t k : Nat) (J : mj_FI), k + t = g → wr_T B J w (tx ++ wr_q bin I sn l0 r0' k) → mj_G m_W_writeText Q 57 [some (.inr (.inr (.inl w))), some (.inr (.inr (.inl c))), some (.inl (if bin = true then 1 else 0)), some (.inl (if rd = true then 1 else 0)), some (.inl ((k + 1 : Nat) : Int))] [] sh FR J LA n 0 0 := by
    intro tx htx htt t
    induction t with
    | zero =>
      intro k J hk hT
      have hk : k = g := by omega
      subst hk
      have hq := wr_q_len (bin := bin) (I := I) (sn := sn) (l := l0) (r := r0') k
      subst hQ
      refine mj_go z_W_writeText [57] 60 ?_
      refine And.intro h0 ?_
      rw [hT.2.1 8 (by decide), bw8]
      refine And.intro (fun d => ?_) (fun d => ?_)
      · refine And.intro h0 ?_
        rw [hT.2.2.1]
        refine ⟨⟨rfl, rfl, rfl, rfl, fun q hq => by rw [hT.1 q (by omega) (by omega)]; exact e3 q hq, _, rfl, by rw [List.length_append]; omega, hT.2.2.1, hT.2.2.2, htt⟩, Nat.le_of_ble_eq_true rfl, Nat.le_of_ble_eq_true rfl⟩
      · simp (disch := (clear d; omega)) only [mj_w_id] at d
        omega
    | succ t ih =>
      intro k J hk hT
      have hq := wr_q_len (bin := bin) (I := I) (sn := sn) (l := l0) (r := r0') k
      obtain ⟨s, s1, s2, s3⟩ := wr_rk_sur (N := N) (D := D) (ow := IA (b + 2)) nd1 hpw (i := k) (show k < wr_ct (wr_pn N) (nt_wl IA b m) by omega)
      have sg := (hg s).mp s1
      have slt := hlf s sg
      obtain ⟨a1', a2'⟩ := m9 s s1 s2
      rw [s3] at a1' a2'
      have sN := (hNd s slt).2.mp s2
      have sod : s ∈ od := (od3 s).mpr sg
      obtain ⟨st3, st4⟩ := hst3 s sg
      have key : ∀ lit, wr_st IA b lit → wr_N IA c b O rd od (wr_X IA c b rd lit) → D (wr_X IA c b rd lit) < D s → 0 ≤ B (w + 4) (wr_X IA c b rd lit) ∧ B (w + 4) (wr_X IA c b rd lit) < ((I + 1 + k : Nat) : Int) := by
        intro lit hl hn hd
        rcases hXs lit hl with z | z
        · rw [m8 _ z]
          omega
        · have n1 := (hNd _ (hlf _ z)).2.mpr hn
          have n2 := wr_rk_lt (D := D) (ow := IA (b + 2)) (t := s) nd1 ((hg _).mpr z) n1 (by unfold wr_lt; exact decide_eq_true (Or.inl hd))
          rw [s3] at n2
          rw [(m9 _ ((hg _).mpr z) n1).1]
          omega
      have dd := hD.2.2 s sod
      have k3 := key _ st3 (fun S q1 q2 => (q2 s sod (sN S q1 q2)).1) (by omega)
      have k4 := key _ st4 (fun S q1 q2 => (q2 s sod (sN S q1 q2)).2) (by omega)
      have hct := ct_W_putGate (LA := LA) (bin := bin) (v := I + 1 + k) (s := s) hW hC hN ha hT (by rw [List.length_append]; omega) bw7 hHB (by omega) a2' slt (by rw [eb 3 (by decide), wr_st_co (eb 1 (by decide)), hXB]; exact ⟨st3, k3⟩) (by rw [eb 4 (by decide), wr_st_co (eb 1 (by decide)), hXB]; exact ⟨st4, k4⟩)
      refine mj_go z_W_writeText [57] 60 ?_
      refine And.intro h0 ?_
      rw [hT.2.1 8 (by decide), bw8]
      refine And.intro (fun d => ?_) (fun d => ?_)
      · simp (disch := (clear d; omega)) only [mj_w_id] at d
        omega
      · clear d
        refine And.intro hC.1 (Exists.intro _ (And.intro hC.2.1 ?_))
        refine And.intro hN.1 ?_
        rw [hT.1 b (by omega) (by omega), show B b = IA b from eb 0 (by decide), w7]
        refine Exists.intro (((I + 1 + k : Nat) : Int)) (And.intro (by first | (rw [mj_w_id (by omega) (by omega)]; done) | (rw [mj_w_id (by omega) (by omega)]; omega) | (unfold mj_w; omega)) ?_)
        refine And.intro h0 (And.intro (Nat.le_of_ble_eq_true rfl) (And.intro (Nat.le_of_ble_eq_true rfl) (And.intro (Nat.le_of_ble_eq_true rfl) (Exists.intro _ (And.intro (hct) ?_)))))
        rintro o5 sh9 FR9 J5 LA9 n9 ⟨z1, z2, z3, z4, hp5⟩
        replace z1 := z1.symm
        subst z1
        replace z2 := z2.symm
        subst z2
        replace z3 := z3.symm
        subst z3
        replace z4 := z4.symm
        subst z4
        obtain ⟨ho, hT5⟩ := hp5
        subst ho
        refine And.intro (Or.inl rfl) ?_
        refine Exists.intro (((k + 1 + 1 : Nat) : Int)) (And.intro (by first | (rw [mj_w_id (by omega) (by omega)]; done) | (rw [mj_w_id (by omega) (by omega)]; omega) | (unfold mj_w; omega)) ?_)
        refine ih (k + 1) J5 (by omega) ?_
        have es : sn k = s := by
          rw [hsn2, a2']
          rfl
        simp only [wr_q]
        rw [es, hl1, hr1, ← List.append_assoc]
        exact hT5
  have tail : ∀ (tx : List Int) (J : mj_FI), tx.length ≤ 100 → tx = wr_h bin I O g ++ (if bin = true then [] else wr_i I) → wr_T B J w tx → mj_G m_W_writeText Q 49 [some (.inr (.inr (.inl w))), some (.inr (.inr (.inl c))), some (.inl (if bin = true then 1 else 0)), some (.inl (if rd = true then 1 else 0)), none] [] sh FR J LA n 0 0 := by
    intro tx J htx he hT
    have hlo := wr_o_len (f := fun k => wr_L B w c b rd (B (b + 5) k)) O
    refine mj_go z_W_writeText [57] 60 ?_
    refine And.intro h0 (And.intro (Nat.le_of_ble_eq_true rfl) (And.intro (Nat.le_of_ble_eq_true rfl) (And.intro (Nat.le_of_ble_eq_true rfl) (Exists.intro _ (And.intro (ct_W_putOutputs (O := O) hW hC hN ha hT (by omega) bw7 hHB (by rw [show B b = IA b from eb 0 (by decide)]; exact w9) w3 (fun k hk => by rw [eb 5 (by decide), wr_st_co (eb 1 (by decide)), hXB]; exact ⟨hou k hk, hnum _ (hXs _ (hou k hk)) (fun S q1 _ => q1 k hk)⟩)) ?_)))))
    rintro o5 sh9 FR9 J5 LA9 n9 ⟨z1, z2, z3, z4, hp5⟩
    replace z1 := z1.symm
    subst z1
    replace z2 := z2.symm
    subst z2
    replace z3 := z3.symm
    subst z3
    replace z4 := z4.symm
    subst z4
    obtain ⟨ho, hT5⟩ := hp5
    subst ho
    refine And.intro (Or.inl rfl) ?_
    refine loop (tx ++ wr_o (fun k => wr_L B w c b rd (B (b + 5) k)) O) (by rw [List.length_append]; omega) ?_ g 0 J5 (by omega) (by simpa [wr_q] using hT5)
    refine ⟨D, N, B (w + 4), sn, hD, hNd, m8, fun s hs h1 => ⟨(m9 s hs h1).1, ?_⟩, ?_⟩
    · rw [hsn2, (m9 s hs h1).2]
      rfl
    · rw [hgg, he, ← hl0, ← hr0]
      simp only [hLB, eb 3 (by decide), eb 4 (by decide), eb 5 (by decide), List.append_assoc]
  refine And.intro hC.1 (Exists.intro _ (And.intro hC.2.1 ?_))
  refine And.intro h0 (And.intro (Nat.le_of_ble_eq_true rfl) (And.intro (Nat.le_of_ble_eq_true rfl) (And.intro (Nat.le_of_ble_eq_true rfl) (Exists.intro _ (And.intro (ct_W_putFirstLine (bin := bin) hW hN (by omega) hTB (by rw [show B b = IA b from eb 0 (by decide)]; exact w7) (by rw [show B b = IA b from eb 0 (by decide)]; exact w9) bw8 w2 w3 (by omega)) ?_)))))
  rintro o4 sh9 FR9 J4 LA9 n9 ⟨z1, z2, z3, z4, hp4⟩
  replace z1 := z1.symm
  subst z1
  replace z2 := z2.symm
  subst z2
  replace z3 := z3.symm
  subst z3
  replace z4 := z4.symm
  subst z4
  obtain ⟨ho, hT4⟩ := hp4
  subst ho
  refine And.intro (Or.inl rfl) ?_
  have hh : ∀ x, (wr_h x I O g).length ≤ 24 := fun x => @wr_h_len x I O g
  have hh1 := hh true
  have hh2 := hh false
  have hi := wr_i_len I
  cases bin with
  | true =>
    refine And.intro (fun d => ?_) (fun d => ?_)
    · clear d
      have := tail (wr_h true I O g) J4 (by omega) (by simp) hT4
      exact this
    · exact absurd (show ¬ mj_w 1 = 0 by decide) d
  | false =>
    refine And.intro (fun d => ?_) (fun d => ?_)
    · exact absurd d (show ¬ ¬ mj_w 0 = 0 by decide)
    · clear d
      refine And.intro hC.1 (Exists.intro _ (And.intro hC.2.1 ?_))
      refine And.intro h0 (And.intro (Nat.le_of_ble_eq_true rfl) (And.intro (Nat.le_of_ble_eq_true rfl) (And.intro (Nat.le_of_ble_eq_true rfl) (Exists.intro _ (And.intro (ct_W_putInputs hW hN (by omega) hT4 (by omega) (by rw [show B b = IA b from eb 0 (by decide)]; exact w7) w2) ?_)))))
      rintro o5 sh9 FR9 J5 LA9 n9 ⟨z1, z2, z3, z4, hp5⟩
      replace z1 := z1.symm
      subst z1
      replace z2 := z2.symm
      subst z2
      replace z3 := z3.symm
      subst z3
      replace z4 := z4.symm
      subst z4
      obtain ⟨ho, hT5⟩ := hp5
      subst ho
      refine And.intro (Or.inl rfl) ?_
      exact tail (wr_h false I O g ++ wr_i I) J5 (by rw [List.length_append]; omega) (by simp) hT5
end WW
