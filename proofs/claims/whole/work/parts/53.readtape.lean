/-! READER: readTape -/
abbrev ab_kd (by0 : Nat → Int) : Prop := by0 0 = 97 ∧ (by0 1 = 97 ∨ by0 1 = 105) ∧ by0 2 = 103 ∧ by0 3 = 32
def ab_bn (by0 : Nat → Int) : Bool := decide (by0 1 = 105)
abbrev ab_bs (bin : Bool) (nu : Nat → Int) : Prop := (1000 < nu 0 ∨ 14 < nu 1 ∨ 16 < nu 3 ∨ 300 < nu 4) ∨ nu 0 < nu 1 + nu 4 ∨ (bin = true ∧ ¬ nu 0 = nu 1 + nu 4)
def ab_ed (by0 : Nat → Int) (len p : Nat) : Option Nat := if p = len then none else if by0 p = 99 then (if by0 (p + 1) = 10 then none else some (p + 1)) else some p
def ab_s0 (f : Nat → Int) : Nat → Int := fun j => if j = 0 then 0 else if j < 1001 then -1 else f j
abbrev ab_C : Type := (Nat × Nat × Nat × Nat) × (Nat → Int) × (Nat → Int) × (Nat → Int) × (Nat → Int) × (Nat → Int)
/-- behind the first line: m I O G, the place p -/
def ab_bd (by0 : Nat → Int) (len : Nat) (bin : Bool) (m I O G p : Nat) (so ow le ri ou : Nat → Int) : (Int × Int) ⊕ ab_C := match ab_in by0 m bin I 1 p so ow with
  | .inl e => .inl e
  | .inr x => match ab_ou by0 m O 0 x.1 ou with
    | .inl e => .inl e
    | .inr y => match ab_gs by0 m bin G (I + 1) y.1 x.2.1 x.2.2 le ri with
      | .inl e => .inl e
      | .inr z => match ab_ed by0 len z.1 with
        | some q => .inl (5, q)
        | none => .inr ((m, I, O, G), z.2.1, z.2.2.1, z.2.2.2.1, z.2.2.2.2, y.2)
/-- the whole text -/
def ab_rd (by0 : Nat → Int) (len : Nat) (so ow le ri ou : Nat → Int) : (Int × Int) ⊕ ab_C := if ab_kd by0 then
    if (ab_L by0 5 4).1 = true then
      if (ab_L by0 5 4).2.2.1 2 = 0 then
        if ab_bs (ab_bn by0) (ab_L by0 5 4).2.2.1 then .inl (4, 0)
        else ab_bd by0 len (ab_bn by0) ((ab_L by0 5 4).2.2.1 0).toNat ((ab_L by0 5 4).2.2.1 1).toNat ((ab_L by0 5 4).2.2.1 3).toNat ((ab_L by0 5 4).2.2.1 4).toNat (ab_L by0 5 4).2.1 so ow le ri ou
      else .inl (3, 0)
    else .inl (2, (ab_L by0 5 4).2.1)
  else .inl (1, 0)
/-- outside of reader and net nothing changes, nor do the tape's bytes -/
def rt_f (IA J : mj_FI) (r b : Nat) : Prop := (∀ q, (q < r ∨ r + 6 < q) → (q < b ∨ b + 8 < q) → J q = IA q) ∧ J (r + 1) = IA (r + 1) ∧ J (b + 2) 0 = IA (b + 2) 0
theorem rt_f.trans {IA J K : mj_FI} {r b : Nat} (h1 : rt_f IA J r b) (h2 : rt_f J K r b) : rt_f IA K r b := ⟨fun q a c => (h2.1 q a c).trans (h1.1 q a c), h2.2.1.trans h1.2.1, h2.2.2.trans h1.2.2⟩
theorem rt_f_up {IA : mj_FI} {r b k : Nat} {x : Int} (hap : rd_ap r b) : rt_f IA (mj_up IA r k x) r b := by
  unfold rd_ap at hap
  exact ⟨fun a h1 h2 => mj_up_ne (by omega), mj_up_ne (by omega), by rw [mj_up_ne (by omega)]⟩
theorem rd_f.rt {IA J : mj_FI} {r b : Nat} {S : Nat → Prop} (h : rd_f IA J r S) (hap : rd_ap r b) (hS : ∀ q, S q → b ≤ q ∧ q ≤ b + 8) (hz : J (b + 2) 0 = IA (b + 2) 0) : rt_f IA J r b := by
  unfold rd_ap at hap
  refine ⟨fun q h1 h2 => h.1 q (by omega) (by omega) (by omega) fun z => ?_, h.1 _ (by omega) (by omega) (by omega) fun z => ?_, hz⟩
  · have := hS q z
    omega
  · have := hS _ z
    omega
theorem nt_wl_co {IA J : mj_FI} {b : Nat} (h1 : J b 10 = IA b 10) (h2 : J (b + 1) = IA (b + 1)) : ∀ v, nt_wl J b v = nt_wl IA b v
  | 0 => rfl
  | v + 1 => by
    simp only [nt_wl]
    rw [h1, h2, nt_wl_co h1 h2 v]
/-- the end of a text that was read to its end -/
def rt_c (J : mj_FI) (r b m I O G : Nat) : Prop :=
  (J r 1 = 7 ∧ 1 ≤ J r 2 ∧ (∃ lit, nU J b I O G lit ∧ J (b + 1) (lit / 2).toNat = -1 ∧ J r 2 = lit / 2) ∧ ∀ lit, nU J b I O G lit → J (b + 1) (lit / 2).toNat = -1 → J r 2 ≤ lit / 2) ∨
  (nNo J b I O G ∧ J r 1 = 8 ∧ ∃ dep ws, ar_F (nF (J (b + 1)) (J (b + 3))) (nF (J (b + 1)) (J (b + 4))) (nt_wl J b m) dep ws ∧ lf_v (lf_g I G) (nF (J (b + 1)) (J (b + 3))) (nF (J (b + 1)) (J (b + 4))) (J (b + 2)) ws (J r 2)) ∨
  (nNo J b I O G ∧ J r 1 = 0 ∧ J r 2 = 0 ∧ ∃ od, ar_T (nF (J (b + 1)) (J (b + 3))) (nF (J (b + 1)) (J (b + 4))) (J (b + 2)) (nt_wl J b m) (J (b + 6)) od ∧ mj_rl (J (b + 7)) od)
theorem cw_rt {IA J : mj_FI} {r b m I O G : Nat} (hap : rd_ap r b) (hf : cw_f IA J r b) (hq : cw_q IA r b m I O G J) (h1 : IA r 1 = 0) (h2 : IA r 2 = 0) : rt_c J r b m I O G := by
  unfold rd_ap at hap
  have e1 : J (b + 1) = IA (b + 1) := hf.1 _ (by omega) (by omega) (by omega) (by omega)
  have e2 : J (b + 2) = IA (b + 2) := hf.1 _ (by omega) (by omega) (by omega) (by omega)
  have e3 : J (b + 3) = IA (b + 3) := hf.1 _ (by omega) (by omega) (by omega) (by omega)
  have e4 : J (b + 4) = IA (b + 4) := hf.1 _ (by omega) (by omega) (by omega) (by omega)
  have e5 : J (b + 5) = IA (b + 5) := hf.1 _ (by omega) (by omega) (by omega) (by omega)
  have eU : nU J b I O G = nU IA b I O G := by
    funext lit
    unfold nU
    rw [e3, e4, e5]
  have ew : nt_wl J b m = nt_wl IA b m := nt_wl_co (hf.2.2 10 (by decide)) e1 m
  unfold rt_c nNo
  unfold cw_q nNo at hq
  rw [eU, ew, e1, e2, e3, e4]
  rw [h1, h2] at hq
  exact hq
theorem nW_mv {IA J : mj_FI} {b m I O G : Nat} (h : nW IA b m I O G) (h0 : ∀ k, k ≠ 8 → J b k = IA b k) (e : ∀ k, 1 ≤ k → k ≤ 5 → J (b + k) = IA (b + k)) : nW J b m I O G := by
  unfold nW at h ⊢
  rw [h0 9 (by decide), h0 10 (by decide), h0 11 (by decide), h0 12 (by decide), e 1 (by decide) (by decide), e 2 (by decide) (by decide), e 3 (by decide) (by decide), e 4 (by decide) (by decide), e 5 (by decide) (by decide)]
  exact h
/-- what readTape leaves -/
def rt_q (R : (Int × Int) ⊕ ab_C) (J : mj_FI) (r b : Nat) : Prop := match R with
  | .inl e => J r 1 = e.1 ∧ J r 2 = e.2
  | .inr c => nW J b c.1.1 c.1.2.1 c.1.2.2.1 c.1.2.2.2 ∧ J (b + 1) = c.2.1 ∧ J (b + 2) = c.2.2.1 ∧ J (b + 3) = c.2.2.2.1 ∧ J (b + 4) = c.2.2.2.2.1 ∧ J (b + 5) = c.2.2.2.2.2 ∧ rt_c J r b c.1.1 c.1.2.1 c.1.2.2.1 c.1.2.2.2
section RR
variable {sh : mj_Sh} {FR : mj_FR} {IA : mj_FI} {LA : mj_LA} {n r b : Nat}
/-- the end: the tape is empty again -/
theorem rt_end (h : isRd sh FR n r b) (hap : rd_ap r b) {R : (Int × Int) ⊕ ab_C} {J : mj_FI} (hf : rt_f IA J r b) (hq : rt_q R J r b) :
    mj_G m_R_readTape (mj_po (fun o J => o = .inl none ∧ rt_f IA J r b ∧ J r 0 = 0 ∧ rt_q R J r b) sh FR LA n) 61 [some (.inr (.inr (.inl r)))] [] sh FR J LA n 0 0 := by
  unfold rd_ap at hap
  obtain ⟨h0, r3, r4, r5, r6, r7, a1, a2, a3, a4, s0, s1, a5, a6⟩ := h
  have hb : ∀ k, k ≤ 8 → mj_up J r 0 0 (b + k) = J (b + k) := fun k hk => mj_up_ne (by omega)
  refine mj_go z_R_readTape [] 60 ?_
  refine And.intro h0 ?_
  refine ⟨⟨rfl, rfl, rfl, rfl, rfl, hf.trans (rt_f_up hap), mj_up_at, ?_⟩, Nat.le_of_ble_eq_true rfl, Nat.le_of_ble_eq_true rfl⟩
  cases R with
  | inl e => exact ⟨by rw [mj_up_k (by decide)]; exact hq.1, by rw [mj_up_k (by decide)]; exact hq.2⟩
  | inr c =>
    obtain ⟨q1, q2, q3, q4, q5, q6, q7⟩ := hq
    have b0 : mj_up J r 0 0 b = J b := hb 0 (by decide)
    have hU : nU (mj_up J r 0 0) b c.1.2.1 c.1.2.2.1 c.1.2.2.2 = nU J b c.1.2.1 c.1.2.2.1 c.1.2.2.2 := by
      funext lit
      unfold nU
      rw [hb 3 (by decide), hb 4 (by decide), hb 5 (by decide)]
    have ew : nt_wl (mj_up J r 0 0) b c.1.1 = nt_wl J b c.1.1 := nt_wl_co (by rw [b0]) (hb 1 (by decide)) _
    refine ⟨nW_mv q1 (fun k _ => by rw [b0]) (fun k _ hk => hb k (by omega)), by rw [hb 1 (by decide)]; exact q2, by rw [hb 2 (by decide)]; exact q3, by rw [hb 3 (by decide)]; exact q4, by rw [hb 4 (by decide)]; exact q5, by rw [hb 5 (by decide)]; exact q6, ?_⟩
    unfold rt_c nNo
    unfold rt_c nNo at q7
    rw [hU, ew, hb 1 (by decide), hb 2 (by decide), hb 3 (by decide), hb 4 (by decide), hb 6 (by decide), hb 7 (by decide), mj_up_k (by decide), mj_up_k (by decide)]
    exact q7
/-- the state between two stages -/
def rt_S (IA J : mj_FI) (r b len : Nat) (bin : Bool) (p m I O G : Nat) (so ow le ri ou : Nat → Int) : Prop := rt_f IA J r b ∧ J r 0 = (len : Int) ∧ J r 9 = (if bin = true then 1 else 0) ∧ J r 8 = (p : Int) ∧ J r 1 = 0 ∧ J r 2 = 0 ∧
  J b 9 = (m : Int) ∧ J b 10 = (I : Int) ∧ J b 11 = (G : Int) ∧ J b 12 = (O : Int) ∧ J (b + 1) = so ∧ J (b + 2) = ow ∧ J (b + 3) = le ∧ J (b + 4) = ri ∧ J (b + 5) = ou
theorem rt_S.by {J : mj_FI} {len p m I O G : Nat} {bin : Bool} {so ow le ri ou : Nat → Int} (h : rt_S IA J r b len bin p m I O G so ow le ri ou) (hl : IA r 0 = (len : Int)) : rd_by J r = rd_by IA r := rd_by_eq (by rw [h.2.1, hl]) h.1.2.1
set_option maxHeartbeats 1000000 in
/-- from the inputs on -/
theorem rt_body (h : isRd sh FR n r b) (hN : isNet sh FR n b) (hap : rd_ap r b) {J : mj_FI} {len p m I O G : Nat} {bin : Bool} {so ow le ri ou : Nat → Int} (hlen : IA r 0 = (len : Int)) (hl2 : len ≤ 8192) (hS : rt_S IA J r b len bin p m I O G so ow le ri ou) (hp : p ≤ len) (hm : m ≤ 1000) (hI : I ≤ 14) (hO : O ≤ 16) (hG : G ≤ 300) (hIG : I + G ≤ m) (hbm : bin = true → m = I + G)
    (hs0 : so 0 = 0) (hs1 : ∀ j, 1 ≤ j → j < 1001 → so j = -1) {R : (Int × Int) ⊕ ab_C} (hR : ab_bd (rd_by IA r) len bin m I O G p so ow le ri ou = R) :
    mj_G m_R_readTape (mj_po (fun o J => o = .inl none ∧ rt_f IA J r b ∧ J r 0 = 0 ∧ rt_q R J r b) sh FR LA n) 29 [some (.inr (.inr (.inl r)))] [] sh FR J LA n 0 0 := by
  have hRd := h
  obtain ⟨h0, r3, r4, r5, r6, r7, a1, a2, a3, a4, s0, s1, a5, a6⟩ := h
  have hby := hS.by hlen
  have hen := rd_by_en hlen
  have hap' := hap
  unfold rd_ap at hap'
  obtain ⟨s1, s2, s3, s4, s5, s6, s7, s8, s9, s10, s11, s12, s13, s14, s15⟩ := hS
  unfold ab_bd at hR
  have hV1 : ab_V m 1 so ow := ⟨hs0, fun j j1 j2 => Or.inl (hs1 j j1 j2), fun i i1 i2 => by omega⟩
  have hso0 : ∀ j, j < 1001 → -1 ≤ J (b + 1) j ∧ J (b + 1) j < 315 := by
    rw [s11]
    intro j hj
    by_cases e : j = 0
    · subst e
      omega
    · have := hs1 j (by omega) hj
      omega
  refine mj_go z_R_readTape [61] 60 ?_
  refine And.intro h0 (And.intro (Nat.le_of_ble_eq_true rfl) (And.intro (Nat.le_of_ble_eq_true rfl) (And.intro (Nat.le_of_ble_eq_true rfl) (Exists.intro _ (And.intro (ct_R_takeInputs hRd hN hap s2 hl2 s4 hp s7 hm s8 hI s3 hso0) ?_)))))
  rintro o1 sh9 FR9 J1 LA9 n9 ⟨z1, z2, z3, z4, hp1⟩
  replace z1 := z1.symm
  subst z1
  replace z2 := z2.symm
  subst z2
  replace z3 := z3.symm
  subst z3
  replace z4 := z4.symm
  subst z4
  rw [hby, s11, s12] at hp1
  obtain ⟨f1, gz1, g1⟩ := hp1
  have F1 : rt_f IA J1 r b := s1.trans (f1.rt hap (by unfold rd_S2; omega) gz1)
  generalize hX : ab_in (rd_by IA r) m bin I 1 p so ow = X at hR g1
  cases X with
  | inl e =>
    obtain ⟨g1, g2, g3⟩ := g1
    subst g1
    subst hR
    refine And.intro (Or.inl rfl) ?_
    refine And.intro (fun c => ?_) (fun c => ?_)
    · exact rt_end hRd hap F1 ⟨g2, g3⟩
    · exact absurd (by decide) c
  | inr x =>
    obtain ⟨x1, x2, x3⟩ := x
    obtain ⟨g0, g1, g2, g3, g4, g5⟩ := g1
    obtain ⟨w1, w2, w3⟩ := ab_in_w hm hen I 1 p so ow _ (by decide) hp hV1 (fun z => ⟨by have := hbm z; omega, hs1⟩) hX
    have w1 : x1 ≤ len := w1
    have w2 : ab_V m (1 + I) x2 x3 := w2
    have w3 : bin = true → ∀ j, 1 + I ≤ j → j < 1001 → x2 j = -1 := w3
    have g1 : J1 r 8 = (x1 : Int) := g1
    have g2 : J1 (b + 1) = x2 := g2
    have g3 : J1 (b + 2) = x3 := g3
    subst g0
    have eb : J1 b = J b := f1.1 b (by omega) (by omega) (by omega) (by unfold rd_S2; omega)
    have e0 : J1 r 0 = (len : Int) := (f1.2 0 (by decide) (by decide) (by decide)).trans s2
    have e9 : J1 r 9 = if bin = true then 1 else 0 := (f1.2 9 (by decide) (by decide) (by decide)).trans s3
    have eB3 : J1 (b + 3) = le := (f1.1 _ (by omega) (by omega) (by omega) (by unfold rd_S2; omega)).trans s13
    have eB4 : J1 (b + 4) = ri := (f1.1 _ (by omega) (by omega) (by omega) (by unfold rd_S2; omega)).trans s14
    have eB5 : J1 (b + 5) = ou := (f1.1 _ (by omega) (by omega) (by omega) (by unfold rd_S2; omega)).trans s15
    have hby1 : rd_by J1 r = rd_by IA r := rd_by_eq (by rw [e0, hlen]) F1.2.1
    have hR : (match ab_ou (rd_by IA r) m O 0 x1 ou with
      | .inl e => .inl e
      | .inr y => match ab_gs (rd_by IA r) m bin G (I + 1) y.1 x2 x3 le ri with
        | .inl e => .inl e
        | .inr z => match ab_ed (rd_by IA r) len z.1 with
          | some q => .inl (5, (q : Int))
          | none => .inr ((m, I, O, G), z.2.1, z.2.2.1, z.2.2.2.1, z.2.2.2.2, y.2)) = R := hR
    refine And.intro (Or.inl rfl) ?_
    refine And.intro (fun c => ?_) (fun c => ?_)
    · exact absurd c (by decide)
    · refine And.intro h0 (And.intro (Nat.le_of_ble_eq_true rfl) (And.intro (Nat.le_of_ble_eq_true rfl) (And.intro (Nat.le_of_ble_eq_true rfl) (Exists.intro _ (And.intro (ct_R_takeOutputs hRd hN hap e0 hl2 g1 w1 (by rw [eb]; exact s7) hm (by rw [eb]; exact s10) hO) ?_)))))
      rintro o2 sh9 FR9 J2 LA9 n9 ⟨z1, z2, z3, z4, hp2⟩
      replace z1 := z1.symm
      subst z1
      replace z2 := z2.symm
      subst z2
      replace z3 := z3.symm
      subst z3
      replace z4 := z4.symm
      subst z4
      rw [hby1, eB5] at hp2
      obtain ⟨f2, k1⟩ := hp2
      have F2 : rt_f IA J2 r b := F1.trans (f2.rt hap (by unfold rd_S1; omega) (by rw [f2.1 _ (by omega) (by omega) (by omega) (by unfold rd_S1; omega)]))
      generalize hY : ab_ou (rd_by IA r) m O 0 x1 ou = Y at hR k1
      cases Y with
      | inl e =>
        obtain ⟨k1, k2, k3⟩ := k1
        subst k1
        subst hR
        refine And.intro (Or.inl rfl) ?_
        refine And.intro (fun d => ?_) (fun d => ?_)
        · exact rt_end hRd hap F2 ⟨k2, k3⟩
        · exact absurd (by decide) d
      | inr y =>
        obtain ⟨y1, y2⟩ := y
        obtain ⟨k0, k1, k2, k3, k4⟩ := k1
        obtain ⟨v1, v2, v3⟩ := ab_ou_w hen O 0 x1 ou _ w1 hY
        have v1 : y1 ≤ len := v1
        have v2 : ∀ j, 0 ≤ j → j < 0 + O → 0 ≤ y2 j ∧ y2 j ≤ 2 * (m : Int) + 1 := v2
        have k1 : J2 r 8 = (y1 : Int) := k1
        have k2 : J2 (b + 5) = y2 := k2
        subst k0
        have eb2 : J2 b = J b := (f2.1 b (by omega) (by omega) (by omega) (by unfold rd_S1; omega)).trans eb
        have e02 : J2 r 0 = (len : Int) := (f2.2 0 (by decide) (by decide) (by decide)).trans e0
        have e92 : J2 r 9 = if bin = true then 1 else 0 := (f2.2 9 (by decide) (by decide) (by decide)).trans e9
        have d1 : J2 (b + 1) = x2 := (f2.1 _ (by omega) (by omega) (by omega) (by unfold rd_S1; omega)).trans g2
        have d2 : J2 (b + 2) = x3 := (f2.1 _ (by omega) (by omega) (by omega) (by unfold rd_S1; omega)).trans g3
        have d3 : J2 (b + 3) = le := (f2.1 _ (by omega) (by omega) (by omega) (by unfold rd_S1; omega)).trans eB3
        have d4 : J2 (b + 4) = ri := (f2.1 _ (by omega) (by omega) (by omega) (by unfold rd_S1; omega)).trans eB4
        have hby2 : rd_by J2 r = rd_by IA r := rd_by_eq (by rw [e02, hlen]) F2.2.1
        have hso2 : ∀ j, j < 1001 → -1 ≤ x2 j ∧ x2 j < 315 := by
          intro j hj
          by_cases e : j = 0
          · subst e
            have := w2.1
            omega
          · rcases w2.2.1 j (by omega) hj with q | ⟨q1, q2, _, _⟩ <;> omega
        have hR : (match ab_gs (rd_by IA r) m bin G (I + 1) y1 x2 x3 le ri with
          | .inl e => .inl e
          | .inr z => match ab_ed (rd_by IA r) len z.1 with
            | some q => .inl (5, (q : Int))
            | none => .inr ((m, I, O, G), z.2.1, z.2.2.1, z.2.2.2.1, z.2.2.2.2, y2)) = R := hR
        refine And.intro (Or.inl rfl) ?_
        refine And.intro (fun d => ?_) (fun d => ?_)
        · exact absurd d (by decide)
        · refine And.intro h0 (And.intro (Nat.le_of_ble_eq_true rfl) (And.intro (Nat.le_of_ble_eq_true rfl) (And.intro (Nat.le_of_ble_eq_true rfl) (Exists.intro _ (And.intro (ct_R_takeGates hRd hN hap e02 hl2 k1 v1 (by rw [eb2]; exact s7) hm (by rw [eb2]; exact s8) hI (by rw [eb2]; exact s9) hG e92 (by rw [d1]; exact hso2)) ?_)))))
          rintro o3 sh9 FR9 J3 LA9 n9 ⟨z1, z2, z3, z4, hp3⟩
          replace z1 := z1.symm
          subst z1
          replace z2 := z2.symm
          subst z2
          replace z3 := z3.symm
          subst z3
          replace z4 := z4.symm
          subst z4
          rw [hby2, d1, d2, d3, d4] at hp3
          obtain ⟨f3, gz3, t1⟩ := hp3
          have F3 : rt_f IA J3 r b := F2.trans (f3.rt hap (by unfold rd_S4; omega) gz3)
          generalize hZ : ab_gs (rd_by IA r) m bin G (I + 1) y1 x2 x3 le ri = Z at hR t1
          cases Z with
          | inl e =>
            obtain ⟨t1, t2, t3⟩ := t1
            subst t1
            subst hR
            refine And.intro (Or.inl rfl) ?_
            refine And.intro (fun d2 => ?_) (fun d2 => ?_)
            · exact rt_end hRd hap F3 ⟨t2, t3⟩
            · exact absurd (by decide) d2
          | inr z =>
            obtain ⟨z1, z2, z3, z4, z5⟩ := z
            obtain ⟨t0, t1, t2, t3, t4, t5, t6, t7⟩ := t1
            obtain ⟨u1, u2, u3, u4⟩ := ab_gs_w hm hen (fun i => (rd_by_in IA r i).1) G (I + 1) y1 x2 x3 le ri _ (by omega) v1 (by rw [Nat.add_comm]; exact w2) (fun q => ⟨by have := hbm q; omega, fun j j1 j2 => w3 q j (by omega) j2⟩) hZ
            have u1 : z1 ≤ len := u1
            have u2 : ab_V m (I + 1 + G) z2 z3 := u2
            have u3 : ∀ j, I + 1 ≤ j → j < I + 1 + G → (0 ≤ z4 j ∧ z4 j ≤ 2 * (m : Int) + 1) ∧ 0 ≤ z5 j ∧ z5 j ≤ 2 * (m : Int) + 1 := u3
            have t1 : J3 r 8 = (z1 : Int) := t1
            have t2 : J3 (b + 1) = z2 := t2
            have t3 : J3 (b + 2) = z3 := t3
            have t4 : J3 (b + 3) = z4 := t4
            have t5 : J3 (b + 4) = z5 := t5
            subst t0
            have eb3 : J3 b = J b := (f3.1 b (by omega) (by omega) (by omega) (by unfold rd_S4; omega)).trans eb2
            have e03 : J3 r 0 = (len : Int) := (f3.2 0 (by decide) (by decide) (by decide)).trans e02
            have d5 : J3 (b + 5) = y2 := (f3.1 _ (by omega) (by omega) (by omega) (by unfold rd_S4; omega)).trans k2
            have er1 : J3 r 1 = 0 := t6.trans (k3.trans (g4.trans s5))
            have er2 : J3 r 2 = 0 := t7.trans (k4.trans (g5.trans s6))
            have hby3 : rd_by J3 r = rd_by IA r := rd_by_eq (by rw [e03, hlen]) F3.2.1
            have hnW : nW J3 b m I O G := by
              unfold nW
              rw [eb3, t2, t3, t4, t5, d5]
              exact ⟨hm, hI, hO, hG, hIG, s7, s8, s9, s10, by rw [show I + G + 1 = I + 1 + G by omega]; exact u2, u3, fun k hk => v2 k (by omega) (by omega)⟩
            have hed : rd_end J3 r z1 = ab_ed (rd_by IA r) len z1 := by
              unfold rd_end ab_ed
              rw [hby3, e03]
              by_cases e : z1 = len
              · rw [if_pos e, if_pos (by omega)]
              · rw [if_neg e, if_neg (by omega)]
            have hR : (match ab_ed (rd_by IA r) len z1 with
              | some q => .inl (5, (q : Int))
              | none => .inr ((m, I, O, G), z2, z3, z4, z5, y2)) = R := hR
            refine And.intro (Or.inl rfl) ?_
            refine And.intro (fun d2 => ?_) (fun d2 => ?_)
            · exact absurd d2 (by decide)
            · refine And.intro h0 (And.intro (Nat.le_of_ble_eq_true rfl) (And.intro (Nat.le_of_ble_eq_true rfl) (And.intro (Nat.le_of_ble_eq_true rfl) (Exists.intro _ (And.intro (ct_R_takeEnd hRd t1 (by omega) (by omega) (by omega)) ?_)))))
              rintro r9 sh9 FR9 IA9 LA9 n9 ⟨z0, z1, z2, z3, z4, z5⟩
              subst z0
              replace z1 := z1.symm
              subst z1
              replace z2 := z2.symm
              subst z2
              replace z3 := z3.symm
              subst z3
              replace z4 := z4.symm
              subst z4
              replace z5 := z5.symm
              subst z5
              refine And.intro (Or.inl rfl) ?_
              rw [hed]
              generalize ab_ed (rd_by IA r) len z1 = E at hR
              cases E with
              | some q =>
                subst hR
                refine And.intro (fun d3 => ?_) (fun d3 => ?_)
                · exact rt_end hRd hap (F3.trans ((rt_f_up hap).trans (rt_f_up hap))) ⟨(mj_up_k (F := mj_up J3 r 1 5) (show (1 : Nat) ≠ 2 by decide)).trans mj_up_at, mj_up_at (F := mj_up J3 r 1 5)⟩
                · exact absurd (show mj_w 0 = 0 by decide) d3
              | none =>
                subst hR
                refine And.intro (fun d3 => ?_) (fun d3 => ?_)
                · exact absurd d3 (by decide)
                · refine And.intro h0 (And.intro (Nat.le_of_ble_eq_true rfl) (And.intro (Nat.le_of_ble_eq_true rfl) (And.intro (Nat.le_of_ble_eq_true rfl) (Exists.intro _ (And.intro (ct_R_checkWhole hRd hN hap hnW) ?_)))))
                  rintro o4 sh9 FR9 J4 LA9 n9 ⟨z1, z2, z3, z4, hp4⟩
                  replace z1 := z1.symm
                  subst z1
                  replace z2 := z2.symm
                  subst z2
                  replace z3 := z3.symm
                  subst z3
                  replace z4 := z4.symm
                  subst z4
                  obtain ⟨ho, c1, c2⟩ := hp4
                  subst ho
                  refine And.intro (Or.inl rfl) ?_
                  have hc := cw_rt hap c1 c2 er1 er2
                  have hrow : ∀ k, 1 ≤ k → k ≤ 5 → J4 (b + k) = J3 (b + k) := fun k k1 k2 => c1.1 _ (by omega) (by omega) (by omega) (by omega)
                  refine rt_end hRd hap (F3.trans ⟨fun q q1 q2 => c1.1 q (by omega) (by omega) (by omega) (by omega), c1.1 _ (by omega) (by omega) (by omega) (by omega), by rw [c1.1 _ (by omega) (by omega) (by omega) (by omega)]⟩) ⟨nW_mv hnW c1.2.2 hrow, (hrow 1 (by decide) (by decide)).trans t2, (hrow 2 (by decide) (by decide)).trans t3, (hrow 3 (by decide) (by decide)).trans t4, (hrow 4 (by decide) (by decide)).trans t5, (hrow 5 (by decide) (by decide)).trans d5, hc⟩
set_option maxHeartbeats 1000000 in
theorem ct_R_readTape (h : isRd sh FR n r b) (hN : isNet sh FR n b) (hap : rd_ap r b) {len : Nat} (hlen : IA r 0 = (len : Int)) (hl2 : len ≤ 8192) :
    mj_Ct m_R_readTape [.inr (.inr (.inl r))] sh FR IA LA n (mj_po (fun o J => o = .inl none ∧ rt_f IA J r b ∧ J r 0 = 0 ∧ rt_q (ab_rd (rd_by IA r) len (ab_s0 (IA (b + 1))) (IA (b + 2)) (IA (b + 3)) (IA (b + 4)) (IA (b + 5))) J r b) sh FR LA n) := by
  have hRd := h
  obtain ⟨h0, r3, r4, r5, r6, r7, a1, a2, a3, a4, s0, s1, a5, a6⟩ := h
  have hen := rd_by_en hlen
  have hap' := hap
  unfold rd_ap at hap'
  generalize hR : ab_rd (rd_by IA r) len (ab_s0 (IA (b + 1))) (IA (b + 2)) (IA (b + 3)) (IA (b + 4)) (IA (b + 5)) = R
  generalize hJ0 : mj_up (mj_up (mj_up IA r 8 0) r 1 0) r 2 0 = J0
  have F0 : rt_f IA J0 r b := by
    rw [← hJ0]
    exact ((rt_f_up hap).trans (rt_f_up hap)).trans (rt_f_up hap)
  have e0 : J0 r 0 = (len : Int) := by rw [← hJ0, mj_up_k (by decide), mj_up_k (by decide), mj_up_k (by decide)]; exact hlen
  have e1 : J0 r 1 = 0 := by rw [← hJ0, mj_up_k (by decide), mj_up_at]
  have e2 : J0 r 2 = 0 := by rw [← hJ0, mj_up_at]
  have eb : ∀ k, k ≤ 8 → J0 (b + k) = IA (b + k) := fun k hk => by rw [← hJ0, mj_up_ne (by omega), mj_up_ne (by omega), mj_up_ne (by omega)]
  have hby0 : rd_by J0 r = rd_by IA r := rd_by_eq (by rw [e0, hlen]) F0.2.1
  unfold ab_rd at hR
  refine mj_Ct_of (by decide +kernel) (by decide) (Nat.le_of_ble_eq_true rfl) ?_
  refine mj_go z_R_readTape [29, 61] 60 ?_
  refine And.intro h0 ?_
  refine And.intro h0 ?_
  refine And.intro h0 ?_
  rw [hJ0]
  refine And.intro h0 (And.intro (Nat.le_of_ble_eq_true rfl) (And.intro (Nat.le_of_ble_eq_true rfl) (And.intro (Nat.le_of_ble_eq_true rfl) (Exists.intro _ (And.intro (ct_R_takeKind hRd (by omega) (by omega)) ?_)))))
  rintro o1 sh9 FR9 J1 LA9 n9 ⟨z1, z2, z3, z4, hp1⟩
  replace z1 := z1.symm
  subst z1
  replace z2 := z2.symm
  subst z2
  replace z3 := z3.symm
  subst z3
  replace z4 := z4.symm
  subst z4
  unfold rd_kd at hp1
  rw [hby0] at hp1
  rcases hp1 with ⟨k1, k2, k3⟩ | ⟨k1, k2, k3⟩
  · rw [if_pos (show ab_kd (rd_by IA r) from k1)] at hR
    subst k2
    have F1 : rt_f IA J1 r b := by
      rw [k3]
      exact (F0.trans (rt_f_up hap)).trans (rt_f_up hap)
    have q0 : J1 r 0 = (len : Int) := by rw [k3, mj_up_k (by decide), mj_up_k (by decide)]; exact e0
    have q1 : J1 r 1 = 0 := by rw [k3, mj_up_k (by decide), mj_up_k (by decide)]; exact e1
    have q2 : J1 r 2 = 0 := by rw [k3, mj_up_k (by decide), mj_up_k (by decide)]; exact e2
    have q8 : J1 r 8 = ((4 : Nat) : Int) := by rw [k3, mj_up_at]; rfl
    have q9 : J1 r 9 = if ab_bn (rd_by IA r) = true then 1 else 0 := by
      rw [k3, mj_up_k (by decide), mj_up_at]
      unfold ab_bn
      simp only [decide_eq_true_eq]
    have qb : ∀ k, k ≤ 8 → J1 (b + k) = IA (b + k) := fun k hk => by rw [k3, mj_up_ne (by omega), mj_up_ne (by omega)]; exact eb k hk
    have hby1 : rd_by J1 r = rd_by IA r := rd_by_eq (by rw [q0, hlen]) F1.2.1
    have h4 : 4 ≤ len := by
      have := k1.2.2.2
      have z := hen 3
      omega
    clear k3 hJ0
    refine And.intro (Or.inl rfl) ?_
    refine And.intro (fun c => ?_) (fun c => ?_)
    · exact absurd c (by decide)
    · refine And.intro h0 (And.intro (Nat.le_of_ble_eq_true rfl) (And.intro (Nat.le_of_ble_eq_true rfl) (And.intro (Nat.le_of_ble_eq_true rfl) (Exists.intro _ (And.intro (ct_R_takeSizes hRd hN (pos := 4) q8 (by decide) (by omega) (by omega) (by rw [q9]; cases ab_bn (rd_by IA r) <;> decide)) ?_)))))
      rintro o2 sh9 FR9 J2 LA9 n9 ⟨z1, z2, z3, z4, hp2⟩
      replace z1 := z1.symm
      subst z1
      replace z2 := z2.symm
      subst z2
      replace z3 := z3.symm
      subst z3
      replace z4 := z4.symm
      subst z4
      have hlp := rd_ln_lp (r := r) (code := 2) (cnt := 5) q8
      generalize (rd_ln r 2 5 5 0 J1).2 = K at hp2 hlp
      generalize (rd_ln r 2 5 5 0 J1).1 = ok at hp2 hlp
      obtain ⟨l1, l2, l3, l4, l5⟩ := hlp
      rw [hby1] at l1 l4 l5
      have F2 : rt_f IA K r b := F1.trans ⟨fun q a c => l2 q (by omega) (by omega) (by omega), l2 _ (by omega) (by omega) (by omega), by rw [l2 _ (by omega) (by omega) (by omega)]⟩
      rcases hp2 with ⟨p1, p2, p3⟩ | ⟨p1, p2, p3, p4⟩ | ⟨p1, p2, p3, p4, p5⟩ | ⟨p1, p2, p3, p4, p5⟩
      · rw [p1] at l1 l5
        rw [← l1, if_neg (by decide)] at hR
        subst p2
        subst p3
        subst hR
        refine And.intro (Or.inl rfl) ?_
        refine And.intro (fun d => ?_) (fun d => ?_)
        · exact rt_end hRd hap F2 (l5 rfl)
        · exact absurd (by decide) d
      · rw [p1] at l1 l4
        rw [← l1, if_pos rfl] at hR
        obtain ⟨n1, _⟩ := l4 rfl
        rw [(n1 2 (by decide)).1] at p2
        rw [if_neg p2] at hR
        subst p3
        subst hR
        refine And.intro (Or.inl rfl) ?_
        refine And.intro (fun d => ?_) (fun d => ?_)
        · rw [p4]
          exact rt_end hRd hap (F2.trans ((rt_f_up hap).trans (rt_f_up hap))) ⟨(mj_up_k (show (1 : Nat) ≠ 2 by decide)).trans mj_up_at, mj_up_at⟩
        · exact absurd (by decide) d
      · rw [p1] at l1 l4
        rw [← l1, if_pos rfl] at hR
        obtain ⟨n1, _⟩ := l4 rfl
        rw [(n1 2 (by decide)).1] at p2
        have hbs : ab_bs (ab_bn (rd_by IA r)) (ab_L (rd_by IA r) 5 4).2.2.1 := by
          unfold rd_bs at p3
          rw [(n1 0 (by decide)).1, (n1 1 (by decide)).1, (n1 3 (by decide)).1, (n1 4 (by decide)).1, l3 9 (by decide) (by decide) (by decide), q9] at p3
          rcases p3 with p3 | p3 | ⟨p3, p6⟩
          · exact Or.inl p3
          · exact Or.inr (Or.inl p3)
          · refine Or.inr (Or.inr ⟨?_, p6⟩)
            cases hz : ab_bn (rd_by IA r) with
            | true => rfl
            | false =>
              rw [hz] at p3
              exact absurd rfl p3
        rw [if_pos p2, if_pos hbs] at hR
        subst p4
        subst hR
        refine And.intro (Or.inl rfl) ?_
        refine And.intro (fun d => ?_) (fun d => ?_)
        · rw [p5]
          exact rt_end hRd hap (F2.trans ((rt_f_up hap).trans (rt_f_up hap))) ⟨(mj_up_k (show (1 : Nat) ≠ 2 by decide)).trans mj_up_at, mj_up_at⟩
        · exact absurd (by decide) d
      · rw [p1] at l1 l4
        rw [← l1, if_pos rfl] at hR
        have hn := fun j => ab_L_n (j := j) l1.symm
        have hle := ab_L_e (cnt := 5) (p := 4) hen h4
        obtain ⟨n1, n2, n3, n4⟩ := l4 rfl
        rw [(n1 2 (by decide)).1] at p2
        have hbs : ¬ ab_bs (ab_bn (rd_by IA r)) (ab_L (rd_by IA r) 5 4).2.2.1 := by
          intro z
          refine p3 ?_
          unfold rd_bs
          rw [(n1 0 (by decide)).1, (n1 1 (by decide)).1, (n1 3 (by decide)).1, (n1 4 (by decide)).1, l3 9 (by decide) (by decide) (by decide), q9]
          rcases z with z | z | ⟨z1, z2⟩
          · exact Or.inl z
          · exact Or.inr (Or.inl z)
          · exact Or.inr (Or.inr ⟨by rw [if_pos z1]; decide, z2⟩)
        rw [if_pos p2, if_neg hbs] at hR
        rw [(n1 0 (by decide)).1, (n1 1 (by decide)).1, (n1 3 (by decide)).1, (n1 4 (by decide)).1] at p5
        have m0 := hn 0
        have m1 := hn 1
        have m3 := hn 3
        have m4 := hn 4
        generalize (ab_L (rd_by IA r) 5 4).2.2.1 = nu at *
        generalize (ab_L (rd_by IA r) 5 4).2.1 = p at *
        generalize hbin : ab_bn (rd_by IA r) = bin at *
        have hb2 : ¬ ((1000 < nu 0 ∨ 14 < nu 1 ∨ 16 < nu 3 ∨ 300 < nu 4) ∨ nu 0 < nu 1 + nu 4 ∨ (bin = true ∧ ¬ nu 0 = nu 1 + nu 4)) := hbs
        have hb3 : bin = true → nu 0 = nu 1 + nu 4 := fun z => Classical.byContradiction fun z2 => hb2 (Or.inr (Or.inr ⟨z, z2⟩))
        subst p4
        refine And.intro (Or.inl rfl) ?_
        refine And.intro (fun d => ?_) (fun d => ?_)
        · exact absurd d (by decide)
        · have rB : ∀ q, q ≠ b → q ≠ b + 1 → J2 q = K q := fun q z1 z2 => by
            rw [p5]
            unfold nt_begin
            rw [mj_up_ne z2]
            funext j
            simp only [mj_fl, z2, false_and, if_false]
            rw [mj_up_ne z1, mj_up_ne z1, mj_up_ne z1, mj_up_ne z1]
          have rb : ∀ k, J2 b k = mj_up (mj_up (mj_up (mj_up K b 9 (nu 0)) b 10 (nu 1)) b 12 (nu 3)) b 11 (nu 4) b k := fun k => by
            rw [p5]
            unfold nt_begin
            rw [mj_up_ne (by omega)]
            have : ¬ b = b + 1 := by omega
            simp only [mj_fl, this, false_and, if_false]
          have rb1 : J2 (b + 1) = ab_s0 (IA (b + 1)) := by
            rw [p5]
            unfold nt_begin
            rw [mj_up_row]
            funext j
            unfold mj_u ab_s0
            by_cases z : j = 0
            · rw [if_pos z, if_pos z]
            · rw [if_neg z, if_neg z]
              simp only [mj_fl, true_and]
              by_cases z2 : j < 1001
              · rw [if_pos z2, if_pos z2]
              · rw [if_neg z2, if_neg z2, mj_up_ne (by omega), mj_up_ne (by omega), mj_up_ne (by omega), mj_up_ne (by omega), l2 _ (by omega) (by omega) (by omega), qb 1 (by decide)]
          have rK : ∀ k, 2 ≤ k → k ≤ 8 → J2 (b + k) = IA (b + k) := fun k k1 k2 => by
            rw [rB _ (by omega) (by omega), l2 _ (by omega) (by omega) (by omega), qb k k2]
          have rr : J2 r = K r := rB r (by omega) (by omega)
          refine rt_body hRd hN hap hlen hl2 (J := J2) (p := p) (bin := bin) (m := (nu 0).toNat) (I := (nu 1).toNat) (O := (nu 3).toNat) (G := (nu 4).toNat) (so := ab_s0 (IA (b + 1))) (ow := IA (b + 2)) (le := IA (b + 3)) (ri := IA (b + 4)) (ou := IA (b + 5)) ⟨F2.trans ⟨fun q a c => rB q (by omega) (by omega), rB _ (by omega) (by omega), by rw [rB _ (by omega) (by omega)]⟩, ?_, ?_, ?_, ?_, ?_, ?_, ?_, ?_, ?_, rb1, rK 2 (by decide) (by decide), rK 3 (by decide) (by decide), rK 4 (by decide) (by decide), rK 5 (by decide) (by decide)⟩ hle (by omega) (by omega) (by omega) (by omega) (by omega) (fun z => by have := hb3 z; omega) rfl (fun j j1 j2 => by unfold ab_s0; rw [if_neg (by omega), if_pos j2]) hR
          · rw [rr, l3 0 (by decide) (by decide) (by decide)]; exact q0
          · rw [rr, l3 9 (by decide) (by decide) (by decide)]; exact q9
          · rw [rr]; exact n2
          · rw [rr, n3]; exact q1
          · rw [rr, n4]; exact q2
          · rw [rb 9, mj_up_k (by decide), mj_up_k (by decide), mj_up_k (by decide), mj_up_at]; omega
          · rw [rb 10, mj_up_k (by decide), mj_up_k (by decide), mj_up_at]; omega
          · rw [rb 11, mj_up_at]; omega
          · rw [rb 12, mj_up_k (by decide), mj_up_at]; omega
  · rw [if_neg (show ¬ ab_kd (rd_by IA r) from k1)] at hR
    subst k2
    subst hR
    refine And.intro (Or.inl rfl) ?_
    refine And.intro (fun c => ?_) (fun c => ?_)
    · rw [k3]
      exact rt_end hRd hap (F0.trans ((rt_f_up hap).trans (rt_f_up hap))) ⟨(mj_up_k (show (1 : Nat) ≠ 2 by decide)).trans mj_up_at, mj_up_at⟩
    · exact absurd (by decide) c
end RR
