/-! THE REFERENCE: variableOf, isRow, leaderOf, leader -/
/-- the variable of a row -/
def M_va (IA : mj_FI) (c r : Nat) : Int := if r = 0 then 0 else if r < 15 then IA 61 (14 * c + r - 1) / 2 else IA 62 (300 * c + r - 15) / 2
/-- the rows there are -/
abbrev M_is (I G r : Nat) : Prop := r ≤ I ∨ (15 ≤ r ∧ r < 15 + G)
/-- rows and variables belong together -/
def M_vr (IA : mj_FI) (c I G : Nat) : Prop := (∀ k, k < I → 0 ≤ IA 61 (14 * c + k)) ∧ (∀ k, k < G → 0 ≤ IA 62 (300 * c + k)) ∧ ∀ r, M_is I G r → M_va IA c r ≤ 1000 ∧ IA 66 (1001 * c + (M_va IA c r).toNat) = (r : Int)
theorem M_vr.va {IA : mj_FI} {c I G r : Nat} (h : M_vr IA c I G) (hI : I ≤ 14) (hr : M_is I G r) : 0 ≤ M_va IA c r ∧ M_va IA c r ≤ 1000 ∧ IA 66 (1001 * c + (M_va IA c r).toNat) = (r : Int) := by
  obtain ⟨h1, h2, h3⟩ := h
  refine ⟨?_, h3 r hr⟩
  unfold M_va
  split
  · decide
  · split
    · have := h1 (r - 1) (by unfold M_is at hr; omega)
      rw [show 14 * c + r - 1 = 14 * c + (r - 1) by omega]
      omega
    · have := h2 (r - 15) (by unfold M_is at hr; omega)
      rw [show 300 * c + r - 15 = 300 * c + (r - 15) by omega]
      omega
theorem M_vr.lit {IA : mj_FI} {c I G r i : Nat} (h : M_vr IA c I G) (hI : I ≤ 14) (hG : G ≤ 300) (hr : M_is I G r) (hi : i < 2) : M_st IA c (2 * M_va IA c r + (i : Int)) ∧ M_ro IA c (2 * M_va IA c r + (i : Int)) = r ∧ IA 66 (1001 * c + ((2 * M_va IA c r + (i : Int)) / 2).toNat) = (r : Int) ∧ r < 315 := by
  obtain ⟨h1, h2, h3⟩ := h.va hI hr
  have e : (2 * M_va IA c r + (i : Int)) / 2 = M_va IA c r := by omega
  unfold M_st M_ro
  rw [e, h3]
  exact ⟨⟨by omega, by omega, by omega⟩, by omega, rfl, by unfold M_is at hr; omega⟩
section MM
variable {sh : mj_Sh} {FR : mj_FR} {IA : mj_FI} {LA : mj_LA} {n : Nat}
theorem ct_M_variableOf (h : isM sh FR n) {c I G r : Nat} (hc : c < 2) (hI2 : I ≤ 14) (hG2 : G ≤ 300) (hv : M_vr IA c I G) (hr : M_is I G r) : mj_Ct m_M_variableOf [.inr (.inr (.inl 52)), .inl c, .inl r] sh FR IA LA n (mj_pu (.inl (some (.inl (M_va IA c r)))) sh FR IA LA n) := by
  have hq := hv.va hI2 hr
  generalize hx : M_va IA c r = x at hq
  unfold M_va at hx
  unfold M_is at hr
  refine mj_Ct_of (by decide +kernel) (by decide) (Nat.le_of_ble_eq_true rfl) ?_
  refine mj_go z_M_variableOf [] 60 ?_
  refine And.intro (fun d => ?_) (fun d => ?_)
  · simp (disch := (clear d; omega)) only [mj_w_id] at d
    refine And.intro (fun e => ?_) (fun e => ?_)
    · simp (disch := (clear e; omega)) only [mj_w_id] at e
      rw [if_neg (by omega), if_neg (by omega)] at hx
      subst hx
      refine And.intro h.o (Exists.intro _ (And.intro h.r12 ?_))
      refine Exists.intro (((300 * c : Nat) : Int)) (And.intro (by first | (rw [mj_w_id (by omega) (by omega)]; done) | (rw [mj_w_id (by omega) (by omega)]; omega) | (unfold mj_w; omega)) ?_)
      refine Exists.intro (((300 * c + r : Nat) : Int)) (And.intro (by first | (rw [mj_w_id (by omega) (by omega)]; done) | (rw [mj_w_id (by omega) (by omega)]; omega) | (unfold mj_w; omega)) ?_)
      refine Exists.intro (((300 * c + r - 15 : Nat) : Int)) (And.intro (by first | (rw [mj_w_id (by omega) (by omega)]; done) | (rw [mj_w_id (by omega) (by omega)]; omega) | (unfold mj_w; omega)) ?_)
      refine Exists.intro _ (Exists.intro (300 * c + r - 15) (And.intro h.a12 (And.intro (by first | (rw [mj_w_id (by omega) (by omega)]; done) | (rw [mj_w_id (by omega) (by omega)]; omega) | (unfold mj_w; omega)) (And.intro (by omega) ?_))))
      have := hv.2.1 (r - 15) (by omega)
      rw [show 300 * c + (r - 15) = 300 * c + r - 15 by omega] at this
      refine And.intro (by decide) ?_
      refine Exists.intro (IA 62 (300 * c + r - 15) / 2) (And.intro (nu_div this (by omega) (by omega) (by omega)) ?_)
      exact ⟨⟨rfl, rfl, rfl, rfl, rfl, rfl⟩, Nat.le_of_ble_eq_true rfl, Nat.le_of_ble_eq_true rfl⟩
    · simp (disch := (clear e; omega)) only [mj_w_id] at e
      rw [if_neg (by omega), if_pos (by omega)] at hx
      subst hx
      refine And.intro h.o (Exists.intro _ (And.intro h.r11 ?_))
      refine Exists.intro (((14 * c : Nat) : Int)) (And.intro (by first | (rw [mj_w_id (by omega) (by omega)]; done) | (rw [mj_w_id (by omega) (by omega)]; omega) | (unfold mj_w; omega)) ?_)
      refine Exists.intro (((14 * c + r : Nat) : Int)) (And.intro (by first | (rw [mj_w_id (by omega) (by omega)]; done) | (rw [mj_w_id (by omega) (by omega)]; omega) | (unfold mj_w; omega)) ?_)
      refine Exists.intro (((14 * c + r - 1 : Nat) : Int)) (And.intro (by first | (rw [mj_w_id (by omega) (by omega)]; done) | (rw [mj_w_id (by omega) (by omega)]; omega) | (unfold mj_w; omega)) ?_)
      refine Exists.intro _ (Exists.intro (14 * c + r - 1) (And.intro h.a11 (And.intro (by first | (rw [mj_w_id (by omega) (by omega)]; done) | (rw [mj_w_id (by omega) (by omega)]; omega) | (unfold mj_w; omega)) (And.intro (by omega) ?_))))
      have := hv.1 (r - 1) (by omega)
      rw [show 14 * c + (r - 1) = 14 * c + r - 1 by omega] at this
      refine And.intro (by decide) ?_
      refine Exists.intro (IA 61 (14 * c + r - 1) / 2) (And.intro (nu_div this (by omega) (by omega) (by omega)) ?_)
      exact ⟨⟨rfl, rfl, rfl, rfl, rfl, rfl⟩, Nat.le_of_ble_eq_true rfl, Nat.le_of_ble_eq_true rfl⟩
  · replace d := Classical.not_not.mp d
    simp (disch := (clear d; omega)) only [mj_w_id] at d
    rw [if_pos (by omega)] at hx
    subst hx
    exact ⟨⟨rfl, rfl, rfl, rfl, rfl, rfl⟩, Nat.le_of_ble_eq_true rfl, Nat.le_of_ble_eq_true rfl⟩
theorem ct_M_isRow (h : isM sh FR n) {c I G r : Nat} (hc : c < 2) (hI : IA 55 c = (I : Int)) (hI2 : I ≤ 14) (hG : IA 56 c = (G : Int)) (hG2 : G ≤ 300) (hr : r < 315) : mj_Ct m_M_isRow [.inr (.inr (.inl 52)), .inl c, .inl r] sh FR IA LA n (mj_pu (.inl (some (.inl (if M_is I G r then 1 else 0)))) sh FR IA LA n) := by
  have mid : ¬ r ≤ I → mj_G m_M_isRow (mj_pu (.inl (some (.inl (if M_is I G r then 1 else 0)))) sh FR IA LA n) 18 [some (.inr (.inr (.inl 52))), some (.inl c), some (.inl r)] [] sh FR IA LA n 0 0 := by
    intro hn
    refine mj_go z_M_isRow [] 60 ?_
    refine And.intro (fun d => ?_) (fun d => ?_)
    · simp (disch := (clear d; omega)) only [mj_w_id] at d
      rw [if_neg (by unfold M_is; omega)]
      exact ⟨Or.inl rfl, ⟨rfl, rfl, rfl, rfl, rfl, rfl⟩, Nat.le_of_ble_eq_true rfl, Nat.le_of_ble_eq_true rfl⟩
    · simp (disch := (clear d; omega)) only [mj_w_id] at d
      refine And.intro h.o (Exists.intro _ (And.intro h.r6 ?_))
      refine Exists.intro _ (Exists.intro (c) (And.intro h.a6 (And.intro (by first | (rw [mj_w_id (by omega) (by omega)]; done) | (rw [mj_w_id (by omega) (by omega)]; omega) | (unfold mj_w; omega)) (And.intro (by omega) ?_))))
      rw [hG]
      refine Exists.intro (((15 + G : Nat) : Int)) (And.intro (by first | (rw [mj_w_id (by omega) (by omega)]; done) | (rw [mj_w_id (by omega) (by omega)]; omega) | (unfold mj_w; omega)) ?_)
      refine And.intro (fun e => ?_) (fun e => ?_)
      · simp (disch := (clear e; omega)) only [mj_w_id] at e
        rw [if_neg (by unfold M_is; omega)]
        exact ⟨Or.inl rfl, ⟨rfl, rfl, rfl, rfl, rfl, rfl⟩, Nat.le_of_ble_eq_true rfl, Nat.le_of_ble_eq_true rfl⟩
      · simp (disch := (clear e; omega)) only [mj_w_id] at e
        rw [if_pos (by unfold M_is; omega)]
        exact ⟨Or.inr rfl, ⟨rfl, rfl, rfl, rfl, rfl, rfl⟩, Nat.le_of_ble_eq_true rfl, Nat.le_of_ble_eq_true rfl⟩
  refine mj_Ct_of (by decide +kernel) (by decide) (Nat.le_of_ble_eq_true rfl) ?_
  refine mj_go z_M_isRow [18] 60 ?_
  refine And.intro (fun d => ?_) (fun d => ?_)
  · simp (disch := (clear d; omega)) only [mj_w_id] at d
    rw [if_pos (by unfold M_is; omega)]
    exact ⟨Or.inr rfl, ⟨rfl, rfl, rfl, rfl, rfl, rfl⟩, Nat.le_of_ble_eq_true rfl, Nat.le_of_ble_eq_true rfl⟩
  · simp (disch := (clear d; omega)) only [mj_w_id] at d
    refine And.intro (fun e => ?_) (fun e => ?_)
    · simp (disch := (clear e; omega)) only [mj_w_id] at e
      omega
    · clear e
      refine And.intro h.o (Exists.intro _ (And.intro h.r5 ?_))
      refine Exists.intro _ (Exists.intro (c) (And.intro h.a5 (And.intro (by first | (rw [mj_w_id (by omega) (by omega)]; done) | (rw [mj_w_id (by omega) (by omega)]; omega) | (unfold mj_w; omega)) (And.intro (by omega) ?_))))
      rw [hI]
      refine And.intro (fun e => ?_) (fun e => ?_)
      · simp (disch := (clear e; omega)) only [mj_w_id] at e
        rw [if_pos (by unfold M_is; omega)]
        exact ⟨Or.inr rfl, ⟨rfl, rfl, rfl, rfl, rfl, rfl⟩, Nat.le_of_ble_eq_true rfl, Nat.le_of_ble_eq_true rfl⟩
      · simp (disch := (clear e; omega)) only [mj_w_id] at e
        exact mid (by omega)
theorem ct_isR (h : isM sh FR n) {c I G r : Nat} (hc : c < 2) (hI : IA 55 c = (I : Int)) (hI2 : I ≤ 14) (hG : IA 56 c = (G : Int)) (hG2 : G ≤ 300) (hr : r < 315) : (M_is I G r → mj_Ct m_M_isRow [.inr (.inr (.inl 52)), .inl c, .inl r] sh FR IA LA n (mj_pu (.inl (some (.inl 1))) sh FR IA LA n)) ∧ (¬ M_is I G r → mj_Ct m_M_isRow [.inr (.inr (.inl 52)), .inl c, .inl r] sh FR IA LA n (mj_pu (.inl (some (.inl 0))) sh FR IA LA n)) := by
  have := ct_M_isRow (LA := LA) h hc hI hI2 hG hG2 hr
  exact ⟨fun z => by rw [if_pos z] at this; exact this, fun z => by rw [if_neg z] at this; exact this⟩
end MM
/-- the depth of a literal -/
def M_dl (IA : mj_FI) (c : Nat) (z : Int) : Int := IA 67 (315 * c + M_ro IA c z)
def M_dr (IA : mj_FI) (c : Nat) : Prop := ∀ r, r < 315 → -1 ≤ IA 67 (315 * c + r) ∧ IA 67 (315 * c + r) ≤ 1000
/-- z is the same as lit, and the least such among the literals before K -/
def M_be (IA : mj_FI) (LA : mj_LA) (I G c : Nat) (lit : Int) (K : Nat) (z : Int) : Prop := M_st IA c z ∧ M_eq LA I c (M_ro IA c lit) lit c (M_ro IA c z) z ∧ ∀ r i : Nat, i < 2 → 2 * r + i < K → M_is I G r → M_eq LA I c (M_ro IA c lit) lit c r (2 * M_va IA c r + (i : Int)) → M_dl IA c z < IA 67 (315 * c + r) ∨ (M_dl IA c z = IA 67 (315 * c + r) ∧ z ≤ 2 * M_va IA c r + (i : Int))
theorem M_be.skip {IA : mj_FI} {LA : mj_LA} {I G c r i : Nat} {lit z : Int} (h : M_be IA LA I G c lit (2 * r + i) z) (hi : i < 2) (hs : M_is I G r → M_eq LA I c (M_ro IA c lit) lit c r (2 * M_va IA c r + (i : Int)) → M_dl IA c z < IA 67 (315 * c + r) ∨ (M_dl IA c z = IA 67 (315 * c + r) ∧ z ≤ 2 * M_va IA c r + (i : Int))) : M_be IA LA I G c lit (2 * r + i + 1) z := by
  refine ⟨h.1, h.2.1, fun r2 i2 h2 hk hr he => ?_⟩
  by_cases e : 2 * r2 + i2 = 2 * r + i
  · have e1 : r2 = r := by omega
    have e2 : i2 = i := by omega
    subst e1
    subst e2
    exact hs hr he
  · exact h.2.2 r2 i2 h2 (by omega) hr he
theorem M_be.skip2 {IA : mj_FI} {LA : mj_LA} {I G c r : Nat} {lit z : Int} (h : M_be IA LA I G c lit (2 * r) z) (hs : ¬ M_is I G r) : M_be IA LA I G c lit (2 * (r + 1)) z := 
  M_be.skip (i := 1) (M_be.skip (i := 0) h (by decide) (fun x => absurd x hs)) (by decide) (fun x => absurd x hs)
section MM
variable {sh : mj_Sh} {FR : mj_FR} {IA : mj_FI} {LA : mj_LA} {n : Nat}
set_option maxHeartbeats 2000000 in
theorem ct_M_leaderOf (h : isM sh FR n) {c I G : Nat} {lit : Int} (hc : c < 2) (hI : IA 55 c = (I : Int)) (hI2 : I ≤ 14) (hG : IA 56 c = (G : Int)) (hG2 : G ≤ 300) (hr : M_rr IA) (hv : M_vr IA c I G) (hD : M_dr IA c) (hl : M_st IA c lit) :
    mj_Ct m_M_leaderOf [.inr (.inr (.inl 52)), .inl c, .inl lit] sh FR IA LA n (mj_po (fun o J => J = IA ∧ ∃ z, o = .inl (some (.inl z)) ∧ M_be IA LA I G c lit 630 z) sh FR LA n) := by
  generalize hQ : mj_po (fun o J => J = IA ∧ ∃ z, o = .inl (some (.inl z)) ∧ M_be IA LA I G c lit 630 z) sh FR LA n = Q
  obtain ⟨l1, l2⟩ := hl.row hr (by omega)
  have hl1 := hl.1
  have hl2 := hl.2.1
  have out : ∀ (t r : Nat) (z : Int) (y6 y7 y8 : Option mj_V), r + t = 315 → M_be IA LA I G c lit (2 * r) z → mj_G m_M_leaderOf Q 24 [some (.inr (.inr (.inl 52))), some (.inl c), some (.inl lit), some (.inl z), some (.inl (M_dl IA c z)), some (.inl r), y6, y7, y8] [] sh FR IA LA n 0 0 := by
    intro t
    induction t with
    | zero =>
      intro r z y6 y7 y8 ht hb
      have e : r = 315 := by omega
      subst e
      refine mj_go z_M_leaderOf [] 60 ?_
      refine And.intro (fun d => ?_) (fun d => ?_)
      · subst hQ
        exact ⟨⟨rfl, rfl, rfl, rfl, rfl, z, rfl, hb⟩, Nat.le_of_ble_eq_true rfl, Nat.le_of_ble_eq_true rfl⟩
      · exact absurd (show mj_w 315 ≤ mj_w ((315 : Nat) : Int) by decide) d
    | succ t ih =>
      intro r z y6 y7 y8 ht hb
      have cnt : ∀ z, M_be IA LA I G c lit (2 * (r + 1)) z → ∀ (y6 y7 y8 : Option mj_V), mj_G m_M_leaderOf Q 137 [some (.inr (.inr (.inl 52))), some (.inl c), some (.inl lit), some (.inl z), some (.inl (M_dl IA c z)), some (.inl r), y6, y7, y8] [] sh FR IA LA n 0 0 := by
        intro z hb y6 y7 y8
        refine mj_go z_M_leaderOf [24] 60 ?_
        refine Exists.intro (((r + 1 : Nat) : Int)) (And.intro (by first | (rw [mj_w_id (by omega) (by omega)]; done) | (rw [mj_w_id (by omega) (by omega)]; omega) | (unfold mj_w; omega)) ?_)
        exact ih (r + 1) z y6 y7 y8 (by omega) hb
      by_cases hR : M_is I G r
      · have hva := hv.va hI2 hR
        have hdr := hD r (by omega)
        have inn : ∀ (u i : Nat) (z : Int), i + u = 2 → M_be IA LA I G c lit (2 * r + i) z → mj_G m_M_leaderOf Q 74 [some (.inr (.inr (.inl 52))), some (.inl c), some (.inl lit), some (.inl z), some (.inl (M_dl IA c z)), some (.inl r), some (.inl (IA 67 (315 * c + r))), some (.inl (2 * M_va IA c r)), some (.inl i)] [] sh FR IA LA n 0 0 := by
          intro u
          induction u with
          | zero =>
            intro i z hi hb
            have e : i = 2 := by omega
            subst e
            refine mj_go z_M_leaderOf [137] 60 ?_
            refine And.intro (fun d => ?_) (fun d => ?_)
            · exact cnt z hb _ _ _
            · exact absurd (show mj_w 2 ≤ mj_w ((2 : Nat) : Int) by decide) d
          | succ u ihu =>
            intro i z hi hb
            have nx : ∀ z, M_be IA LA I G c lit (2 * r + i + 1) z → mj_G m_M_leaderOf Q 131 [some (.inr (.inr (.inl 52))), some (.inl c), some (.inl lit), some (.inl z), some (.inl (M_dl IA c z)), some (.inl r), some (.inl (IA 67 (315 * c + r))), some (.inl (2 * M_va IA c r)), some (.inl i)] [] sh FR IA LA n 0 0 := by
              intro z hb
              refine mj_go z_M_leaderOf [74] 60 ?_
              refine Exists.intro (((i + 1 : Nat) : Int)) (And.intro (by first | (rw [mj_w_id (by omega) (by omega)]; done) | (rw [mj_w_id (by omega) (by omega)]; omega) | (unfold mj_w; omega)) ?_)
              exact ihu (i + 1) z (by omega) hb
            obtain ⟨z1, z2, z3⟩ := hb.1
            obtain ⟨zr, zr2⟩ := hb.1.row hr (by omega)
            have hdz := hD _ zr2
            have ezz : M_dl IA c z = IA 67 (315 * c + M_ro IA c z) := rfl
            obtain ⟨v1, v2, v3, v4⟩ := hv.lit (i := i) hI2 hG2 hR (by omega)
            have same : M_dl IA c z > IA 67 (315 * c + r) ∨ (M_dl IA c z = IA 67 (315 * c + r) ∧ 2 * M_va IA c r + (i : Int) < z) → mj_G m_M_leaderOf Q 103 [some (.inr (.inr (.inl 52))), some (.inl c), some (.inl lit), some (.inl z), some (.inl (M_dl IA c z)), some (.inl r), some (.inl (IA 67 (315 * c + r))), some (.inl (2 * M_va IA c r)), some (.inl i)] [] sh FR IA LA n 0 0 := by
              intro hlt
              refine mj_go z_M_leaderOf [131] 60 ?_
              refine Exists.intro (2 * M_va IA c r + (i : Int)) (And.intro (by first | (rw [mj_w_id (by omega) (by omega)]; done) | (rw [mj_w_id (by omega) (by omega)]; omega) | (unfold mj_w; omega)) ?_)
              refine And.intro h.o (And.intro (Nat.le_of_ble_eq_true rfl) (And.intro (Nat.le_of_ble_eq_true rfl) (And.intro (Nat.le_of_ble_eq_true rfl) (Exists.intro _ (And.intro (ct_M_areSame (c := c) (d := c) h hc hc hI hI2 hI hI2 hl1 hl2 l1 l2 v1.1 v1.2.1 v3 v4) ?_)))))
              rintro o1 sh9 FR9 J1 LA9 n9 ⟨z1, z2, z3, z4, hp1⟩
              replace z1 := z1.symm
              subst z1
              replace z2 := z2.symm
              subst z2
              replace z3 := z3.symm
              subst z3
              replace z4 := z4.symm
              subst z4
              obtain ⟨hj, hp1⟩ := hp1
              replace hj := hj.symm
              subst hj
              rcases hp1 with ⟨ho, he⟩ | ⟨ho, he⟩
              · subst ho
                refine And.intro (Or.inl rfl) ?_
                refine And.intro (fun d => ?_) (fun d => ?_)
                · clear d
                  refine Exists.intro (2 * M_va IA c r + (i : Int)) (And.intro (by first | (rw [mj_w_id (by omega) (by omega)]; done) | (rw [mj_w_id (by omega) (by omega)]; omega) | (unfold mj_w; omega)) ?_)
                  have e67 : IA 67 (315 * c + r) = M_dl IA c (2 * M_va IA c r + (i : Int)) := by unfold M_dl; rw [v2]
                  have key := nx (2 * M_va IA c r + (i : Int)) (M_be.skip ⟨v1, by rw [v2]; exact he, fun r2 i2 a1 a2 a3 a4 => by
                    have := hb.2.2 r2 i2 a1 a2 a3 a4
                    rw [← e67]
                    omega⟩ (by omega) (fun _ _ => Or.inr ⟨e67.symm, Int.le_refl _⟩))
                  rw [← e67] at key
                  exact key
                · exact absurd d (by decide)
              · subst ho
                refine And.intro (Or.inl rfl) ?_
                refine And.intro (fun d => ?_) (fun d => ?_)
                · exact absurd (show mj_w 0 = 0 by decide) d
                · exact nx z (hb.skip (by omega) (fun _ a => absurd a he))
            clear v3 zr l1
            refine mj_go z_M_leaderOf [103, 131] 60 ?_
            refine And.intro (fun d => ?_) (fun d => ?_)
            · simp (disch := (clear d; omega)) only [mj_w_id] at d
              omega
            clear d
            refine And.intro (fun d => ?_) (fun d => ?_)
            · simp (disch := (clear d; omega)) only [mj_w_id] at d
              exact nx z (hb.skip (by omega) (fun _ _ => Or.inl (by omega)))
            · simp (disch := (clear d; omega)) only [mj_w_id] at d
              refine And.intro (fun e => ?_) (fun e => ?_)
              · simp (disch := (clear e; omega)) only [mj_w_id] at e
                exact same (by omega)
              · replace e := Classical.not_not.mp e
                simp (disch := (clear e; omega)) only [mj_w_id] at e
                refine Exists.intro (2 * M_va IA c r + (i : Int)) (And.intro (by first | (rw [mj_w_id (by omega) (by omega)]; done) | (rw [mj_w_id (by omega) (by omega)]; omega) | (unfold mj_w; omega)) ?_)
                refine And.intro (fun f => ?_) (fun f => ?_)
                · simp (disch := (clear f; omega)) only [mj_w_id] at f
                  exact nx z (hb.skip (by omega) (fun _ _ => Or.inr (by omega)))
                · simp (disch := (clear f; omega)) only [mj_w_id] at f
                  exact same (by omega)
        refine mj_go z_M_leaderOf [74] 60 ?_
        refine And.intro (fun d => ?_) (fun d => ?_)
        · simp (disch := (clear d; omega)) only [mj_w_id] at d
          omega
        · clear d
          refine And.intro h.o (And.intro (Nat.le_of_ble_eq_true rfl) (And.intro (Nat.le_of_ble_eq_true rfl) (And.intro (Nat.le_of_ble_eq_true rfl) (Exists.intro _ (And.intro ((ct_isR h hc hI hI2 hG hG2 (by omega)).1 hR) ?_)))))
          rintro r9 sh9 FR9 IA9 LA9 n9 ⟨z0, z1, z2, z3, z4, z5⟩
          subst z0
          replace z1 := z1.symm
          subst z1
          replace z2 := z2.symm
          subst z2
          replace z3 := z3.symm
          subst z3
          replace z4 := z4.symm
          subst z4
          replace z5 := z5.symm
          subst z5
          refine And.intro (Or.inl rfl) ?_
          refine And.intro (fun d => ?_) (fun d => ?_)
          · clear d
            refine And.intro h.o (Exists.intro _ (And.intro h.r17 ?_))
            refine Exists.intro (((315 * c : Nat) : Int)) (And.intro (by first | (rw [mj_w_id (by omega) (by omega)]; done) | (rw [mj_w_id (by omega) (by omega)]; omega) | (unfold mj_w; omega)) ?_)
            refine Exists.intro (((315 * c + r : Nat) : Int)) (And.intro (by first | (rw [mj_w_id (by omega) (by omega)]; done) | (rw [mj_w_id (by omega) (by omega)]; omega) | (unfold mj_w; omega)) ?_)
            refine Exists.intro _ (Exists.intro (315 * c + r) (And.intro h.a17 (And.intro (by first | (rw [mj_w_id (by omega) (by omega)]; done) | (rw [mj_w_id (by omega) (by omega)]; omega) | (unfold mj_w; omega)) (And.intro (by omega) ?_))))
            refine And.intro h.o (And.intro (Nat.le_of_ble_eq_true rfl) (And.intro (Nat.le_of_ble_eq_true rfl) (And.intro (Nat.le_of_ble_eq_true rfl) (Exists.intro _ (And.intro (ct_M_variableOf h hc hI2 hG2 hv hR) ?_)))))
            rintro r9 sh9 FR9 IA9 LA9 n9 ⟨z0, z1, z2, z3, z4, z5⟩
            subst z0
            replace z1 := z1.symm
            subst z1
            replace z2 := z2.symm
            subst z2
            replace z3 := z3.symm
            subst z3
            replace z4 := z4.symm
            subst z4
            replace z5 := z5.symm
            subst z5
            refine And.intro (Or.inl rfl) ?_
            refine Exists.intro (2 * M_va IA c r) (And.intro (by first | (rw [mj_w_id (by omega) (by omega)]; done) | (rw [mj_w_id (by omega) (by omega)]; omega) | (unfold mj_w; omega)) ?_)
            exact inn 2 0 z (by omega) hb
          · exact absurd d (by decide)
      · refine mj_go z_M_leaderOf [137] 60 ?_
        refine And.intro (fun d => ?_) (fun d => ?_)
        · simp (disch := (clear d; omega)) only [mj_w_id] at d
          omega
        · clear d
          refine And.intro h.o (And.intro (Nat.le_of_ble_eq_true rfl) (And.intro (Nat.le_of_ble_eq_true rfl) (And.intro (Nat.le_of_ble_eq_true rfl) (Exists.intro _ (And.intro ((ct_isR h hc hI hI2 hG hG2 (by omega)).2 hR) ?_)))))
          rintro r9 sh9 FR9 IA9 LA9 n9 ⟨z0, z1, z2, z3, z4, z5⟩
          subst z0
          replace z1 := z1.symm
          subst z1
          replace z2 := z2.symm
          subst z2
          replace z3 := z3.symm
          subst z3
          replace z4 := z4.symm
          subst z4
          replace z5 := z5.symm
          subst z5
          refine And.intro (Or.inl rfl) ?_
          refine And.intro (fun d => ?_) (fun d => ?_)
          · exact absurd (show mj_w 0 = 0 by decide) d
          · exact cnt z (hb.skip2 hR) _ _ _
  refine mj_Ct_of (by decide +kernel) (by decide) (Nat.le_of_ble_eq_true rfl) ?_
  refine mj_go z_M_leaderOf [24] 60 ?_
  refine And.intro h.o (Exists.intro _ (And.intro h.r17 ?_))
  refine Exists.intro (((315 * c : Nat) : Int)) (And.intro (by first | (rw [mj_w_id (by omega) (by omega)]; done) | (rw [mj_w_id (by omega) (by omega)]; omega) | (unfold mj_w; omega)) ?_)
  refine And.intro h.o (And.intro (Nat.le_of_ble_eq_true rfl) (And.intro (Nat.le_of_ble_eq_true rfl) (And.intro (Nat.le_of_ble_eq_true rfl) (Exists.intro _ (And.intro (ct_M_rowAt h (by omega) hl1 hl2) ?_)))))
  rintro r9 sh9 FR9 IA9 LA9 n9 ⟨z0, z1, z2, z3, z4, z5⟩
  subst z0
  replace z1 := z1.symm
  subst z1
  replace z2 := z2.symm
  subst z2
  replace z3 := z3.symm
  subst z3
  replace z4 := z4.symm
  subst z4
  replace z5 := z5.symm
  subst z5
  refine And.intro (Or.inl rfl) ?_
  rw [l1]
  clear l1
  refine Exists.intro (((315 * c + M_ro IA c lit : Nat) : Int)) (And.intro (by first | (rw [mj_w_id (by omega) (by omega)]; done) | (rw [mj_w_id (by omega) (by omega)]; omega) | (unfold mj_w; omega)) ?_)
  refine Exists.intro _ (Exists.intro (315 * c + M_ro IA c lit) (And.intro h.a17 (And.intro (by first | (rw [mj_w_id (by omega) (by omega)]; done) | (rw [mj_w_id (by omega) (by omega)]; omega) | (unfold mj_w; omega)) (And.intro (by omega) ?_))))
  exact out 315 0 lit _ _ _ (by omega) ⟨hl, fun w _ => rfl, fun r i _ z _ _ => by omega⟩
end MM
