/-! THE REFERENCE: step, empty, stands, header -/
def md_lp (J J' : mj_FI) (code : Int) (cnt p : Nat) : Prop := md_f J J' ∧ (((ab_L (md_by J) cnt p).1 = true ∧ J' 52 21 = 0 ∧ J' 52 20 = ((ab_L (md_by J) cnt p).2.1 : Int) ∧ ∀ j, j < cnt → J' 70 j = (ab_L (md_by J) cnt p).2.2.1 j ∧ J' 71 j = (ab_L (md_by J) cnt p).2.2.2 j) ∨ ((ab_L (md_by J) cnt p).1 = false ∧ J' 52 21 = code ∧ J' 52 22 = ((ab_L (md_by J) cnt p).2.1 : Int)))
theorem md_lq.lp {IA J : mj_FI} {code : Int} {cnt p : Nat} (hf : md_f IA J) (h : md_lq (ab_ln (md_by IA) cnt cnt 0 p (IA 70) (IA 71)) code J) : md_lp IA J code cnt p := by
  have hb := ab_ln_base (md_by IA) cnt cnt 0 p (IA 70) (IA 71) (fun _ => 0) (fun _ => 0)
  refine ⟨hf, ?_⟩
  rcases h with ⟨h1, h2, h3, h4, h5⟩ | ⟨h1, h2, h3⟩
  · refine Or.inl ⟨hb.1.symm.trans h1, h2, ?_, fun j hj => ?_⟩
    · rw [h3, hb.2.1]
      rfl
    · rw [h4, h5]
      exact hb.2.2 j (Or.inl ⟨Nat.zero_le _, by omega, h1⟩)
  · refine Or.inr ⟨hb.1.symm.trans h1, h2, ?_⟩
    rw [h3, hb.2.1]
    rfl
theorem md_en {IA : mj_FI} {len : Nat} (h : IA 52 2 = (len : Int)) : ab_en (md_by IA) len := by
  intro i hi
  unfold md_by
  rw [h, if_neg (by omega)]
/-- the draft's variables stand for nothing, the first i of them -/
def md_e (IA : mj_FI) (i : Nat) : mj_FI := fun q j => if q = 66 ∧ 2003 ≤ j ∧ j < 2003 + i then -1 else IA q j
theorem md_e_s {IA : mj_FI} {i : Nat} : mj_up (md_e IA i) 66 (2003 + i) (-1) = md_e IA (i + 1) := by
  funext q j
  unfold mj_up md_e
  by_cases h1 : q = 66
  · by_cases h2 : j = 2003 + i
    · rw [if_pos h1, if_pos h2, if_pos (by omega)]
    · rw [if_pos h1, if_neg h2]
      by_cases h3 : 2003 ≤ j ∧ j < 2003 + i
      · rw [if_pos ⟨h1, h3⟩, if_pos (by omega)]
      · rw [if_neg (by omega), if_neg (by omega)]
  · rw [if_neg h1, if_neg (by omega), if_neg (by omega)]
section MM
variable {sh : mj_Sh} {FR : mj_FR} {IA : mj_FI} {LA : mj_LA} {n : Nat}
theorem ct_M_step (h : isM sh FR n) {p len : Nat} (hlen : IA 52 2 = (len : Int)) (hl2 : len ≤ 8192) (hp : IA 52 20 = (p : Int)) (hp2 : p ≤ len) :
    mj_Ct m_M_step [.inr (.inr (.inl 52))] sh FR IA LA n (mj_po (fun o J => (∃ q, ab_stp (md_by IA) p = .inl q ∧ o = .inl (some (.inl (-1))) ∧ J 52 21 = 5 ∧ J 52 22 = (q : Int) ∧ md_f IA J) ∨ (∃ x, ab_stp (md_by IA) p = .inr x ∧ o = .inl (some (.inl x.1)) ∧ J = mj_up IA 52 20 (x.2 : Int) ∧ 0 ≤ x.1 ∧ x.1 < 100000)) sh FR LA n) := by
  have b0 := md_by_in IA p
  have b1 := md_by_in IA (p + 1)
  have hby : md_by (mj_up IA 52 20 ((p + 1 : Nat) : Int)) = md_by IA := md_by_eq (mj_up_k (by decide)) (mj_up_ne (by decide))
  have hl' : mj_up IA 52 20 ((p + 1 : Nat) : Int) 52 2 = (len : Int) := by rw [mj_up_k (by decide)]; exact hlen
  generalize hQ : mj_po (fun o J => (∃ q, ab_stp (md_by IA) p = .inl q ∧ o = .inl (some (.inl (-1))) ∧ J 52 21 = 5 ∧ J 52 22 = (q : Int) ∧ md_f IA J) ∨ (∃ x, ab_stp (md_by IA) p = .inr x ∧ o = .inl (some (.inl x.1)) ∧ J = mj_up IA 52 20 (x.2 : Int) ∧ 0 ≤ x.1 ∧ x.1 < 100000)) sh FR LA n = Q
  refine mj_Ct_of (by decide +kernel) (by decide) (Nat.le_of_ble_eq_true rfl) ?_
  refine mj_go z_M_step [55] 60 ?_
  refine And.intro h.o (And.intro (Nat.le_of_ble_eq_true rfl) (And.intro (Nat.le_of_ble_eq_true rfl) (And.intro (Nat.le_of_ble_eq_true rfl) (Exists.intro _ (And.intro (ct_M_here h hp (by omega) (by omega) (by omega)) ?_)))))
  rintro r9 sh9 FR9 IA9 LA9 n9 ⟨z0, z1, z2, z3, z4, z5⟩
  subst z0
  replace z1 := z1.symm
  subst z1
  replace z2 := z2.symm
  subst z2
  replace z3 := z3.symm
  subst z3
  replace z4 := z4.symm
  subst z4
  replace z5 := z5.symm
  subst z5
  refine And.intro (Or.inl rfl) ?_
  refine And.intro (fun d => ?_) (fun d => ?_)
  · simp (disch := (clear d; omega)) only [mj_w_id] at d
    refine And.intro rfl ?_
    refine And.intro h.o ?_
    rw [hp]
    refine Exists.intro (((p + 1 : Nat) : Int)) (And.intro (by first | (rw [mj_w_id (by omega) (by omega)]; done) | (rw [mj_w_id (by omega) (by omega)]; omega) | (unfold mj_w; omega)) ?_)
    refine And.intro h.o ?_
    refine And.intro (fun e => ?_) (fun e => ?_)
    · simp (disch := (clear e; omega)) only [mj_w_id] at e
      refine And.intro h.o (And.intro (Nat.le_of_ble_eq_true rfl) (And.intro (Nat.le_of_ble_eq_true rfl) (And.intro (Nat.le_of_ble_eq_true rfl) (Exists.intro _ (And.intro (ct_M_here (p := p + 1) h (by rw [mj_up_at]) (by omega) (by omega) (by omega)) ?_)))))
      rintro r9 sh9 FR9 IA9 LA9 n9 ⟨z0, z1, z2, z3, z4, z5⟩
      subst z0
      replace z1 := z1.symm
      subst z1
      replace z2 := z2.symm
      subst z2
      replace z3 := z3.symm
      subst z3
      replace z4 := z4.symm
      subst z4
      replace z5 := z5.symm
      subst z5
      refine And.intro (Or.inl rfl) ?_
      rw [hby]
      have bad : ¬ (1 ≤ md_by IA (p + 1) ∧ md_by IA (p + 1) ≤ 127) → mj_G m_M_step Q 55 [some (.inr (.inr (.inl 52))), some (.inl (md_by IA p)), some (.inl (md_by IA (p + 1)))] [] sh FR (mj_up IA 52 20 ((p + 1 : Nat) : Int)) LA n 0 0 := by
        intro hz
        subst hQ
        refine mj_go z_M_step [] 60 ?_
        refine And.intro h.o ?_
        rw [mj_up_at]
        refine And.intro h.o (And.intro (Nat.le_of_ble_eq_true rfl) (And.intro (Nat.le_of_ble_eq_true rfl) (And.intro (Nat.le_of_ble_eq_true rfl) (Exists.intro _ (And.intro (ct_M_fail h) ?_)))))
        rintro r9 sh9 FR9 IA9 LA9 n9 ⟨z0, z1, z2, z3, z4, z5⟩
        subst z0
        replace z1 := z1.symm
        subst z1
        replace z2 := z2.symm
        subst z2
        replace z3 := z3.symm
        subst z3
        replace z4 := z4.symm
        subst z4
        replace z5 := z5.symm
        subst z5
        refine And.intro (Or.inl rfl) ?_
        exact ⟨⟨rfl, rfl, rfl, rfl, Or.inl ⟨p + 1, by unfold ab_stp; rw [if_neg (by omega), if_neg (by omega), if_neg hz], rfl, by rw [mj_up_k (by decide), mj_up_at], by rw [mj_up_at], fun a h1 h2 h3 => by rw [mj_up_ne h1, mj_up_ne h1, mj_up_ne h1], fun a h1 h2 h3 => by rw [mj_up_k h3, mj_up_k h2, mj_up_k h1]⟩⟩, Nat.le_of_ble_eq_true rfl, Nat.le_of_ble_eq_true rfl⟩
      refine And.intro (fun f => ?_) (fun f => ?_)
      · simp (disch := (clear f; omega)) only [mj_w_id] at f
        exact bad (by omega)
      · simp (disch := (clear f; omega)) only [mj_w_id] at f
        refine And.intro (fun g => ?_) (fun g => ?_)
        · simp (disch := (clear g; omega)) only [mj_w_id] at g
          subst hQ
          refine And.intro rfl ?_
          refine And.intro h.o ?_
          rw [mj_up_at]
          refine Exists.intro (((p + 2 : Nat) : Int)) (And.intro (by first | (rw [mj_w_id (by omega) (by omega)]; done) | (rw [mj_w_id (by omega) (by omega)]; omega) | (unfold mj_w; omega)) ?_)
          refine And.intro h.o ?_
          rw [mj_up_up]
          refine Exists.intro (md_by IA p - 128) (And.intro (by first | (rw [mj_w_id (by omega) (by omega)]; done) | (rw [mj_w_id (by omega) (by omega)]; omega) | (unfold mj_w; omega)) ?_)
          refine Exists.intro (128 * md_by IA (p + 1)) (And.intro (by first | (rw [mj_w_id (by omega) (by omega)]; done) | (rw [mj_w_id (by omega) (by omega)]; omega) | (unfold mj_w; omega)) ?_)
          refine Exists.intro (md_by IA p - 128 + 128 * md_by IA (p + 1)) (And.intro (by first | (rw [mj_w_id (by omega) (by omega)]; done) | (rw [mj_w_id (by omega) (by omega)]; omega) | (unfold mj_w; omega)) ?_)
          exact ⟨⟨rfl, rfl, rfl, rfl, Or.inr ⟨(md_by IA p - 128 + 128 * md_by IA (p + 1), p + 2), by unfold ab_stp; rw [if_neg (by omega), if_neg (by omega), if_pos ⟨by omega, by omega⟩], rfl, rfl, by show 0 ≤ md_by IA p - 128 + 128 * md_by IA (p + 1); omega, by show md_by IA p - 128 + 128 * md_by IA (p + 1) < 100000; omega⟩⟩, Nat.le_of_ble_eq_true rfl, Nat.le_of_ble_eq_true rfl⟩
        · simp (disch := (clear g; omega)) only [mj_w_id] at g
          exact bad (by omega)
    · simp (disch := (clear e; omega)) only [mj_w_id] at e
      subst hQ
      exact ⟨⟨rfl, rfl, rfl, rfl, Or.inr ⟨(md_by IA p, p + 1), by unfold ab_stp; rw [if_neg (by omega), if_pos (by omega)], rfl, rfl, by show 0 ≤ md_by IA p; omega, by show md_by IA p < 100000; omega⟩⟩, Nat.le_of_ble_eq_true rfl, Nat.le_of_ble_eq_true rfl⟩
  · simp (disch := (clear d; omega)) only [mj_w_id] at d
    subst hQ
    refine And.intro h.o ?_
    rw [hp]
    refine And.intro h.o (And.intro (Nat.le_of_ble_eq_true rfl) (And.intro (Nat.le_of_ble_eq_true rfl) (And.intro (Nat.le_of_ble_eq_true rfl) (Exists.intro _ (And.intro (ct_M_fail h) ?_)))))
    rintro r9 sh9 FR9 IA9 LA9 n9 ⟨z0, z1, z2, z3, z4, z5⟩
    subst z0
    replace z1 := z1.symm
    subst z1
    replace z2 := z2.symm
    subst z2
    replace z3 := z3.symm
    subst z3
    replace z4 := z4.symm
    subst z4
    replace z5 := z5.symm
    subst z5
    refine And.intro (Or.inl rfl) ?_
    exact ⟨⟨rfl, rfl, rfl, rfl, Or.inl ⟨p, by unfold ab_stp; rw [if_pos (by omega)], rfl, by rw [mj_up_k (by decide), mj_up_at], by rw [mj_up_at], fun a h1 h2 h3 => by rw [mj_up_ne h1, mj_up_ne h1], fun a h1 h2 h3 => by rw [mj_up_k h3, mj_up_k h2]⟩⟩, Nat.le_of_ble_eq_true rfl, Nat.le_of_ble_eq_true rfl⟩
theorem ct_M_empty (h : isM sh FR n) : mj_Ct m_M_empty [.inr (.inr (.inl 52))] sh FR IA LA n (mj_pu (.inl none) sh FR (md_e IA 1000) LA n) := by
  have loop : ∀ (t i : Nat), i + t = 1000 → mj_G m_M_empty (mj_pu (.inl none) sh FR (md_e IA 1000) LA n) 2 [some (.inr (.inr (.inl 52))), some (.inl ((i + 1 : Nat) : Int))] [] sh FR (md_e IA i) LA n 0 0 := by
    intro t
    induction t with
    | zero =>
      intro i hi
      have hi : i = 1000 := by omega
      subst hi
      refine mj_go z_M_empty [2] 60 ?_
      refine And.intro (fun d => ?_) (fun d => ?_)
      · exact ⟨⟨rfl, rfl, rfl, rfl, rfl, rfl⟩, Nat.le_of_ble_eq_true rfl, Nat.le_of_ble_eq_true rfl⟩
      · exact absurd (by decide) d
    | succ t ih =>
      intro i hi
      have ih1 := ih (i + 1) (by omega)
      rw [← md_e_s (i := i)] at ih1
      refine mj_go z_M_empty [2] 60 ?_
      refine And.intro (fun d => ?_) (fun d => ?_)
      · simp (disch := (clear d; omega)) only [mj_w_id] at d
        omega
      · clear d
        refine And.intro h.o (Exists.intro _ (And.intro h.r16 ?_))
        refine Exists.intro (((2003 + i : Nat) : Int)) (And.intro (by first | (rw [mj_w_id (by omega) (by omega)]; done) | (rw [mj_w_id (by omega) (by omega)]; omega) | (unfold mj_w; omega)) ?_)
        refine Exists.intro _ (Exists.intro (2003 + i) (And.intro h.a16 (And.intro (by first | (rw [mj_w_id (by omega) (by omega)]; done) | (rw [mj_w_id (by omega) (by omega)]; omega) | (unfold mj_w; omega)) (And.intro (by omega) ?_))))
        refine Exists.intro (((i + 1 + 1 : Nat) : Int)) (And.intro (by first | (rw [mj_w_id (by omega) (by omega)]; done) | (rw [mj_w_id (by omega) (by omega)]; omega) | (unfold mj_w; omega)) ?_)
        exact ih1
  have h9 := loop 1000 0 (by omega)
  rw [show md_e IA 0 = IA by funext q j; unfold md_e; rw [if_neg (by omega)]] at h9
  refine mj_Ct_of (by decide +kernel) (by decide) (Nat.le_of_ble_eq_true rfl) ?_
  refine mj_go z_M_empty [2] 60 ?_
  exact h9
/-- does stands take the literal -/
abbrev md_ok (IA : mj_FI) (lit : Int) : Prop := 2 ≤ lit ∧ lit % 2 = 0 ∧ lit ≤ 2 * IA 58 2 + 1 ∧ IA 66 (2002 + (lit / 2).toNat) < 0
theorem ct_M_stands (h : isM sh FR n) {lit row : Int} (hl : 0 ≤ lit) (hl2 : lit < 1000000000) (hm : 0 ≤ IA 58 2) (hm2 : IA 58 2 ≤ 1000) (hr : ∀ j, j < 3003 → -1 ≤ IA 66 j ∧ IA 66 j < 315) : mj_Ct m_M_stands [.inr (.inr (.inl 52)), .inl lit, .inl row] sh FR IA LA n (mj_pu (.inl (some (.inl (if md_ok IA lit then 1 else 0)))) sh FR (if md_ok IA lit then mj_up IA 66 (2002 + (lit / 2).toNat) row else IA) LA n) := by
  generalize hQ : mj_pu (.inl (some (.inl (if md_ok IA lit then 1 else 0)))) sh FR (if md_ok IA lit then mj_up IA 66 (2002 + (lit / 2).toNat) row else IA) LA n = Q
  have bad : ¬ md_ok IA lit → mj_G m_M_stands Q 41 [some (.inr (.inr (.inl 52))), some (.inl lit), some (.inl row)] [] sh FR IA LA n 0 0 := by
    intro hz
    rw [if_neg hz, if_neg hz] at hQ
    subst hQ
    refine mj_go z_M_stands [] 60 ?_
    exact ⟨Or.inl rfl, ⟨rfl, rfl, rfl, rfl, rfl, rfl⟩, Nat.le_of_ble_eq_true rfl, Nat.le_of_ble_eq_true rfl⟩
  refine mj_Ct_of (by decide +kernel) (by decide) (Nat.le_of_ble_eq_true rfl) ?_
  refine mj_go z_M_stands [41] 60 ?_
  refine And.intro (fun d => ?_) (fun d => ?_)
  · simp (disch := (clear d; omega)) only [mj_w_id] at d
    exact bad (fun z => by have := z.1; omega)
  · simp (disch := (clear d; omega)) only [mj_w_id] at d
    refine And.intro (by decide) ?_
    refine Exists.intro (lit % 2) (And.intro (nu_rem hl (by omega) (by omega) (by omega)) ?_)
    refine And.intro (fun d2 => ?_) (fun d2 => ?_)
    · simp (disch := (clear d2; omega)) only [mj_w_id] at d2
      exact bad (fun z => by have := z.2.1; omega)
    · simp (disch := (clear d2; omega)) only [mj_w_id] at d2
      refine And.intro h.o (Exists.intro _ (And.intro h.r8 ?_))
      refine Exists.intro _ (Exists.intro (2) (And.intro h.a8 (And.intro (by first | (rw [mj_w_id (by omega) (by omega)]; done) | (rw [mj_w_id (by omega) (by omega)]; omega) | (unfold mj_w; omega)) (And.intro (by omega) ?_))))
      refine Exists.intro (2 * IA 58 2) (And.intro (by first | (rw [mj_w_id (by omega) (by omega)]; done) | (rw [mj_w_id (by omega) (by omega)]; omega) | (unfold mj_w; omega)) ?_)
      refine Exists.intro (2 * IA 58 2 + 1) (And.intro (by first | (rw [mj_w_id (by omega) (by omega)]; done) | (rw [mj_w_id (by omega) (by omega)]; omega) | (unfold mj_w; omega)) ?_)
      refine And.intro (fun d3 => ?_) (fun d3 => ?_)
      · simp (disch := (clear d3; omega)) only [mj_w_id] at d3
        exact bad (fun z => by have := z.2.2.1; omega)
      · simp (disch := (clear d3; omega)) only [mj_w_id] at d3
        have q := hr (2002 + (lit / 2).toNat) (by omega)
        refine And.intro h.o (Exists.intro _ (And.intro h.r16 ?_))
        refine And.intro (by decide) ?_
        refine Exists.intro (lit / 2) (And.intro (nu_div hl (by omega) (by omega) (by omega)) ?_)
        refine Exists.intro (((2002 + (lit / 2).toNat : Nat) : Int)) (And.intro (by first | (rw [mj_w_id (by omega) (by omega)]; done) | (rw [mj_w_id (by omega) (by omega)]; omega) | (unfold mj_w; omega)) ?_)
        refine Exists.intro _ (Exists.intro (2002 + (lit / 2).toNat) (And.intro h.a16 (And.intro (by first | (rw [mj_w_id (by omega) (by omega)]; done) | (rw [mj_w_id (by omega) (by omega)]; omega) | (unfold mj_w; omega)) (And.intro (by omega) ?_))))
        refine And.intro (fun d4 => ?_) (fun d4 => ?_)
        · simp (disch := (clear d4; omega)) only [mj_w_id] at d4
          have hz : md_ok IA lit := ⟨by omega, by omega, by omega, d4⟩
          rw [if_pos hz, if_pos hz] at hQ
          subst hQ
          refine And.intro h.o (Exists.intro _ (And.intro h.r16 ?_))
          refine And.intro (by decide) ?_
          refine Exists.intro (lit / 2) (And.intro (nu_div hl (by omega) (by omega) (by omega)) ?_)
          refine Exists.intro (((2002 + (lit / 2).toNat : Nat) : Int)) (And.intro (by first | (rw [mj_w_id (by omega) (by omega)]; done) | (rw [mj_w_id (by omega) (by omega)]; omega) | (unfold mj_w; omega)) ?_)
          refine Exists.intro _ (Exists.intro (2002 + (lit / 2).toNat) (And.intro h.a16 (And.intro (by first | (rw [mj_w_id (by omega) (by omega)]; done) | (rw [mj_w_id (by omega) (by omega)]; omega) | (unfold mj_w; omega)) (And.intro (by omega) ?_))))
          exact ⟨Or.inr rfl, ⟨rfl, rfl, rfl, rfl, rfl, rfl⟩, Nat.le_of_ble_eq_true rfl, Nat.le_of_ble_eq_true rfl⟩
        · simp (disch := (clear d4; omega)) only [mj_w_id] at d4
          exact bad (fun z => by have := z.2.2.2; omega)
end MM
