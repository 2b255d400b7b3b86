/-! THE REFERENCE: lacks, lesser, rowAt -/
section MM
variable {sh : mj_Sh} {FR : mj_FR} {IA : mj_FI} {LA : mj_LA} {n : Nat}
abbrev md_la (IA : mj_FI) (lit : Int) : Prop := 1 < lit ∧ IA 66 (2002 + (lit / 2).toNat) < 0
theorem ct_M_lacks (h : isM sh FR n) {lit : Int} (h1 : 0 ≤ lit) (h2 : lit ≤ 2001) (hr : md_rr IA) : mj_Ct m_M_lacks [.inr (.inr (.inl 52)), .inl lit] sh FR IA LA n (mj_pu (.inl (some (.inl (if md_la IA lit then 1 else 0)))) sh FR IA LA n) := by
  have q := hr (2002 + (lit / 2).toNat) (by omega)
  refine mj_Ct_of (by decide +kernel) (by decide) (Nat.le_of_ble_eq_true rfl) ?_
  refine mj_go z_M_lacks [] 60 ?_
  refine And.intro (fun d => ?_) (fun d => ?_)
  · simp (disch := (clear d; omega)) only [mj_w_id] at d
    rw [if_neg (fun z => by have := z.1; omega)]
    exact ⟨Or.inl rfl, ⟨rfl, rfl, rfl, rfl, rfl, rfl⟩, Nat.le_of_ble_eq_true rfl, Nat.le_of_ble_eq_true rfl⟩
  · simp (disch := (clear d; omega)) only [mj_w_id] at d
    refine And.intro h.o (Exists.intro _ (And.intro h.r16 ?_))
    refine And.intro (by decide) ?_
    refine Exists.intro (lit / 2) (And.intro (nu_div h1 (by omega) (by omega) (by omega)) ?_)
    refine Exists.intro (((2002 + (lit / 2).toNat : Nat) : Int)) (And.intro (by first | (rw [mj_w_id (by omega) (by omega)]; done) | (rw [mj_w_id (by omega) (by omega)]; omega) | (unfold mj_w; omega)) ?_)
    refine Exists.intro _ (Exists.intro (2002 + (lit / 2).toNat) (And.intro h.a16 (And.intro (by first | (rw [mj_w_id (by omega) (by omega)]; done) | (rw [mj_w_id (by omega) (by omega)]; omega) | (unfold mj_w; omega)) (And.intro (by omega) ?_))))
    refine And.intro (fun e => ?_) (fun e => ?_)
    · simp (disch := (clear e; omega)) only [mj_w_id] at e
      rw [if_neg (fun z => by have := z.2; omega)]
      exact ⟨Or.inl rfl, ⟨rfl, rfl, rfl, rfl, rfl, rfl⟩, Nat.le_of_ble_eq_true rfl, Nat.le_of_ble_eq_true rfl⟩
    · simp (disch := (clear e; omega)) only [mj_w_id] at e
      rw [if_pos ⟨by omega, by omega⟩]
      exact ⟨Or.inr rfl, ⟨rfl, rfl, rfl, rfl, rfl, rfl⟩, Nat.le_of_ble_eq_true rfl, Nat.le_of_ble_eq_true rfl⟩
def md_le (IA : mj_FI) (a lit : Int) : Int := if md_la IA lit ∧ (a < 0 ∨ lit / 2 < a) then lit / 2 else a
theorem ct_M_lesser (h : isM sh FR n) {a lit : Int} (ha : -1 ≤ a) (ha2 : a ≤ 1001) (h1 : 0 ≤ lit) (h2 : lit ≤ 2001) (hr : md_rr IA) : mj_Ct m_M_lesser [.inr (.inr (.inl 52)), .inl a, .inl lit] sh FR IA LA n (mj_pu (.inl (some (.inl (md_le IA a lit)))) sh FR IA LA n) := by
  unfold md_le
  refine mj_Ct_of (by decide +kernel) (by decide) (Nat.le_of_ble_eq_true rfl) ?_
  refine mj_go z_M_lesser [] 60 ?_
  refine And.intro h.o (And.intro (Nat.le_of_ble_eq_true rfl) (And.intro (Nat.le_of_ble_eq_true rfl) (And.intro (Nat.le_of_ble_eq_true rfl) (Exists.intro _ (And.intro (ct_M_lacks h h1 h2 hr) ?_)))))
  rintro r9 sh9 FR9 IA9 LA9 n9 ⟨z0, z1, z2, z3, z4, z5⟩
  subst z0
  replace z1 := z1.symm
  subst z1
  replace z2 := z2.symm
  subst z2
  replace z3 := z3.symm
  subst z3
  replace z4 := z4.symm
  subst z4
  replace z5 := z5.symm
  subst z5
  refine And.intro (Or.inl rfl) ?_
  by_cases hz : md_la IA lit
  · rw [if_pos hz]
    refine And.intro (fun d => ?_) (fun d => ?_)
    · exact absurd d (by decide)
    · clear d
      refine And.intro (fun d => ?_) (fun d => ?_)
      · simp (disch := (clear d; omega)) only [mj_w_id] at d
        rw [if_pos ⟨hz, Or.inl d⟩]
        refine And.intro (by decide) ?_
        refine Exists.intro (lit / 2) (And.intro (nu_div h1 (by omega) (by omega) (by omega)) ?_)
        exact ⟨⟨rfl, rfl, rfl, rfl, rfl, rfl⟩, Nat.le_of_ble_eq_true rfl, Nat.le_of_ble_eq_true rfl⟩
      · simp (disch := (clear d; omega)) only [mj_w_id] at d
        refine And.intro (by decide) ?_
        refine Exists.intro (lit / 2) (And.intro (nu_div h1 (by omega) (by omega) (by omega)) ?_)
        refine And.intro (fun e => ?_) (fun e => ?_)
        · simp (disch := (clear e; omega)) only [mj_w_id] at e
          rw [if_neg (fun z => by have := z.2; omega)]
          exact ⟨⟨rfl, rfl, rfl, rfl, rfl, rfl⟩, Nat.le_of_ble_eq_true rfl, Nat.le_of_ble_eq_true rfl⟩
        · simp (disch := (clear e; omega)) only [mj_w_id] at e
          rw [if_pos ⟨hz, Or.inr (by omega)⟩]
          refine And.intro (by decide) ?_
          refine Exists.intro (lit / 2) (And.intro (nu_div h1 (by omega) (by omega) (by omega)) ?_)
          exact ⟨⟨rfl, rfl, rfl, rfl, rfl, rfl⟩, Nat.le_of_ble_eq_true rfl, Nat.le_of_ble_eq_true rfl⟩
  · rw [if_neg hz, if_neg (fun z => hz z.1)]
    refine And.intro (fun d => ?_) (fun d => ?_)
    · exact ⟨⟨rfl, rfl, rfl, rfl, rfl, rfl⟩, Nat.le_of_ble_eq_true rfl, Nat.le_of_ble_eq_true rfl⟩
    · exact absurd (show mj_w 0 = 0 by decide) d
theorem ct_M_rowAt (h : isM sh FR n) {c : Nat} {lit : Int} (hc : c < 3) (h1 : 0 ≤ lit) (h2 : lit ≤ 2001) : mj_Ct m_M_rowAt [.inr (.inr (.inl 52)), .inl c, .inl lit] sh FR IA LA n (mj_pu (.inl (some (.inl (IA 66 (1001 * c + (lit / 2).toNat))))) sh FR IA LA n) := by
  refine mj_Ct_of (by decide +kernel) (by decide) (Nat.le_of_ble_eq_true rfl) ?_
  refine mj_go z_M_rowAt [] 60 ?_
  refine And.intro h.o (Exists.intro _ (And.intro h.r16 ?_))
  refine Exists.intro (((1001 * c : Nat) : Int)) (And.intro (by first | (rw [mj_w_id (by omega) (by omega)]; done) | (rw [mj_w_id (by omega) (by omega)]; omega) | (unfold mj_w; omega)) ?_)
  refine And.intro (by decide) ?_
  refine Exists.intro (lit / 2) (And.intro (nu_div h1 (by omega) (by omega) (by omega)) ?_)
  refine Exists.intro (((1001 * c + (lit / 2).toNat : Nat) : Int)) (And.intro (by first | (rw [mj_w_id (by omega) (by omega)]; done) | (rw [mj_w_id (by omega) (by omega)]; omega) | (unfold mj_w; omega)) ?_)
  refine Exists.intro _ (Exists.intro (1001 * c + (lit / 2).toNat) (And.intro h.a16 (And.intro (by first | (rw [mj_w_id (by omega) (by omega)]; done) | (rw [mj_w_id (by omega) (by omega)]; omega) | (unfold mj_w; omega)) (And.intro (by omega) ?_))))
  exact ⟨⟨rfl, rfl, rfl, rfl, rfl, rfl⟩, Nat.le_of_ble_eq_true rfl, Nat.le_of_ble_eq_true rfl⟩
/-- the least missing so far -/
def md_mn (U : Int → Prop) (so : Nat → Int) (x : Int) : Prop := (x = -1 ∧ ∀ lit, U lit → ¬ so (lit / 2).toNat = -1) ∨ (1 ≤ x ∧ x ≤ 1000 ∧ (∃ lit, U lit ∧ so (lit / 2).toNat = -1 ∧ x = lit / 2) ∧ ∀ lit, U lit → so (lit / 2).toNat = -1 → x ≤ lit / 2)
theorem md_mn_add {I m : Nat} {U U' : Int → Prop} {so : Nat → Int} {x l : Int} (h : md_mn U so x) (h1 : 0 ≤ l) (h2 : l ≤ 2001) (hro : md_ro IA I so) (hs0 : so 0 = 0) (hsn : ∀ j, j < 1001 → -1 ≤ so j) (hU : ∀ y, U' y ↔ U y ∨ y = l) : md_mn U' so (md_le IA x l) := by
  have hla : md_la IA l ↔ so (l / 2).toNat = -1 := by
    by_cases e : l < 2
    · have e2 : (l / 2).toNat = 0 := by omega
      rw [e2, hs0]
      exact ⟨fun z => by have := z.1; omega, fun z => by omega⟩
    · have q := hro.2 (l / 2).toNat (by omega) (by omega)
      have q2 := hsn (l / 2).toNat (by omega)
      unfold md_la
      rw [q]
      unfold rho
      split
      · omega
      · split <;> omega
  unfold md_le
  by_cases hz : so (l / 2).toNat = -1
  · have hl := hla.mpr hz
    have hl2 := hl.1
    rcases h with ⟨a1, a2⟩ | ⟨a1, a0, a2, a3⟩
    · rw [if_pos ⟨hl, Or.inl (by omega)⟩]
      refine Or.inr ⟨by omega, by omega, ⟨l, (hU l).mpr (Or.inr rfl), hz, rfl⟩, fun y hy hs => ?_⟩
      rcases (hU y).mp hy with q | q
      · exact absurd hs (a2 y q)
      · rw [q]
        exact Int.le_refl _
    · by_cases hc : l / 2 < x
      · rw [if_pos ⟨hl, Or.inr hc⟩]
        refine Or.inr ⟨by omega, by omega, ⟨l, (hU l).mpr (Or.inr rfl), hz, rfl⟩, fun y hy hs => ?_⟩
        rcases (hU y).mp hy with q | q
        · have := a3 y q hs
          omega
        · rw [q]
          exact Int.le_refl _
      · rw [if_neg (fun z => by have := z.2; omega)]
        refine Or.inr ⟨a1, a0, ?_, fun y hy hs => ?_⟩
        · obtain ⟨y, y1, y2⟩ := a2
          exact ⟨y, (hU y).mpr (Or.inl y1), y2⟩
        · rcases (hU y).mp hy with q | q
          · exact a3 y q hs
          · rw [q]
            omega
  · rw [if_neg (fun z => hz (hla.mp z.1))]
    rcases h with ⟨a1, a2⟩ | ⟨a1, a0, a2, a3⟩
    · refine Or.inl ⟨a1, fun y hy => ?_⟩
      rcases (hU y).mp hy with q | q
      · exact a2 y q
      · rw [q]
        exact hz
    · refine Or.inr ⟨a1, a0, ?_, fun y hy hs => ?_⟩
      · obtain ⟨y, y1, y2⟩ := a2
        exact ⟨y, (hU y).mpr (Or.inl y1), y2⟩
      · rcases (hU y).mp hy with q | q
        · exact a3 y q hs
        · rw [q] at hs
          exact absurd hs hz
end MM
