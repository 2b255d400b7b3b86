/-! THE REFERENCE: arrange -/
/-- depths of the rows so far: pl have theirs -/
def ma_I (X Y : Nat → Nat) (G : Nat) (D : Nat → Int) (pl : List Nat) : Prop := (∀ r, r < 15 → D r = 0) ∧ (∀ r, 15 + G ≤ r → r < 315 → D r = -1) ∧ (∀ k, k < G → (D (15 + k) = -1 ∧ ¬ k ∈ pl) ∨ (0 ≤ D (X k) ∧ 0 ≤ D (Y k) ∧ D (15 + k) = 1 + max (D (X k)) (D (Y k)) ∧ k ∈ pl)) ∧ pl.Nodup ∧ (∀ k ∈ pl, k < G) ∧ (∀ r, r < 315 → -1 ≤ D r ∧ D r ≤ (pl.length : Int))
theorem ma_I.len {X Y : Nat → Nat} {G : Nat} {D : Nat → Int} {pl : List Nat} (h : ma_I X Y G D pl) : pl.length ≤ G := nd_len G pl 0 h.2.2.2.1 (fun x hx => ⟨Nat.zero_le _, by have := h.2.2.2.2.1 x hx; omega⟩)
theorem ma_I_add {X Y : Nat → Nat} {G k : Nat} {D : Nat → Int} {pl : List Nat} (h : ma_I X Y G D pl) (hG : G ≤ 300) (hk : k < G) (hn : D (15 + k) = -1) (hx : 0 ≤ D (X k)) (hy : 0 ≤ D (Y k)) (hX : ∀ k, k < G → X k < 315 ∧ Y k < 315) : ma_I X Y G (mj_u D (15 + k) (1 + max (D (X k)) (D (Y k)))) (pl ++ [k]) := by
  obtain ⟨a1, a2, a3, a4, a5, a6⟩ := h
  have ne : ∀ r, 0 ≤ D r → r ≠ 15 + k := fun r hr e => by rw [e] at hr; omega
  have hkp : ¬ k ∈ pl := by
    rcases a3 k hk with ⟨_, q⟩ | ⟨_, _, q, _⟩
    · exact q
    · omega
  refine ⟨fun r hr => by rw [mj_u_ne (by omega)]; exact a1 r hr, fun r h1 h2 => by rw [mj_u_ne (by omega)]; exact a2 r h1 h2, fun i hi => ?_, ?_, fun i hi => ?_, fun r hr => ?_⟩
  · by_cases e : i = k
    · subst e
      rw [mj_u_at, mj_u_ne (ne _ hx), mj_u_ne (ne _ hy)]
      exact Or.inr ⟨hx, hy, rfl, by simp⟩
    · rw [mj_u_ne (show 15 + i ≠ 15 + k by omega)]
      rcases a3 i hi with ⟨q1, q2⟩ | ⟨q1, q2, q3, q4⟩
      · refine Or.inl ⟨q1, fun z => ?_⟩
        rcases List.mem_append.mp z with z | z
        · exact q2 z
        · exact e (by simpa using z)
      · rw [mj_u_ne (ne _ q1), mj_u_ne (ne _ q2)]
        exact Or.inr ⟨q1, q2, q3, List.mem_append_left _ q4⟩
  · rw [List.nodup_append]
    refine ⟨a4, by simp, fun a ha c hc e => ?_⟩
    have : c = k := by simpa using hc
    subst this
    subst e
    exact hkp ha
  · rcases List.mem_append.mp hi with z | z
    · exact a5 i z
    · have : i = k := by simpa using z
      omega
  · rw [List.length_append, List.length_singleton]
    have b1 := a6 (X k) (hX k hk).1
    have b2 := a6 (Y k) (hX k hk).2
    unfold mj_u
    split
    · omega
    · have := a6 r hr
      omega
/-- where arrange stands: the depths D, all else as before -/
def ma_J (IA J : mj_FI) (D : Nat → Int) : Prop := (∀ q, q ≠ 67 → J q = IA q) ∧ (∀ r, r < 315 → J 67 (630 + r) = D r) ∧ (∀ j, j < 630 → J 67 j = IA 67 j)
theorem ma_J_up {IA J : mj_FI} {D : Nat → Int} {r : Nat} {x : Int} (h : ma_J IA J D) : ma_J IA (mj_up J 67 (630 + r) x) (mj_u D r x) := by
  refine ⟨fun q hq => by rw [mj_up_ne hq]; exact h.1 q hq, fun i hi => ?_, fun j hj => by rw [mj_up_row, mj_u_ne (by omega)]; exact h.2.2 j hj⟩
  rw [mj_up_row]
  by_cases e : i = r
  · subst e
    rw [mj_u_at, mj_u_at]
  · rw [mj_u_ne (by omega), mj_u_ne e]
    exact h.2.1 i hi
/-- no gate can get its depth any more -/
def ma_S (X Y : Nat → Nat) (G : Nat) (D : Nat → Int) : Prop := ∀ k, k < G → D (15 + k) = -1 → D (X k) < 0 ∨ D (Y k) < 0
section MM
variable {sh : mj_Sh} {FR : mj_FR} {IA : mj_FI} {LA : mj_LA} {n : Nat}
set_option maxHeartbeats 2000000 in
/-- the passes, up to pc 179 -/
theorem ma_pass (h : isM sh FR n) {Q : mj_Q} {G : Nat} {X Y : Nat → Nat} (hG : IA 56 2 = (G : Int)) (hG2 : G ≤ 300)
    (hX : ∀ k, k < G → (0 ≤ IA 63 (600 + k) ∧ IA 63 (600 + k) ≤ 2001 ∧ IA 66 (2002 + (IA 63 (600 + k) / 2).toNat) = (X k : Int) ∧ X k < 315) ∧ 0 ≤ IA 64 (600 + k) ∧ IA 64 (600 + k) ≤ 2001 ∧ IA 66 (2002 + (IA 64 (600 + k) / 2).toNat) = (Y k : Int) ∧ Y k < 315)
    (fin : ∀ (J : mj_FI) (D : Nat → Int) (pl : List Nat) (y4 y5 y6 : Option mj_V), ma_J IA J D → ma_I X Y G D pl → ma_S X Y G D → mj_G m_M_arrange Q 179 [some (.inr (.inr (.inl 52))), some (.inl 600), some (.inl 0), some (.inl 0), y4, y5, y6] [] sh FR J LA n 0 0) :
    ∀ (t : Nat) (J : mj_FI) (D : Nat → Int) (pl : List Nat) (y4 y5 y6 : Option mj_V), G < pl.length + t → ma_J IA J D → ma_I X Y G D pl →
      mj_G m_M_arrange Q 44 [some (.inr (.inr (.inl 52))), some (.inl 600), some (.inl 0), some (.inl 1), y4, y5, y6] [] sh FR J LA n 0 0 := by
  intro t
  induction t with
  | zero =>
    intro J D pl y4 y5 y6 ht hJ hI
    have := hI.len
    omega
  | succ t ih =>
    intro J0 D0 pl0 y4 y5 y6 ht hJ0 hI0
    have pass : ∀ (u k : Nat) (J : mj_FI) (D : Nat → Int) (pl : List Nat) (mo : Int) (y5 y6 : Option mj_V), k + u = G → ma_J IA J D → ma_I X Y G D pl → ((mo = 0 ∧ pl0.length ≤ pl.length ∧ (∀ i, i < k → D (15 + i) = -1 → D (X i) < 0 ∨ D (Y i) < 0)) ∨ (mo = 1 ∧ pl0.length < pl.length)) →
        mj_G m_M_arrange Q 53 [some (.inr (.inr (.inl 52))), some (.inl 600), some (.inl 0), some (.inl mo), some (.inl k), y5, y6] [] sh FR J LA n 0 0 := by
      intro u
      induction u with
      | zero =>
        intro k J D pl mo y5 y6 hk hJ hI hmo
        have e56 : J 56 2 = (G : Int) := by rw [hJ.1 56 (by decide)]; exact hG
        refine mj_go z_M_arrange [44] 60 ?_
        refine And.intro h.o (Exists.intro _ (And.intro h.r6 ?_))
        refine Exists.intro _ (Exists.intro (2) (And.intro h.a6 (And.intro (by first | (rw [mj_w_id (by omega) (by omega)]; done) | (rw [mj_w_id (by omega) (by omega)]; omega) | (unfold mj_w; omega)) (And.intro (by omega) ?_))))
        rw [e56]
        refine And.intro (fun d => ?_) (fun d => ?_)
        · rcases hmo with ⟨z1, zl, z2⟩ | ⟨z1, z2⟩
          · subst z1
            refine mj_go z_M_arrange [179] 60 ?_
            refine And.intro (fun e => ?_) (fun e => ?_)
            · exact fin J D pl _ _ _ hJ hI (fun i hi => z2 i (by omega))
            · exact absurd (show mj_w 0 = 0 by decide) e
          · subst z1
            exact ih J D pl _ _ _ (by omega) hJ hI
        · simp (disch := (clear d; omega)) only [mj_w_id] at d
          omega
      | succ u ihu =>
        intro k J D pl mo y5 y6 hk hJ hI hmo
        have e56 : J 56 2 = (G : Int) := by rw [hJ.1 56 (by decide)]; exact hG
        have e63 : J 63 = IA 63 := hJ.1 63 (by decide)
        have e64 : J 64 = IA 64 := hJ.1 64 (by decide)
        have e66 : J 66 = IA 66 := hJ.1 66 (by decide)
        obtain ⟨⟨a1, a2, a3, a4⟩, b1, b2, b3, b4⟩ := hX k (by omega)
        have hl := hI.len
        have dx := hI.2.2.2.2.2 (X k) a4
        have dy := hI.2.2.2.2.2 (Y k) b4
        have dk := hI.2.2.2.2.2 (15 + k) (by omega)
        have jx := hJ.2.1 (X k) a4
        have jy := hJ.2.1 (Y k) b4
        have jk : J 67 (645 + k) = D (15 + k) := by
          rw [show 645 + k = 630 + (15 + k) by omega]
          exact hJ.2.1 (15 + k) (by omega)
        have skip : (D (15 + k) = -1 → D (X k) < 0 ∨ D (Y k) < 0) → mj_G m_M_arrange Q 170 [some (.inr (.inr (.inl 52))), some (.inl 600), some (.inl 0), some (.inl mo), some (.inl k), some (.inl (D (X k))), some (.inl (D (Y k)))] [] sh FR J LA n 0 0 := by
          intro hz
          refine mj_go z_M_arrange [53] 60 ?_
          refine Exists.intro (((k + 1 : Nat) : Int)) (And.intro (by first | (rw [mj_w_id (by omega) (by omega)]; done) | (rw [mj_w_id (by omega) (by omega)]; omega) | (unfold mj_w; omega)) ?_)
          refine ihu (k + 1) J D pl mo _ _ (by omega) hJ hI ?_
          rcases hmo with ⟨z1, zl, z2⟩ | z
          · refine Or.inl ⟨z1, zl, fun i hi => ?_⟩
            by_cases e : i = k
            · subst e
              exact hz
            · exact z2 i (by omega)
          · exact Or.inr z
        have put : ∀ v : Int, D (15 + k) = -1 → 0 ≤ D (X k) → 0 ≤ D (Y k) → v = max (D (X k)) (D (Y k)) → mj_G m_M_arrange Q 166 [some (.inr (.inr (.inl 52))), some (.inl 600), some (.inl 0), some (.inl mo), some (.inl k), some (.inl (D (X k))), some (.inl (D (Y k)))] [.inl v, .inl 1, .inl ((645 + k : Nat) : Int), .inr (.inr (.inl 67))] sh FR J LA n 0 0 := by
          intro v z1 z2 z3 hv
          subst hv
          have hJ' := ma_J_up (r := 15 + k) (x := 1 + max (D (X k)) (D (Y k))) hJ
          rw [show 630 + (15 + k) = 645 + k by omega] at hJ'
          have hI' := ma_I_add hI hG2 (by omega) z1 z2 z3 (fun k hk => ⟨(hX k hk).1.2.2.2, (hX k hk).2.2.2.2⟩)
          refine mj_go z_M_arrange [53] 60 ?_
          refine Exists.intro ((1 + max (D (X k)) (D (Y k)))) (And.intro (by first | (rw [mj_w_id (by omega) (by omega)]; done) | (rw [mj_w_id (by omega) (by omega)]; omega) | (unfold mj_w; omega)) ?_)
          refine Exists.intro _ (Exists.intro (645 + k) (And.intro h.a17 (And.intro (by first | (rw [mj_w_id (by omega) (by omega)]; done) | (rw [mj_w_id (by omega) (by omega)]; omega) | (unfold mj_w; omega)) (And.intro (by omega) ?_))))
          refine Exists.intro (((k + 1 : Nat) : Int)) (And.intro (by first | (rw [mj_w_id (by omega) (by omega)]; done) | (rw [mj_w_id (by omega) (by omega)]; omega) | (unfold mj_w; omega)) ?_)
          refine ihu (k + 1) _ _ _ 1 _ _ (by omega) hJ' hI' (Or.inr ⟨rfl, ?_⟩)
          rw [List.length_append, List.length_singleton]
          rcases hmo with ⟨y1, y2⟩ | ⟨y1, y2⟩
          · have := y2.1
            omega
          · omega
        clear ihu ih fin hX
        refine mj_go z_M_arrange [53, 166, 170] 60 ?_
        refine And.intro h.o (Exists.intro _ (And.intro h.r6 ?_))
        refine Exists.intro _ (Exists.intro (2) (And.intro h.a6 (And.intro (by first | (rw [mj_w_id (by omega) (by omega)]; done) | (rw [mj_w_id (by omega) (by omega)]; omega) | (unfold mj_w; omega)) (And.intro (by omega) ?_))))
        rw [e56]
        refine And.intro (fun d => ?_) (fun d => ?_)
        · simp (disch := (clear d; omega)) only [mj_w_id] at d
          omega
        · clear d
          refine And.intro h.o (Exists.intro _ (And.intro h.r17 ?_))
          refine And.intro h.o (Exists.intro _ (And.intro h.r13 ?_))
          refine Exists.intro (((600 + k : Nat) : Int)) (And.intro (by first | (rw [mj_w_id (by omega) (by omega)]; done) | (rw [mj_w_id (by omega) (by omega)]; omega) | (unfold mj_w; omega)) ?_)
          refine Exists.intro _ (Exists.intro (600 + k) (And.intro h.a13 (And.intro (by first | (rw [mj_w_id (by omega) (by omega)]; done) | (rw [mj_w_id (by omega) (by omega)]; omega) | (unfold mj_w; omega)) (And.intro (by omega) ?_))))
          rw [e63]
          refine And.intro h.o (And.intro (Nat.le_of_ble_eq_true rfl) (And.intro (Nat.le_of_ble_eq_true rfl) (And.intro (Nat.le_of_ble_eq_true rfl) (Exists.intro _ (And.intro (ct_M_rowAt (c := 2) h (by decide) a1 a2) ?_)))))
          rintro r9 sh9 FR9 IA9 LA9 n9 ⟨z0, z1, z2, z3, z4, z5⟩
          subst z0
          replace z1 := z1.symm
          subst z1
          replace z2 := z2.symm
          subst z2
          replace z3 := z3.symm
          subst z3
          replace z4 := z4.symm
          subst z4
          replace z5 := z5.symm
          subst z5
          refine And.intro (Or.inl rfl) ?_
          rw [e66, show 1001 * 2 + (IA 63 (600 + k) / 2).toNat = 2002 + (IA 63 (600 + k) / 2).toNat by omega, a3]
          refine Exists.intro (((630 + X k : Nat) : Int)) (And.intro (by first | (rw [mj_w_id (by omega) (by omega)]; done) | (rw [mj_w_id (by omega) (by omega)]; omega) | (unfold mj_w; omega)) ?_)
          refine Exists.intro _ (Exists.intro (630 + X k) (And.intro h.a17 (And.intro (by first | (rw [mj_w_id (by omega) (by omega)]; done) | (rw [mj_w_id (by omega) (by omega)]; omega) | (unfold mj_w; omega)) (And.intro (by omega) ?_))))
          rw [jx]
          refine And.intro h.o (Exists.intro _ (And.intro h.r17 ?_))
          refine And.intro h.o (Exists.intro _ (And.intro h.r14 ?_))
          refine Exists.intro (((600 + k : Nat) : Int)) (And.intro (by first | (rw [mj_w_id (by omega) (by omega)]; done) | (rw [mj_w_id (by omega) (by omega)]; omega) | (unfold mj_w; omega)) ?_)
          refine Exists.intro _ (Exists.intro (600 + k) (And.intro h.a14 (And.intro (by first | (rw [mj_w_id (by omega) (by omega)]; done) | (rw [mj_w_id (by omega) (by omega)]; omega) | (unfold mj_w; omega)) (And.intro (by omega) ?_))))
          rw [e64]
          refine And.intro h.o (And.intro (Nat.le_of_ble_eq_true rfl) (And.intro (Nat.le_of_ble_eq_true rfl) (And.intro (Nat.le_of_ble_eq_true rfl) (Exists.intro _ (And.intro (ct_M_rowAt (c := 2) h (by decide) b1 b2) ?_)))))
          rintro r9 sh9 FR9 IA9 LA9 n9 ⟨z0, z1, z2, z3, z4, z5⟩
          subst z0
          replace z1 := z1.symm
          subst z1
          replace z2 := z2.symm
          subst z2
          replace z3 := z3.symm
          subst z3
          replace z4 := z4.symm
          subst z4
          replace z5 := z5.symm
          subst z5
          refine And.intro (Or.inl rfl) ?_
          rw [e66, show 1001 * 2 + (IA 64 (600 + k) / 2).toNat = 2002 + (IA 64 (600 + k) / 2).toNat by omega, b3]
          refine Exists.intro (((630 + Y k : Nat) : Int)) (And.intro (by first | (rw [mj_w_id (by omega) (by omega)]; done) | (rw [mj_w_id (by omega) (by omega)]; omega) | (unfold mj_w; omega)) ?_)
          refine Exists.intro _ (Exists.intro (630 + Y k) (And.intro h.a17 (And.intro (by first | (rw [mj_w_id (by omega) (by omega)]; done) | (rw [mj_w_id (by omega) (by omega)]; omega) | (unfold mj_w; omega)) (And.intro (by omega) ?_))))
          rw [jy]
          refine And.intro h.o (Exists.intro _ (And.intro h.r17 ?_))
          refine Exists.intro (((645 + k : Nat) : Int)) (And.intro (by first | (rw [mj_w_id (by omega) (by omega)]; done) | (rw [mj_w_id (by omega) (by omega)]; omega) | (unfold mj_w; omega)) ?_)
          refine Exists.intro _ (Exists.intro (645 + k) (And.intro h.a17 (And.intro (by first | (rw [mj_w_id (by omega) (by omega)]; done) | (rw [mj_w_id (by omega) (by omega)]; omega) | (unfold mj_w; omega)) (And.intro (by omega) ?_))))
          rw [jk]
          clear a3 b3
          refine And.intro (fun d => ?_) (fun d => ?_)
          · simp (disch := (clear d; omega)) only [mj_w_id] at d
            exact skip (by omega)
          · simp (disch := (clear d; omega)) only [mj_w_id] at d
            refine And.intro (fun d2 => ?_) (fun d2 => ?_)
            · simp (disch := (clear d2; omega)) only [mj_w_id] at d2
              exact skip (fun _ => Or.inl d2)
            · simp (disch := (clear d2; omega)) only [mj_w_id] at d2
              refine And.intro (fun d3 => ?_) (fun d3 => ?_)
              · simp (disch := (clear d3; omega)) only [mj_w_id] at d3
                refine And.intro h.o (Exists.intro _ (And.intro h.r17 ?_))
                refine Exists.intro (((645 + k : Nat) : Int)) (And.intro (by first | (rw [mj_w_id (by omega) (by omega)]; done) | (rw [mj_w_id (by omega) (by omega)]; omega) | (unfold mj_w; omega)) ?_)
                refine And.intro (fun d4 => ?_) (fun d4 => ?_)
                · simp (disch := (clear d4; omega)) only [mj_w_id] at d4
                  exact put _ (by omega) (by omega) (by omega) (by omega)
                · simp (disch := (clear d4; omega)) only [mj_w_id] at d4
                  exact put _ (by omega) (by omega) (by omega) (by omega)
              · simp (disch := (clear d3; omega)) only [mj_w_id] at d3
                exact skip (fun _ => Or.inr (by omega))
    refine mj_go z_M_arrange [53] 60 ?_
    refine And.intro (fun d => ?_) (fun d => ?_)
    · exact absurd d (by decide)
    · exact pass G 0 J0 D0 pl0 0 _ _ (by omega) hJ0 hI0 (Or.inl ⟨rfl, Nat.le_refl _, fun i hi => by omega⟩)
end MM
