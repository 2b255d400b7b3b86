/-! THE REFERENCE: connect -/
/-- the literals that are used -/
def nUx (le ri ou : Nat → Int) (I O G : Nat) (lit : Int) : Prop := (∃ k, k < O ∧ lit = ou k) ∨ ∃ j, j < G ∧ (lit = le (I + 1 + j) ∨ lit = ri (I + 1 + j))
/-- the row of a fan-in -/
def mRow (I : Nat) (so f : Nat → Int) (k : Nat) : Nat := (rho I (so (f (I + 1 + k) / 2).toNat)).toNat
def mg_v (X Y : Nat → Nat) (I G : Nat) (ow : Nat → Int) (kk : Nat) (v : Int) : Prop := (v = -1 ∧ ∀ k, k < kk → ¬ mb_R X Y G k (15 + k)) ∨ (∃ k, k < kk ∧ mb_R X Y G k (15 + k) ∧ v = ow (I + 1 + k) / 2 ∧ ∀ i, i < kk → mb_R X Y G i (15 + i) → v ≤ ow (I + 1 + i) / 2)
/-- the draft changes in depth, order, reached alone, and where a fault is noted -/
def mc_f (IA J : mj_FI) : Prop := (∀ q, q ≠ 52 → q ≠ 67 → q ≠ 68 → q ≠ 72 → J q = IA q) ∧ (∀ k, k ≠ 21 → k ≠ 22 → J 52 k = IA 52 k) ∧ (∀ j, j < 630 → J 67 j = IA 67 j) ∧ (∀ j, j < 600 → J 68 j = IA 68 j)
def mc_q (I O G : Nat) (so ow le ri ou : Nat → Int) (IA J : mj_FI) : Prop := mc_f IA J ∧
  ((J 52 21 = 7 ∧ 1 ≤ J 52 22 ∧ md_mn (nUx le ri ou I O G) so (J 52 22)) ∨
   (md_mn (nUx le ri ou I O G) so (-1) ∧ ∃ (D : Nat → Int) (pl : List Nat), ma_I (mRow I so le) (mRow I so ri) G D pl ∧ ma_S (mRow I so le) (mRow I so ri) G D ∧
     ((J 52 21 = IA 52 21 ∧ (mo_d D G G).length = G ∧ (∀ r, r < 315 → J 67 (630 + r) = D r) ∧ ∀ (i s : Nat), (mo_d D G G)[i]? = some s → J 68 (600 + i) = (s : Int)) ∨
      (¬ (mo_d D G G).length = G ∧ J 52 21 = 8 ∧ mg_v (mRow I so le) (mRow I so ri) I G ow G (J 52 22)))))
theorem rho_lt {I G : Nat} {s : Int} (h1 : 0 ≤ s) (h2 : s < (I + G + 1 : Nat)) (hI : I ≤ 14) (hG : G ≤ 300) : (rho I s = ((rho I s).toNat : Int)) ∧ (rho I s).toNat < 315 := by
  unfold rho
  rw [if_neg (by omega)]
  split <;> omega
section MM
variable {sh : mj_Sh} {FR : mj_FR} {IA : mj_FI} {LA : mj_LA} {n : Nat}
set_option maxHeartbeats 4000000 in
theorem ct_M_connect (h : isM sh FR n) {I O G : Nat} {so ow le ri ou : Nat → Int} (hI2 : I ≤ 14) (hG : IA 56 2 = (G : Int)) (hG2 : G ≤ 300) (hO : IA 57 2 = (O : Int)) (hO2 : O ≤ 16) (hro : md_ro IA I so) (hrr : md_rr IA) (hs0 : so 0 = 0) (hsn : ∀ j, j < 1001 → -1 ≤ so j ∧ so j < (I + G + 1 : Nat)) (hgt : md_gt IA I G ow le ri) (hou : ∀ k, k < O → IA 65 (32 + k) = ou k) (hU : ∀ lit, nUx le ri ou I O G lit → 0 ≤ lit ∧ lit ≤ 2001) (how : ∀ k, k < G → 0 ≤ ow (I + 1 + k) ∧ ow (I + 1 + k) ≤ 2001) :
    mj_Ct m_M_connect [.inr (.inr (.inl 52))] sh FR IA LA n (mj_po (fun o J => o = .inl none ∧ mc_q I O G so ow le ri ou IA J) sh FR LA n) := by
  generalize hQ : mj_po (fun o J => o = .inl none ∧ mc_q I O G so ow le ri ou IA J) sh FR LA n = Q
  have uo : ∀ k, k < O → 0 ≤ ou k ∧ ou k ≤ 2001 := fun k hk => hU _ (Or.inl ⟨k, hk, rfl⟩)
  have ul : ∀ k, k < G → 0 ≤ le (I + 1 + k) ∧ le (I + 1 + k) ≤ 2001 := fun k hk => hU _ (Or.inr ⟨k, hk, Or.inl rfl⟩)
  have ur : ∀ k, k < G → 0 ≤ ri (I + 1 + k) ∧ ri (I + 1 + k) ≤ 2001 := fun k hk => hU _ (Or.inr ⟨k, hk, Or.inr rfl⟩)
  have mnr : ∀ {U : Int → Prop} {x : Int}, md_mn U so x → -1 ≤ x ∧ x ≤ 1000 := by
    rintro U x (z | z)
    · omega
    · omega
  have ring : ∀ (t k : Nat) (J : mj_FI) (none v : Int) (y4 : Option mj_V) (D : Nat → Int) (pl : List Nat), k + t = G → md_mn (nUx le ri ou I O G) so (-1) → ma_I (mRow I so le) (mRow I so ri) G D pl → ma_S (mRow I so le) (mRow I so ri) G D → ¬ (mo_d D G G).length = G → mX IA G (mRow I so le) (mRow I so ri) → (∀ q, q ≠ 67 → q ≠ 68 → q ≠ 72 → J q = IA q) → (∀ j, j < 630 → J 67 j = IA 67 j) → (∀ j, j < 600 → J 68 j = IA 68 j) → mg_v (mRow I so le) (mRow I so ri) I G ow k v →
      mj_G m_M_connect Q 113 [some (.inr (.inr (.inl 52))), some (.inl none), some (.inl v), some (.inl k), y4] [] sh FR J LA n 0 0 := by
    intro t
    induction t with
    | zero =>
      intro k J none v y4 D pl hk hmn hI hS hl hX hf h67 h68 hv
      subst hQ
      have hk : k = G := by omega
      subst hk
      have e56 : J 56 2 = (k : Int) := by rw [hf 56 (by decide) (by decide) (by decide)]; exact hG
      refine mj_go z_M_connect [113] 60 ?_
      refine And.intro h.o (Exists.intro _ (And.intro h.r6 ?_))
      refine Exists.intro _ (Exists.intro (2) (And.intro h.a6 (And.intro (by first | (rw [mj_w_id (by omega) (by omega)]; done) | (rw [mj_w_id (by omega) (by omega)]; omega) | (unfold mj_w; omega)) (And.intro (by omega) ?_))))
      rw [e56]
      refine And.intro (fun c => ?_) (fun c => ?_)
      · refine And.intro h.o (And.intro (Nat.le_of_ble_eq_true rfl) (And.intro (Nat.le_of_ble_eq_true rfl) (And.intro (Nat.le_of_ble_eq_true rfl) (Exists.intro _ (And.intro (ct_M_fail h) ?_)))))
        rintro r9 sh9 FR9 IA9 LA9 n9 ⟨z0, z1, z2, z3, z4, z5⟩
        subst z0
        replace z1 := z1.symm
        subst z1
        replace z2 := z2.symm
        subst z2
        replace z3 := z3.symm
        subst z3
        replace z4 := z4.symm
        subst z4
        replace z5 := z5.symm
        subst z5
        refine And.intro (Or.inl rfl) ?_
        exact ⟨⟨rfl, rfl, rfl, rfl, rfl, ⟨fun q h1 h2 h3 h4 => by rw [mj_up_ne h1, mj_up_ne h1]; exact hf q h2 h3 h4, fun j h1 h2 => by rw [mj_up_k h2, mj_up_k h1, hf 52 (by decide) (by decide) (by decide)], fun j hj => by rw [mj_up_ne (by decide), mj_up_ne (by decide)]; exact h67 j hj, fun j hj => by rw [mj_up_ne (by decide), mj_up_ne (by decide)]; exact h68 j hj⟩, Or.inr ⟨hmn, D, pl, hI, hS, Or.inr ⟨hl, by rw [mj_up_k (by decide), mj_up_at], by rw [mj_up_at]; exact hv⟩⟩⟩, Nat.le_of_ble_eq_true rfl, Nat.le_of_ble_eq_true rfl⟩
      · simp (disch := (clear c; omega)) only [mj_w_id] at c
        omega
    | succ t ih =>
      intro k J none v y4 D pl hk hmn hI hS hl hX hf h67 h68 hv
      have e56 : J 56 2 = (G : Int) := by rw [hf 56 (by decide) (by decide) (by decide)]; exact hG
      have e62 : J 62 (600 + k) = ow (I + 1 + k) := by rw [hf 62 (by decide) (by decide) (by decide)]; exact (hgt k (by omega)).1
      have wk := how k (by omega)
      have hX' : mX J G (mRow I so le) (mRow I so ri) := by
        intro i hi
        rw [hf 63 (by decide) (by decide) (by decide), hf 64 (by decide) (by decide) (by decide), hf 66 (by decide) (by decide) (by decide)]
        exact hX i hi
      have vr : -1 ≤ v ∧ v ≤ 1001 := by
        rcases hv with ⟨z, _⟩ | ⟨i, z1, _, z3, _⟩
        · omega
        · have := how i (by omega)
          omega
      have nx : ∀ (J' : mj_FI) (v2 : Int), (∀ q, q ≠ 72 → J' q = J q) → mg_v (mRow I so le) (mRow I so ri) I G ow (k + 1) v2 → mj_G m_M_connect Q 158 [some (.inr (.inr (.inl 52))), some (.inl none), some (.inl v2), some (.inl k), some (.inl (ow (I + 1 + k) / 2))] [] sh FR J' LA n 0 0 := by
        intro J' v2 hJ' hv2
        refine mj_go z_M_connect [113] 60 ?_
        refine Exists.intro (((k + 1 : Nat) : Int)) (And.intro (by first | (rw [mj_w_id (by omega) (by omega)]; done) | (rw [mj_w_id (by omega) (by omega)]; omega) | (unfold mj_w; omega)) ?_)
        exact ih (k + 1) J' none v2 _ D pl (by omega) hmn hI hS hl hX (fun q h1 h2 h3 => by rw [hJ' q h3]; exact hf q h1 h2 h3) (fun j hj => by rw [hJ' 67 (by decide)]; exact h67 j hj) (fun j hj => by rw [hJ' 68 (by decide)]; exact h68 j hj) hv2
      clear ih
      refine mj_go z_M_connect [113, 158] 60 ?_
      refine And.intro h.o (Exists.intro _ (And.intro h.r6 ?_))
      refine Exists.intro _ (Exists.intro (2) (And.intro h.a6 (And.intro (by first | (rw [mj_w_id (by omega) (by omega)]; done) | (rw [mj_w_id (by omega) (by omega)]; omega) | (unfold mj_w; omega)) (And.intro (by omega) ?_))))
      rw [e56]
      refine And.intro (fun c => ?_) (fun c => ?_)
      · simp (disch := (clear c; omega)) only [mj_w_id] at c
        omega
      · clear c
        refine And.intro h.o (Exists.intro _ (And.intro h.r12 ?_))
        refine Exists.intro (((600 + k : Nat) : Int)) (And.intro (by first | (rw [mj_w_id (by omega) (by omega)]; done) | (rw [mj_w_id (by omega) (by omega)]; omega) | (unfold mj_w; omega)) ?_)
        refine Exists.intro _ (Exists.intro (600 + k) (And.intro h.a12 (And.intro (by first | (rw [mj_w_id (by omega) (by omega)]; done) | (rw [mj_w_id (by omega) (by omega)]; omega) | (unfold mj_w; omega)) (And.intro (by omega) ?_))))
        rw [e62]
        refine And.intro (by decide) ?_
        refine Exists.intro (ow (I + 1 + k) / 2) (And.intro (nu_div wk.1 (by omega) (by omega) (by omega)) ?_)
        refine And.intro h.o (And.intro (Nat.le_of_ble_eq_true rfl) (And.intro (Nat.le_of_ble_eq_true rfl) (And.intro (Nat.le_of_ble_eq_true rfl) (Exists.intro _ (And.intro (ct_M_comesBack (g := k) h (by omega) e56 hG2 hX') ?_)))))
        rintro o1 sh9 FR9 J1 LA9 n9 ⟨z1, z2, z3, z4, hp1⟩
        replace z1 := z1.symm
        subst z1
        replace z2 := z2.symm
        subst z2
        replace z3 := z3.symm
        subst z3
        replace z4 := z4.symm
        subst z4
        obtain ⟨hf1, hq1⟩ := hp1
        rcases hq1 with ⟨ho, hr⟩ | ⟨ho, hr⟩
        · subst ho
          refine And.intro (Or.inl rfl) ?_
          refine And.intro (fun c => ?_) (fun c => ?_)
          · exact absurd c (by decide)
          · clear c
            refine And.intro (fun c => ?_) (fun c => ?_)
            · simp (disch := (clear c; omega)) only [mj_w_id] at c
              refine nx J1 _ hf1 (Or.inr ⟨k, by omega, hr, rfl, fun i hi hi2 => ?_⟩)
              rcases hv with ⟨z1, z2⟩ | ⟨i2, z1, z2, z3, z4⟩
              · by_cases e : i = k
                · rw [e]
                  exact Int.le_refl _
                · exact absurd hi2 (z2 i (by omega))
              · have := how i2 (by omega)
                omega
            · simp (disch := (clear c; omega)) only [mj_w_id] at c
              refine And.intro (fun d => ?_) (fun d => ?_)
              · simp (disch := (clear d; omega)) only [mj_w_id] at d
                refine nx J1 v hf1 ?_
                rcases hv with ⟨z1, z2⟩ | ⟨i2, z1, z2, z3, z4⟩
                · omega
                · refine Or.inr ⟨i2, by omega, z2, z3, fun i hi hi2 => ?_⟩
                  by_cases e : i = k
                  · rw [e]
                    omega
                  · exact z4 i (by omega) hi2
              · simp (disch := (clear d; omega)) only [mj_w_id] at d
                refine nx J1 _ hf1 (Or.inr ⟨k, by omega, hr, rfl, fun i hi hi2 => ?_⟩)
                rcases hv with ⟨z1, z2⟩ | ⟨i2, z1, z2, z3, z4⟩
                · omega
                · by_cases e : i = k
                  · rw [e]
                    exact Int.le_refl _
                  · have := z4 i (by omega) hi2
                    omega
        · subst ho
          refine And.intro (Or.inl rfl) ?_
          refine And.intro (fun c => ?_) (fun c => ?_)
          · refine nx J1 v hf1 ?_
            rcases hv with ⟨z1, z2⟩ | ⟨i2, z1, z2, z3, z4⟩
            · refine Or.inl ⟨z1, fun i hi => ?_⟩
              by_cases e : i = k
              · rw [e]
                exact hr
              · exact z2 i (by omega)
            · refine Or.inr ⟨i2, by omega, z2, z3, fun i hi hi2 => ?_⟩
              by_cases e : i = k
              · rw [e] at hi2
                exact absurd hi2 hr
              · exact z4 i (by omega) hi2
          · exact absurd (show mj_w 0 = 0 by decide) c
  have mid : ∀ (x : Int) (y2 y3 y4 : Option mj_V), md_mn (nUx le ri ou I O G) so x → mj_G m_M_connect Q 83 [some (.inr (.inr (.inl 52))), some (.inl x), y2, y3, y4] [] sh FR IA LA n 0 0 := by
    intro x y2 y3 y4 hmn
    have xr := mnr hmn
    refine mj_go z_M_connect [113] 60 ?_
    refine And.intro (fun c => ?_) (fun c => ?_)
    · simp (disch := (clear c; omega)) only [mj_w_id] at c
      have hx1 : x = -1 := by omega
      subst hx1
      have hnl : ∀ lit, nUx le ri ou I O G lit → ¬ so (lit / 2).toNat = -1 := by
        rcases hmn with ⟨_, z⟩ | z
        · exact z
        · omega
      have rw1 : ∀ lit, nUx le ri ou I O G lit → IA 66 (2002 + (lit / 2).toNat) = ((rho I (so (lit / 2).toNat)).toNat : Int) ∧ (rho I (so (lit / 2).toNat)).toNat < 315 := by
        intro lit hl
        have h1 := hU lit hl
        have h2 := hsn (lit / 2).toNat (by omega)
        have h3 := hnl lit hl
        have h4 := rho_lt (I := I) (G := G) (s := so (lit / 2).toNat) (by omega) (by omega) hI2 hG2
        refine ⟨?_, h4.2⟩
        rw [← h4.1]
        by_cases e : (lit / 2).toNat = 0
        · rw [e, hs0]
          exact hro.1
        · exact hro.2 _ (by omega) (by omega)
      have hX : mX IA G (mRow I so le) (mRow I so ri) := by
        intro k hk
        rw [(hgt k hk).2.1, (hgt k hk).2.2]
        have z1 := rw1 _ (Or.inr ⟨k, hk, Or.inl rfl⟩)
        have z2 := rw1 _ (Or.inr ⟨k, hk, Or.inr rfl⟩)
        exact ⟨⟨(ul k hk).1, (ul k hk).2, z1⟩, (ur k hk).1, (ur k hk).2, z2⟩
      refine And.intro h.o (And.intro (Nat.le_of_ble_eq_true rfl) (And.intro (Nat.le_of_ble_eq_true rfl) (And.intro (Nat.le_of_ble_eq_true rfl) (Exists.intro _ (And.intro (ct_M_arrange h hG hG2 hX) ?_)))))
      rintro o1 sh9 FR9 J1 LA9 n9 ⟨z1, z2, z3, z4, hp1⟩
      replace z1 := z1.symm
      subst z1
      replace z2 := z2.symm
      subst z2
      replace z3 := z3.symm
      subst z3
      replace z4 := z4.symm
      subst z4
      obtain ⟨D, pl, ho, hI, hS, f1, f2, f3, f4, f5⟩ := hp1
      subst ho
      have e56 : J1 56 2 = (G : Int) := by rw [f1 56 (by decide) (by decide)]; exact hG
      have hlen : (mo_d D G G).length ≤ G := by
        have := mo_len (D := D) (G := G) (d := G) (k := 0) (by omega)
        simpa [mo_k] using this
      refine And.intro (Or.inl rfl) ?_
      refine And.intro h.o (Exists.intro _ (And.intro h.r6 ?_))
      refine Exists.intro _ (Exists.intro (2) (And.intro h.a6 (And.intro (by first | (rw [mj_w_id (by omega) (by omega)]; done) | (rw [mj_w_id (by omega) (by omega)]; omega) | (unfold mj_w; omega)) (And.intro (by omega) ?_))))
      rw [e56]
      refine And.intro (fun d => ?_) (fun d => ?_)
      · simp (disch := (clear d; omega)) only [mj_w_id] at d
        exact ring G 0 J1 _ (-1) _ D pl (by omega) hmn hI hS (by omega) hX (fun q h1 h2 h3 => f1 q h1 h2) f3 f4 (Or.inl ⟨rfl, fun k hk => by omega⟩)
      · replace d := Classical.not_not.mp d
        simp (disch := (clear d; omega)) only [mj_w_id] at d
        subst hQ
        exact ⟨⟨rfl, rfl, rfl, rfl, rfl, ⟨fun q h1 h2 h3 h4 => f1 q h2 h3, fun j h1 h2 => by rw [f1 52 (by decide) (by decide)], f3, f4⟩, Or.inr ⟨hmn, D, pl, hI, hS, Or.inl ⟨by rw [f1 52 (by decide) (by decide)], by omega, f2, f5⟩⟩⟩, Nat.le_of_ble_eq_true rfl, Nat.le_of_ble_eq_true rfl⟩
    · simp (disch := (clear c; omega)) only [mj_w_id] at c
      subst hQ
      refine And.intro h.o (And.intro (Nat.le_of_ble_eq_true rfl) (And.intro (Nat.le_of_ble_eq_true rfl) (And.intro (Nat.le_of_ble_eq_true rfl) (Exists.intro _ (And.intro (ct_M_fail h) ?_)))))
      rintro r9 sh9 FR9 IA9 LA9 n9 ⟨z0, z1, z2, z3, z4, z5⟩
      subst z0
      replace z1 := z1.symm
      subst z1
      replace z2 := z2.symm
      subst z2
      replace z3 := z3.symm
      subst z3
      replace z4 := z4.symm
      subst z4
      replace z5 := z5.symm
      subst z5
      refine And.intro (Or.inl rfl) ?_
      exact ⟨⟨rfl, rfl, rfl, rfl, rfl, ⟨fun q h1 h2 h3 h4 => by rw [mj_up_ne h1, mj_up_ne h1], fun j h1 h2 => by rw [mj_up_k h2, mj_up_k h1], fun j hj => by rw [mj_up_ne (by decide), mj_up_ne (by decide)], fun j hj => by rw [mj_up_ne (by decide), mj_up_ne (by decide)]⟩, Or.inl ⟨by rw [mj_up_k (by decide), mj_up_at], by rw [mj_up_at]; rcases hmn with z | z; omega; exact z.1, by rw [mj_up_at]; exact hmn⟩⟩, Nat.le_of_ble_eq_true rfl, Nat.le_of_ble_eq_true rfl⟩
  have gate : ∀ (t k : Nat) (x : Int) (y3 y4 : Option mj_V), k + t = G → md_mn (nUx le ri ou I O k) so x → mj_G m_M_connect Q 37 [some (.inr (.inr (.inl 52))), some (.inl x), some (.inl k), y3, y4] [] sh FR IA LA n 0 0 := by
    intro t
    induction t with
    | zero =>
      intro k x y3 y4 hk hmn
      have hk : k = G := by omega
      subst hk
      refine mj_go z_M_connect [37, 83] 60 ?_
      refine And.intro h.o (Exists.intro _ (And.intro h.r6 ?_))
      refine Exists.intro _ (Exists.intro (2) (And.intro h.a6 (And.intro (by first | (rw [mj_w_id (by omega) (by omega)]; done) | (rw [mj_w_id (by omega) (by omega)]; omega) | (unfold mj_w; omega)) (And.intro (by omega) ?_))))
      rw [hG]
      refine And.intro (fun c => ?_) (fun c => ?_)
      · exact mid _ _ _ _ hmn
      · simp (disch := (clear c; omega)) only [mj_w_id] at c
        omega
    | succ t ih =>
      intro k x y3 y4 hk hmn
      have xr := mnr hmn
      have g1 := (hgt k (by omega)).2.1
      have g2 := (hgt k (by omega)).2.2
      have ulk := ul k (by omega)
      have urk := ur k (by omega)
      have s1 := md_mn_add (m := 0) (U' := fun y => nUx le ri ou I O k y ∨ y = le (I + 1 + k)) hmn ulk.1 ulk.2 hro hs0 (fun j hj => (hsn j hj).1) (fun y => Iff.rfl)
      have s1r := mnr s1
      have s2 := md_mn_add (m := 0) (U' := nUx le ri ou I O (k + 1)) s1 urk.1 urk.2 hro hs0 (fun j hj => (hsn j hj).1) (fun y => by
        unfold nUx
        constructor
        · rintro (z | ⟨j, hj, z⟩)
          · exact Or.inl (Or.inl (Or.inl z))
          · by_cases e : j = k
            · subst e
              rcases z with z | z
              · exact Or.inl (Or.inr z)
              · exact Or.inr z
            · exact Or.inl (Or.inl (Or.inr ⟨j, by omega, z⟩))
        · rintro (((z | ⟨j, hj, z⟩) | z) | z)
          · exact Or.inl z
          · exact Or.inr ⟨j, by omega, z⟩
          · exact Or.inr ⟨k, by omega, Or.inl z⟩
          · exact Or.inr ⟨k, by omega, Or.inr z⟩)
      have nx := ih (k + 1)
      clear ih
      refine mj_go z_M_connect [37] 60 ?_
      refine And.intro h.o (Exists.intro _ (And.intro h.r6 ?_))
      refine Exists.intro _ (Exists.intro (2) (And.intro h.a6 (And.intro (by first | (rw [mj_w_id (by omega) (by omega)]; done) | (rw [mj_w_id (by omega) (by omega)]; omega) | (unfold mj_w; omega)) (And.intro (by omega) ?_))))
      rw [hG]
      refine And.intro (fun c => ?_) (fun c => ?_)
      · simp (disch := (clear c; omega)) only [mj_w_id] at c
        omega
      · clear c
        refine And.intro h.o (Exists.intro _ (And.intro h.r13 ?_))
        refine Exists.intro (((600 + k : Nat) : Int)) (And.intro (by first | (rw [mj_w_id (by omega) (by omega)]; done) | (rw [mj_w_id (by omega) (by omega)]; omega) | (unfold mj_w; omega)) ?_)
        refine Exists.intro _ (Exists.intro (600 + k) (And.intro h.a13 (And.intro (by first | (rw [mj_w_id (by omega) (by omega)]; done) | (rw [mj_w_id (by omega) (by omega)]; omega) | (unfold mj_w; omega)) (And.intro (by omega) ?_))))
        rw [g1]
        refine And.intro h.o (And.intro (Nat.le_of_ble_eq_true rfl) (And.intro (Nat.le_of_ble_eq_true rfl) (And.intro (Nat.le_of_ble_eq_true rfl) (Exists.intro _ (And.intro (ct_M_lesser h xr.1 (by omega) ulk.1 ulk.2 hrr) ?_)))))
        rintro r9 sh9 FR9 IA9 LA9 n9 ⟨z0, z1, z2, z3, z4, z5⟩
        subst z0
        replace z1 := z1.symm
        subst z1
        replace z2 := z2.symm
        subst z2
        replace z3 := z3.symm
        subst z3
        replace z4 := z4.symm
        subst z4
        replace z5 := z5.symm
        subst z5
        refine And.intro (Or.inl rfl) ?_
        refine And.intro h.o (Exists.intro _ (And.intro h.r14 ?_))
        refine Exists.intro (((600 + k : Nat) : Int)) (And.intro (by first | (rw [mj_w_id (by omega) (by omega)]; done) | (rw [mj_w_id (by omega) (by omega)]; omega) | (unfold mj_w; omega)) ?_)
        refine Exists.intro _ (Exists.intro (600 + k) (And.intro h.a14 (And.intro (by first | (rw [mj_w_id (by omega) (by omega)]; done) | (rw [mj_w_id (by omega) (by omega)]; omega) | (unfold mj_w; omega)) (And.intro (by omega) ?_))))
        rw [g2]
        refine And.intro h.o (And.intro (Nat.le_of_ble_eq_true rfl) (And.intro (Nat.le_of_ble_eq_true rfl) (And.intro (Nat.le_of_ble_eq_true rfl) (Exists.intro _ (And.intro (ct_M_lesser h s1r.1 (by omega) urk.1 urk.2 hrr) ?_)))))
        rintro r9 sh9 FR9 IA9 LA9 n9 ⟨z0, z1, z2, z3, z4, z5⟩
        subst z0
        replace z1 := z1.symm
        subst z1
        replace z2 := z2.symm
        subst z2
        replace z3 := z3.symm
        subst z3
        replace z4 := z4.symm
        subst z4
        replace z5 := z5.symm
        subst z5
        refine And.intro (Or.inl rfl) ?_
        refine Exists.intro (((k + 1 : Nat) : Int)) (And.intro (by first | (rw [mj_w_id (by omega) (by omega)]; done) | (rw [mj_w_id (by omega) (by omega)]; omega) | (unfold mj_w; omega)) ?_)
        exact nx _ _ _ (by omega) s2
  have outs : ∀ (t k : Nat) (x : Int) (y3 y4 : Option mj_V), k + t = O → md_mn (nUx le ri ou I k 0) so x → mj_G m_M_connect Q 4 [some (.inr (.inr (.inl 52))), some (.inl x), some (.inl k), y3, y4] [] sh FR IA LA n 0 0 := by
    intro t
    induction t with
    | zero =>
      intro k x y3 y4 hk hmn
      have hk : k = O := by omega
      subst hk
      refine mj_go z_M_connect [4, 37] 60 ?_
      refine And.intro h.o (Exists.intro _ (And.intro h.r7 ?_))
      refine Exists.intro _ (Exists.intro (2) (And.intro h.a7 (And.intro (by first | (rw [mj_w_id (by omega) (by omega)]; done) | (rw [mj_w_id (by omega) (by omega)]; omega) | (unfold mj_w; omega)) (And.intro (by omega) ?_))))
      rw [hO]
      refine And.intro (fun c => ?_) (fun c => ?_)
      · exact gate G 0 _ _ _ (by omega) hmn
      · simp (disch := (clear c; omega)) only [mj_w_id] at c
        omega
    | succ t ih =>
      intro k x y3 y4 hk hmn
      have xr := mnr hmn
      have g1 := hou k (by omega)
      have ulk := uo k (by omega)
      have s2 := md_mn_add (m := 0) (U' := nUx le ri ou I (k + 1) 0) hmn ulk.1 ulk.2 hro hs0 (fun j hj => (hsn j hj).1) (fun y => by
        unfold nUx
        constructor
        · rintro (⟨j, hj, z⟩ | ⟨j, hj, z⟩)
          · by_cases e : j = k
            · subst e
              exact Or.inr z
            · exact Or.inl (Or.inl ⟨j, by omega, z⟩)
          · omega
        · rintro ((⟨j, hj, z⟩ | ⟨j, hj, z⟩) | z)
          · exact Or.inl ⟨j, by omega, z⟩
          · omega
          · exact Or.inl ⟨k, by omega, z⟩)
      have nx := ih (k + 1)
      clear ih
      refine mj_go z_M_connect [4] 60 ?_
      refine And.intro h.o (Exists.intro _ (And.intro h.r7 ?_))
      refine Exists.intro _ (Exists.intro (2) (And.intro h.a7 (And.intro (by first | (rw [mj_w_id (by omega) (by omega)]; done) | (rw [mj_w_id (by omega) (by omega)]; omega) | (unfold mj_w; omega)) (And.intro (by omega) ?_))))
      rw [hO]
      refine And.intro (fun c => ?_) (fun c => ?_)
      · simp (disch := (clear c; omega)) only [mj_w_id] at c
        omega
      · clear c
        refine And.intro h.o (Exists.intro _ (And.intro h.r15 ?_))
        refine Exists.intro (((32 + k : Nat) : Int)) (And.intro (by first | (rw [mj_w_id (by omega) (by omega)]; done) | (rw [mj_w_id (by omega) (by omega)]; omega) | (unfold mj_w; omega)) ?_)
        refine Exists.intro _ (Exists.intro (32 + k) (And.intro h.a15 (And.intro (by first | (rw [mj_w_id (by omega) (by omega)]; done) | (rw [mj_w_id (by omega) (by omega)]; omega) | (unfold mj_w; omega)) (And.intro (by omega) ?_))))
        rw [g1]
        refine And.intro h.o (And.intro (Nat.le_of_ble_eq_true rfl) (And.intro (Nat.le_of_ble_eq_true rfl) (And.intro (Nat.le_of_ble_eq_true rfl) (Exists.intro _ (And.intro (ct_M_lesser h xr.1 (by omega) ulk.1 ulk.2 hrr) ?_)))))
        rintro r9 sh9 FR9 IA9 LA9 n9 ⟨z0, z1, z2, z3, z4, z5⟩
        subst z0
        replace z1 := z1.symm
        subst z1
        replace z2 := z2.symm
        subst z2
        replace z3 := z3.symm
        subst z3
        replace z4 := z4.symm
        subst z4
        replace z5 := z5.symm
        subst z5
        refine And.intro (Or.inl rfl) ?_
        refine Exists.intro (((k + 1 : Nat) : Int)) (And.intro (by first | (rw [mj_w_id (by omega) (by omega)]; done) | (rw [mj_w_id (by omega) (by omega)]; omega) | (unfold mj_w; omega)) ?_)
        exact nx _ _ _ (by omega) s2
  refine mj_Ct_of (by decide +kernel) (by decide) (Nat.le_of_ble_eq_true rfl) ?_
  refine mj_go z_M_connect [4] 60 ?_
  exact outs O 0 (-1) _ _ (by omega) (Or.inl ⟨rfl, fun lit hl => by
    rcases hl with ⟨j, hj, z⟩ | ⟨j, hj, z⟩
    · omega
    · omega⟩)
end MM
