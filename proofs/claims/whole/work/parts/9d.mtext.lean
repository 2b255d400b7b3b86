/-! THE REFERENCE: readText -/
theorem ab_in_x {by0 : Nat → Int} {m : Int} {bin : Bool} : ∀ (t s p : Nat) (so ow : Nat → Int) (e : Int × Int), ab_in by0 m bin t s p so ow = .inl e → 1 ≤ e.1 ∧ e.1 ≤ 8
  | 0, s, p, so, ow, e, h => by cases h
  | t + 1, s, p, so, ow, e, h => by
    unfold ab_in at h
    split at h
    · exact ab_in_x t _ _ _ _ e h
    · split at h
      · split at h
        · exact ab_in_x t _ _ _ _ e h
        · cases h; exact ⟨show (1 : Int) ≤ 6 by decide, show (6 : Int) ≤ 8 by decide⟩
      · cases h; exact ⟨show (1 : Int) ≤ 5 by decide, show (5 : Int) ≤ 8 by decide⟩
theorem ab_ou_x {by0 : Nat → Int} {m : Int} : ∀ (t k p : Nat) (ou : Nat → Int) (e : Int × Int), ab_ou by0 m t k p ou = .inl e → 1 ≤ e.1 ∧ e.1 ≤ 8
  | 0, k, p, ou, e, h => by cases h
  | t + 1, k, p, ou, e, h => by
    unfold ab_ou at h
    split at h
    · split at h
      · exact ab_ou_x t _ _ _ e h
      · cases h; exact ⟨show (1 : Int) ≤ 6 by decide, show (6 : Int) ≤ 8 by decide⟩
    · cases h; exact ⟨show (1 : Int) ≤ 5 by decide, show (5 : Int) ≤ 8 by decide⟩
theorem ab_gs_x {by0 : Nat → Int} {m : Int} {bin : Bool} : ∀ (t s p : Nat) (so ow le ri : Nat → Int) (e : Int × Int), ab_gs by0 m bin t s p so ow le ri = .inl e → 1 ≤ e.1 ∧ e.1 ≤ 8
  | 0, s, p, so, ow, le, ri, e, h => by cases h
  | t + 1, s, p, so, ow, le, ri, e, h => by
    unfold ab_gs at h
    split at h
    · next e2 c =>
      cases h
      split at c
      · unfold ab_sg at c
        split at c
        · cases c; exact ⟨show (1 : Int) ≤ 5 by decide, show (5 : Int) ≤ 8 by decide⟩
        · split at c
          · cases c; exact ⟨show (1 : Int) ≤ 6 by decide, show (6 : Int) ≤ 8 by decide⟩
          · split at c
            · cases c; exact ⟨show (1 : Int) ≤ 5 by decide, show (5 : Int) ≤ 8 by decide⟩
            · split at c
              · cases c; exact ⟨show (1 : Int) ≤ 6 by decide, show (6 : Int) ≤ 8 by decide⟩
              · cases c
      · unfold ab_lg at c
        split at c
        · split at c
          · split at c
            · split at c
              · cases c
              · cases c; exact ⟨show (1 : Int) ≤ 6 by decide, show (6 : Int) ≤ 8 by decide⟩
            · cases c; exact ⟨show (1 : Int) ≤ 6 by decide, show (6 : Int) ≤ 8 by decide⟩
          · cases c; exact ⟨show (1 : Int) ≤ 6 by decide, show (6 : Int) ≤ 8 by decide⟩
        · cases c; exact ⟨show (1 : Int) ≤ 5 by decide, show (5 : Int) ≤ 8 by decide⟩
    · exact ab_gs_x t _ _ _ _ _ _ e h
theorem ab_bd_x {by0 : Nat → Int} {len : Nat} {bin : Bool} {m I O G p : Nat} {so ow le ri ou : Nat → Int} {e : Int × Int} (h : ab_bd by0 len bin m I O G p so ow le ri ou = .inl e) : 1 ≤ e.1 ∧ e.1 ≤ 8 := by
  unfold ab_bd at h
  split at h
  · next c => cases h; exact ab_in_x _ _ _ _ _ _ c
  · split at h
    · next c => cases h; exact ab_ou_x _ _ _ _ _ c
    · split at h
      · next c => cases h; exact ab_gs_x _ _ _ _ _ _ _ _ c
      · split at h
        · cases h; exact ⟨show (1 : Int) ≤ 5 by decide, show (5 : Int) ≤ 8 by decide⟩
        · cases h
theorem ab_rd_x {by0 : Nat → Int} {len : Nat} {so ow le ri ou : Nat → Int} {e : Int × Int} (h : ab_rd by0 len so ow le ri ou = .inl e) : 1 ≤ e.1 ∧ e.1 ≤ 8 := by
  unfold ab_rd at h
  split at h
  · split at h
    · split at h
      · split at h
        · cases h; decide
        · exact ab_bd_x h
      · cases h; decide
    · cases h; exact ⟨show (1 : Int) ≤ 2 by decide, show (2 : Int) ≤ 8 by decide⟩
  · cases h; decide
/-- what connect notes -/
def mc_r (I O G : Nat) (so ow le ri ou : Nat → Int) (J : mj_FI) : Prop :=
  ((J 52 21 = 7 ∧ 1 ≤ J 52 22 ∧ md_mn (nUx le ri ou I O G) so (J 52 22)) ∨
   (md_mn (nUx le ri ou I O G) so (-1) ∧ ∃ (D : Nat → Int) (pl : List Nat), ma_I (mRow I so le) (mRow I so ri) G D pl ∧ ma_S (mRow I so le) (mRow I so ri) G D ∧
     ((J 52 21 = 0 ∧ (mo_d D G G).length = G ∧ (∀ r, r < 315 → J 67 (630 + r) = D r) ∧ ∀ (i s : Nat), (mo_d D G G)[i]? = some s → J 68 (600 + i) = (s : Int)) ∨
      (¬ (mo_d D G G).length = G ∧ J 52 21 = 8 ∧ mg_v (mRow I so le) (mRow I so ri) I G ow G (J 52 22)))))
/-- the net of circuit c (2: the draft) in the reference, by slots -/
def mN (J : mj_FI) (c m I O G : Nat) (so ow le ri ou : Nat → Int) : Prop := J 55 c = (I : Int) ∧ J 56 c = (G : Int) ∧ J 57 c = (O : Int) ∧ J 58 c = (m : Int) ∧ (J 66 (1001 * c) = 0 ∧ ∀ j, 1 ≤ j → j ≤ 1000 → J 66 (1001 * c + j) = rho I (so j)) ∧ (∀ k, k < I → J 61 (14 * c + k) = ow (1 + k)) ∧ (∀ i, i < G → J 62 (300 * c + i) = ow (I + 1 + i) ∧ J 63 (300 * c + i) = le (I + 1 + i) ∧ J 64 (300 * c + i) = ri (I + 1 + i)) ∧ (∀ k, k < O → J 65 (16 * c + k) = ou k)
def mt_q (R : (Int × Int) ⊕ ab_C) (J : mj_FI) : Prop := match R with
  | .inl e => J 52 21 = e.1 ∧ J 52 22 = e.2
  | .inr c => mN J 2 c.1.1 c.1.2.1 c.1.2.2.1 c.1.2.2.2 c.2.1 c.2.2.1 c.2.2.2.1 c.2.2.2.2.1 c.2.2.2.2.2 ∧ mc_r c.1.2.1 c.1.2.2.1 c.1.2.2.2 c.2.1 c.2.2.1 c.2.2.2.1 c.2.2.2.2.1 c.2.2.2.2.2 J
section MM
variable {sh : mj_Sh} {FR : mj_FR} {IA : mj_FI} {LA : mj_LA} {n : Nat}
set_option maxHeartbeats 1000000 in
/-- a fault has been noted: straight to the end -/
theorem mt_bad (h : isM sh FR n) {R : (Int × Int) ⊕ ab_C} {J : mj_FI} {e : Int × Int} {x y : Int} (hd : md_d IA J) (hr : md_rr J) (hR : R = .inl e) (h1 : J 52 21 = e.1) (h2 : J 52 22 = e.2) (hx : 1 ≤ e.1 ∧ e.1 ≤ 8) : 
    mj_G m_M_readText (mj_po (fun o J => o = .inl none ∧ md_d IA J ∧ md_rr J ∧ mt_q R J) sh FR LA n) 117 [some (.inr (.inr (.inl 52))), some (.inl x), some (.inl y)] [] sh FR J LA n 0 0 ∧
    mj_G m_M_readText (mj_po (fun o J => o = .inl none ∧ md_d IA J ∧ md_rr J ∧ mt_q R J) sh FR LA n) 129 [some (.inr (.inr (.inl 52))), some (.inl x), some (.inl y)] [] sh FR J LA n 0 0 ∧
    mj_G m_M_readText (mj_po (fun o J => o = .inl none ∧ md_d IA J ∧ md_rr J ∧ mt_q R J) sh FR LA n) 140 [some (.inr (.inr (.inl 52))), some (.inl x), some (.inl y)] [] sh FR J LA n 0 0 ∧
    mj_G m_M_readText (mj_po (fun o J => o = .inl none ∧ md_d IA J ∧ md_rr J ∧ mt_q R J) sh FR LA n) 155 [some (.inr (.inr (.inl 52))), some (.inl x), some (.inl y)] [] sh FR J LA n 0 0 ∧
    mj_G m_M_readText (mj_po (fun o J => o = .inl none ∧ md_d IA J ∧ md_rr J ∧ mt_q R J) sh FR LA n) 170 [some (.inr (.inr (.inl 52))), some (.inl x), some (.inl y)] [] sh FR J LA n 0 0 ∧
    mj_G m_M_readText (mj_po (fun o J => o = .inl none ∧ md_d IA J ∧ md_rr J ∧ mt_q R J) sh FR LA n) 237 [some (.inr (.inr (.inl 52))), some (.inl x), some (.inl y)] [] sh FR J LA n 0 0 := by
  have g237 : mj_G m_M_readText (mj_po (fun o J => o = .inl none ∧ md_d IA J ∧ md_rr J ∧ mt_q R J) sh FR LA n) 237 [some (.inr (.inr (.inl 52))), some (.inl x), some (.inl y)] [] sh FR J LA n 0 0 := by
    refine mj_go z_M_readText [] 60 ?_
    refine And.intro h.o ?_
    rw [h1]
    refine And.intro (fun c => ?_) (fun c => ?_)
    · exact ⟨⟨rfl, rfl, rfl, rfl, rfl, hd, hr, by rw [hR]; exact ⟨h1, h2⟩⟩, Nat.le_of_ble_eq_true rfl, Nat.le_of_ble_eq_true rfl⟩
    · simp (disch := (clear c; omega)) only [mj_w_id] at c
      omega
  have g170 : mj_G m_M_readText (mj_po (fun o J => o = .inl none ∧ md_d IA J ∧ md_rr J ∧ mt_q R J) sh FR LA n) 170 [some (.inr (.inr (.inl 52))), some (.inl x), some (.inl y)] [] sh FR J LA n 0 0 := by
    refine mj_go z_M_readText [237] 60 ?_
    refine And.intro h.o ?_
    rw [h1]
    refine And.intro (fun c => ?_) (fun c => ?_)
    · exact g237
    · simp (disch := (clear c; omega)) only [mj_w_id] at c
      omega
  have g155 : mj_G m_M_readText (mj_po (fun o J => o = .inl none ∧ md_d IA J ∧ md_rr J ∧ mt_q R J) sh FR LA n) 155 [some (.inr (.inr (.inl 52))), some (.inl x), some (.inl y)] [] sh FR J LA n 0 0 := by
    refine mj_go z_M_readText [170] 60 ?_
    refine And.intro h.o ?_
    rw [h1]
    refine And.intro (fun c => ?_) (fun c => ?_)
    · exact g170
    · simp (disch := (clear c; omega)) only [mj_w_id] at c
      omega
  have g140 : mj_G m_M_readText (mj_po (fun o J => o = .inl none ∧ md_d IA J ∧ md_rr J ∧ mt_q R J) sh FR LA n) 140 [some (.inr (.inr (.inl 52))), some (.inl x), some (.inl y)] [] sh FR J LA n 0 0 := by
    refine mj_go z_M_readText [155] 60 ?_
    refine And.intro h.o ?_
    rw [h1]
    refine And.intro (fun c => ?_) (fun c => ?_)
    · exact g155
    · simp (disch := (clear c; omega)) only [mj_w_id] at c
      omega
  have g129 : mj_G m_M_readText (mj_po (fun o J => o = .inl none ∧ md_d IA J ∧ md_rr J ∧ mt_q R J) sh FR LA n) 129 [some (.inr (.inr (.inl 52))), some (.inl x), some (.inl y)] [] sh FR J LA n 0 0 := by
    refine mj_go z_M_readText [140] 60 ?_
    refine And.intro h.o ?_
    rw [h1]
    refine And.intro (fun c => ?_) (fun c => ?_)
    · exact g140
    · simp (disch := (clear c; omega)) only [mj_w_id] at c
      omega
  have g117 : mj_G m_M_readText (mj_po (fun o J => o = .inl none ∧ md_d IA J ∧ md_rr J ∧ mt_q R J) sh FR LA n) 117 [some (.inr (.inr (.inl 52))), some (.inl x), some (.inl y)] [] sh FR J LA n 0 0 := by
    refine mj_go z_M_readText [129] 60 ?_
    refine And.intro h.o ?_
    rw [h1]
    refine And.intro (fun c => ?_) (fun c => ?_)
    · exact g129
    · simp (disch := (clear c; omega)) only [mj_w_id] at c
      omega
  exact ⟨g117, g129, g140, g155, g170, g237⟩
end MM
