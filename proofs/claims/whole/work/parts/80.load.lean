/-! THE OUTER CLASS: feed, load -/
/-- error codes -/
theorem ab_in_er {by0 : Nat → Int} {m : Int} {bin : Bool} : ∀ (t s p : Nat) (so ow : Nat → Int) (e : Int × Int), ab_in by0 m bin t s p so ow = .inl e → 5 ≤ e.1 ∧ e.1 ≤ 6
  | 0, s, p, so, ow, e, h => by cases h
  | t + 1, s, p, so, ow, e, h => by
    simp only [ab_in] at h
    split at h
    · exact ab_in_er t _ _ _ _ e h
    · split at h
      · split at h
        · exact ab_in_er t _ _ _ _ e h
        · cases h
          exact ⟨by simp, by simp⟩
      · cases h
        exact ⟨by simp, by simp⟩
theorem ab_ou_er {by0 : Nat → Int} {m : Int} : ∀ (t k p : Nat) (ou : Nat → Int) (e : Int × Int), ab_ou by0 m t k p ou = .inl e → 5 ≤ e.1 ∧ e.1 ≤ 6
  | 0, k, p, ou, e, h => by cases h
  | t + 1, k, p, ou, e, h => by
    simp only [ab_ou] at h
    split at h
    · split at h
      · exact ab_ou_er t _ _ _ e h
      · cases h
        exact ⟨by simp, by simp⟩
    · cases h
      exact ⟨by simp, by simp⟩
theorem ab_lg_er {by0 : Nat → Int} {m : Int} {s p : Nat} {so ow le ri : Nat → Int} {e : Int × Int} (h : ab_lg by0 m s p so ow le ri = .inl e) : 5 ≤ e.1 ∧ e.1 ≤ 6 := by
  unfold ab_lg at h
  split at h
  · split at h
    · split at h
      · split at h
        · cases h
        · cases h
          exact ⟨by simp, by simp⟩
      · cases h
        exact ⟨by simp, by simp⟩
    · cases h
      exact ⟨by simp, by simp⟩
  · cases h
    exact ⟨by simp, by simp⟩
theorem ab_sg_er {by0 : Nat → Int} {s p : Nat} {so ow le ri : Nat → Int} {e : Int × Int} (h : ab_sg by0 s p so ow le ri = .inl e) : 5 ≤ e.1 ∧ e.1 ≤ 6 := by
  unfold ab_sg at h
  split at h
  · cases h
    exact ⟨by simp, by simp⟩
  · split at h
    · cases h
      exact ⟨by simp, by simp⟩
    · split at h
      · cases h
        exact ⟨by simp, by simp⟩
      · split at h
        · cases h
          exact ⟨by simp, by simp⟩
        · cases h
theorem ab_gs_er {by0 : Nat → Int} {m : Int} {bin : Bool} : ∀ (t s p : Nat) (so ow le ri : Nat → Int) (e : Int × Int), ab_gs by0 m bin t s p so ow le ri = .inl e → 5 ≤ e.1 ∧ e.1 ≤ 6
  | 0, s, p, so, ow, le, ri, e, h => by cases h
  | t + 1, s, p, so, ow, le, ri, e, h => by
    simp only [ab_gs] at h
    split at h
    · rename_i e2 he2
      cases h
      split at he2
      · exact ab_sg_er he2
      · exact ab_lg_er he2
    · exact ab_gs_er t _ _ _ _ _ _ e h
theorem ab_rd_er {by0 : Nat → Int} {len : Nat} {so ow le ri ou : Nat → Int} {e : Int × Int} (h : ab_rd by0 len so ow le ri ou = .inl e) : 1 ≤ e.1 ∧ e.1 ≤ 6 := by
  unfold ab_rd at h
  split at h
  · split at h
    · split at h
      · split at h
        · cases h
          exact ⟨by simp, by simp⟩
        · unfold ab_bd at h
          split at h
          · rename_i e2 he2
            cases h
            have := ab_in_er _ _ _ _ _ _ he2
            omega
          · split at h
            · rename_i e2 he2
              cases h
              have := ab_ou_er _ _ _ _ _ he2
              omega
            · split at h
              · rename_i e2 he2
                cases h
                have := ab_gs_er _ _ _ _ _ _ _ _ he2
                omega
              · split at h
                · cases h
                  exact ⟨by simp, by simp⟩
                · cases h
      · cases h
        exact ⟨by simp, by simp⟩
    · cases h
      exact ⟨by simp, by simp⟩
  · cases h
    exact ⟨by simp, by simp⟩
theorem isNet_FR {sh : mj_Sh} {FR FR' : mj_FR} {n b : Nat} (h : isNet sh FR n b) (e : ∀ k, FR' b k = FR b k) : isNet sh FR' n b := by
  unfold isNet at h ⊢
  rw [e, e, e, e, e, e, e, e]
  exact h
section TT
variable {sh : mj_Sh} {FR : mj_FR} {IA : mj_FI} {LA : mj_LA} {n b1 b2 b3 : Nat}
/-- byte i of v -/
def tw_by (v : BitVec 64) (i : Nat) : Int := mj_b (mj_w (v >>> (8 * i)).toInt)
/-- the tape with i bytes more -/
def tw_ad (IA J : mj_FI) (v : BitVec 64) (len i : Nat) : Prop := (∀ q, q ≠ 29 → q ≠ 30 → J q = IA q) ∧ (∀ k, k ≠ 0 → J 29 k = IA 29 k) ∧ J 29 0 = ((len + i : Nat) : Int) ∧ (∀ j, j < i → J 30 (len + j) = tw_by v j) ∧ (∀ j, j < len ∨ len + i ≤ j → J 30 j = IA 30 j)
theorem ct_T_feed (h : isTw sh FR n b1 b2 b3) {x : Int} {v : BitVec 64} {len : Nat} (ix : mj_i x) (hl : IA 29 0 = (len : Int)) (hl2 : len ≤ 8192) :
    mj_Ct m_T_feed [.inr (.inr (.inl 0)), .inl x, .inr (.inl v)] sh FR IA LA n (mj_po (fun o J => (¬ (1 ≤ x ∧ x ≤ 8) ∧ o = .inr 0 ∧ J = IA) ∨ ((1 ≤ x ∧ x ≤ 8) ∧ 8192 < (len : Int) + x ∧ o = .inr 1 ∧ J = IA) ∨ ((1 ≤ x ∧ x ≤ 8) ∧ (len : Int) + x ≤ 8192 ∧ o = .inl (some (.inl ((len : Int) + x))) ∧ tw_ad IA J v len x.toNat)) sh FR LA n) := by
  have hRd := h.2.2.2.2.2.2.2.1
  have t3 := h.2.2.2.1
  obtain ⟨i1, i2⟩ := ix
  generalize hQ : mj_po (fun o J => (¬ (1 ≤ x ∧ x ≤ 8) ∧ o = .inr 0 ∧ J = IA) ∨ ((1 ≤ x ∧ x ≤ 8) ∧ 8192 < (len : Int) + x ∧ o = .inr 1 ∧ J = IA) ∨ ((1 ≤ x ∧ x ≤ 8) ∧ (len : Int) + x ≤ 8192 ∧ o = .inl (some (.inl ((len : Int) + x))) ∧ tw_ad IA J v len x.toNat)) sh FR LA n = Q
  have bad : ¬ (1 ≤ x ∧ x ≤ 8) → mj_G m_T_feed Q 11 [some (.inr (.inr (.inl 0))), some (.inl x), some (.inr (.inl v)), none, none] [] sh FR IA LA n 0 0 := by
    intro hx
    subst hQ
    refine mj_go z_T_feed [] 60 ?_
    exact ⟨Nat.le_of_ble_eq_true rfl, Nat.le_of_ble_eq_true rfl, ⟨rfl, rfl, rfl, rfl, Or.inl ⟨hx, rfl, rfl⟩⟩⟩
  refine mj_Ct_of (by decide +kernel) (by decide) (Nat.le_of_ble_eq_true rfl) ?_
  refine mj_go z_T_feed [11, 21] 60 ?_
  refine And.intro (fun d => ?_) (fun d => ?_)
  · simp (disch := (clear d; omega)) only [mj_w_id] at d
    exact bad (by omega)
  · simp (disch := (clear d; omega)) only [mj_w_id] at d
    refine And.intro (fun d2 => ?_) (fun d2 => ?_)
    · simp (disch := (clear d2; omega)) only [mj_w_id] at d2
      obtain ⟨q, hq⟩ : ∃ q : Nat, x = (q : Int) := ⟨x.toNat, by omega⟩
      subst hq
      have loop : (len : Int) + q ≤ 8192 → ∀ (t i : Nat) (J : mj_FI), i + t = q → tw_ad IA J v len i → mj_G m_T_feed Q 49 [some (.inr (.inr (.inl 0))), some (.inl (q : Int)), some (.inr (.inl v)), none, some (.inl i)] [] sh FR J LA n 0 0 := by
        intro hfit t
        induction t with
        | zero =>
          intro i J hi hT
          have hi : i = q := by omega
          subst hi
          subst hQ
          refine mj_go z_T_feed [49] 60 ?_
          refine And.intro (fun e => ?_) (fun e => ?_)
          · refine And.intro h.1 (Exists.intro _ (And.intro t3 ?_))
            refine And.intro hRd.1 ?_
            rw [hT.2.2.1]
            exact ⟨⟨rfl, rfl, rfl, rfl, Or.inr (Or.inr ⟨⟨by omega, by omega⟩, hfit, by rw [Int.natCast_add], hT⟩)⟩, Nat.le_of_ble_eq_true rfl, Nat.le_of_ble_eq_true rfl⟩
          · simp (disch := (clear e; omega)) only [mj_w_id] at e
            omega
        | succ t ih =>
          intro i J hi hT
          obtain ⟨a1, a2, a3, a4, a5⟩ := hT
          refine mj_go z_T_feed [49] 60 ?_
          refine And.intro (fun e => ?_) (fun e => ?_)
          · simp (disch := (clear e; omega)) only [mj_w_id] at e
            omega
          · clear e
            refine And.intro h.1 (Exists.intro _ (And.intro t3 ?_))
            refine Exists.intro (((8 * i : Nat) : Int)) (And.intro (by first | (rw [mj_w_id (by omega) (by omega)]; done) | (rw [mj_w_id (by omega) (by omega)]; omega) | (unfold mj_w; omega)) ?_)
            refine Exists.intro (v >>> (8 * i)) (And.intro (nu_lushr _ (by omega)) ?_)
            refine Exists.intro (mj_w (v >>> (8 * i)).toInt) (And.intro (rfl) ?_)
            refine Exists.intro (tw_by v i) (And.intro (rfl) ?_)
            refine And.intro hRd.1 (And.intro (Nat.le_of_ble_eq_true rfl) (And.intro (Nat.le_of_ble_eq_true rfl) (And.intro (Nat.le_of_ble_eq_true rfl) (Exists.intro _ (And.intro (ct_R_append (t := len + i) hRd a3 (by omega)) ?_)))))
            rintro r9 sh9 FR9 IA9 LA9 n9 ⟨z0, z1, z2, z3, z4, z5⟩
            subst z0
            replace z1 := z1.symm
            subst z1
            replace z2 := z2.symm
            subst z2
            replace z3 := z3.symm
            subst z3
            replace z4 := z4.symm
            subst z4
            replace z5 := z5.symm
            subst z5
            refine And.intro (Or.inl rfl) ?_
            refine Exists.intro (((i + 1 : Nat) : Int)) (And.intro (by first | (rw [mj_w_id (by omega) (by omega)]; done) | (rw [mj_w_id (by omega) (by omega)]; omega) | (unfold mj_w; omega)) ?_)
            refine ih (i + 1) _ (by omega) ⟨fun q h1 h2 => by rw [mj_up_ne h1, mj_up_ne h2]; exact a1 q h1 h2, fun k hk => by rw [mj_up_k hk, mj_up_ne (by decide)]; exact a2 k hk, by rw [mj_up_at]; rfl, fun j hj => ?_, fun j hj => ?_⟩
            · rw [mj_up_ne (show (30 : Nat) ≠ 29 by decide), mj_up_row]
              by_cases e : j = i
              · subst e
                rw [mj_u_at]
                exact mj_b_b
              · rw [mj_u_ne (by omega)]
                exact a4 j (by omega)
            · rw [mj_up_ne (show (30 : Nat) ≠ 29 by decide), mj_up_row, mj_u_ne (by omega)]
              exact a5 j (by omega)
      refine mj_go z_T_feed [49] 60 ?_
      refine And.intro h.1 (Exists.intro _ (And.intro t3 ?_))
      refine And.intro hRd.1 ?_
      rw [hl]
      refine Exists.intro (((len : Int) + q)) (And.intro (by first | (rw [mj_w_id (by omega) (by omega)]; done) | (rw [mj_w_id (by omega) (by omega)]; omega) | (unfold mj_w; omega)) ?_)
      refine And.intro (fun e => ?_) (fun e => ?_)
      · simp (disch := (clear e; omega)) only [mj_w_id] at e
        exact loop e q 0 IA (by omega) ⟨fun _ _ _ => rfl, fun _ _ => rfl, hl, fun j hj => by omega, fun _ _ => rfl⟩
      · simp (disch := (clear e; omega)) only [mj_w_id] at e
        subst hQ
        exact ⟨Nat.le_of_ble_eq_true rfl, Nat.le_of_ble_eq_true rfl, ⟨rfl, rfl, rfl, rfl, Or.inr (Or.inl ⟨⟨by omega, by omega⟩, by omega, rfl, rfl⟩)⟩⟩
    · simp (disch := (clear d2; omega)) only [mj_w_id] at d2
      exact bad (by omega)
/-- what load leaves -/
def tw_ld (FR : mj_FR) (IA : mj_FI) (LA : mj_LA) (c b b3 len : Nat) (o : mj_O) (FR' : mj_FR) (IA' : mj_FI) (LA' : mj_LA) : Prop := ∃ J1 : mj_FI, rt_f IA J1 29 b3 ∧ J1 29 0 = 0 ∧ rt_q (ab_rd (rd_by IA 29) len (ab_s0 (IA (b3 + 1))) (IA (b3 + 2)) (IA (b3 + 3)) (IA (b3 + 4)) (IA (b3 + 5))) J1 29 b3 ∧ o = .inl (some (.inl (J1 29 1))) ∧
  ((¬ J1 29 1 = 0 ∧ FR' = FR ∧ LA' = LA ∧ IA' = mj_up (mj_up J1 c 1 (J1 29 1)) c 2 (J1 29 2)) ∨
   (J1 29 1 = 0 ∧ FR' = mj_up (mj_up FR 29 7 (.inl b)) c 0 (.inl b3) ∧ ∃ m I O G od, nA (mj_up (mj_up J1 c 1 (J1 29 1)) c 2 (J1 29 2)) b3 m I O G od ∧ se_q (mj_up (mj_up J1 c 1 (J1 29 1)) c 2 (J1 29 2)) LA c b3 I od (.inl none) IA' LA'))
set_option maxHeartbeats 1000000 in
theorem ct_T_load (h : isTw sh FR n b1 b2 b3) {x : Int} {c b len : Nat} (hx : tw_c b1 b2 x c b) (hl : IA 29 0 = (len : Int)) (hl2 : len ≤ 8192) (hz0 : IA (b3 + 2) 0 = 0) (hrow : ∀ j, j < 256 → LA (c + 10) j = 0#64) :
    mj_Ct m_T_load [.inr (.inr (.inl 0)), .inl x] sh FR IA LA n (fun o sh' FR' IA' LA' n' => sh' = sh ∧ n' = n ∧ tw_ld FR IA LA c b b3 len o FR' IA' LA') := by
  obtain ⟨hC, hN, _, _⟩ := h.c hx
  have hT := h
  obtain ⟨t0, t1, t2, t3, t4, hC1, hC2, hRd, hWr, hN1, hN2, hN3, hb⟩ := h
  have hap : rd_ap 29 b3 := by
    unfold rd_ap
    omega
  have hcb : (c = 1 ∨ c = 15) ∧ b3 ≠ b := by
    rcases hx with ⟨_, e1, e2⟩ | ⟨_, e1, e2⟩ <;> omega
  have hcap : C_ap c b3 := by
    unfold C_ap
    omega
  refine mj_Ct_of (by decide +kernel) (by decide) (Nat.le_of_ble_eq_true rfl) ?_
  refine mj_go z_T_load [64] 60 ?_
  refine And.intro t0 (And.intro (Nat.le_of_ble_eq_true rfl) (And.intro (Nat.le_of_ble_eq_true rfl) (And.intro (Nat.le_of_ble_eq_true rfl) (Exists.intro _ (And.intro (ct_T_named hT hx) ?_)))))
  rintro r9 sh9 FR9 IA9 LA9 n9 ⟨z0, z1, z2, z3, z4, z5⟩
  subst z0
  replace z1 := z1.symm
  subst z1
  replace z2 := z2.symm
  subst z2
  replace z3 := z3.symm
  subst z3
  replace z4 := z4.symm
  subst z4
  replace z5 := z5.symm
  subst z5
  refine And.intro (Or.inl rfl) ?_
  refine And.intro t0 (Exists.intro _ (And.intro t3 ?_))
  refine And.intro hRd.1 (And.intro (Nat.le_of_ble_eq_true rfl) (And.intro (Nat.le_of_ble_eq_true rfl) (And.intro (Nat.le_of_ble_eq_true rfl) (Exists.intro _ (And.intro (ct_R_readTape hRd hN3 hap hl hl2) ?_)))))
  rintro o1 sh9 FR9 J1 LA9 n9 ⟨z1, z2, z3, z4, hp1⟩
  replace z1 := z1.symm
  subst z1
  replace z2 := z2.symm
  subst z2
  replace z3 := z3.symm
  subst z3
  replace z4 := z4.symm
  subst z4
  obtain ⟨ho, f1, f2, f3⟩ := hp1
  subst ho
  have he : 0 ≤ J1 29 1 ∧ J1 29 1 ≤ 8 := by
    generalize hR : ab_rd (rd_by IA 29) len (ab_s0 (IA (b3 + 1))) (IA (b3 + 2)) (IA (b3 + 3)) (IA (b3 + 4)) (IA (b3 + 5)) = R at f3
    cases R with
    | inl e =>
      have := ab_rd_er hR
      rw [f3.1]
      omega
    | inr q =>
      rcases f3.2.2.2.2.2.2 with z | z | z
      · rw [z.1]
        decide
      · rw [z.2.1]
        decide
      · rw [z.2.1]
        decide
  refine And.intro (Or.inl rfl) ?_
  refine And.intro t0 (Exists.intro _ (And.intro t3 ?_))
  refine And.intro hRd.1 ?_
  refine And.intro hC.1 ?_
  refine And.intro t0 (Exists.intro _ (And.intro t3 ?_))
  refine And.intro hRd.1 ?_
  rw [mj_up_ne (show 29 ≠ c by omega)]
  refine And.intro hC.1 ?_
  refine And.intro t0 (Exists.intro _ (And.intro t3 ?_))
  refine And.intro hRd.1 ?_
  rw [mj_up_ne (show 29 ≠ c by omega), mj_up_ne (show 29 ≠ c by omega)]
  refine And.intro (fun d => ?_) (fun d => ?_)
  · simp (disch := (clear d; omega)) only [mj_w_id] at d
    refine mj_go z_T_load [] 60 ?_
    refine And.intro t0 (Exists.intro _ (And.intro t3 ?_))
    refine And.intro hRd.1 ?_
    rw [mj_up_ne (show 29 ≠ c by omega), mj_up_ne (show 29 ≠ c by omega)]
    exact ⟨⟨rfl, rfl, J1, f1, f2, f3, rfl, Or.inl ⟨d, rfl, rfl, rfl⟩⟩, Nat.le_of_ble_eq_true rfl, Nat.le_of_ble_eq_true rfl⟩
  · replace d := Classical.not_not.mp d
    simp (disch := (clear d; omega)) only [mj_w_id] at d
    generalize hJ2 : mj_up (mj_up J1 c 1 (J1 29 1)) c 2 (J1 29 2) = J2
    have j2 : ∀ q, q ≠ c → J2 q = J1 q := fun q hq => by rw [← hJ2, mj_up_ne hq, mj_up_ne hq]
    have hb3 : ∀ k, k ≤ 8 → J2 (b3 + k) = J1 (b3 + k) := fun k hk => j2 _ (by omega)
    obtain ⟨m, I, O, G, od, hA⟩ : ∃ m I O G od, nA J2 b3 m I O G od := by
      generalize hR : ab_rd (rd_by IA 29) len (ab_s0 (IA (b3 + 1))) (IA (b3 + 2)) (IA (b3 + 3)) (IA (b3 + 4)) (IA (b3 + 5)) = R at f3
      cases R with
      | inl e =>
        have := ab_rd_er hR
        have e2 := f3.1
        omega
      | inr q =>
        obtain ⟨g1, g2, g3, g4, g5, g6, g7⟩ := f3
        rcases g7 with z | z | z
        · rw [z.1] at d
          exact absurd d (by decide)
        · rw [z.2.1] at d
          exact absurd d (by decide)
        · obtain ⟨z1, _, _, od, z2, z3⟩ := z
          refine ⟨_, _, _, _, od, nW_mv g1 (fun k _ => by rw [show J2 b3 = J1 b3 from hb3 0 (by decide)]) (fun k _ hk => hb3 k (by omega)), ?_, ?_, ?_, ?_⟩
          · unfold nNo nU
            rw [hb3 1 (by decide), hb3 3 (by decide), hb3 4 (by decide), hb3 5 (by decide)]
            exact z1
          · rw [nt_wl_co (J := J2) (IA := J1) (by rw [show J2 b3 = J1 b3 from hb3 0 (by decide)]) (hb3 1 (by decide)), hb3 1 (by decide), hb3 2 (by decide), hb3 3 (by decide), hb3 4 (by decide), hb3 6 (by decide)]
            exact z2
          · rw [hb3 7 (by decide)]
            exact z3
          · rw [hb3 2 (by decide), f1.2.2]
            exact hz0
    refine And.intro t0 (Exists.intro _ (And.intro t3 ?_))
    refine And.intro hC.1 (Exists.intro _ (And.intro hC.2.1 ?_))
    refine And.intro hRd.1 (And.intro (Nat.le_of_ble_eq_true rfl) (And.intro (Nat.le_of_ble_eq_true rfl) (And.intro (Nat.le_of_ble_eq_true rfl) (Exists.intro _ (And.intro (ct_R_exchangeNet hRd) ?_)))))
    rintro r9 sh9 FR9 IA9 LA9 n9 ⟨z0, z1, z2, z3, z4, z5⟩
    subst z0
    replace z1 := z1.symm
    subst z1
    replace z2 := z2.symm
    subst z2
    replace z3 := z3.symm
    subst z3
    replace z4 := z4.symm
    subst z4
    replace z5 := z5.symm
    subst z5
    refine And.intro (Or.inl rfl) ?_
    refine And.intro hC.1 ?_
    generalize hF2 : mj_up (mj_up FR 29 7 (.inl b)) c 0 (.inl b3) = FR2
    have hC' : isC sh FR2 n c b3 := by
      obtain ⟨c0, c1, c2, c3, c4, c5, c6⟩ := hC
      refine ⟨c0, ?_, ?_, ?_, ?_, ?_, c6⟩
      · rw [← hF2, mj_up_at]
      · rw [← hF2, mj_up_k (by decide), mj_up_ne (by omega)]; exact c2
      · rw [← hF2, mj_up_k (by decide), mj_up_ne (by omega)]; exact c3
      · rw [← hF2, mj_up_k (by decide), mj_up_ne (by omega)]; exact c4
      · rw [← hF2, mj_up_k (by decide), mj_up_ne (by omega)]; exact c5
    have hN' : isNet sh FR2 n b3 := isNet_FR hN3 (fun k => by rw [← hF2, mj_up_ne (by omega), mj_up_ne (by omega)])
    have t3' : FR2 0 2 = .inl 29 := by rw [← hF2, mj_up_ne (by omega), mj_up_ne (by omega)]; exact t3
    refine And.intro hC.1 (And.intro (Nat.le_of_ble_eq_true rfl) (And.intro (Nat.le_of_ble_eq_true rfl) (And.intro (Nat.le_of_ble_eq_true rfl) (Exists.intro _ (And.intro (ct_C_settle hC' hN' hcap hA hrow) ?_)))))
    rintro o2 sh9 FR9 J3 K3 n9 ⟨z1, z2, z3, hp3⟩
    replace z1 := z1.symm
    subst z1
    replace z2 := z2.symm
    subst z2
    replace z3 := z3.symm
    subst z3
    have hq := hp3
    obtain ⟨ho, g1, _⟩ := hp3
    subst ho
    have e1 : J3 29 1 = J1 29 1 := by rw [g1.1 29 (by omega) (by omega) (by omega), j2 29 (by omega)]
    refine And.intro (Or.inl rfl) ?_
    refine mj_go z_T_load [] 60 ?_
    refine And.intro t0 (Exists.intro _ (And.intro t3' ?_))
    refine And.intro hRd.1 ?_
    rw [e1]
    exact ⟨⟨rfl, rfl, J1, f1, f2, f3, rfl, Or.inr ⟨d, hF2.symm, m, I, O, G, od, by rw [hJ2]; exact hA, by rw [hJ2]; exact hq⟩⟩, Nat.le_of_ble_eq_true rfl, Nat.le_of_ble_eq_true rfl⟩
end TT
