/-! THE OUTER CLASS: write, out, look, feed -/
section TT
variable {sh : mj_Sh} {FR : mj_FR} {IA : mj_FI} {LA : mj_LA} {n b1 b2 b3 : Nat}
/-- the slot of the final literal, reduced: the leader's -/
theorem cS.Xt {c b m I O G : Nat} {od ld : List Nat} (h : cS IA LA c b m I O G od ld) {lit : Int} (hsd : tw_sd IA b lit) : ∃ t ∈ ld, C_si LA c t c (wr_sl IA b lit) (C_W I) ∧ wr_X IA c b true lit = t := by
  have hA := h.1
  obtain ⟨hW, W1, W2, W3⟩ := h.W
  have hn := hW.sl hsd
  obtain ⟨t, t1, t2, t3, t4, t5, t6, t7⟩ := h.led hn
  refine ⟨t, t1, t2, ?_⟩
  have ht : IA (b + 1) (IA (b + 2) t / 2).toNat = (t : Int) := by
    obtain ⟨w1, w2, w3, w4, w5, w6, w7, w8, w9, ⟨v0, v1, v2⟩, w11, w12⟩ := hW
    by_cases e : t = 0
    · subst e
      rw [hA.2.2.2.2]
      exact v0
    · obtain ⟨j, j1, j2, j3, j4⟩ := v2 t (by unfold nS lf_g at t4; omega) (by unfold nS lf_g at t4; omega)
      rw [j3, show (2 * (j : Int) / 2).toNat = j by omega]
      exact j4
  have hm : ∃ e : Int, (e = 0 ∨ e = 1) ∧ C_sg (IA (c + 12) (wr_sl IA b lit)) lit = IA (b + 2) t + e := by
    rw [t3]
    unfold C_lt C_sg
    by_cases q1 : C_sb (C_rw LA c t 0) = C_sb (C_rw LA c (wr_sl IA b lit) 0)
    · rw [if_pos q1]
      by_cases q2 : lit % 2 = 0
      · rw [if_pos q2]
        exact ⟨0, Or.inl rfl, by omega⟩
      · rw [if_neg q2, if_pos (by omega)]
        exact ⟨1, Or.inr rfl, by omega⟩
    · rw [if_neg q1]
      by_cases q2 : lit % 2 = 0
      · rw [if_pos q2]
        exact ⟨1, Or.inr rfl, by omega⟩
      · rw [if_neg q2, if_neg (by omega)]
        exact ⟨0, Or.inl rfl, by omega⟩
  obtain ⟨e, he, hC⟩ := hm
  show wr_sl IA b (C_sg (IA (c + 12) (wr_sl IA b lit)) lit) = t
  rw [hC]
  unfold wr_sl
  rw [show ((IA (b + 2) t + e) / 2).toNat = (IA (b + 2) t / 2).toNat by omega, ht]
  rfl
theorem cS.O7 {c b m I O G : Nat} {od ld : List Nat} (h : cS IA LA c b m I O G od ld) (rd : Bool) : ∀ xs s ys, od = xs ++ s :: ys → ∀ g ∈ s :: ys, ¬ wr_X IA c b rd (IA (b + 3) s) = g ∧ ¬ wr_X IA c b rd (IA (b + 4) s) = g := by
  obtain ⟨od1, od2, od3⟩ := h.1.od
  obtain ⟨hW, W1, W2, W3⟩ := h.W
  obtain ⟨hW', hno, hT, hrl, hz⟩ := id h.1
  have hg := fun s => nt_wl_g (s := s) hW
  have hv8 := h.2.2.2.2.1.2.2.2.2.2.2.2
  intro xs s ys hod g hgm
  have sg : lf_g I G s := (od3 s).mp (by rw [hod]; simp)
  have hds := (hT.1 s ((hg s).mpr sg)).2.2.2
  have hfan := hW.fan hno sg
  have hdg : ∀ y ∈ s :: ys, IA (b + 6) s ≤ IA (b + 6) y := by
    intro y hy
    rcases List.mem_cons.mp hy with e | e
    · subst e
      exact Int.le_refl _
    · have hp := hT.2.2.2.1
      rw [hod, List.pairwise_append] at hp
      have := List.rel_of_pairwise_cons hp.2.1 e
      unfold ar_lx at this
      omega
  have key : ∀ lit, tw_sd IA b lit → IA (b + 6) (wr_sl IA b lit) < IA (b + 6) s → ¬ wr_X IA c b rd lit = g := by
    intro lit hl hd hX
    cases rd with
    | false =>
      have e : wr_sl IA b lit = g := hX
      have := hdg g hgm
      rw [e] at hd
      omega
    | true =>
      obtain ⟨t, t1, t2, t3⟩ := h.Xt hl
      rw [t3] at hX
      subst hX
      have hu : wr_sl IA b lit ∈ List.range (I + 1) ++ xs := by
        have h1 := h.en.mpr (hW.sl hl)
        rw [hod, ← List.append_assoc] at h1
        rcases List.mem_append.mp h1 with q | q
        · exact q
        · have := hdg _ q
          omega
      obtain ⟨pre, post, hp⟩ := List.append_of_mem hgm
      exact hv8 (List.range (I + 1) ++ xs ++ pre) t post (by rw [hod, hp]; simp) t1 _ (List.mem_append_left _ hu) (C_si_symm rfl t2)
  have sl3 : wr_sl IA b (IA (b + 3) s) = nF (IA (b + 1)) (IA (b + 3)) s := rfl
  have sl4 : wr_sl IA b (IA (b + 4) s) = nF (IA (b + 1)) (IA (b + 4)) s := rfl
  obtain ⟨w1, w2, w3, w4, w5, w6, w7, w8, w9, w10, w11, w12⟩ := hW
  obtain ⟨s1, s2⟩ := id sg
  have r := w11 s s1 s2
  refine ⟨key _ ⟨by rw [w6]; exact r.1, by omega⟩ (by rw [sl3]; omega), key _ ⟨by rw [w6]; exact r.2, by omega⟩ (by rw [sl4]; omega)⟩
theorem ct_T_write (h : isTw sh FR n b1 b2 b3) {x : Int} {bin rd : Bool} {c b m I O G : Nat} {od ld : List Nat} (hx : tw_c b1 b2 x c b) (hS : cS IA LA c b m I O G od ld) :
    mj_Ct m_T_write [.inr (.inr (.inl 0)), .inl x, .inl (if bin = true then 1 else 0), .inl (if rd = true then 1 else 0)] sh FR IA LA n (mj_po (fun o J => (∀ q, q < 45 ∨ 51 < q → J q = IA q) ∧ ∃ tx : List Int, o = .inl (some (.inl (tx.length : Int))) ∧ tx.length ≤ 4096 ∧ J 45 0 = (tx.length : Int) ∧ (∀ i x, tx[i]? = some x → J 46 i = mj_b x) ∧ wr_txt IA c b m I O rd bin od tx) sh FR LA n) := by
  obtain ⟨hC, hN, _, hap⟩ := h.c hx
  have hWr := h.2.2.2.2.2.2.2.2.1
  refine mj_Ct_of (by decide +kernel) (by decide) (Nat.le_of_ble_eq_true rfl) ?_
  refine mj_go z_T_write [] 60 ?_
  refine And.intro h.1 (Exists.intro _ (And.intro h.2.2.2.2.1 ?_))
  refine And.intro h.1 (And.intro (Nat.le_of_ble_eq_true rfl) (And.intro (Nat.le_of_ble_eq_true rfl) (And.intro (Nat.le_of_ble_eq_true rfl) (Exists.intro _ (And.intro (ct_T_named h hx) ?_)))))
  rintro r9 sh9 FR9 IA9 LA9 n9 ⟨z0, z1, z2, z3, z4, z5⟩
  subst z0
  replace z1 := z1.symm
  subst z1
  replace z2 := z2.symm
  subst z2
  replace z3 := z3.symm
  subst z3
  replace z4 := z4.symm
  subst z4
  replace z5 := z5.symm
  subst z5
  refine And.intro (Or.inl rfl) ?_
  refine And.intro hWr.1 (And.intro (Nat.le_of_ble_eq_true rfl) (And.intro (Nat.le_of_ble_eq_true rfl) (And.intro (Nat.le_of_ble_eq_true rfl) (Exists.intro _ (And.intro (ct_W_writeText hWr hC hN hap hS.1 (hS.H rd) (hS.O7 rd)) ?_)))))
  rintro o1 sh9 FR9 J1 LA9 n9 ⟨z1, z2, z3, z4, hp1⟩
  replace z1 := z1.symm
  subst z1
  replace z2 := z2.symm
  subst z2
  replace z3 := z3.symm
  subst z3
  replace z4 := z4.symm
  subst z4
  obtain ⟨q1, tx, q2, q3⟩ := hp1
  subst q2
  refine And.intro (Or.inl rfl) ?_
  exact ⟨⟨rfl, rfl, rfl, rfl, q1, tx, rfl, q3⟩, Nat.le_of_ble_eq_true rfl, Nat.le_of_ble_eq_true rfl⟩
/-- the eight bytes from k on -/
def tw_o (f : Nat → Int) (k : Nat) : Nat → BitVec 64
  | 0 => 0#64
  | i + 1 => tw_o f k i ||| (BitVec.ofInt 64 (f (k + i)) <<< (8 * i))
theorem ct_T_out (h : isTw sh FR n b1 b2 b3) {k : Int} {len : Nat} (ik : mj_i k) (hl : IA 45 0 = (len : Int)) (hl2 : len ≤ 4096) :
    mj_Ct m_T_out [.inr (.inr (.inl 0)), .inl k] sh FR IA LA n (mj_pu (if 0 ≤ k ∧ k < (len : Int) then .inl (some (.inr (.inl (tw_o (fun i => if i < len then IA 46 i % 256 else 0) k.toNat 8)))) else .inr 2) sh FR IA LA n) := by
  have hWr := h.2.2.2.2.2.2.2.2.1
  have t4 := h.2.2.2.2.1
  obtain ⟨i1, i2⟩ := ik
  by_cases hk : 0 ≤ k ∧ k < (len : Int)
  · rw [if_pos hk]
    obtain ⟨q, hq⟩ : ∃ q : Nat, k = (q : Int) := ⟨k.toNat, by omega⟩
    subst hq
    rw [show ((q : Int)).toNat = q from rfl]
    generalize hf : (fun i => if i < len then IA 46 i % 256 else 0) = f
    have hf2 : ∀ i, (if i < len then IA (45 + 1) i % 256 else 0) = f i := fun i => by rw [← hf]
    have hf3 : ∀ i, 0 ≤ f i ∧ f i < 256 := fun i => by
      rw [← hf2]
      split <;> omega
    have loop : ∀ (t i : Nat), i + t = 8 → mj_G m_T_out (mj_pu (.inl (some (.inr (.inl (tw_o f q 8))))) sh FR IA LA n) 30 [some (.inr (.inr (.inl 0))), some (.inl (q : Int)), some (.inr (.inl (tw_o f q i))), none, some (.inl i)] [] sh FR IA LA n 0 0 := by
      intro t
      induction t with
      | zero =>
        intro i hi
        have hi : i = 8 := by omega
        subst hi
        refine mj_go z_T_out [30] 60 ?_
        refine And.intro (fun d => ?_) (fun d => ?_)
        · exact ⟨⟨rfl, rfl, rfl, rfl, rfl, rfl⟩, Nat.le_of_ble_eq_true rfl, Nat.le_of_ble_eq_true rfl⟩
        · exact absurd (by decide) d
      | succ t ih =>
        intro i hi
        have hfi := hf3 (q + i)
        refine mj_go z_T_out [30] 60 ?_
        refine And.intro (fun d => ?_) (fun d => ?_)
        · simp (disch := (clear d; omega)) only [mj_w_id] at d
          omega
        · clear d
          refine And.intro h.1 (Exists.intro _ (And.intro t4 ?_))
          refine Exists.intro (((q + i : Nat) : Int)) (And.intro (by first | (rw [mj_w_id (by omega) (by omega)]; done) | (rw [mj_w_id (by omega) (by omega)]; omega) | (unfold mj_w; omega)) ?_)
          refine And.intro hWr.1 (And.intro (Nat.le_of_ble_eq_true rfl) (And.intro (Nat.le_of_ble_eq_true rfl) (And.intro (Nat.le_of_ble_eq_true rfl) (Exists.intro _ (And.intro (ct_W_byteAt hWr (i := q + i) (by omega) hl hl2) ?_)))))
          rintro r9 sh9 FR9 IA9 LA9 n9 ⟨z0, z1, z2, z3, z4, z5⟩
          subst z0
          replace z1 := z1.symm
          subst z1
          replace z2 := z2.symm
          subst z2
          replace z3 := z3.symm
          subst z3
          replace z4 := z4.symm
          subst z4
          replace z5 := z5.symm
          subst z5
          refine And.intro (Or.inl rfl) ?_
          rw [hf2]
          refine Exists.intro (((8 * i : Nat) : Int)) (And.intro (by first | (rw [mj_w_id (by omega) (by omega)]; done) | (rw [mj_w_id (by omega) (by omega)]; omega) | (unfold mj_w; omega)) ?_)
          rw [mj_w_id (by omega) (by omega)]
          refine Exists.intro (BitVec.ofInt 64 (f (q + i)) <<< (8 * i)) (And.intro (nu_lshl _ (by omega)) ?_)
          refine Exists.intro (((i + 1 : Nat) : Int)) (And.intro (by first | (rw [mj_w_id (by omega) (by omega)]; done) | (rw [mj_w_id (by omega) (by omega)]; omega) | (unfold mj_w; omega)) ?_)
          exact ih (i + 1) (by omega)
    refine mj_Ct_of (by decide +kernel) (by decide) (Nat.le_of_ble_eq_true rfl) ?_
    refine mj_go z_T_out [30] 60 ?_
    refine And.intro (fun d => ?_) (fun d => ?_)
    · simp (disch := (clear d; omega)) only [mj_w_id] at d
      omega
    · clear d
      refine And.intro h.1 (Exists.intro _ (And.intro t4 ?_))
      refine And.intro hWr.1 ?_
      rw [hl]
      refine And.intro (fun d => ?_) (fun d => ?_)
      · exact loop 8 0 (by omega)
      · simp (disch := (clear d; omega)) only [mj_w_id] at d
        omega
  · rw [if_neg hk]
    refine mj_Ct_of (by decide +kernel) (by decide) (Nat.le_of_ble_eq_true rfl) ?_
    refine mj_go z_T_out [30] 60 ?_
    refine And.intro (fun d => ?_) (fun d => ?_)
    · exact ⟨Nat.le_of_ble_eq_true rfl, Nat.le_of_ble_eq_true rfl, ⟨rfl, rfl, rfl, rfl, rfl, rfl⟩⟩
    · simp (disch := (clear d; omega)) only [mj_w_id] at d
      refine And.intro h.1 (Exists.intro _ (And.intro t4 ?_))
      refine And.intro hWr.1 ?_
      rw [hl]
      refine And.intro (fun e => ?_) (fun e => ?_)
      · simp (disch := (clear e; omega)) only [mj_w_id] at e
        omega
      · exact ⟨Nat.le_of_ble_eq_true rfl, Nat.le_of_ble_eq_true rfl, ⟨rfl, rfl, rfl, rfl, rfl, rfl⟩⟩
/-- look's answer -/
def tw_lk (IA : mj_FI) (c b O : Nat) (w : Int) : mj_O := if w = 0 then .inl (some (.inl (IA b 10))) else if w = 1 then .inl (some (.inl (IA b 11))) else if w = 2 then .inl (some (.inl (IA b 12))) else if w = 3 then .inl (some (.inl (IA b 9))) else if w = 4 then .inl (some (.inl (IA c 1))) else if w = 5 then .inl (some (.inl (IA c 2))) else
  if w = 6 then .inl (some (.inl (nt_od IA b O))) else if w = 7 then .inl (some (.inl (IA 29 0))) else if w = 8 then .inl (some (.inl (IA 45 0))) else .inr 0
theorem ct_T_look (h : isTw sh FR n b1 b2 b3) {x w : Int} {c b m I O G : Nat} {od ld : List Nat} (hx : tw_c b1 b2 x c b) (hS : cS IA LA c b m I O G od ld) (iw : mj_i w) :
    mj_Ct m_T_look [.inr (.inr (.inl 0)), .inl x, .inl w] sh FR IA LA n (mj_pu (tw_lk IA c b O w) sh FR IA LA n) := by
  obtain ⟨hC, hN, _, _⟩ := h.c hx
  obtain ⟨hW, W1, W2, W3⟩ := hS.W
  have hout := fun k hk => (hS.1.out (k := k) hk).st hW
  have hdep : ∀ j, j < 315 → 0 ≤ IA (b + 6) j ∧ IA (b + 6) j ≤ 1000000 := by
    obtain ⟨_, _, hT, _, _⟩ := hS.1
    intro j hj
    by_cases z : j ∈ nt_wl IA b m
    · have := hT.1 j z
      have := (nt_wl_G hW).2
      have := hW.2.2.2.1
      omega
    · have := hT.2.1 j hj z
      omega
  obtain ⟨w1, w2, w3, w4, w5, w6, w7, w8, w9, w10, w11, w12⟩ := id hW
  obtain ⟨i1, i2⟩ := iw
  have hRd := h.2.2.2.2.2.2.2.1
  have hWr := h.2.2.2.2.2.2.2.2.1
  have t3 := h.2.2.2.1
  have t4 := h.2.2.2.2.1
  refine mj_Ct_of (by decide +kernel) (by decide) (Nat.le_of_ble_eq_true rfl) ?_
  refine mj_go z_T_look [] 60 ?_
  refine And.intro h.1 (And.intro (Nat.le_of_ble_eq_true rfl) (And.intro (Nat.le_of_ble_eq_true rfl) (And.intro (Nat.le_of_ble_eq_true rfl) (Exists.intro _ (And.intro (ct_T_named h hx) ?_)))))
  rintro r9 sh9 FR9 IA9 LA9 n9 ⟨z0, z1, z2, z3, z4, z5⟩
  subst z0
  replace z1 := z1.symm
  subst z1
  replace z2 := z2.symm
  subst z2
  replace z3 := z3.symm
  subst z3
  replace z4 := z4.symm
  subst z4
  replace z5 := z5.symm
  subst z5
  refine And.intro (Or.inl rfl) ?_
  refine And.intro (fun i t ht hw => ?_) (fun hd => ?_)
  · rw [mj_w_id i1 i2] at hw
    subst hw
    have hi : i < 9 := by
      by_cases z : i < 9
      · exact z
      · rw [List.getElem?_eq_none (by simp; omega)] at ht
        cases ht
    rcases (show i = 0 ∨ i = 1 ∨ i = 2 ∨ i = 3 ∨ i = 4 ∨ i = 5 ∨ i = 6 ∨ i = 7 ∨ i = 8 by omega) with e | e | e | e | e | e | e | e | e
    · subst e
      cases ht
      refine And.intro hC.1 (Exists.intro _ (And.intro hC.2.1 ?_))
      refine And.intro hN.1 ?_
      exact ⟨⟨rfl, rfl, rfl, rfl, rfl, rfl⟩, Nat.le_of_ble_eq_true rfl, Nat.le_of_ble_eq_true rfl⟩
    · subst e
      cases ht
      refine And.intro hC.1 (Exists.intro _ (And.intro hC.2.1 ?_))
      refine And.intro hN.1 ?_
      exact ⟨⟨rfl, rfl, rfl, rfl, rfl, rfl⟩, Nat.le_of_ble_eq_true rfl, Nat.le_of_ble_eq_true rfl⟩
    · subst e
      cases ht
      refine And.intro hC.1 (Exists.intro _ (And.intro hC.2.1 ?_))
      refine And.intro hN.1 ?_
      exact ⟨⟨rfl, rfl, rfl, rfl, rfl, rfl⟩, Nat.le_of_ble_eq_true rfl, Nat.le_of_ble_eq_true rfl⟩
    · subst e
      cases ht
      refine And.intro hC.1 (Exists.intro _ (And.intro hC.2.1 ?_))
      refine And.intro hN.1 ?_
      exact ⟨⟨rfl, rfl, rfl, rfl, rfl, rfl⟩, Nat.le_of_ble_eq_true rfl, Nat.le_of_ble_eq_true rfl⟩
    · subst e
      cases ht
      refine And.intro hC.1 ?_
      exact ⟨⟨rfl, rfl, rfl, rfl, rfl, rfl⟩, Nat.le_of_ble_eq_true rfl, Nat.le_of_ble_eq_true rfl⟩
    · subst e
      cases ht
      refine And.intro hC.1 ?_
      exact ⟨⟨rfl, rfl, rfl, rfl, rfl, rfl⟩, Nat.le_of_ble_eq_true rfl, Nat.le_of_ble_eq_true rfl⟩
    · subst e
      cases ht
      refine And.intro hC.1 (Exists.intro _ (And.intro hC.2.1 ?_))
      refine And.intro hN.1 (And.intro (Nat.le_of_ble_eq_true rfl) (And.intro (Nat.le_of_ble_eq_true rfl) (And.intro (Nat.le_of_ble_eq_true rfl) (Exists.intro _ (And.intro (ct_N_outputDepth hN w9 w3 (fun k hk => by have := hout k hk; omega) hdep) ?_)))))
      rintro r9 sh9 FR9 IA9 LA9 n9 ⟨z0, z1, z2, z3, z4, z5⟩
      subst z0
      replace z1 := z1.symm
      subst z1
      replace z2 := z2.symm
      subst z2
      replace z3 := z3.symm
      subst z3
      replace z4 := z4.symm
      subst z4
      replace z5 := z5.symm
      subst z5
      refine And.intro (Or.inl rfl) ?_
      exact ⟨⟨rfl, rfl, rfl, rfl, rfl, rfl⟩, Nat.le_of_ble_eq_true rfl, Nat.le_of_ble_eq_true rfl⟩
    · subst e
      cases ht
      refine And.intro h.1 (Exists.intro _ (And.intro t3 ?_))
      refine And.intro hRd.1 ?_
      exact ⟨⟨rfl, rfl, rfl, rfl, rfl, rfl⟩, Nat.le_of_ble_eq_true rfl, Nat.le_of_ble_eq_true rfl⟩
    · subst e
      cases ht
      refine And.intro h.1 (Exists.intro _ (And.intro t4 ?_))
      refine And.intro hWr.1 ?_
      exact ⟨⟨rfl, rfl, rfl, rfl, rfl, rfl⟩, Nat.le_of_ble_eq_true rfl, Nat.le_of_ble_eq_true rfl⟩
  · rw [mj_w_id i1 i2] at hd
    have hd : w < 0 ∨ 9 ≤ w := hd
    unfold tw_lk
    rw [if_neg (by omega), if_neg (by omega), if_neg (by omega), if_neg (by omega), if_neg (by omega), if_neg (by omega), if_neg (by omega), if_neg (by omega), if_neg (by omega)]
    exact ⟨Nat.le_of_ble_eq_true rfl, Nat.le_of_ble_eq_true rfl, ⟨rfl, rfl, rfl, rfl, rfl, rfl⟩⟩
end TT
