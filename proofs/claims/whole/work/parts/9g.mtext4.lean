/-! THE REFERENCE: readText, from its first step -/
section MM
variable {sh : mj_Sh} {FR : mj_FR} {IA : mj_FI} {LA : mj_LA} {n : Nat}
def md_tb (IA : mj_FI) : Prop := ∀ j, -128 ≤ IA 53 j ∧ IA 53 j ≤ 127
theorem md_by_l {len i : Nat} (hlen : IA 52 2 = (len : Int)) (hi : i < len) : md_by IA i = IA 53 i % 256 := if_pos (by omega)
theorem md_by_g {len i : Nat} (hlen : IA 52 2 = (len : Int)) (hi : ¬ i < len) : md_by IA i = -1 := if_neg (by omega)
set_option maxHeartbeats 2000000 in
theorem ct_M_readText (h : isM sh FR n) {len : Nat} {f ow le ri ou : Nat → Int} (hlen : IA 52 2 = (len : Int)) (hl2 : len ≤ 8192) (htb : md_tb IA) (hr : md_rr IA) (h0 : IA 66 2002 = 0) :
    mj_Ct m_M_readText [.inr (.inr (.inl 52))] sh FR IA LA n (mj_po (fun o J => o = .inl none ∧ md_d IA J ∧ md_rr J ∧ mt_q (ab_rd (md_by IA) len (ab_s0 f) ow le ri ou) J) sh FR LA n) := by
  generalize hR : ab_rd (md_by IA) len (ab_s0 f) ow le ri ou = R
  generalize hJ0 : mj_up (mj_up IA 52 21 0) 52 20 4 = J0
  have hd0 : md_d IA J0 := by rw [← hJ0]; exact (md_d_52 (by decide)).trans (md_d_52 (by decide))
  have hr0 : md_rr J0 := fun j hj => by rw [← hJ0, mj_up_ne (by decide), mj_up_ne (by decide)]; exact hr j hj
  have t0 := htb 0
  have t1 := htb 1
  have t2 := htb 2
  have t3 := htb 3
  have e53 : J0 53 = IA 53 := by rw [← hJ0, mj_up_ne (by decide), mj_up_ne (by decide)]
  have e2 : J0 52 2 = (len : Int) := by rw [← hJ0, mj_up_k (by decide), mj_up_k (by decide)]; exact hlen
  have dec : ∀ (iv bv : Int), ((iv = 1 ∧ ab_kd (md_by IA) ∧ bv = if ab_bn (md_by IA) = true then 1 else 0) ∨ (iv = 0 ∧ ¬ ab_kd (md_by IA))) → mj_G m_M_readText (mj_po (fun o J => o = .inl none ∧ md_d IA J ∧ md_rr J ∧ mt_q R J) sh FR LA n) 96 [some (.inr (.inr (.inl 52))), some (.inl bv), none] [.inl iv] sh FR J0 LA n 0 0 := by
    intro iv bv hc
    rcases hc with ⟨c1, c2, c3⟩ | ⟨c1, c2⟩
    · subst c1
      subst c3
      unfold ab_rd at hR
      rw [if_pos c2] at hR
      have h3 : 3 < len := by
        by_cases e : 3 < len
        · exact e
        · have := c2.2.2.2
          rw [md_by_g hlen e] at this
          omega
      have e20 : J0 52 20 = ((4 : Nat) : Int) := by rw [← hJ0, mj_up_at]; rfl
      have e21 : J0 52 21 = 0 := by rw [← hJ0, mj_up_k (by decide), mj_up_at]
      have hde : md_d J0 (md_e J0 1000) := by
        refine ⟨fun q j a1 a2 a3 a4 => ?_, fun k k1 k2 k3 => ?_⟩
        · unfold md_e
          rw [if_neg (fun z => a4 (by unfold dC; omega))]
        · unfold md_e
          rw [if_neg (by omega)]
      have hre : md_rr (md_e J0 1000) := fun j hj => by
        unfold md_e
        split
        · omega
        · exact hr0 j hj
      have ne : ∀ q k, q ≠ 66 → md_e J0 1000 q k = J0 q k := fun q k hq => by
        unfold md_e
        rw [if_neg (by omega)]
      refine mj_go z_M_readText [117] 60 ?_
      refine And.intro (fun c => ?_) (fun c => ?_)
      · refine And.intro h.o (And.intro (Nat.le_of_ble_eq_true rfl) (And.intro (Nat.le_of_ble_eq_true rfl) (And.intro (Nat.le_of_ble_eq_true rfl) (Exists.intro _ (And.intro (ct_M_empty h) ?_)))))
        rintro r9 sh9 FR9 IA9 LA9 n9 ⟨z0, z1, z2, z3, z4, z5⟩
        subst z0
        replace z1 := z1.symm
        subst z1
        replace z2 := z2.symm
        subst z2
        replace z3 := z3.symm
        subst z3
        replace z4 := z4.symm
        subst z4
        replace z5 := z5.symm
        subst z5
        refine And.intro (Or.inl rfl) ?_
        refine And.intro h.o (And.intro (Nat.le_of_ble_eq_true rfl) (And.intro (Nat.le_of_ble_eq_true rfl) (And.intro (Nat.le_of_ble_eq_true rfl) (Exists.intro _ (And.intro (ct_M_header (bin := ab_bn (md_by IA)) (p := 4) h (by rw [ne 52 2 (by decide)]; exact e2) hl2 (by rw [ne 52 20 (by decide)]; exact e20) (by omega) (by rw [ne 52 21 (by decide)]; exact e21)) ?_)))))
        rintro o1 sh9 FR9 J1 LA9 n9 ⟨z1, z2, z3, z4, hp1⟩
        replace z1 := z1.symm
        subst z1
        replace z2 := z2.symm
        subst z2
        replace z3 := z3.symm
        subst z3
        replace z4 := z4.symm
        subst z4
        obtain ⟨ho, hd1, f1, hq1⟩ := hp1
        subst ho
        refine And.intro (Or.inl rfl) ?_
        have hdd := hd0.trans hde
        rw [hdd.by] at hq1
        have hr1 : md_rr J1 := fun j hj => by rw [f1 66 (by decide) (by decide) (by decide) (by decide) (by decide) (by decide) (by decide)]; exact hre j hj
        rcases hq1 with ⟨l1, l2, l3⟩ | ⟨l1, l2, l3, l4⟩ | ⟨l1, l2, l3, l4, l5⟩ | ⟨l1, l2, l3, l4, l5, l6, l7, l8, l9⟩
        · rw [if_neg (by rw [l1]; decide)] at hR
          exact (mt_bad h (hdd.trans hd1) hr1 hR.symm l2 l3 ⟨show (1 : Int) ≤ 2 by decide, show (2 : Int) ≤ 8 by decide⟩).1
        · rw [if_pos l1, if_neg l2] at hR
          exact (mt_bad h (hdd.trans hd1) hr1 hR.symm l3 l4 ⟨show (1 : Int) ≤ 3 by decide, show (3 : Int) ≤ 8 by decide⟩).1
        · rw [if_pos l1, if_pos l2, if_pos l3] at hR
          exact (mt_bad h (hdd.trans hd1) hr1 hR.symm l4 l5 ⟨show (1 : Int) ≤ 4 by decide, show (4 : Int) ≤ 8 by decide⟩).1
        · rw [if_pos l1, if_pos l2, if_neg l3] at hR
          have nn := fun j => ab_L_n (j := j) l1
          have n0 := nn 0
          have n1 := nn 1
          have n3 := nn 3
          have n4 := nn 4
          have le5 := ab_L_e (cnt := 5) (p := 4) (md_en hlen) (by omega)
          have nb : ¬ ((1000 < (ab_L (md_by IA) 5 4).2.2.1 0 ∨ 14 < (ab_L (md_by IA) 5 4).2.2.1 1 ∨ 16 < (ab_L (md_by IA) 5 4).2.2.1 3 ∨ 300 < (ab_L (md_by IA) 5 4).2.2.1 4) ∨ (ab_L (md_by IA) 5 4).2.2.1 0 < (ab_L (md_by IA) 5 4).2.2.1 1 + (ab_L (md_by IA) 5 4).2.2.1 4) := fun z => l3 (by rcases z with z | z; exact Or.inl z; exact Or.inr (Or.inl z))
          have nb2 : ab_bn (md_by IA) = true → (ab_L (md_by IA) 5 4).2.2.1 0 = (ab_L (md_by IA) 5 4).2.2.1 1 + (ab_L (md_by IA) 5 4).2.2.1 4 := fun z => Classical.byContradiction fun w => l3 (Or.inr (Or.inr ⟨z, w⟩))
          refine mt_body h hlen hl2 l5 le5 (hdd.trans hd1) hr1 hR.symm l4 (by rw [l6]; omega) (by rw [l7]; omega) (by rw [l8]; omega) (by rw [l9]; omega) (by omega) (by omega) (by omega) (by omega) (by omega) (fun z => by have := nb2 z; omega) ?_ rfl (fun j j1 j2 => by unfold ab_s0; rw [if_neg (by omega), if_pos j2])
          unfold md_ro
          rw [f1 66 (by decide) (by decide) (by decide) (by decide) (by decide) (by decide) (by decide)]
          refine ⟨?_, fun j j1 j2 => ?_⟩
          · unfold md_e
            rw [if_neg (by omega), ← hJ0, mj_up_ne (by decide), mj_up_ne (by decide)]
            exact h0
          · unfold md_e
            rw [if_pos (by omega)]
            have es : ab_s0 f j = -1 := by unfold ab_s0; rw [if_neg (by omega), if_pos (by omega)]
            rw [es]
            rfl
      · exact absurd c (by decide)
    · subst c1
      unfold ab_rd at hR
      rw [if_neg c2] at hR
      subst hR
      refine mj_go z_M_readText [] 60 ?_
      refine And.intro (fun c => ?_) (fun c => ?_)
      · exact absurd (show mj_w 0 = 0 by decide) c
      · refine And.intro h.o (And.intro (Nat.le_of_ble_eq_true rfl) (And.intro (Nat.le_of_ble_eq_true rfl) (And.intro (Nat.le_of_ble_eq_true rfl) (Exists.intro _ (And.intro (ct_M_fail h) ?_)))))
        rintro r9 sh9 FR9 IA9 LA9 n9 ⟨z0, z1, z2, z3, z4, z5⟩
        subst z0
        replace z1 := z1.symm
        subst z1
        replace z2 := z2.symm
        subst z2
        replace z3 := z3.symm
        subst z3
        replace z4 := z4.symm
        subst z4
        replace z5 := z5.symm
        subst z5
        refine And.intro (Or.inl rfl) ?_
        exact ⟨⟨rfl, rfl, rfl, rfl, rfl, hd0.trans ((md_d_52 (by decide)).trans (md_d_52 (by decide))), (fun j hj => by rw [mj_up_ne (by decide), mj_up_ne (by decide)]; exact hr0 j hj), ⟨by rw [mj_up_k (by decide), mj_up_at], by rw [mj_up_at]⟩⟩, Nat.le_of_ble_eq_true rfl, Nat.le_of_ble_eq_true rfl⟩
  have kind : ∀ bv : Int, ((bv = 1 ∧ 2 < len ∧ IA 53 1 = 105) ∨ (bv = 0 ∧ ¬ (2 < len ∧ IA 53 1 = 105))) → mj_G m_M_readText (mj_po (fun o J => o = .inl none ∧ md_d IA J ∧ md_rr J ∧ mt_q R J) sh FR LA n) 34 [some (.inr (.inr (.inl 52))), none, none] [.inl bv] sh FR J0 LA n 0 0 := by
    intro bv hbv
    refine mj_go z_M_readText [69, 96] 60 ?_
    refine And.intro h.o ?_
    rw [e2]
    refine And.intro (fun c => ?_) (fun c => ?_)
    · simp (disch := (clear c; omega)) only [mj_w_id] at c
      refine dec 0 _ (Or.inr ⟨rfl, fun z => ?_⟩)
      have := z.2.2.2
      rw [md_by_g hlen (by omega)] at this
      omega
    · simp (disch := (clear c; omega)) only [mj_w_id] at c
      have b0 := md_by_l (i := 0) hlen (by omega)
      have b1 := md_by_l (i := 1) hlen (by omega)
      have b2 := md_by_l (i := 2) hlen (by omega)
      have b3 := md_by_l (i := 3) hlen (by omega)
      have no : ¬ (IA 53 0 = 97 ∧ (IA 53 1 = 97 ∨ bv = 1) ∧ IA 53 2 = 103 ∧ IA 53 3 = 32) → ¬ ab_kd (md_by IA) := by
        rintro w ⟨z1, z2, z3, z4⟩
        rw [b0] at z1
        rw [b1] at z2
        rw [b2] at z3
        rw [b3] at z4
        exact w ⟨by omega, by omega, by omega, by omega⟩
      have yes : (IA 53 0 = 97 ∧ (IA 53 1 = 97 ∨ bv = 1) ∧ IA 53 2 = 103 ∧ IA 53 3 = 32) → ab_kd (md_by IA) ∧ bv = if ab_bn (md_by IA) = true then 1 else 0 := by
        rintro ⟨z1, z2, z3, z4⟩
        refine ⟨⟨by rw [b0]; omega, by rw [b1]; omega, by rw [b2]; omega, by rw [b3]; omega⟩, ?_⟩
        unfold ab_bn
        rcases hbv with ⟨y1, y2, y3⟩ | ⟨y1, y2⟩
        · rw [if_pos (decide_eq_true (by rw [b1]; omega))]
          exact y1
        · rw [if_neg (fun z => y2 ⟨by omega, by have := of_decide_eq_true z; rw [b1] at this; omega⟩)]
          exact y1
      have p2 : (IA 53 0 = 97 ∧ (IA 53 1 = 97 ∨ bv = 1)) → mj_G m_M_readText (mj_po (fun o J => o = .inl none ∧ md_d IA J ∧ md_rr J ∧ mt_q R J) sh FR LA n) 69 [some (.inr (.inr (.inl 52))), some (.inl bv), none] [] sh FR J0 LA n 0 0 := by
        rintro ⟨z1, z2⟩
        refine mj_go z_M_readText [96] 60 ?_
        refine And.intro h.o (Exists.intro _ (And.intro h.r1 ?_))
        refine Exists.intro _ (Exists.intro (2) (And.intro h.a1 (And.intro (by first | (rw [mj_w_id (by omega) (by omega)]; done) | (rw [mj_w_id (by omega) (by omega)]; omega) | (unfold mj_w; omega)) (And.intro (by omega) ?_))))
        rw [e53]
        refine And.intro (fun d => ?_) (fun d => ?_)
        · simp (disch := (clear d; omega)) only [mj_w_id] at d
          exact dec 0 _ (Or.inr ⟨rfl, no (fun z => d z.2.2.1)⟩)
        · replace d := Classical.not_not.mp d
          simp (disch := (clear d; omega)) only [mj_w_id] at d
          refine And.intro h.o (Exists.intro _ (And.intro h.r1 ?_))
          refine Exists.intro _ (Exists.intro (3) (And.intro h.a1 (And.intro (by first | (rw [mj_w_id (by omega) (by omega)]; done) | (rw [mj_w_id (by omega) (by omega)]; omega) | (unfold mj_w; omega)) (And.intro (by omega) ?_))))
          rw [e53]
          refine And.intro (fun f => ?_) (fun f => ?_)
          · simp (disch := (clear f; omega)) only [mj_w_id] at f
            exact dec 0 _ (Or.inr ⟨rfl, no (fun z => f z.2.2.2)⟩)
          · replace f := Classical.not_not.mp f
            simp (disch := (clear f; omega)) only [mj_w_id] at f
            exact dec 1 _ (Or.inl ⟨rfl, yes ⟨z1, z2, d, f⟩⟩)
      refine And.intro h.o (Exists.intro _ (And.intro h.r1 ?_))
      refine Exists.intro _ (Exists.intro (0) (And.intro h.a1 (And.intro (by first | (rw [mj_w_id (by omega) (by omega)]; done) | (rw [mj_w_id (by omega) (by omega)]; omega) | (unfold mj_w; omega)) (And.intro (by omega) ?_))))
      rw [e53]
      refine And.intro (fun d => ?_) (fun d => ?_)
      · simp (disch := (clear d; omega)) only [mj_w_id] at d
        exact dec 0 _ (Or.inr ⟨rfl, no (fun z => d z.1)⟩)
      · replace d := Classical.not_not.mp d
        simp (disch := (clear d; omega)) only [mj_w_id] at d
        refine And.intro h.o (Exists.intro _ (And.intro h.r1 ?_))
        refine Exists.intro _ (Exists.intro (1) (And.intro h.a1 (And.intro (by first | (rw [mj_w_id (by omega) (by omega)]; done) | (rw [mj_w_id (by omega) (by omega)]; omega) | (unfold mj_w; omega)) (And.intro (by omega) ?_))))
        rw [e53]
        refine And.intro (fun f => ?_) (fun f => ?_)
        · simp (disch := (clear f; omega)) only [mj_w_id] at f
          exact p2 ⟨d, Or.inl f⟩
        · simp (disch := (clear f; omega)) only [mj_w_id] at f
          rcases hbv with ⟨y1, y2, y3⟩ | ⟨y1, y2⟩
          · subst y1
            refine And.intro (fun g => ?_) (fun g => ?_)
            · exact absurd g (by decide)
            · exact p2 ⟨d, Or.inr rfl⟩
          · subst y1
            refine And.intro (fun g => ?_) (fun g => ?_)
            · exact dec 0 _ (Or.inr ⟨rfl, no (fun z => by have := z.2.1; omega)⟩)
            · exact absurd (show mj_w 0 = 0 by decide) g
  refine mj_Ct_of (by decide +kernel) (by decide) (Nat.le_of_ble_eq_true rfl) ?_
  refine mj_go z_M_readText [34] 60 ?_
  refine And.intro h.o ?_
  refine And.intro h.o ?_
  refine And.intro h.o ?_
  rw [hJ0, e2]
  refine And.intro (fun c => ?_) (fun c => ?_)
  · simp (disch := (clear c; omega)) only [mj_w_id] at c
    exact kind 0 (Or.inr ⟨rfl, by omega⟩)
  · simp (disch := (clear c; omega)) only [mj_w_id] at c
    refine And.intro h.o (Exists.intro _ (And.intro h.r1 ?_))
    refine Exists.intro _ (Exists.intro (1) (And.intro h.a1 (And.intro (by first | (rw [mj_w_id (by omega) (by omega)]; done) | (rw [mj_w_id (by omega) (by omega)]; omega) | (unfold mj_w; omega)) (And.intro (by omega) ?_))))
    rw [e53]
    refine And.intro (fun d => ?_) (fun d => ?_)
    · simp (disch := (clear d; omega)) only [mj_w_id] at d
      exact kind 0 (Or.inr ⟨rfl, by omega⟩)
    · replace d := Classical.not_not.mp d
      simp (disch := (clear d; omega)) only [mj_w_id] at d
      exact kind 1 (Or.inl ⟨rfl, by omega, d⟩)
end MM
