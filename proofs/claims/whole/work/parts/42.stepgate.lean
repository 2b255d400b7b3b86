/-! READER: takeStepGate -/
theorem ab_stp_e {by0 : Nat → Int} {len p : Nat} {x : Int × Nat} (h : ab_en by0 len) (hx : ab_stp by0 p = .inr x) : x.2 ≤ len := by
  unfold ab_stp at hx
  have h1 := h p
  have h2 := h (p + 1)
  split at hx
  · cases hx
  · split at hx
    · cases hx
      show p + 1 ≤ len
      omega
    · split at hx
      · cases hx
        show p + 2 ≤ len
        omega
      · cases hx
theorem rd_stp_ab {IA J : mj_FI} {r p : Nat} {o : mj_O} (h : rd_stp IA r p o J) (S : Nat → Prop) : (∃ q, ab_stp (rd_by IA r) p = .inl q ∧ o = .inl (some (.inl (-1))) ∧ J r 1 = 5 ∧ J r 2 = (q : Int) ∧ rd_f IA J r S ∧ ∀ q, q ≠ r → J q = IA q) ∨
    (∃ x, ab_stp (rd_by IA r) p = .inr x ∧ o = .inl (some (.inl x.1)) ∧ J = mj_up IA r 8 (x.2 : Int) ∧ 0 ≤ x.1 ∧ x.1 < 100000) := by
  have b0 := rd_by_in IA r p
  have b1 := rd_by_in IA r (p + 1)
  rcases h with ⟨h1, h2, h3⟩ | ⟨h1, h2, h3, h4⟩ | ⟨h1, h2, h3, h4⟩ | ⟨h1, h2, h3, h4, h5⟩
  · refine Or.inl ⟨p, if_pos h1, h2, ?_, ?_, ?_⟩
    · rw [h3, mj_up_k (by decide), mj_up_at]
    · rw [h3, mj_up_at]
    · rw [h3]
      exact ⟨(rd_f_r (Or.inl rfl)).trans (rd_f_r (Or.inr (Or.inl rfl))), fun q hq => by rw [mj_up_ne hq, mj_up_ne hq]⟩
  · refine Or.inr ⟨(rd_by IA r p, p + 1), ?_, h3, h4, h1, ?_⟩
    · unfold ab_stp
      rw [if_neg (by omega), if_pos h2]
    · show rd_by IA r p < 100000
      omega
  · refine Or.inl ⟨p + 1, ?_, h3, ?_, ?_, ?_⟩
    · unfold ab_stp
      rw [if_neg (by omega), if_neg (by omega), if_neg h2]
    · rw [h4, mj_up_k (by decide), mj_up_at]
    · rw [h4, mj_up_at]
    · rw [h4]
      exact ⟨((rd_f_r (Or.inr (Or.inr rfl))).trans (rd_f_r (Or.inl rfl))).trans (rd_f_r (Or.inr (Or.inl rfl))), fun q hq => by rw [mj_up_ne hq, mj_up_ne hq, mj_up_ne hq]⟩
  · refine Or.inr ⟨(rd_by IA r p - 128 + 128 * rd_by IA r (p + 1), p + 2), ?_, h4, h5, ?_, ?_⟩
    · unfold ab_stp
      rw [if_neg (by omega), if_neg (by omega), if_pos ⟨h2, h3⟩]
    · show 0 ≤ rd_by IA r p - 128 + 128 * rd_by IA r (p + 1)
      omega
    · show rd_by IA r p - 128 + 128 * rd_by IA r (p + 1) < 100000
      omega
section RR
variable {sh : mj_Sh} {FR : mj_FR} {IA : mj_FI} {LA : mj_LA} {n r b : Nat}
set_option maxHeartbeats 2000000 in
theorem ct_R_takeStepGate (h : isRd sh FR n r b) (hN : isNet sh FR n b) (hap : rd_ap r b) {len p s : Nat} (hlen : IA r 0 = (len : Int)) (hl2 : len ≤ 8192) (hp : IA r 8 = (p : Int)) (hp2 : p ≤ len) (hs1 : 1 ≤ s) (hs : s < 315) :
    mj_Ct m_R_takeStepGate [.inr (.inr (.inl r)), .inl s] sh FR IA LA n (mj_po (fun o J => rd_f IA J r (rd_S4 b) ∧ rd_gq (ab_sg (rd_by IA r) s p (IA (b + 1)) (IA (b + 2)) (IA (b + 3)) (IA (b + 4))) IA r b o J) sh FR LA n) := by
  have hR := h
  obtain ⟨h0, r3, r4, r5, r6, r7, a1, a2, a3, a4, s0, s1, a5, a6⟩ := h
  generalize hT : ab_sg (rd_by IA r) s p (IA (b + 1)) (IA (b + 2)) (IA (b + 3)) (IA (b + 4)) = R
  have hq : b ≠ r ∧ b + 1 ≠ r ∧ b + 1 ≠ r + 1 ∧ b + 2 ≠ r ∧ b + 2 ≠ r + 1 ∧ b + 3 ≠ r ∧ b + 3 ≠ r + 1 ∧ b + 4 ≠ r := by
    unfold rd_ap at hap
    omega
  obtain ⟨q1, q2, q3, q4, q5, q6, q7, q8⟩ := hq
  unfold ab_sg at hT
  refine mj_Ct_of (by decide +kernel) (by decide) (Nat.le_of_ble_eq_true rfl) ?_
  refine mj_go z_R_takeStepGate [43, 51] 60 ?_
  refine Exists.intro ((2 * (s : Int))) (And.intro (by first | (rw [mj_w_id (by omega) (by omega)]; done) | (rw [mj_w_id (by omega) (by omega)]; omega) | (unfold mj_w; omega)) ?_)
  refine And.intro h0 (Exists.intro _ (And.intro r7 ?_))
  refine And.intro hN.1 (And.intro (Nat.le_of_ble_eq_true rfl) (And.intro (Nat.le_of_ble_eq_true rfl) (And.intro (Nat.le_of_ble_eq_true rfl) (Exists.intro _ (And.intro (ct_N_place hN (by omega) (by omega) hs) ?_)))))
  rintro r9 sh9 FR9 IA9 LA9 n9 ⟨z0, z1, z2, z3, z4, z5⟩
  subst z0
  replace z1 := z1.symm
  subst z1
  replace z2 := z2.symm
  subst z2
  replace z3 := z3.symm
  subst z3
  replace z4 := z4.symm
  subst z4
  replace z5 := z5.symm
  subst z5
  refine And.intro (Or.inl rfl) ?_
  rw [show (2 * (s : Int) / 2).toNat = s by omega]
  generalize hJ1 : mj_up (mj_up IA (b + 2) s (2 * (s : Int))) (b + 1) s (s : Int) = J1
  have f1 : rd_f IA J1 r (rd_S4 b) := by
    rw [← hJ1]
    exact (rd_f_up (Or.inr (Or.inl rfl)) q4).trans (rd_f_up (Or.inl rfl) q2)
  have gr : J1 r = IA r := by rw [← hJ1, mj_up_ne (Ne.symm q2), mj_up_ne (Ne.symm q4)]
  have gb1 : J1 (b + 1) = mj_u (IA (b + 1)) s s := by rw [← hJ1, mj_up_row, mj_up_ne (by omega)]
  have gb2 : J1 (b + 2) = mj_u (IA (b + 2)) s (2 * s) := by rw [← hJ1, mj_up_ne (by omega), mj_up_row]
  have gb3 : J1 (b + 3) = IA (b + 3) := by rw [← hJ1, mj_up_ne (by omega), mj_up_ne (by omega)]
  have gb4 : J1 (b + 4) = IA (b + 4) := by rw [← hJ1, mj_up_ne (by omega), mj_up_ne (by omega)]
  have hby1 : rd_by J1 r = rd_by IA r := f1.by (by unfold rd_S4; omega)
  clear hJ1
  have p1 : J1 r 8 = (p : Int) := by rw [gr]; exact hp
  refine And.intro h0 ?_
  rw [p1]
  refine And.intro h0 (And.intro (Nat.le_of_ble_eq_true rfl) (And.intro (Nat.le_of_ble_eq_true rfl) (And.intro (Nat.le_of_ble_eq_true rfl) (Exists.intro _ (And.intro (ct_R_takeStep hR p1 (by omega) (by rw [gr]; omega) (by rw [gr]; omega)) ?_)))))
  rintro o2 sh9 FR9 J2 LA9 n9 ⟨z1, z2, z3, z4, st⟩
  replace z1 := z1.symm
  subst z1
  replace z2 := z2.symm
  subst z2
  replace z3 := z3.symm
  subst z3
  replace z4 := z4.symm
  subst z4
  rcases rd_stp_ab st (rd_S4 b) with ⟨e, x1, x2, x3, x4, x5, x6⟩ | ⟨x, x1, x2, x3, x4, x5⟩
  · rw [hby1] at x1
    rw [x1] at hT
    subst hT
    subst x2
    refine And.intro (Or.inl rfl) ?_
    refine And.intro (fun c => ?_) (fun c => ?_)
    · exact absurd rfl c
    · exact ⟨Or.inl rfl, ⟨rfl, rfl, rfl, rfl, f1.trans x5, (by rw [x6 _ q4, gb2, mj_u_ne (by omega)]), rfl, x3, x4⟩, Nat.le_of_ble_eq_true rfl, Nat.le_of_ble_eq_true rfl⟩
  · rw [hby1] at x1
    have xe := ab_stp_e (rd_by_en hlen) x1
    rw [x1] at hT
    obtain ⟨x, p2⟩ := x
    have hT : (if x = 0 ∨ 2 * (s : Int) < x then .inl (6, (p : Int)) else match ab_stp (rd_by IA r) p2 with
      | .inl q => .inl (5, (q : Int))
      | .inr y => if 2 * (s : Int) - x < y.1 then .inl (6, (p2 : Int)) else .inr (y.2, mj_u (IA (b + 1)) s s, mj_u (IA (b + 2)) s (2 * s), mj_u (IA (b + 3)) s (2 * s - x), mj_u (IA (b + 4)) s (2 * s - x - y.1))) = R := hT
    have xe : p2 ≤ len := xe
    have x4 : 0 ≤ x := x4
    have x5 : x < 100000 := x5
    have x3 : J2 = mj_up J1 r 8 (p2 : Int) := x3
    subst x2
    subst x3
    have f2 : rd_f IA (mj_up J1 r 8 (p2 : Int)) r (rd_S4 b) := f1.trans (rd_f_r (Or.inr (Or.inr rfl)))
    have six : ∀ (z : Option mj_V), (x = 0 ∨ 2 * (s : Int) < x) → mj_G m_R_takeStepGate (mj_po (fun o J => rd_f IA J r (rd_S4 b) ∧ rd_gq R IA r b o J) sh FR LA n) 43 [some (.inr (.inr (.inl r))), some (.inl s), some (.inl (2 * (s : Int))), some (.inl p), z] [] sh FR (mj_up J1 r 8 (p2 : Int)) LA n 0 0 := by
      intro z hx
      rw [if_pos hx] at hT
      subst hT
      refine mj_go z_R_takeStepGate [] 60 ?_
      refine And.intro h0 (And.intro (Nat.le_of_ble_eq_true rfl) (And.intro (Nat.le_of_ble_eq_true rfl) (And.intro (Nat.le_of_ble_eq_true rfl) (Exists.intro _ (And.intro (ct_R_fail hR) ?_)))))
      rintro r9 sh9 FR9 IA9 LA9 n9 ⟨z0, z1, z2, z3, z4, z5⟩
      subst z0
      replace z1 := z1.symm
      subst z1
      replace z2 := z2.symm
      subst z2
      replace z3 := z3.symm
      subst z3
      replace z4 := z4.symm
      subst z4
      replace z5 := z5.symm
      subst z5
      refine And.intro (Or.inl rfl) ?_
      exact ⟨Or.inl rfl, ⟨rfl, rfl, rfl, rfl, f2.trans ((rd_f_r (Or.inl rfl)).trans (rd_f_r (Or.inr (Or.inl rfl)))), (by rw [mj_up_ne q4, mj_up_ne q4, mj_up_ne q4, gb2, mj_u_ne (by omega)]), rfl, (by rw [mj_up_k (by decide), mj_up_at]), (by rw [mj_up_at])⟩, Nat.le_of_ble_eq_true rfl, Nat.le_of_ble_eq_true rfl⟩
    have two : ¬ (x = 0 ∨ 2 * (s : Int) < x) → mj_G m_R_takeStepGate (mj_po (fun o J => rd_f IA J r (rd_S4 b) ∧ rd_gq R IA r b o J) sh FR LA n) 51 [some (.inr (.inr (.inl r))), some (.inl s), some (.inl (2 * (s : Int))), some (.inl p), some (.inl x)] [] sh FR (mj_up J1 r 8 (p2 : Int)) LA n 0 0 := by
      intro hx
      rw [if_neg hx] at hT
      refine mj_go z_R_takeStepGate [] 60 ?_
      refine And.intro h0 (Exists.intro _ (And.intro r7 ?_))
      refine And.intro hN.1 (Exists.intro _ (And.intro hN.2.2.2.1 ?_))
      refine Exists.intro ((2 * (s : Int) - x)) (And.intro (by first | (rw [mj_w_id (by omega) (by omega)]; done) | (rw [mj_w_id (by omega) (by omega)]; omega) | (unfold mj_w; omega)) ?_)
      refine Exists.intro _ (Exists.intro (s) (And.intro hN.2.2.2.2.2.2.2.2.2.2.2.1 (And.intro (by first | (rw [mj_w_id (by omega) (by omega)]; done) | (rw [mj_w_id (by omega) (by omega)]; omega) | (unfold mj_w; omega)) (And.intro (by omega) ?_))))
      refine And.intro h0 ?_
      rw [mj_up_ne (Ne.symm q6), mj_up_at]
      generalize hJ3 : mj_up (mj_up J1 r 8 (p2 : Int)) (b + 3) s (2 * (s : Int) - x) = J3
      have f3 : rd_f IA J3 r (rd_S4 b) := by
        rw [← hJ3]
        exact f2.trans (rd_f_up (Or.inr (Or.inr (Or.inl rfl))) q6)
      have hby3 : rd_by J3 r = rd_by IA r := f3.by (by unfold rd_S4; omega)
      have hr3 : J3 r = mj_u (IA r) 8 p2 := by rw [← hJ3, mj_up_ne (Ne.symm q6), mj_up_row, gr]
      have p3 : J3 r 8 = (p2 : Int) := by rw [hr3, mj_u_at]
      have l3 : J3 r 0 = (len : Int) := by rw [hr3, mj_u_ne (by decide)]; exact hlen
      have g1 : J3 (b + 1) = mj_u (IA (b + 1)) s s := by rw [← hJ3, mj_up_ne (by omega), mj_up_ne q2, gb1]
      have g2 : J3 (b + 2) = mj_u (IA (b + 2)) s (2 * s) := by rw [← hJ3, mj_up_ne (by omega), mj_up_ne q4, gb2]
      have g3 : J3 (b + 3) = mj_u (IA (b + 3)) s (2 * s - x) := by rw [← hJ3, mj_up_row, mj_up_ne q6, gb3]
      have g4 : J3 (b + 4) = IA (b + 4) := by rw [← hJ3, mj_up_ne (by omega), mj_up_ne q8, gb4]
      clear hJ3
      refine And.intro h0 (And.intro (Nat.le_of_ble_eq_true rfl) (And.intro (Nat.le_of_ble_eq_true rfl) (And.intro (Nat.le_of_ble_eq_true rfl) (Exists.intro _ (And.intro (ct_R_takeStep hR p3 (by omega) (by rw [l3]; omega) (by rw [l3]; omega)) ?_)))))
      rintro o4 sh9 FR9 J4 LA9 n9 ⟨z1, z2, z3, z4, st4⟩
      replace z1 := z1.symm
      subst z1
      replace z2 := z2.symm
      subst z2
      replace z3 := z3.symm
      subst z3
      replace z4 := z4.symm
      subst z4
      rcases rd_stp_ab st4 (rd_S4 b) with ⟨e, y1, y2, y3, y4, y5, y6⟩ | ⟨y, y1, y2, y3, y4, y5⟩
      · rw [hby3] at y1
        rw [y1] at hT
        subst hT
        subst y2
        refine And.intro (Or.inl rfl) ?_
        refine And.intro (fun c => ?_) (fun c => ?_)
        · exact absurd rfl c
        · exact ⟨Or.inl rfl, ⟨rfl, rfl, rfl, rfl, f3.trans y5, (by rw [y6 _ q4, g2, mj_u_ne (by omega)]), rfl, y3, y4⟩, Nat.le_of_ble_eq_true rfl, Nat.le_of_ble_eq_true rfl⟩
      · rw [hby3] at y1
        rw [y1] at hT
        obtain ⟨y, p4⟩ := y
        have hT : (if 2 * (s : Int) - x < y then .inl (6, (p2 : Int)) else .inr (p4, mj_u (IA (b + 1)) s s, mj_u (IA (b + 2)) s (2 * s), mj_u (IA (b + 3)) s (2 * s - x), mj_u (IA (b + 4)) s (2 * s - x - y))) = R := hT
        have y4 : 0 ≤ y := y4
        have y5 : y < 100000 := y5
        have y3 : J4 = mj_up J3 r 8 (p4 : Int) := y3
        subst y2
        subst y3
        refine And.intro (Or.inl rfl) ?_
        refine And.intro (fun c => ?_) (fun c => ?_)
        · refine And.intro h0 (Exists.intro _ (And.intro r7 ?_))
          refine And.intro hN.1 (Exists.intro _ (And.intro hN.2.2.2.1 ?_))
          refine Exists.intro _ (Exists.intro (s) (And.intro hN.2.2.2.2.2.2.2.2.2.2.2.1 (And.intro (by first | (rw [mj_w_id (by omega) (by omega)]; done) | (rw [mj_w_id (by omega) (by omega)]; omega) | (unfold mj_w; omega)) (And.intro (by omega) ?_))))
          rw [mj_up_ne q6, g3, mj_u_at]
          refine And.intro (fun d => ?_) (fun d => ?_)
          · simp (disch := (clear d; omega)) only [mj_w_id] at d
            rw [if_neg (by omega)] at hT
            subst hT
            refine And.intro h0 (Exists.intro _ (And.intro r7 ?_))
            refine And.intro hN.1 (Exists.intro _ (And.intro hN.2.2.2.2.1 ?_))
            refine And.intro h0 (Exists.intro _ (And.intro r7 ?_))
            refine And.intro hN.1 (Exists.intro _ (And.intro hN.2.2.2.1 ?_))
            refine Exists.intro _ (Exists.intro (s) (And.intro hN.2.2.2.2.2.2.2.2.2.2.2.1 (And.intro (by first | (rw [mj_w_id (by omega) (by omega)]; done) | (rw [mj_w_id (by omega) (by omega)]; omega) | (unfold mj_w; omega)) (And.intro (by omega) ?_))))
            rw [mj_up_ne q6, g3, mj_u_at]
            refine Exists.intro ((2 * (s : Int) - x - y)) (And.intro (by first | (rw [mj_w_id (by omega) (by omega)]; done) | (rw [mj_w_id (by omega) (by omega)]; omega) | (unfold mj_w; omega)) ?_)
            refine Exists.intro _ (Exists.intro (s) (And.intro hN.2.2.2.2.2.2.2.2.2.2.2.2.1 (And.intro (by first | (rw [mj_w_id (by omega) (by omega)]; done) | (rw [mj_w_id (by omega) (by omega)]; omega) | (unfold mj_w; omega)) (And.intro (by omega) ?_))))
            refine ⟨Or.inr rfl, ⟨rfl, rfl, rfl, rfl, (f3.trans (rd_f_r (Or.inr (Or.inr rfl)))).trans (rd_f_up (Or.inr (Or.inr (Or.inr rfl))) q8), (by rw [mj_up_ne (by omega), mj_up_ne q4, g2, mj_u_ne (by omega)]), rfl, ?_, ?_, ?_, ?_, ?_, ?_, ?_⟩, Nat.le_of_ble_eq_true rfl, Nat.le_of_ble_eq_true rfl⟩
            · rw [mj_up_ne (Ne.symm q8), mj_up_at]
            · rw [mj_up_ne (by omega), mj_up_ne q2, g1]
            · rw [mj_up_ne (by omega), mj_up_ne q4, g2]
            · rw [mj_up_ne (by omega), mj_up_ne q6, g3]
            · rw [mj_up_row, mj_up_ne q8, g4]
            · rw [mj_up_ne (Ne.symm q8), mj_up_k (by decide), hr3, mj_u_ne (by decide)]
            · rw [mj_up_ne (Ne.symm q8), mj_up_k (by decide), hr3, mj_u_ne (by decide)]
          · simp (disch := (clear d; omega)) only [mj_w_id] at d
            rw [if_pos (by omega)] at hT
            subst hT
            refine And.intro h0 (And.intro (Nat.le_of_ble_eq_true rfl) (And.intro (Nat.le_of_ble_eq_true rfl) (And.intro (Nat.le_of_ble_eq_true rfl) (Exists.intro _ (And.intro (ct_R_fail hR) ?_)))))
            rintro r9 sh9 FR9 IA9 LA9 n9 ⟨z0, z1, z2, z3, z4, z5⟩
            subst z0
            replace z1 := z1.symm
            subst z1
            replace z2 := z2.symm
            subst z2
            replace z3 := z3.symm
            subst z3
            replace z4 := z4.symm
            subst z4
            replace z5 := z5.symm
            subst z5
            refine And.intro (Or.inl rfl) ?_
            exact ⟨Or.inl rfl, ⟨rfl, rfl, rfl, rfl, f3.trans ((rd_f_r (Or.inr (Or.inr rfl))).trans ((rd_f_r (Or.inl rfl)).trans (rd_f_r (Or.inr (Or.inl rfl))))), (by rw [mj_up_ne q4, mj_up_ne q4, mj_up_ne q4, g2, mj_u_ne (by omega)]), rfl, (by rw [mj_up_k (by decide), mj_up_at]), (by rw [mj_up_at])⟩, Nat.le_of_ble_eq_true rfl, Nat.le_of_ble_eq_true rfl⟩
        · have c := Classical.not_not.mp c
          simp (disch := (clear c; omega)) only [mj_w_id] at c
          omega
    refine And.intro (Or.inl rfl) ?_
    refine And.intro (fun c => ?_) (fun c => ?_)
    · refine And.intro (fun d => ?_) (fun d => ?_)
      · simp (disch := (clear d; omega)) only [mj_w_id] at d
        exact six _ (Or.inl d)
      · simp (disch := (clear d; omega)) only [mj_w_id] at d
        refine And.intro (fun f => ?_) (fun f => ?_)
        · simp (disch := (clear f; omega)) only [mj_w_id] at f
          exact two (by omega)
        · simp (disch := (clear f; omega)) only [mj_w_id] at f
          exact six _ (Or.inr (by omega))
    · have c := Classical.not_not.mp c
      simp (disch := (clear c; omega)) only [mj_w_id] at c
      omega
end RR
