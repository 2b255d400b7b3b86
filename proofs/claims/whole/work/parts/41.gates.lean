/-! READER: takeLineGate, takeStepGate, takeGates -/
def rd_S4 (b : Nat) (q : Nat) : Prop := q = b + 1 ∨ q = b + 2 ∨ q = b + 3 ∨ q = b + 4
/-- the end of reading a gate or the gates -/
def rd_gq (R : (Int × Int) ⊕ ab_T) (IA : mj_FI) (r b : Nat) (o : mj_O) (J : mj_FI) : Prop := J (b + 2) 0 = IA (b + 2) 0 ∧ match R with
  | .inl e => o = .inl (some (.inl 0)) ∧ J r 1 = e.1 ∧ J r 2 = e.2
  | .inr x => o = .inl (some (.inl 1)) ∧ J r 8 = (x.1 : Int) ∧ J (b + 1) = x.2.1 ∧ J (b + 2) = x.2.2.1 ∧ J (b + 3) = x.2.2.2.1 ∧ J (b + 4) = x.2.2.2.2 ∧ J r 1 = IA r 1 ∧ J r 2 = IA r 2
section RR
variable {sh : mj_Sh} {FR : mj_FR} {IA : mj_FI} {LA : mj_LA} {n r b : Nat}
set_option maxHeartbeats 2000000 in
theorem ct_R_takeLineGate (h : isRd sh FR n r b) (hN : isNet sh FR n b) (hap : rd_ap r b) {len p m s : Nat} (hlen : IA r 0 = (len : Int)) (hl2 : len ≤ 8192) (hp : IA r 8 = (p : Int)) (hp2 : p ≤ len) (hm : IA b 9 = (m : Int)) (hm2 : m ≤ 1000) (hs1 : 1 ≤ s) (hs : s < 315) (hso : ∀ j, j < 1001 → -1 ≤ IA (b + 1) j ∧ IA (b + 1) j < 315) :
    mj_Ct m_R_takeLineGate [.inr (.inr (.inl r)), .inl s] sh FR IA LA n (mj_po (fun o J => rd_f IA J r (rd_S4 b) ∧ rd_gq (ab_lg (rd_by IA r) m s p (IA (b + 1)) (IA (b + 2)) (IA (b + 3)) (IA (b + 4))) IA r b o J) sh FR LA n) := by
  have hR := h
  obtain ⟨h0, r3, r4, r5, r6, r7, a1, a2, a3, a4, s0, s1, a5, a6⟩ := h
  generalize hT : ab_lg (rd_by IA r) m s p (IA (b + 1)) (IA (b + 2)) (IA (b + 3)) (IA (b + 4)) = R
  have hq : b ≠ r ∧ b ≠ r + 2 ∧ b ≠ r + 3 ∧ b + 1 ≠ r ∧ b + 1 ≠ r + 2 ∧ b + 1 ≠ r + 3 ∧ b + 2 ≠ r ∧ b + 2 ≠ r + 2 ∧ b + 2 ≠ r + 3 ∧ b + 3 ≠ r ∧ b + 3 ≠ r + 2 ∧ b + 3 ≠ r + 3 ∧ b + 4 ≠ r ∧ b + 4 ≠ r + 2 ∧ b + 4 ≠ r + 3 := by
    unfold rd_ap at hap
    omega
  obtain ⟨q1, q2, q3, q4, q5, q6, q7, q8, q9, q10, q11, q12, q13, q14, q15⟩ := hq
  unfold ab_lg at hT
  refine mj_Ct_of (by decide +kernel) (by decide) (Nat.le_of_ble_eq_true rfl) ?_
  refine mj_go z_R_takeLineGate [] 60 ?_
  refine And.intro h0 (And.intro (Nat.le_of_ble_eq_true rfl) (And.intro (Nat.le_of_ble_eq_true rfl) (And.intro (Nat.le_of_ble_eq_true rfl) (Exists.intro _ (And.intro (ct_R_takeLine hR (cnt := 3) (code := 5) (by decide) hp (by omega) (by omega) (by omega)) ?_)))))
  rintro r9 sh9 FR9 IA9 LA9 n9 ⟨z0, z1, z2, z3, z4, z5⟩
  subst z0
  replace z1 := z1.symm
  subst z1
  replace z2 := z2.symm
  subst z2
  replace z3 := z3.symm
  subst z3
  replace z4 := z4.symm
  subst z4
  replace z5 := z5.symm
  subst z5
  refine And.intro (Or.inl rfl) ?_
  have hlp := rd_ln_lp (r := r) (code := 5) (cnt := 3) hp
  generalize (rd_ln r 5 3 3 0 IA).2 = J2 at *
  generalize (rd_ln r 5 3 3 0 IA).1 = ok at *
  obtain ⟨l1, l2, l3, l4, l5⟩ := hlp
  have f2 : rd_f IA J2 r (rd_S4 b) := ⟨fun q a b c _ => l2 q a b c, l3⟩
  cases ok with
  | false =>
    rw [← l1, if_neg (by decide)] at hT
    subst hT
    refine And.intro (fun x => ?_) (fun x => ?_)
    · exact ⟨Or.inl rfl, ⟨rfl, rfl, rfl, rfl, f2, (by rw [l2 _ q7 q8 q9]), rfl, (l5 rfl).1, (l5 rfl).2⟩, Nat.le_of_ble_eq_true rfl, Nat.le_of_ble_eq_true rfl⟩
    · exact absurd (by decide) x
  | true =>
    rw [← l1, if_pos rfl] at hT
    have n0 := ab_L_n (j := 0) l1.symm
    have n1 := ab_L_n (j := 1) l1.symm
    have n2 := ab_L_n (j := 2) l1.symm
    obtain ⟨l6, l7, l8, l9⟩ := l4 rfl
    have m0 := l6 0 (by decide)
    have m1 := l6 1 (by decide)
    have m2 := l6 2 (by decide)
    rw [ab_L_s (by decide)] at m0
    clear l4 l6
    generalize (ab_L (rd_by IA r) 3 p).2.2.1 0 = v0 at *
    generalize (ab_L (rd_by IA r) 3 p).2.2.1 1 = v1 at *
    generalize (ab_L (rd_by IA r) 3 p).2.2.1 2 = v2 at *
    generalize (ab_L (rd_by IA r) 3 p).2.2.2 1 = s1 at *
    generalize (ab_L (rd_by IA r) 3 p).2.2.2 2 = s2 at *
    generalize (ab_L (rd_by IA r) 3 p).2.1 = p' at *
    have k1 : J2 (b + 1) = IA (b + 1) := l2 _ q4 q5 q6
    have k9 : J2 b 9 = (m : Int) := by rw [l2 b q1 q2 q3]; exact hm
    refine And.intro (fun x => ?_) (fun x => ?_)
    · exact absurd x (by decide)
    · refine And.intro h0 (And.intro (Nat.le_of_ble_eq_true rfl) (And.intro (Nat.le_of_ble_eq_true rfl) (And.intro (Nat.le_of_ble_eq_true rfl) (Exists.intro _ (And.intro (ct_R_takeOwn hR hN hs (by omega) (by omega) (by omega) (by omega) (by rw [k1]; exact hso)) ?_)))))
      rintro r9 sh9 FR9 IA9 LA9 n9 ⟨z0, z1, z2, z3, z4, z5⟩
      subst z0
      replace z1 := z1.symm
      subst z1
      replace z2 := z2.symm
      subst z2
      replace z3 := z3.symm
      subst z3
      replace z4 := z4.symm
      subst z4
      replace z5 := z5.symm
      subst z5
      refine And.intro (Or.inl rfl) ?_
      by_cases hfr : ab_fr m (IA (b + 1)) v0
      · have hyes : (0 ≤ J2 (r + 2) 0 ∧ J2 (r + 2) 0 ≤ 2 * J2 b 9 + 1) ∧ J2 (r + 2) 0 % 2 = 0 ∧ J2 (b + 1) (J2 (r + 2) 0 / 2).toNat = -1 := by
          rw [m0.1, k9, k1]
          exact ⟨⟨n0.1, hfr.1⟩, hfr.2⟩
        rw [if_pos hfr] at hT
        rw [if_pos hyes, if_pos hyes, m0.1]
        generalize hJ3 : mj_up (mj_up J2 (b + 2) s v0) (b + 1) (v0 / 2).toNat (s : Int) = J3
        have f3 : rd_f IA J3 r (rd_S4 b) := by
          rw [← hJ3]
          exact f2.trans ((rd_f_up (Or.inr (Or.inl rfl)) q7).trans (rd_f_up (Or.inl rfl) q4))
        have g2 : J3 (r + 2) = J2 (r + 2) := by rw [← hJ3, mj_up_ne (Ne.symm q5), mj_up_ne (Ne.symm q8)]
        have g3 : J3 (r + 3) = J2 (r + 3) := by rw [← hJ3, mj_up_ne (Ne.symm q6), mj_up_ne (Ne.symm q9)]
        have gr : J3 r = J2 r := by rw [← hJ3, mj_up_ne (Ne.symm q4), mj_up_ne (Ne.symm q7)]
        have g9 : J3 b 9 = (m : Int) := by rw [← hJ3, mj_up_ne (by omega), mj_up_ne (by omega)]; exact k9
        have gb1 : J3 (b + 1) = mj_u (IA (b + 1)) (v0 / 2).toNat s := by rw [← hJ3, mj_up_row, mj_up_ne (by omega), k1]
        have gb2 : J3 (b + 2) = mj_u (IA (b + 2)) s v0 := by rw [← hJ3, mj_up_ne (by omega), mj_up_row, l2 _ q7 q8 q9]
        have gb3 : J3 (b + 3) = IA (b + 3) := by rw [← hJ3, mj_up_ne (by omega), mj_up_ne (by omega), l2 _ q10 q11 q12]
        have gb4 : J3 (b + 4) = IA (b + 4) := by rw [← hJ3, mj_up_ne (by omega), mj_up_ne (by omega), l2 _ q13 q14 q15]
        clear hJ3 hyes
        refine And.intro (fun y => ?_) (fun y => ?_)
        · exact absurd y (by decide)
        · refine And.intro h0 (And.intro (Nat.le_of_ble_eq_true rfl) (And.intro (Nat.le_of_ble_eq_true rfl) (And.intro (Nat.le_of_ble_eq_true rfl) (Exists.intro _ (And.intro (ct_R_takeUsed (idx := 1) hR hN (by omega) (by rw [g2, m1.1]; omega) (by rw [g2, m1.1]; omega) (by omega) (by omega)) ?_)))))
          rintro r9 sh9 FR9 IA9 LA9 n9 ⟨z0, z1, z2, z3, z4, z5⟩
          subst z0
          replace z1 := z1.symm
          subst z1
          replace z2 := z2.symm
          subst z2
          replace z3 := z3.symm
          subst z3
          replace z4 := z4.symm
          subst z4
          replace z5 := z5.symm
          subst z5
          refine And.intro (Or.inl rfl) ?_
          rw [g2, g9, m1.1, g3, m1.2]
          by_cases hv : v1 ≤ 2 * (m : Int) + 1
          · rw [if_pos hv] at hT
            rw [if_pos hv, if_pos hv]
            refine And.intro (fun z => ?_) (fun z => ?_)
            · exact absurd z (by decide)
            · refine And.intro h0 (And.intro (Nat.le_of_ble_eq_true rfl) (And.intro (Nat.le_of_ble_eq_true rfl) (And.intro (Nat.le_of_ble_eq_true rfl) (Exists.intro _ (And.intro (ct_R_takeUsed (idx := 2) hR hN (by omega) (by rw [g2, m2.1]; omega) (by rw [g2, m2.1]; omega) (by omega) (by omega)) ?_)))))
              rintro r9 sh9 FR9 IA9 LA9 n9 ⟨z0, z1, z2, z3, z4, z5⟩
              subst z0
              replace z1 := z1.symm
              subst z1
              replace z2 := z2.symm
              subst z2
              replace z3 := z3.symm
              subst z3
              replace z4 := z4.symm
              subst z4
              replace z5 := z5.symm
              subst z5
              refine And.intro (Or.inl rfl) ?_
              rw [g2, g9, m2.1, g3, m2.2]
              by_cases hw : v2 ≤ 2 * (m : Int) + 1
              · rw [if_pos hw] at hT
                rw [if_pos hw, if_pos hw]
                subst hT
                refine And.intro (fun u => ?_) (fun u => ?_)
                · refine And.intro h0 (Exists.intro _ (And.intro r7 ?_))
                  refine And.intro hN.1 (Exists.intro _ (And.intro hN.2.2.2.1 ?_))
                  refine And.intro h0 (Exists.intro _ (And.intro r4 ?_))
                  refine Exists.intro _ (Exists.intro (1) (And.intro a2 (And.intro (by first | (rw [mj_w_id (by omega) (by omega)]; done) | (rw [mj_w_id (by omega) (by omega)]; omega) | (unfold mj_w; omega)) (And.intro (by omega) ?_))))
                  rw [g2, m1.1]
                  refine Exists.intro _ (Exists.intro (s) (And.intro hN.2.2.2.2.2.2.2.2.2.2.2.1 (And.intro (by first | (rw [mj_w_id (by omega) (by omega)]; done) | (rw [mj_w_id (by omega) (by omega)]; omega) | (unfold mj_w; omega)) (And.intro (by omega) ?_))))
                  refine And.intro h0 (Exists.intro _ (And.intro r7 ?_))
                  refine And.intro hN.1 (Exists.intro _ (And.intro hN.2.2.2.2.1 ?_))
                  refine And.intro h0 (Exists.intro _ (And.intro r4 ?_))
                  refine Exists.intro _ (Exists.intro (2) (And.intro a2 (And.intro (by first | (rw [mj_w_id (by omega) (by omega)]; done) | (rw [mj_w_id (by omega) (by omega)]; omega) | (unfold mj_w; omega)) (And.intro (by omega) ?_))))
                  rw [mj_up_ne (Ne.symm q11), g2, m2.1]
                  refine Exists.intro _ (Exists.intro (s) (And.intro hN.2.2.2.2.2.2.2.2.2.2.2.2.1 (And.intro (by first | (rw [mj_w_id (by omega) (by omega)]; done) | (rw [mj_w_id (by omega) (by omega)]; omega) | (unfold mj_w; omega)) (And.intro (by omega) ?_))))
                  have w3 : mj_up (mj_up J3 (b + 3) s v1) (b + 4) s v2 r = J2 r := by rw [mj_up_ne (Ne.symm q13), mj_up_ne (Ne.symm q10), gr]
                  refine ⟨Or.inr rfl, ⟨rfl, rfl, rfl, rfl, (f3.trans (rd_f_up (Or.inr (Or.inr (Or.inl rfl))) q10)).trans (rd_f_up (Or.inr (Or.inr (Or.inr rfl))) q13), (by rw [mj_up_ne (by omega), mj_up_ne (by omega), gb2, mj_u_ne (by omega)]), rfl, ?_, ?_, ?_, ?_, ?_, ?_, ?_⟩, Nat.le_of_ble_eq_true rfl, Nat.le_of_ble_eq_true rfl⟩
                  · rw [w3]; exact l7
                  · rw [mj_up_ne (by omega), mj_up_ne (by omega), gb1]
                  · rw [mj_up_ne (by omega), mj_up_ne (by omega), gb2]
                  · rw [mj_up_ne (by omega), mj_up_row, gb3]
                  · rw [mj_up_row, mj_up_ne (by omega), gb4]
                  · rw [w3]; exact l8
                  · rw [w3]; exact l9
                · exact absurd (by decide) u
              · rw [if_neg hw] at hT
                rw [if_neg hw, if_neg hw]
                subst hT
                refine And.intro (fun u => ?_) (fun u => ?_)
                · exact absurd u (by decide)
                · exact ⟨Or.inl rfl, ⟨rfl, rfl, rfl, rfl, f3.trans ((rd_f_r (Or.inl rfl)).trans (rd_f_r (Or.inr (Or.inl rfl)))), (by rw [mj_up_ne q7, mj_up_ne q7, gb2, mj_u_ne (by omega)]), rfl, (by rw [mj_up_k (by decide), mj_up_at]), (by rw [mj_up_at])⟩, Nat.le_of_ble_eq_true rfl, Nat.le_of_ble_eq_true rfl⟩
          · rw [if_neg hv] at hT
            rw [if_neg hv, if_neg hv]
            subst hT
            refine And.intro (fun z => ?_) (fun z => ?_)
            · exact ⟨Or.inl rfl, ⟨rfl, rfl, rfl, rfl, f3.trans ((rd_f_r (Or.inl rfl)).trans (rd_f_r (Or.inr (Or.inl rfl)))), (by rw [mj_up_ne q7, mj_up_ne q7, gb2, mj_u_ne (by omega)]), rfl, (by rw [mj_up_k (by decide), mj_up_at]), (by rw [mj_up_at])⟩, Nat.le_of_ble_eq_true rfl, Nat.le_of_ble_eq_true rfl⟩
            · exact absurd (by decide) z
      · rw [if_neg hfr] at hT
        subst hT
        have hno : ¬ ((0 ≤ J2 (r + 2) 0 ∧ J2 (r + 2) 0 ≤ 2 * J2 b 9 + 1) ∧ J2 (r + 2) 0 % 2 = 0 ∧ J2 (b + 1) (J2 (r + 2) 0 / 2).toNat = -1) := by
          rw [m0.1, k9, k1]
          exact fun z => hfr ⟨z.1.2, z.2⟩
        rw [if_neg hno, if_neg hno]
        refine And.intro (fun y => ?_) (fun y => ?_)
        · exact ⟨Or.inl rfl, ⟨rfl, rfl, rfl, rfl, f2.trans ((rd_f_r (Or.inl rfl)).trans (rd_f_r (Or.inr (Or.inl rfl)))), (by rw [mj_up_ne q7, mj_up_ne q7, l2 _ q7 q8 q9]), rfl, (by rw [mj_up_k (by decide), mj_up_at]), (by rw [mj_up_at]; exact m0.2)⟩, Nat.le_of_ble_eq_true rfl, Nat.le_of_ble_eq_true rfl⟩
        · exact absurd (by decide) y
end RR
