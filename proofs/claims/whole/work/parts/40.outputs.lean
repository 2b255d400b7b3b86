/-! READER: takeOutputs -/
theorem ab_L_s {by0 : Nat → Int} {cnt p : Nat} (hc : 0 < cnt) : (ab_L by0 cnt p).2.2.2 0 = (p : Int) := by
  have key : ∀ (t i q : Nat) (nu st : Nat → Int), 0 < i → (ab_ln by0 cnt t i q nu st).2.2.2 0 = st 0 := by
    intro t
    induction t with
    | zero => intro i q nu st _; rfl
    | succ t ih =>
      intro i q nu st hi
      simp only [ab_ln]
      split
      · rw [ih (i + 1) _ _ _ (by omega), mj_u_ne (by omega)]
      · exact mj_u_ne (by omega)
  unfold ab_L
  cases cnt with
  | zero => omega
  | succ c =>
    simp only [ab_ln]
    split
    · rw [key c 1 _ _ _ (by omega)]
      exact mj_u_at
    · show mj_u (fun _ => 0) 0 (p : Int) 0 = p
      exact mj_u_at
/-- the end of takeOutputs -/
def rd_oq (R : (Int × Int) ⊕ (Nat × (Nat → Int))) (IA : mj_FI) (r b : Nat) (o : mj_O) (J : mj_FI) : Prop := match R with
  | .inl e => o = .inl (some (.inl 0)) ∧ J r 1 = e.1 ∧ J r 2 = e.2
  | .inr x => o = .inl (some (.inl 1)) ∧ J r 8 = (x.1 : Int) ∧ J (b + 5) = x.2 ∧ J r 1 = IA r 1 ∧ J r 2 = IA r 2
def rd_S1 (q0 : Nat) (q : Nat) : Prop := q = q0
section RR
variable {sh : mj_Sh} {FR : mj_FR} {IA : mj_FI} {LA : mj_LA} {n r b : Nat}
set_option maxHeartbeats 1000000 in
theorem ct_R_takeOutputs (h : isRd sh FR n r b) (hN : isNet sh FR n b) (hap : rd_ap r b) {len p m O : Nat} (hlen : IA r 0 = (len : Int)) (hl2 : len ≤ 8192) (hp : IA r 8 = (p : Int)) (hp2 : p ≤ len) (hm : IA b 9 = (m : Int)) (hm2 : m ≤ 1000) (hO : IA b 12 = (O : Int)) (hO2 : O ≤ 16) :
    mj_Ct m_R_takeOutputs [.inr (.inr (.inl r))] sh FR IA LA n (mj_po (fun o J => rd_f IA J r (rd_S1 (b + 5)) ∧ rd_oq (ab_ou (rd_by IA r) m O 0 p (IA (b + 5))) IA r b o J) sh FR LA n) := by
  have hR := h
  obtain ⟨h0, r3, r4, r5, r6, r7, a1, a2, a3, a4, s0, s1, a5, a6⟩ := h
  generalize hT : ab_ou (rd_by IA r) m O 0 p (IA (b + 5)) = R
  have hq : b ≠ r ∧ b ≠ r + 2 ∧ b ≠ r + 3 ∧ b + 5 ≠ r ∧ b + 5 ≠ r + 2 ∧ b + 5 ≠ r + 3 ∧ b + 5 ≠ r + 1 := by
    unfold rd_ap at hap
    omega
  obtain ⟨q1, q2, q3, q4, q5, q6, q7⟩ := hq
  have loop : ∀ (t k p : Nat) (J : mj_FI), k + t = O → rd_f IA J r (rd_S1 (b + 5)) → J r 8 = (p : Int) → p ≤ len → J r 1 = IA r 1 → J r 2 = IA r 2 → ab_ou (rd_by IA r) m t k p (J (b + 5)) = R →
      mj_G m_R_takeOutputs (mj_po (fun o J => rd_f IA J r (rd_S1 (b + 5)) ∧ rd_oq R IA r b o J) sh FR LA n) 2 [some (.inr (.inr (.inl r))), some (.inl k)] [] sh FR J LA n 0 0 := by
    intro t
    induction t with
    | zero =>
      intro k p J hst hf hp hp2 e1 e2 hT
      have e12 : J b 12 = (O : Int) := by rw [hf.1 b q1 q2 q3 (by unfold rd_S1; omega)]; exact hO
      subst hT
      refine mj_go z_R_takeOutputs [2] 60 ?_
      refine And.intro h0 (Exists.intro _ (And.intro r7 ?_))
      refine And.intro hN.1 ?_
      rw [e12]
      refine And.intro (fun c => ?_) (fun c => ?_)
      · exact ⟨Or.inr rfl, ⟨rfl, rfl, rfl, rfl, hf, rfl, hp, rfl, e1, e2⟩, Nat.le_of_ble_eq_true rfl, Nat.le_of_ble_eq_true rfl⟩
      · simp (disch := (clear c; omega)) only [mj_w_id] at c
        omega
    | succ t ih =>
      intro k p J hst hf hp hp2 e1 e2 hT
      have e12 : J b 12 = (O : Int) := by rw [hf.1 b q1 q2 q3 (by unfold rd_S1; omega)]; exact hO
      have e9 : J b 9 = (m : Int) := by rw [hf.1 b q1 q2 q3 (by unfold rd_S1; omega)]; exact hm
      have el : J r 0 = (len : Int) := by rw [hf.2 0 (by decide) (by decide) (by decide)]; exact hlen
      have hby : rd_by J r = rd_by IA r := hf.by (by unfold rd_S1; omega)
      simp only [ab_ou] at hT
      refine mj_go z_R_takeOutputs [2] 60 ?_
      refine And.intro h0 (Exists.intro _ (And.intro r7 ?_))
      refine And.intro hN.1 ?_
      rw [e12]
      refine And.intro (fun c => ?_) (fun c => ?_)
      · simp (disch := (clear c; omega)) only [mj_w_id] at c
        omega
      · refine And.intro h0 (And.intro (Nat.le_of_ble_eq_true rfl) (And.intro (Nat.le_of_ble_eq_true rfl) (And.intro (Nat.le_of_ble_eq_true rfl) (Exists.intro _ (And.intro (ct_R_takeLine hR (cnt := 1) (code := 5) (by decide) hp (by omega) (by omega) (by omega)) ?_)))))
        rintro r9 sh9 FR9 IA9 LA9 n9 ⟨z0, z1, z2, z3, z4, z5⟩
        subst z0
        replace z1 := z1.symm
        subst z1
        replace z2 := z2.symm
        subst z2
        replace z3 := z3.symm
        subst z3
        replace z4 := z4.symm
        subst z4
        replace z5 := z5.symm
        subst z5
        refine And.intro (Or.inl rfl) ?_
        have hlp := rd_ln_lp (r := r) (code := 5) (cnt := 1) hp
        generalize (rd_ln r 5 1 1 0 J).2 = J2 at *
        generalize (rd_ln r 5 1 1 0 J).1 = ok at *
        obtain ⟨l1, l2, l3, l4, l5⟩ := hlp
        have f2 : rd_f J J2 r (rd_S1 (b + 5)) := ⟨fun q a b c _ => l2 q a b c, l3⟩
        rw [hby] at l1 l4 l5
        cases ok with
        | false =>
          rw [← l1, if_neg (by decide)] at hT
          subst hT
          refine And.intro (fun x => ?_) (fun x => ?_)
          · exact ⟨Or.inl rfl, ⟨rfl, rfl, rfl, rfl, hf.trans f2, rfl, (l5 rfl).1, (l5 rfl).2⟩, Nat.le_of_ble_eq_true rfl, Nat.le_of_ble_eq_true rfl⟩
          · exact absurd (by decide) x
        | true =>
          rw [← l1, if_pos rfl] at hT
          have ln := ab_L_n (j := 0) l1.symm
          have le := ab_L_e (cnt := 1) (rd_by_en hlen) hp2
          obtain ⟨l6, l7, l8, l9⟩ := l4 rfl
          obtain ⟨l6, l10⟩ := l6 0 (by decide)
          rw [ab_L_s (by decide)] at l10
          generalize (ab_L (rd_by IA r) 1 p).2.2.1 0 = v at *
          generalize (ab_L (rd_by IA r) 1 p).2.1 = p' at *
          have k5 : J2 (b + 5) = J (b + 5) := l2 _ q4 q5 q6
          have k9 : J2 b 9 = (m : Int) := by rw [l2 b q1 q2 q3]; exact e9
          refine And.intro (fun x => ?_) (fun x => ?_)
          · exact absurd x (by decide)
          · refine And.intro h0 (And.intro (Nat.le_of_ble_eq_true rfl) (And.intro (Nat.le_of_ble_eq_true rfl) (And.intro (Nat.le_of_ble_eq_true rfl) (Exists.intro _ (And.intro (ct_R_takeUsed (idx := 0) hR hN (by omega) (by omega) (by omega) (by omega) (by omega)) ?_)))))
            rintro r9 sh9 FR9 IA9 LA9 n9 ⟨z0, z1, z2, z3, z4, z5⟩
            subst z0
            replace z1 := z1.symm
            subst z1
            replace z2 := z2.symm
            subst z2
            replace z3 := z3.symm
            subst z3
            replace z4 := z4.symm
            subst z4
            replace z5 := z5.symm
            subst z5
            refine And.intro (Or.inl rfl) ?_
            rw [l6, k9]
            by_cases hv : v ≤ 2 * (m : Int) + 1
            · rw [if_pos hv] at hT
              rw [if_pos hv, if_pos hv]
              refine And.intro (fun y => ?_) (fun y => ?_)
              · refine And.intro h0 (Exists.intro _ (And.intro r7 ?_))
                refine And.intro hN.1 (Exists.intro _ (And.intro hN.2.2.2.2.2.1 ?_))
                refine And.intro h0 (Exists.intro _ (And.intro r4 ?_))
                refine Exists.intro _ (Exists.intro (0) (And.intro a2 (And.intro (by first | (rw [mj_w_id (by omega) (by omega)]; done) | (rw [mj_w_id (by omega) (by omega)]; omega) | (unfold mj_w; omega)) (And.intro (by omega) ?_))))
                rw [l6]
                refine Exists.intro _ (Exists.intro (k) (And.intro hN.2.2.2.2.2.2.2.2.2.2.2.2.2.1 (And.intro (by first | (rw [mj_w_id (by omega) (by omega)]; done) | (rw [mj_w_id (by omega) (by omega)]; omega) | (unfold mj_w; omega)) (And.intro (by omega) ?_))))
                refine Exists.intro (((k + 1 : Nat) : Int)) (And.intro (by first | (rw [mj_w_id (by omega) (by omega)]; done) | (rw [mj_w_id (by omega) (by omega)]; omega) | (unfold mj_w; omega)) ?_)
                have w3 : mj_up J2 (b + 5) k v r = J2 r := mj_up_ne (Ne.symm q4)
                refine ih (k + 1) p' _ (by omega) ((hf.trans f2).trans (rd_f_up rfl q4)) (by rw [w3]; exact l7) le (by rw [w3]; exact l8.trans e1) (by rw [w3]; exact l9.trans e2) ?_
                rw [mj_up_row, k5]
                exact hT
              · exact absurd (by decide) y
            · rw [if_neg hv] at hT
              rw [if_neg hv, if_neg hv]
              subst hT
              refine And.intro (fun y => ?_) (fun y => ?_)
              · exact absurd y (by decide)
              · exact ⟨Or.inl rfl, ⟨rfl, rfl, rfl, rfl, hf.trans (f2.trans ((rd_f_r (Or.inl rfl)).trans (rd_f_r (Or.inr (Or.inl rfl))))), rfl, (by rw [mj_up_k (by decide), mj_up_at]), (by rw [mj_up_at]; exact l10)⟩, Nat.le_of_ble_eq_true rfl, Nat.le_of_ble_eq_true rfl⟩
  refine mj_Ct_of (by decide +kernel) (by decide) (Nat.le_of_ble_eq_true rfl) ?_
  refine mj_go z_R_takeOutputs [2] 60 ?_
  exact loop O 0 p IA (by omega) rd_f.refl hp hp2 rfl rfl hT
end RR
