/-! READER: takeGates -/
/-- the gate at slot s: the slots' table stays in its range, the place behind it within the tape -/
theorem ab_lg_ok {by0 : Nat → Int} {len m s p : Nat} {so ow le ri : Nat → Int} {x : ab_T} (he : ab_en by0 len) (hp : p ≤ len) (hs : s < 315) (h : ab_lg by0 m s p so ow le ri = .inr x) (hso : ∀ j, j < 1001 → -1 ≤ so j ∧ so j < 315) : x.1 ≤ len ∧ ∀ j, j < 1001 → -1 ≤ x.2.1 j ∧ x.2.1 j < 315 := by
  unfold ab_lg at h
  split at h
  · split at h
    · split at h
      · split at h
        · cases h
          refine ⟨ab_L_e he hp, fun j hj => ?_⟩
          show -1 ≤ mj_u so _ _ j ∧ mj_u so _ _ j < 315
          unfold mj_u
          split
          · omega
          · exact hso j hj
        · cases h
      · cases h
    · cases h
  · cases h
theorem ab_sg_ok {by0 : Nat → Int} {len s p : Nat} {so ow le ri : Nat → Int} {x : ab_T} (he : ab_en by0 len) (hs : s < 315) (h : ab_sg by0 s p so ow le ri = .inr x) (hso : ∀ j, j < 1001 → -1 ≤ so j ∧ so j < 315) : x.1 ≤ len ∧ ∀ j, j < 1001 → -1 ≤ x.2.1 j ∧ x.2.1 j < 315 := by
  unfold ab_sg at h
  split at h
  · cases h
  · split at h
    · cases h
    · split at h
      · cases h
      · rename_i y hy
        split at h
        · cases h
        · cases h
          refine ⟨ab_stp_e he hy, fun j hj => ?_⟩
          show -1 ≤ mj_u so _ _ j ∧ mj_u so _ _ j < 315
          unfold mj_u
          split
          · omega
          · exact hso j hj
section RR
variable {sh : mj_Sh} {FR : mj_FR} {IA : mj_FI} {LA : mj_LA} {n r b : Nat}
set_option maxHeartbeats 1000000 in
theorem ct_R_takeGates (h : isRd sh FR n r b) (hN : isNet sh FR n b) (hap : rd_ap r b) {len p m I G : Nat} {bin : Bool} (hlen : IA r 0 = (len : Int)) (hl2 : len ≤ 8192) (hp : IA r 8 = (p : Int)) (hp2 : p ≤ len) (hm : IA b 9 = (m : Int)) (hm2 : m ≤ 1000) (hI : IA b 10 = (I : Int)) (hI2 : I ≤ 14) (hG : IA b 11 = (G : Int)) (hG2 : G ≤ 300) (hb : IA r 9 = if bin = true then 1 else 0) (hso : ∀ j, j < 1001 → -1 ≤ IA (b + 1) j ∧ IA (b + 1) j < 315) :
    mj_Ct m_R_takeGates [.inr (.inr (.inl r))] sh FR IA LA n (mj_po (fun o J => rd_f IA J r (rd_S4 b) ∧ rd_gq (ab_gs (rd_by IA r) m bin G (I + 1) p (IA (b + 1)) (IA (b + 2)) (IA (b + 3)) (IA (b + 4))) IA r b o J) sh FR LA n) := by
  have hR := h
  obtain ⟨h0, r3, r4, r5, r6, r7, a1, a2, a3, a4, s0, s1, a5, a6⟩ := h
  generalize hT : ab_gs (rd_by IA r) m bin G (I + 1) p (IA (b + 1)) (IA (b + 2)) (IA (b + 3)) (IA (b + 4)) = R
  have hq : b ≠ r ∧ b ≠ r + 2 ∧ b ≠ r + 3 ∧ b + 1 ≠ r + 1 ∧ b + 2 ≠ r + 1 ∧ b + 3 ≠ r + 1 ∧ b + 4 ≠ r + 1 := by
    unfold rd_ap at hap
    omega
  obtain ⟨q1, q2, q3, q4, q5, q6, q7⟩ := hq
  have loop : ∀ (t s p : Nat) (J : mj_FI) (w : Option mj_V), s + t = I + 1 + G → I + 1 ≤ s → rd_f IA J r (rd_S4 b) → J r 8 = (p : Int) → p ≤ len → J r 1 = IA r 1 → J r 2 = IA r 2 → J (b + 2) 0 = IA (b + 2) 0 → (∀ j, j < 1001 → -1 ≤ J (b + 1) j ∧ J (b + 1) j < 315) → ab_gs (rd_by IA r) m bin t s p (J (b + 1)) (J (b + 2)) (J (b + 3)) (J (b + 4)) = R →
      mj_G m_R_takeGates (mj_po (fun o J => rd_f IA J r (rd_S4 b) ∧ rd_gq R IA r b o J) sh FR LA n) 10 [some (.inr (.inr (.inl r))), some (.inl s), w] [] sh FR J LA n 0 0 := by
    intro t
    induction t with
    | zero =>
      intro s p J w hst hs1 hf hp hp2 e1 e2 ez hso hT
      have e10 : J b 10 = (I : Int) := by rw [hf.1 b q1 q2 q3 (by unfold rd_S4; omega)]; exact hI
      have e11 : J b 11 = (G : Int) := by rw [hf.1 b q1 q2 q3 (by unfold rd_S4; omega)]; exact hG
      subst hT
      refine mj_go z_R_takeGates [10] 60 ?_
      refine And.intro h0 (Exists.intro _ (And.intro r7 ?_))
      refine And.intro hN.1 ?_
      refine And.intro h0 (Exists.intro _ (And.intro r7 ?_))
      refine And.intro hN.1 ?_
      rw [e10, e11]
      refine Exists.intro (((I : Int) + G)) (And.intro (by first | (rw [mj_w_id (by omega) (by omega)]; done) | (rw [mj_w_id (by omega) (by omega)]; omega) | (unfold mj_w; omega)) ?_)
      refine And.intro (fun c => ?_) (fun c => ?_)
      · exact ⟨Or.inr rfl, ⟨rfl, rfl, rfl, rfl, hf, ez, rfl, hp, rfl, rfl, rfl, rfl, e1, e2⟩, Nat.le_of_ble_eq_true rfl, Nat.le_of_ble_eq_true rfl⟩
      · simp (disch := (clear c; omega)) only [mj_w_id] at c
        omega
    | succ t ih =>
      intro s p J w hst hs1 hf hp hp2 e1 e2 ez hso hT
      have e9 : J b 9 = (m : Int) := by rw [hf.1 b q1 q2 q3 (by unfold rd_S4; omega)]; exact hm
      have e10 : J b 10 = (I : Int) := by rw [hf.1 b q1 q2 q3 (by unfold rd_S4; omega)]; exact hI
      have e11 : J b 11 = (G : Int) := by rw [hf.1 b q1 q2 q3 (by unfold rd_S4; omega)]; exact hG
      have ebin : J r 9 = if bin = true then 1 else 0 := by rw [hf.2 9 (by decide) (by decide) (by decide)]; exact hb
      have el : J r 0 = (len : Int) := by rw [hf.2 0 (by decide) (by decide) (by decide)]; exact hlen
      have hby : rd_by J r = rd_by IA r := hf.by (by unfold rd_S4; omega)
      have hen := rd_by_en hlen
      simp only [ab_gs] at hT
      have fin : ∀ (o : mj_O) (J2 : mj_FI) (R2 : (Int × Int) ⊕ ab_T), (∀ x, R2 = .inr x → x.1 ≤ len ∧ ∀ j, j < 1001 → -1 ≤ x.2.1 j ∧ x.2.1 j < 315) → rd_f J J2 r (rd_S4 b) → rd_gq R2 J r b o J2 → (match R2 with
          | .inl e => .inl e
          | .inr x => ab_gs (rd_by IA r) m bin t (s + 1) x.1 x.2.1 x.2.2.1 x.2.2.2.1 x.2.2.2.2) = R → ∃ z, o = .inl (some (.inl z)) ∧
          mj_G m_R_takeGates (mj_po (fun o J => rd_f IA J r (rd_S4 b) ∧ rd_gq R IA r b o J) sh FR LA n) 49 [some (.inr (.inr (.inl r))), some (.inl s), w] [.inl z] sh FR J2 LA n 0 0 := by
        intro o J2 R2 hok f2 g2 hT
        cases R2 with
        | inl e =>
          obtain ⟨gz, g2⟩ := g2
          refine ⟨0, g2.1, ?_⟩
          subst hT
          refine mj_go z_R_takeGates [10] 60 ?_
          refine And.intro (fun c => ?_) (fun c => ?_)
          · exact absurd rfl c
          · exact ⟨Or.inl rfl, ⟨rfl, rfl, rfl, rfl, hf.trans f2, gz.trans ez, rfl, g2.2⟩, Nat.le_of_ble_eq_true rfl, Nat.le_of_ble_eq_true rfl⟩
        | inr x =>
          obtain ⟨gz, g2⟩ := g2
          refine ⟨1, g2.1, ?_⟩
          obtain ⟨ok1, ok2⟩ := hok x rfl
          obtain ⟨g0, g1, g2, g3, g4, g5, g6, g7⟩ := g2
          refine mj_go z_R_takeGates [10] 60 ?_
          refine And.intro (fun c => ?_) (fun c => ?_)
          · refine Exists.intro (((s + 1 : Nat) : Int)) (And.intro (by first | (rw [mj_w_id (by omega) (by omega)]; done) | (rw [mj_w_id (by omega) (by omega)]; omega) | (unfold mj_w; omega)) ?_)
            refine ih (s + 1) x.1 J2 _ (by omega) (by omega) (hf.trans f2) g1 ok1 (g6.trans e1) (g7.trans e2) (gz.trans ez) (by rw [g2]; exact ok2) ?_
            rw [g2, g3, g4, g5]
            exact hT
          · exact absurd c (by decide)
      refine mj_go z_R_takeGates [10, 49] 60 ?_
      refine And.intro h0 (Exists.intro _ (And.intro r7 ?_))
      refine And.intro hN.1 ?_
      refine And.intro h0 (Exists.intro _ (And.intro r7 ?_))
      refine And.intro hN.1 ?_
      rw [e10, e11]
      refine Exists.intro (((I : Int) + G)) (And.intro (by first | (rw [mj_w_id (by omega) (by omega)]; done) | (rw [mj_w_id (by omega) (by omega)]; omega) | (unfold mj_w; omega)) ?_)
      refine And.intro (fun c => ?_) (fun c => ?_)
      · simp (disch := (clear c; omega)) only [mj_w_id] at c
        omega
      · refine And.intro h0 ?_
        rw [ebin]
        by_cases hbin : bin = true
        · rw [if_pos hbin] at hT ⊢
          refine And.intro (fun d => ?_) (fun d => ?_)
          · exact absurd d (by decide)
          · refine And.intro h0 (And.intro (Nat.le_of_ble_eq_true rfl) (And.intro (Nat.le_of_ble_eq_true rfl) (And.intro (Nat.le_of_ble_eq_true rfl) (Exists.intro _ (And.intro (ct_R_takeStepGate hR hN hap el hl2 hp hp2 (by omega) (by omega)) ?_)))))
            rintro o2 sh9 FR9 J2 LA9 n9 ⟨z1, z2, z3, z4, st⟩
            replace z1 := z1.symm
            subst z1
            replace z2 := z2.symm
            subst z2
            replace z3 := z3.symm
            subst z3
            replace z4 := z4.symm
            subst z4
            rw [hby] at st
            obtain ⟨z, hz, hG⟩ := fin o2 J2 _ (fun x hx => ab_sg_ok hen (by omega) hx hso) st.1 st.2 hT
            subst hz
            refine And.intro (Or.inl rfl) ?_
            exact hG
        · rw [if_neg hbin] at hT ⊢
          refine And.intro (fun d => ?_) (fun d => ?_)
          · refine And.intro h0 (And.intro (Nat.le_of_ble_eq_true rfl) (And.intro (Nat.le_of_ble_eq_true rfl) (And.intro (Nat.le_of_ble_eq_true rfl) (Exists.intro _ (And.intro (ct_R_takeLineGate hR hN hap el hl2 hp hp2 e9 hm2 (by omega) (by omega) hso) ?_)))))
            rintro o2 sh9 FR9 J2 LA9 n9 ⟨z1, z2, z3, z4, st⟩
            replace z1 := z1.symm
            subst z1
            replace z2 := z2.symm
            subst z2
            replace z3 := z3.symm
            subst z3
            replace z4 := z4.symm
            subst z4
            rw [hby] at st
            obtain ⟨z, hz, hG⟩ := fin o2 J2 _ (fun x hx => ab_lg_ok hen hp2 (by omega) hx hso) st.1 st.2 hT
            subst hz
            refine And.intro (Or.inl rfl) ?_
            exact hG
          · exact absurd (by decide) d
  refine mj_Ct_of (by decide +kernel) (by decide) (Nat.le_of_ble_eq_true rfl) ?_
  refine mj_go z_R_takeGates [10] 60 ?_
  refine And.intro h0 (Exists.intro _ (And.intro r7 ?_))
  refine And.intro hN.1 ?_
  rw [hI]
  refine Exists.intro (((I + 1 : Nat) : Int)) (And.intro (by first | (rw [mj_w_id (by omega) (by omega)]; done) | (rw [mj_w_id (by omega) (by omega)]; omega) | (unfold mj_w; omega)) ?_)
  exact loop G (I + 1) p IA none (by omega) (by omega) rd_f.refl hp hp2 rfl rfl rfl hso hT
end RR
