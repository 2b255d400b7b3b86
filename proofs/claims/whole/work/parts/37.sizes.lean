/-! READER: takeSizes -/
def rd_bs (J : mj_FI) (r : Nat) : Prop := (1000 < J (r + 2) 0 ∨ 14 < J (r + 2) 1 ∨ 16 < J (r + 2) 3 ∨ 300 < J (r + 2) 4) ∨ J (r + 2) 0 < J (r + 2) 1 + J (r + 2) 4 ∨ (¬ J r 9 = 0 ∧ ¬ J (r + 2) 0 = J (r + 2) 1 + J (r + 2) 4)
/-- how takeSizes ends, behind the first line (ok, J) -/
def rd_sz (ok : Bool) (J : mj_FI) (r b : Nat) (o : mj_O) (IA' : mj_FI) : Prop :=
  (ok = false ∧ o = .inl (some (.inl 0)) ∧ IA' = J) ∨ (ok = true ∧ ¬ J (r + 2) 2 = 0 ∧ o = .inl (some (.inl 0)) ∧ IA' = mj_up (mj_up J r 1 3) r 2 0) ∨
  (ok = true ∧ J (r + 2) 2 = 0 ∧ rd_bs J r ∧ o = .inl (some (.inl 0)) ∧ IA' = mj_up (mj_up J r 1 4) r 2 0) ∨
  (ok = true ∧ J (r + 2) 2 = 0 ∧ ¬ rd_bs J r ∧ o = .inl (some (.inl 1)) ∧ IA' = nt_begin J b (J (r + 2) 0) (J (r + 2) 1) (J (r + 2) 3) (J (r + 2) 4))
section RR
variable {sh : mj_Sh} {FR : mj_FR} {IA : mj_FI} {LA : mj_LA} {n r b : Nat}
set_option maxHeartbeats 4000000 in
theorem ct_R_takeSizes (h : isRd sh FR n r b) (hN : isNet sh FR n b) {pos : Nat} (hp : IA r 8 = (pos : Int)) (hp2 : pos ≤ 8900) (h1 : 0 ≤ IA r 0) (h2 : IA r 0 ≤ 8192) (h9 : IA r 9 = 0 ∨ IA r 9 = 1) :
    mj_Ct m_R_takeSizes [.inr (.inr (.inl r))] sh FR IA LA n (fun o sh' FR' IA' LA' n' => sh' = sh ∧ FR' = FR ∧ LA' = LA ∧ n' = n ∧ rd_sz (rd_ln r 2 5 5 0 IA).1 (rd_ln r 2 5 5 0 IA).2 r b o IA') := by
  have hR := h
  obtain ⟨h0, r3, r4, r5, r6, r7, a1, a2, a3, a4, s0, s1, a5, a6⟩ := h
  have hk9 := rd_ln_k (r := r) (cnt := 5) (code := 2) (k := 9) (by decide) (by decide) (by decide) 5 0 IA
  have hnum := fun j hj => rd_ln_num (r := r) (cnt := 5) (code := 2) 5 0 IA j (Or.inl ⟨Nat.zero_le j, hj⟩)
  have hct := ct_R_takeLine (LA := LA) (IA := IA) hR (cnt := 5) (code := 2) (by decide) hp hp2 h1 h2
  generalize rd_ln r 2 5 5 0 IA = S at *
  obtain ⟨ok, J⟩ := S
  have hk9 : J r 9 = IA r 9 := hk9
  generalize hQ : (fun (o : mj_O) (sh' : mj_Sh) (FR' : mj_FR) (IA' : mj_FI) (LA' : mj_LA) (n' : Nat) => sh' = sh ∧ FR' = FR ∧ LA' = LA ∧ n' = n ∧ rd_sz ok J r b o IA') = Q
  show mj_Ct m_R_takeSizes [.inr (.inr (.inl r))] sh FR IA LA n Q
  have cont : ok = true → mj_G m_R_takeSizes Q 11 [some (.inr (.inr (.inl r))), none, none, none, none] [] sh FR J LA n 0 0 := by
    intro hok
    have q0 := hnum 0 (by decide) hok
    have q1 := hnum 1 (by decide) hok
    have q2 := hnum 2 (by decide) hok
    have q3 := hnum 3 (by decide) hok
    have q4 := hnum 4 (by decide) hok
    have q0 : 0 ≤ J (r + 2) 0 ∧ J (r + 2) 0 < 1000000000 := q0
    have q1 : 0 ≤ J (r + 2) 1 ∧ J (r + 2) 1 < 1000000000 := q1
    have q2 : 0 ≤ J (r + 2) 2 ∧ J (r + 2) 2 < 1000000000 := q2
    have q3 : 0 ≤ J (r + 2) 3 ∧ J (r + 2) 3 < 1000000000 := q3
    have q4 : 0 ≤ J (r + 2) 4 ∧ J (r + 2) 4 < 1000000000 := q4
    have b83 : J (r + 2) 2 = 0 → rd_bs J r → mj_G m_R_takeSizes Q 83 [some (.inr (.inr (.inl r))), some (.inl (J (r + 2) 0)), some (.inl (J (r + 2) 1)), some (.inl (J (r + 2) 3)), some (.inl (J (r + 2) 4))] [] sh FR J LA n 0 0 := by
      intro hl hb
      subst hQ
      refine mj_go z_R_takeSizes [] 60 ?_
      refine And.intro h0 (And.intro (Nat.le_of_ble_eq_true rfl) (And.intro (Nat.le_of_ble_eq_true rfl) (And.intro (Nat.le_of_ble_eq_true rfl) (Exists.intro _ (And.intro (ct_R_fail hR) ?_)))))
      rintro r9 sh9 FR9 IA9 LA9 n9 ⟨z0, z1, z2, z3, z4, z5⟩
      subst z0
      replace z1 := z1.symm
      subst z1
      replace z2 := z2.symm
      subst z2
      replace z3 := z3.symm
      subst z3
      replace z4 := z4.symm
      subst z4
      replace z5 := z5.symm
      subst z5
      refine And.intro (Or.inl rfl) ?_
      exact ⟨Or.inl rfl, ⟨rfl, rfl, rfl, rfl, Or.inr (Or.inr (Or.inl ⟨hok, hl, hb, rfl, rfl⟩))⟩, Nat.le_of_ble_eq_true rfl, Nat.le_of_ble_eq_true rfl⟩
    have b113 : J (r + 2) 2 = 0 → rd_bs J r → mj_G m_R_takeSizes Q 113 [some (.inr (.inr (.inl r))), some (.inl (J (r + 2) 0)), some (.inl (J (r + 2) 1)), some (.inl (J (r + 2) 3)), some (.inl (J (r + 2) 4))] [] sh FR J LA n 0 0 := by
      intro hl hb
      subst hQ
      refine mj_go z_R_takeSizes [] 60 ?_
      refine And.intro h0 (And.intro (Nat.le_of_ble_eq_true rfl) (And.intro (Nat.le_of_ble_eq_true rfl) (And.intro (Nat.le_of_ble_eq_true rfl) (Exists.intro _ (And.intro (ct_R_fail hR) ?_)))))
      rintro r9 sh9 FR9 IA9 LA9 n9 ⟨z0, z1, z2, z3, z4, z5⟩
      subst z0
      replace z1 := z1.symm
      subst z1
      replace z2 := z2.symm
      subst z2
      replace z3 := z3.symm
      subst z3
      replace z4 := z4.symm
      subst z4
      replace z5 := z5.symm
      subst z5
      refine And.intro (Or.inl rfl) ?_
      exact ⟨Or.inl rfl, ⟨rfl, rfl, rfl, rfl, Or.inr (Or.inr (Or.inl ⟨hok, hl, hb, rfl, rfl⟩))⟩, Nat.le_of_ble_eq_true rfl, Nat.le_of_ble_eq_true rfl⟩
    have g120 : J (r + 2) 2 = 0 → ¬ rd_bs J r → mj_G m_R_takeSizes Q 120 [some (.inr (.inr (.inl r))), some (.inl (J (r + 2) 0)), some (.inl (J (r + 2) 1)), some (.inl (J (r + 2) 3)), some (.inl (J (r + 2) 4))] [] sh FR J LA n 0 0 := by
      intro hl hb
      subst hQ
      refine mj_go z_R_takeSizes [] 60 ?_
      refine And.intro h0 (Exists.intro _ (And.intro r7 ?_))
      refine And.intro hN.1 (And.intro (Nat.le_of_ble_eq_true rfl) (And.intro (Nat.le_of_ble_eq_true rfl) (And.intro (Nat.le_of_ble_eq_true rfl) (Exists.intro _ (And.intro (ct_N_begin hN) ?_)))))
      rintro r9 sh9 FR9 IA9 LA9 n9 ⟨z0, z1, z2, z3, z4, z5⟩
      subst z0
      replace z1 := z1.symm
      subst z1
      replace z2 := z2.symm
      subst z2
      replace z3 := z3.symm
      subst z3
      replace z4 := z4.symm
      subst z4
      replace z5 := z5.symm
      subst z5
      refine And.intro (Or.inl rfl) ?_
      exact ⟨Or.inr rfl, ⟨rfl, rfl, rfl, rfl, Or.inr (Or.inr (Or.inr ⟨hok, hl, hb, rfl, rfl⟩))⟩, Nat.le_of_ble_eq_true rfl, Nat.le_of_ble_eq_true rfl⟩
    refine mj_go z_R_takeSizes [83, 113, 120] 60 ?_
    refine And.intro h0 (Exists.intro _ (And.intro r4 ?_))
    refine Exists.intro _ (Exists.intro (0) (And.intro a2 (And.intro (by first | (rw [mj_w_id (by omega) (by omega)]; done) | (rw [mj_w_id (by omega) (by omega)]; omega) | (unfold mj_w; omega)) (And.intro (by omega) ?_))))
    refine And.intro h0 (Exists.intro _ (And.intro r4 ?_))
    refine Exists.intro _ (Exists.intro (1) (And.intro a2 (And.intro (by first | (rw [mj_w_id (by omega) (by omega)]; done) | (rw [mj_w_id (by omega) (by omega)]; omega) | (unfold mj_w; omega)) (And.intro (by omega) ?_))))
    refine And.intro h0 (Exists.intro _ (And.intro r4 ?_))
    refine Exists.intro _ (Exists.intro (3) (And.intro a2 (And.intro (by first | (rw [mj_w_id (by omega) (by omega)]; done) | (rw [mj_w_id (by omega) (by omega)]; omega) | (unfold mj_w; omega)) (And.intro (by omega) ?_))))
    refine And.intro h0 (Exists.intro _ (And.intro r4 ?_))
    refine Exists.intro _ (Exists.intro (4) (And.intro a2 (And.intro (by first | (rw [mj_w_id (by omega) (by omega)]; done) | (rw [mj_w_id (by omega) (by omega)]; omega) | (unfold mj_w; omega)) (And.intro (by omega) ?_))))
    refine And.intro h0 (Exists.intro _ (And.intro r4 ?_))
    refine Exists.intro _ (Exists.intro (2) (And.intro a2 (And.intro (by first | (rw [mj_w_id (by omega) (by omega)]; done) | (rw [mj_w_id (by omega) (by omega)]; omega) | (unfold mj_w; omega)) (And.intro (by omega) ?_))))
    refine And.intro (fun c => ?_) (fun c => ?_)
    · simp (disch := (clear c; omega)) only [mj_w_id] at c
      refine And.intro (fun d1 => ?_) (fun d1 => ?_)
      · simp (disch := (clear d1; omega)) only [mj_w_id] at d1
        exact b83 c (Or.inl (Or.inl d1))
      · simp (disch := (clear d1; omega)) only [mj_w_id] at d1
        refine And.intro (fun d2 => ?_) (fun d2 => ?_)
        · simp (disch := (clear d2; omega)) only [mj_w_id] at d2
          exact b83 c (Or.inl (Or.inr (Or.inl d2)))
        · simp (disch := (clear d2; omega)) only [mj_w_id] at d2
          refine And.intro (fun d3 => ?_) (fun d3 => ?_)
          · simp (disch := (clear d3; omega)) only [mj_w_id] at d3
            exact b83 c (Or.inl (Or.inr (Or.inr (Or.inl d3))))
          · simp (disch := (clear d3; omega)) only [mj_w_id] at d3
            refine And.intro (fun d4 => ?_) (fun d4 => ?_)
            · simp (disch := (clear d4; omega)) only [mj_w_id] at d4
              refine Exists.intro (J (r + 2) 1 + J (r + 2) 4) (And.intro (by first | (rw [mj_w_id (by omega) (by omega)]; done) | (rw [mj_w_id (by omega) (by omega)]; omega) | (unfold mj_w; omega)) ?_)
              refine And.intro (fun e1 => ?_) (fun e1 => ?_)
              · simp (disch := (clear e1; omega)) only [mj_w_id] at e1
                exact b113 c (Or.inr (Or.inl e1))
              · simp (disch := (clear e1; omega)) only [mj_w_id] at e1
                refine And.intro h0 ?_
                refine And.intro (fun e2 => ?_) (fun e2 => ?_)
                · simp (disch := (clear e2; omega)) only [mj_w_id] at e2
                  exact g120 c (by unfold rd_bs; omega)
                · simp (disch := (clear e2; omega)) only [mj_w_id] at e2
                  refine Exists.intro (J (r + 2) 1 + J (r + 2) 4) (And.intro (by first | (rw [mj_w_id (by omega) (by omega)]; done) | (rw [mj_w_id (by omega) (by omega)]; omega) | (unfold mj_w; omega)) ?_)
                  refine And.intro (fun e3 => ?_) (fun e3 => ?_)
                  · simp (disch := (clear e3; omega)) only [mj_w_id] at e3
                    exact g120 c (by unfold rd_bs; omega)
                  · simp (disch := (clear e3; omega)) only [mj_w_id] at e3
                    exact b113 c (Or.inr (Or.inr ⟨by omega, e3⟩))
            · simp (disch := (clear d4; omega)) only [mj_w_id] at d4
              exact b83 c (Or.inl (Or.inr (Or.inr (Or.inr (by omega)))))
    · simp (disch := (clear c; omega)) only [mj_w_id] at c
      subst hQ
      refine And.intro h0 (And.intro (Nat.le_of_ble_eq_true rfl) (And.intro (Nat.le_of_ble_eq_true rfl) (And.intro (Nat.le_of_ble_eq_true rfl) (Exists.intro _ (And.intro (ct_R_fail hR) ?_)))))
      rintro r9 sh9 FR9 IA9 LA9 n9 ⟨z0, z1, z2, z3, z4, z5⟩
      subst z0
      replace z1 := z1.symm
      subst z1
      replace z2 := z2.symm
      subst z2
      replace z3 := z3.symm
      subst z3
      replace z4 := z4.symm
      subst z4
      replace z5 := z5.symm
      subst z5
      refine And.intro (Or.inl rfl) ?_
      exact ⟨Or.inl rfl, ⟨rfl, rfl, rfl, rfl, Or.inr (Or.inl ⟨hok, c, rfl, rfl⟩)⟩, Nat.le_of_ble_eq_true rfl, Nat.le_of_ble_eq_true rfl⟩
  refine mj_Ct_of (by decide +kernel) (by decide) (Nat.le_of_ble_eq_true rfl) ?_
  refine mj_go z_R_takeSizes [11] 60 ?_
  refine And.intro h0 (And.intro (Nat.le_of_ble_eq_true rfl) (And.intro (Nat.le_of_ble_eq_true rfl) (And.intro (Nat.le_of_ble_eq_true rfl) (Exists.intro _ (And.intro (hct) ?_)))))
  rintro r9 sh9 FR9 IA9 LA9 n9 ⟨z0, z1, z2, z3, z4, z5⟩
  subst z0
  replace z1 := z1.symm
  subst z1
  replace z2 := z2.symm
  subst z2
  replace z3 := z3.symm
  subst z3
  replace z4 := z4.symm
  subst z4
  replace z5 := z5.symm
  subst z5
  refine And.intro (Or.inl rfl) ?_
  cases ok with
  | true =>
    refine And.intro (fun c => ?_) (fun c => ?_)
    · exact cont rfl
    · exact absurd (show ¬ mj_w 1 = 0 by decide) c
  | false =>
    subst hQ
    refine And.intro (fun c => ?_) (fun c => ?_)
    · exact absurd c (show ¬ ¬ mj_w 0 = 0 by decide)
    · exact ⟨Or.inl rfl, ⟨rfl, rfl, rfl, rfl, Or.inl ⟨rfl, rfl, rfl⟩⟩, Nat.le_of_ble_eq_true rfl, Nat.le_of_ble_eq_true rfl⟩
end RR
