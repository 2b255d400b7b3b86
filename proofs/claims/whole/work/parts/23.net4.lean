/-! NET, fourth: waitForAll -/
/-- how many of the variables 1 .. v stand for gates -/
def nt_wn (IA : mj_FI) (b : Nat) : Nat → Nat
  | 0 => 0
  | v + 1 => if IA b 10 < IA (b + 1) (v + 1) then nt_wn IA b v + 1 else nt_wn IA b v
/-- the state when the variables 1 .. v have been looked at -/
def nt_wa (IA : mj_FI) (b : Nat) : Nat → mj_FI
  | 0 => mj_up (mj_fl IA (b + 6) 315 0) b 8 0
  | v + 1 => if IA b 10 < IA (b + 1) (v + 1) then mj_up (mj_up (mj_up (nt_wa IA b v) (b + 6) (IA (b + 1) (v + 1)).toNat 1000000) (b + 8) (nt_wn IA b v) (IA (b + 1) (v + 1))) b 8 ((nt_wn IA b v + 1 : Nat) : Int) else nt_wa IA b v
theorem nt_wa_o {IA : mj_FI} {b q : Nat} (h1 : q ≠ b + 6) (h2 : q ≠ b + 8) (h3 : q ≠ b) : ∀ v, nt_wa IA b v q = IA q
  | 0 => by
    simp only [nt_wa]
    rw [mj_up_ne h3]
    funext j
    simp [mj_fl, h1]
  | v + 1 => by
    simp only [nt_wa]
    split
    · rw [mj_up_ne h3, mj_up_ne h2, mj_up_ne h1, nt_wa_o h1 h2 h3 v]
    · exact nt_wa_o h1 h2 h3 v
theorem nt_wa_b {IA : mj_FI} {b k : Nat} (hk : k ≠ 8) : ∀ v, nt_wa IA b v b k = IA b k
  | 0 => by
    simp only [nt_wa]
    rw [mj_up_eq, if_neg hk]
    simp [mj_fl]
  | v + 1 => by
    simp only [nt_wa]
    split
    · rw [mj_up_eq, if_neg hk, mj_up_ne (by omega), mj_up_ne (by omega), nt_wa_b hk v]
    · exact nt_wa_b hk v
theorem nt_wa_8 {IA : mj_FI} {b : Nat} : ∀ v, nt_wa IA b v b 8 = (nt_wn IA b v : Int)
  | 0 => by
    simp only [nt_wa, nt_wn]
    rw [mj_up_eq, if_pos rfl]
    rfl
  | v + 1 => by
    simp only [nt_wa, nt_wn]
    split
    · rw [mj_up_eq, if_pos rfl]
    · exact nt_wa_8 v
theorem nt_wn_mono {IA : mj_FI} {b : Nat} : ∀ (t v : Nat), nt_wn IA b v ≤ nt_wn IA b (v + t)
  | 0, v => Nat.le_refl _
  | t + 1, v => by
    have h := nt_wn_mono (IA := IA) (b := b) t v
    show nt_wn IA b v ≤ nt_wn IA b (v + t + 1)
    simp only [nt_wn]
    split <;> omega
section NN
variable {sh : mj_Sh} {FR : mj_FR} {IA : mj_FI} {LA : mj_LA} {n b : Nat}
theorem ct_N_waitForAll (hN : isNet sh FR n b) {m i : Nat} (hm : IA b 9 = (m : Int)) (hi : IA b 10 = (i : Int)) (hm1 : m ≤ 1000) (hi14 : i ≤ 14) (h5 : ∀ j, j < 1001 → -1 ≤ IA (b + 1) j ∧ IA (b + 1) j < 315) (h6 : nt_wn IA b m ≤ 300) :
    mj_Ct m_N_waitForAll [.inr (.inr (.inl b))] sh FR IA LA n (mj_pu (.inl none) sh FR (nt_wa IA b m) LA n) := by
  have hN' := hN
  obtain ⟨h0, r0, r1, r2, r3, r4, r5, r6, r7, a0, a1, a2, a3, a4, a5, a6, a7⟩ := hN
  have loop : ∀ (t v : Nat) (x : Option mj_V), v + t = m → mj_G m_N_waitForAll (mj_pu (.inl none) sh FR (nt_wa IA b m) LA n) 15 [some (.inr (.inr (.inl b))), some (.inl ((v + 1 : Nat) : Int)), x] [] sh FR (nt_wa IA b v) LA n 0 0 := by
    intro t
    induction t with
    | zero =>
      intro v x hv
      have hv : v = m := by omega
      subst hv
      refine mj_go z_N_waitForAll [15] 60 ?_
      refine And.intro h0 ?_
      rw [nt_wa_b (by decide), hm]
      refine And.intro (fun c => ?_) (fun c => ?_)
      · exact ⟨⟨rfl, rfl, rfl, rfl, rfl, rfl⟩, Nat.le_of_ble_eq_true rfl, Nat.le_of_ble_eq_true rfl⟩
      · simp (disch := (clear c; omega)) only [mj_w_id] at c
        omega
    | succ t ih =>
      intro v x hv
      have q5 := h5 (v + 1) (by omega)
      have q6 := nt_wn_mono (IA := IA) (b := b) t (v + 1)
      rw [show v + 1 + t = m by omega] at q6
      have e1 : nt_wa IA b v b 10 = (i : Int) := (nt_wa_b (by decide) v).trans hi
      have e2 : nt_wa IA b v (b + 1) (v + 1) = IA (b + 1) (v + 1) := by rw [nt_wa_o (by omega) (by omega) (by omega)]
      have e3 : nt_wa IA b v b 8 = (nt_wn IA b v : Int) := nt_wa_8 v
      have e4 : nt_wa IA b v b 9 = (m : Int) := (nt_wa_b (by decide) v).trans hm
      have e5 : nt_wa IA b (v + 1) = if IA b 10 < IA (b + 1) (v + 1) then mj_up (mj_up (mj_up (nt_wa IA b v) (b + 6) (IA (b + 1) (v + 1)).toNat 1000000) (b + 8) (nt_wn IA b v) (IA (b + 1) (v + 1))) b 8 ((nt_wn IA b v + 1 : Nat) : Int) else nt_wa IA b v := rfl
      have e6 : nt_wn IA b (v + 1) = if IA b 10 < IA (b + 1) (v + 1) then nt_wn IA b v + 1 else nt_wn IA b v := rfl
      have ih1 := ih (v + 1)
      generalize hs : IA (b + 1) (v + 1) = s at *
      generalize hJ : nt_wa IA b v = J at *
      refine mj_go z_N_waitForAll [15] 60 ?_
      refine And.intro h0 ?_
      rw [e4]
      refine And.intro (fun c => ?_) (fun c => ?_)
      · simp (disch := (clear c; omega)) only [mj_w_id] at c
        omega
      · refine And.intro h0 (Exists.intro _ (And.intro r0 ?_))
        refine Exists.intro _ (Exists.intro (v + 1) (And.intro a0 (And.intro (by first | (rw [mj_w_id (by omega) (by omega)]; done) | (rw [mj_w_id (by omega) (by omega)]; omega) | (unfold mj_w; omega)) (And.intro (by omega) ?_))))
        rw [e2]
        refine And.intro h0 (And.intro (Nat.le_of_ble_eq_true rfl) (And.intro (Nat.le_of_ble_eq_true rfl) (And.intro (Nat.le_of_ble_eq_true rfl) (Exists.intro _ (And.intro (ct_N_isGate hN' (by omega) (by omega) (by omega) (by omega)) ?_)))))
        rintro r9 sh9 FR9 IA9 LA9 n9 ⟨z0, z1, z2, z3, z4, z5⟩
        subst z0
        replace z1 := z1.symm
        subst z1
        replace z2 := z2.symm
        subst z2
        replace z3 := z3.symm
        subst z3
        replace z4 := z4.symm
        subst z4
        replace z5 := z5.symm
        subst z5
        refine And.intro (Or.inl rfl) ?_
        rw [e1]
        by_cases hg : (i : Int) < s
        · rw [if_pos hg]
          rw [hi, if_pos hg] at e5 e6
          refine And.intro (fun d => ?_) (fun d => ?_)
          · exact absurd d (by decide)
          · refine And.intro h0 (Exists.intro _ (And.intro r5 ?_))
            refine Exists.intro _ (Exists.intro (s.toNat) (And.intro a5 (And.intro (by first | (rw [mj_w_id (by omega) (by omega)]; done) | (rw [mj_w_id (by omega) (by omega)]; omega) | (unfold mj_w; omega)) (And.intro (by omega) ?_))))
            refine And.intro h0 (Exists.intro _ (And.intro r7 ?_))
            refine And.intro h0 ?_
            rw [mj_up_ne (show b ≠ b + 6 by omega), e3]
            refine Exists.intro _ (Exists.intro (nt_wn IA b v) (And.intro a7 (And.intro (by first | (rw [mj_w_id (by omega) (by omega)]; done) | (rw [mj_w_id (by omega) (by omega)]; omega) | (unfold mj_w; omega)) (And.intro (by omega) ?_))))
            refine And.intro rfl ?_
            refine And.intro h0 ?_
            rw [mj_up_ne (show b ≠ b + 8 by omega), mj_up_ne (show b ≠ b + 6 by omega), e3]
            refine Exists.intro (((nt_wn IA b v + 1 : Nat) : Int)) (And.intro (by first | (rw [mj_w_id (by omega) (by omega)]; done) | (rw [mj_w_id (by omega) (by omega)]; omega) | (unfold mj_w; omega)) ?_)
            refine And.intro h0 ?_
            refine Exists.intro (((v + 1 + 1 : Nat) : Int)) (And.intro (by first | (rw [mj_w_id (by omega) (by omega)]; done) | (rw [mj_w_id (by omega) (by omega)]; omega) | (unfold mj_w; omega)) ?_)
            have h9 := ih1 (some (.inl s)) (by omega)
            rw [e5] at h9
            exact h9
        · rw [if_neg hg]
          rw [hi, if_neg hg] at e5 e6
          refine And.intro (fun d => ?_) (fun d => ?_)
          · refine Exists.intro (((v + 1 + 1 : Nat) : Int)) (And.intro (by first | (rw [mj_w_id (by omega) (by omega)]; done) | (rw [mj_w_id (by omega) (by omega)]; omega) | (unfold mj_w; omega)) ?_)
            have h9 := ih1 (some (.inl s)) (by omega)
            rw [e5] at h9
            exact h9
          · exact absurd (by decide) d
  refine mj_Ct_of (by decide +kernel) (by decide) (Nat.le_of_ble_eq_true rfl) ?_
  refine mj_go z_N_waitForAll [15] 60 ?_
  refine And.intro h0 (Exists.intro _ (And.intro r5 ?_))
  refine And.intro trivial (And.intro (Nat.le_of_ble_eq_true rfl) (And.intro (Nat.le_of_ble_eq_true rfl) (And.intro (Nat.le_of_ble_eq_true rfl) (Exists.intro _ (And.intro (ct_A_fill a5 (by decide)) ?_)))))
  rintro r9 sh9 FR9 IA9 LA9 n9 ⟨z0, z1, z2, z3, z4, z5⟩
  subst z0
  replace z1 := z1.symm
  subst z1
  replace z2 := z2.symm
  subst z2
  replace z3 := z3.symm
  subst z3
  replace z4 := z4.symm
  subst z4
  replace z5 := z5.symm
  subst z5
  refine And.intro (Or.inl rfl) ?_
  refine And.intro h0 ?_
  exact loop m 0 none (by omega)
end NN
