/-! WRITER: countDepths, numberGates -/
def wr_gl (I : Nat) : Nat → List Nat
  | 0 => []
  | k + 1 => wr_gl I k ++ [I + 1 + k]
theorem wr_gl_mem {I x : Nat} : ∀ k, x ∈ wr_gl I k ↔ I + 1 ≤ x ∧ x < I + 1 + k
  | 0 => by
    simp only [wr_gl, List.not_mem_nil, false_iff]
    omega
  | k + 1 => by
    simp only [wr_gl]
    rw [List.mem_append, wr_gl_mem k, List.mem_singleton]
    omega
theorem wr_gl_nd {I : Nat} : ∀ k, (wr_gl I k).Nodup
  | 0 => List.nodup_nil
  | k + 1 => by
    simp only [wr_gl]
    rw [List.nodup_append]
    refine ⟨wr_gl_nd k, by simp, fun a ha c hc e => ?_⟩
    have h1 := (wr_gl_mem k).mp ha
    have h2 : c = I + 1 + k := by simpa using hc
    omega
theorem wr_gl_len {I : Nat} : ∀ k, (wr_gl I k).length = k
  | 0 => rfl
  | k + 1 => by
    simp only [wr_gl]
    rw [List.length_append, wr_gl_len k]
    rfl
/-- needed and less deep than d / just as deep -/
def wr_pl (N D : Nat → Int) (d : Int) (g : Nat) : Bool := decide (N g = 1) && decide (D g < d)
def wr_pe (N D : Nat → Int) (d : Int) (g : Nat) : Bool := decide (N g = 1) && decide (D g = d)
def wr_pn (N : Nat → Int) (g : Nat) : Bool := decide (N g = 1)
theorem wr_pl_s {N D : Nat → Int} {d : Int} {l : List Nat} : wr_ct (wr_pl N D (d + 1)) l = wr_ct (wr_pe N D d) l + wr_ct (wr_pl N D d) l := by
  refine wr_ct_or l fun x _ => ?_
  unfold wr_pl wr_pe
  by_cases h : N x = 1
  · by_cases h2 : D x = d
    · simp [h, h2]
      omega
    · simp only [h, h2, decide_true, decide_false, Bool.true_and, Bool.false_or]
      refine ⟨?_, by simp⟩
      rw [decide_eq_decide]
      omega
  · simp [h]
section WW
variable {sh : mj_Sh} {FR : mj_FR} {IA : mj_FI} {LA : mj_LA} {n w b : Nat}
set_option maxHeartbeats 1000000 in
theorem ct_W_countDepths (h : isW sh FR n w) (hN : isNet sh FR n b) (ha : b + 8 < w ∨ w + 6 < b) {I G : Nat} (hI : IA b 10 = (I : Int)) (hG : IA b 11 = (G : Int)) (hI2 : I ≤ 14) (hG2 : G ≤ 300) (hn : ∀ s, s < 315 → IA (w + 3) s = 0 ∨ IA (w + 3) s = 1) (hd : ∀ s, s < 315 → 0 ≤ IA (w + 2) s ∧ IA (w + 2) s ≤ 300) :
    mj_Ct m_W_countDepths [.inr (.inr (.inl w)), .inr (.inr (.inl b))] sh FR IA LA n (mj_po (fun o J => o = .inl none ∧ (∀ q, q ≠ w → q ≠ w + 6 → J q = IA q) ∧ (∀ k, k ≠ 8 → J w k = IA w k) ∧ J w 8 = ((wr_ct (wr_pn (IA (w + 3))) (wr_gl I G) : Nat) : Int) ∧ ∀ d : Nat, d ≤ 300 → J (w + 6) d = ((wr_ct (wr_pl (IA (w + 3)) (IA (w + 2)) d) (wr_gl I G) : Nat) : Int)) sh FR LA n) := by
  obtain ⟨h0, r1, r2, r3, r4, r5, r6, a1, a2, a3, a4, a5, a6⟩ := h
  generalize hQ : mj_po (fun o J => o = .inl none ∧ (∀ q, q ≠ w → q ≠ w + 6 → J q = IA q) ∧ (∀ k, k ≠ 8 → J w k = IA w k) ∧ J w 8 = ((wr_ct (wr_pn (IA (w + 3))) (wr_gl I G) : Nat) : Int) ∧ ∀ d : Nat, d ≤ 300 → J (w + 6) d = ((wr_ct (wr_pl (IA (w + 3)) (IA (w + 2)) d) (wr_gl I G) : Nat) : Int)) sh FR LA n = Q
  have bnd : ∀ (P : Nat → Bool) k, k ≤ G → wr_ct P (wr_gl I k) ≤ 300 := fun P k hk => by
    have := wr_ct_le (P := P) (l := wr_gl I k)
    rw [wr_gl_len] at this
    omega
  have loop2 : ∀ (t l : Nat) (J : mj_FI), l + t = 301 → 1 ≤ l → (∀ q, q ≠ w → q ≠ w + 6 → J q = IA q) → (∀ k, k ≠ 8 → J w k = IA w k) → J w 8 = ((wr_ct (wr_pn (IA (w + 3))) (wr_gl I G) : Nat) : Int) → (∀ d : Nat, d < l → J (w + 6) d = ((wr_ct (wr_pl (IA (w + 3)) (IA (w + 2)) d) (wr_gl I G) : Nat) : Int)) → (∀ d : Nat, l ≤ d → d < 302 → J (w + 6) d = ((wr_ct (wr_pe (IA (w + 3)) (IA (w + 2)) ((d : Int) - 1)) (wr_gl I G) : Nat) : Int)) →
      mj_G m_W_countDepths Q 77 [some (.inr (.inr (.inl w))), some (.inr (.inr (.inl b))), some (.inl l)] [] sh FR J LA n 0 0 := by
    intro t
    induction t with
    | zero =>
      intro l J hl h1 f1 f2 f3 f4 f5
      subst hQ
      refine mj_go z_W_countDepths [77] 60 ?_
      refine And.intro (fun d => ?_) (fun d => ?_)
      · exact ⟨⟨rfl, rfl, rfl, rfl, rfl, f1, f2, f3, fun d hd => f4 d (by omega)⟩, Nat.le_of_ble_eq_true rfl, Nat.le_of_ble_eq_true rfl⟩
      · simp (disch := (clear d; omega)) only [mj_w_id] at d
        omega
    | succ t ih =>
      intro l J hl h1 f1 f2 f3 f4 f5
      have e1 := f5 l (Nat.le_refl _) (by omega)
      have e2 := f4 (l - 1) (by omega)
      have b1 := bnd (wr_pe (IA (w + 3)) (IA (w + 2)) ((l : Int) - 1)) G (Nat.le_refl _)
      have b2 := bnd (wr_pl (IA (w + 3)) (IA (w + 2)) ((l - 1 : Nat) : Int)) G (Nat.le_refl _)
      have e3 := wr_pl_s (N := IA (w + 3)) (D := IA (w + 2)) (d := (l : Int) - 1) (l := wr_gl I G)
      rw [show (l : Int) - 1 + 1 = (l : Int) by omega] at e3
      rw [show ((l - 1 : Nat) : Int) = (l : Int) - 1 by omega] at e2 b2
      refine mj_go z_W_countDepths [77] 60 ?_
      refine And.intro (fun d => ?_) (fun d => ?_)
      · simp (disch := (clear d; omega)) only [mj_w_id] at d
        omega
      · clear d
        refine And.intro h0 (Exists.intro _ (And.intro r6 ?_))
        refine And.intro rfl (And.intro rfl ?_)
        refine Exists.intro _ (Exists.intro (l) (And.intro a6 (And.intro (by first | (rw [mj_w_id (by omega) (by omega)]; done) | (rw [mj_w_id (by omega) (by omega)]; omega) | (unfold mj_w; omega)) (And.intro (by omega) ?_))))
        refine And.intro h0 (Exists.intro _ (And.intro r6 ?_))
        refine Exists.intro (((l - 1 : Nat) : Int)) (And.intro (by first | (rw [mj_w_id (by omega) (by omega)]; done) | (rw [mj_w_id (by omega) (by omega)]; omega) | (unfold mj_w; omega)) ?_)
        refine Exists.intro _ (Exists.intro (l - 1) (And.intro a6 (And.intro (by first | (rw [mj_w_id (by omega) (by omega)]; done) | (rw [mj_w_id (by omega) (by omega)]; omega) | (unfold mj_w; omega)) (And.intro (by omega) ?_))))
        rw [e1, e2]
        refine Exists.intro (((wr_ct (wr_pl (IA (w + 3)) (IA (w + 2)) l) (wr_gl I G) : Nat) : Int)) (And.intro (by first | (rw [mj_w_id (by omega) (by omega)]; done) | (rw [mj_w_id (by omega) (by omega)]; omega) | (unfold mj_w; omega)) ?_)
        refine Exists.intro _ (Exists.intro (l) (And.intro a6 (And.intro (by first | (rw [mj_w_id (by omega) (by omega)]; done) | (rw [mj_w_id (by omega) (by omega)]; omega) | (unfold mj_w; omega)) (And.intro (by omega) ?_))))
        refine Exists.intro (((l + 1 : Nat) : Int)) (And.intro (by first | (rw [mj_w_id (by omega) (by omega)]; done) | (rw [mj_w_id (by omega) (by omega)]; omega) | (unfold mj_w; omega)) ?_)
        refine ih (l + 1) _ (by omega) (by omega) (fun q h1 h2 => by rw [mj_up_ne h2]; exact f1 q h1 h2) (fun k hk => by rw [mj_up_ne (by omega)]; exact f2 k hk) (by rw [mj_up_ne (by omega)]; exact f3) (fun d hd => ?_) (fun d h1 h2 => ?_)
        · rw [mj_up_row]
          by_cases e : d = l
          · subst e
            exact mj_u_at
          · rw [mj_u_ne e]
            exact f4 d (by omega)
        · rw [mj_up_row, mj_u_ne (by omega)]
          exact f5 d (by omega) h2
  have loop1 : ∀ (t k : Nat) (J : mj_FI), k + t = G → (∀ q, q ≠ w → q ≠ w + 6 → J q = IA q) → (∀ k, k ≠ 8 → J w k = IA w k) → J w 8 = ((wr_ct (wr_pn (IA (w + 3))) (wr_gl I k) : Nat) : Int) → (∀ d : Nat, d < 302 → J (w + 6) d = ((wr_ct (wr_pe (IA (w + 3)) (IA (w + 2)) ((d : Int) - 1)) (wr_gl I k) : Nat) : Int)) →
      mj_G m_W_countDepths Q 20 [some (.inr (.inr (.inl w))), some (.inr (.inr (.inl b))), some (.inl ((I + 1 + k : Nat) : Int))] [] sh FR J LA n 0 0 := by
    intro t
    induction t with
    | zero =>
      intro k J hk f1 f2 f3 f4
      have hk : k = G := by omega
      subst hk
      have hb0 : J b = IA b := f1 b (by omega) (by omega)
      refine mj_go z_W_countDepths [20, 77] 60 ?_
      refine And.intro hN.1 ?_
      refine And.intro hN.1 ?_
      rw [hb0, hI, hG]
      refine Exists.intro (((I : Int) + k)) (And.intro (by first | (rw [mj_w_id (by omega) (by omega)]; done) | (rw [mj_w_id (by omega) (by omega)]; omega) | (unfold mj_w; omega)) ?_)
      refine And.intro (fun d => ?_) (fun d => ?_)
      · refine loop2 300 1 J (by omega) (by omega) f1 f2 f3 (fun d hd' => ?_) (fun d h1 h2 => f4 d h2)
        have e : d = 0 := by omega
        subst e
        rw [f4 0 (by decide)]
        have z : ∀ x ∈ wr_gl I k, 0 ≤ IA (w + 2) x := fun x hx => (hd x (by have := (wr_gl_mem k).mp hx; omega)).1
        rw [wr_ct_0 (P := wr_pe (IA (w + 3)) (IA (w + 2)) (((0 : Nat) : Int) - 1)) (fun x hx => ?_), wr_ct_0 (P := wr_pl (IA (w + 3)) (IA (w + 2)) ((0 : Nat) : Int)) (fun x hx => ?_)]
        · have := z x hx
          unfold wr_pl
          rw [decide_eq_false (show ¬ IA (w + 2) x < ((0 : Nat) : Int) by omega), Bool.and_false]
        · have := z x hx
          unfold wr_pe
          rw [decide_eq_false (show ¬ IA (w + 2) x = ((0 : Nat) : Int) - 1 by omega), Bool.and_false]
      · simp (disch := (clear d; omega)) only [mj_w_id] at d
        omega
    | succ t ih =>
      intro k J hk f1 f2 f3 f4
      have hb0 : J b = IA b := f1 b (by omega) (by omega)
      have jr3 : J (w + 3) = IA (w + 3) := f1 _ (by omega) (by omega)
      have jr2 : J (w + 2) = IA (w + 2) := f1 _ (by omega) (by omega)
      have q1 := hn (I + 1 + k) (by omega)
      have q2 := hd (I + 1 + k) (by omega)
      have c1 : wr_ct (wr_pn (IA (w + 3))) (wr_gl I (k + 1)) = wr_ct (wr_pn (IA (w + 3))) (wr_gl I k) + wr_ct (wr_pn (IA (w + 3))) [I + 1 + k] := wr_ct_app
      have c2 : ∀ d, wr_ct (wr_pe (IA (w + 3)) (IA (w + 2)) d) (wr_gl I (k + 1)) = wr_ct (wr_pe (IA (w + 3)) (IA (w + 2)) d) (wr_gl I k) + wr_ct (wr_pe (IA (w + 3)) (IA (w + 2)) d) [I + 1 + k] := fun d => wr_ct_app
      rw [wr_ct_one] at c1
      have ih1 := ih (k + 1)
      rw [show I + 1 + (k + 1) = I + 1 + k + 1 by omega] at ih1
      refine mj_go z_W_countDepths [20, 77] 60 ?_
      refine And.intro hN.1 ?_
      refine And.intro hN.1 ?_
      rw [hb0, hI, hG]
      refine Exists.intro (((I : Int) + G)) (And.intro (by first | (rw [mj_w_id (by omega) (by omega)]; done) | (rw [mj_w_id (by omega) (by omega)]; omega) | (unfold mj_w; omega)) ?_)
      refine And.intro (fun d => ?_) (fun d => ?_)
      · simp (disch := (clear d; omega)) only [mj_w_id] at d
        omega
      · clear d
        refine And.intro h0 (Exists.intro _ (And.intro r3 ?_))
        refine Exists.intro _ (Exists.intro (I + 1 + k) (And.intro a3 (And.intro (by first | (rw [mj_w_id (by omega) (by omega)]; done) | (rw [mj_w_id (by omega) (by omega)]; omega) | (unfold mj_w; omega)) (And.intro (by omega) ?_))))
        rw [jr3]
        rcases q1 with q1 | q1
        · rw [q1]
          refine And.intro (fun d => ?_) (fun d => ?_)
          · clear d
            refine Exists.intro (((I + 1 + k + 1 : Nat) : Int)) (And.intro (by first | (rw [mj_w_id (by omega) (by omega)]; done) | (rw [mj_w_id (by omega) (by omega)]; omega) | (unfold mj_w; omega)) ?_)
            refine ih1 J (by omega) f1 f2 (by rw [c1, f3]; unfold wr_pn; rw [q1]; simp) (fun d hd' => ?_)
            rw [f4 d hd', c2, wr_ct_one]
            unfold wr_pe
            rw [q1]
            simp
          · exact absurd (show mj_w 0 = 0 by decide) d
        · rw [q1]
          have b0 := bnd (wr_pn (IA (w + 3))) k (by omega)
          have b1 := bnd (wr_pe (IA (w + 3)) (IA (w + 2)) (IA (w + 2) (I + 1 + k))) k (by omega)
          refine And.intro (fun d => ?_) (fun d => ?_)
          · exact absurd d (by decide)
          · clear d
            refine And.intro rfl ?_
            refine And.intro h0 ?_
            rw [f3]
            refine Exists.intro (((wr_ct (wr_pn (IA (w + 3))) (wr_gl I k) + 1 : Nat) : Int)) (And.intro (by first | (rw [mj_w_id (by omega) (by omega)]; done) | (rw [mj_w_id (by omega) (by omega)]; omega) | (unfold mj_w; omega)) ?_)
            refine And.intro h0 ?_
            refine And.intro h0 (Exists.intro _ (And.intro r6 ?_))
            refine And.intro h0 (Exists.intro _ (And.intro r2 ?_))
            refine Exists.intro _ (Exists.intro (I + 1 + k) (And.intro a2 (And.intro (by first | (rw [mj_w_id (by omega) (by omega)]; done) | (rw [mj_w_id (by omega) (by omega)]; omega) | (unfold mj_w; omega)) (And.intro (by omega) ?_))))
            rw [mj_up_ne (show w + 2 ≠ w by omega), jr2]
            refine Exists.intro (((((IA (w + 2) (I + 1 + k)).toNat + 1 : Nat) : Int))) (And.intro (by first | (rw [mj_w_id (by omega) (by omega)]; done) | (rw [mj_w_id (by omega) (by omega)]; omega) | (unfold mj_w; omega)) ?_)
            refine And.intro rfl (And.intro rfl ?_)
            refine Exists.intro _ (Exists.intro ((IA (w + 2) (I + 1 + k)).toNat + 1) (And.intro a6 (And.intro (by first | (rw [mj_w_id (by omega) (by omega)]; done) | (rw [mj_w_id (by omega) (by omega)]; omega) | (unfold mj_w; omega)) (And.intro (by omega) ?_))))
            rw [mj_up_ne (show w + 6 ≠ w by omega), f4 _ (by omega), show (((IA (w + 2) (I + 1 + k)).toNat + 1 : Nat) : Int) - 1 = IA (w + 2) (I + 1 + k) by omega]
            refine Exists.intro (((wr_ct (wr_pe (IA (w + 3)) (IA (w + 2)) (IA (w + 2) (I + 1 + k))) (wr_gl I k) + 1 : Nat) : Int)) (And.intro (by first | (rw [mj_w_id (by omega) (by omega)]; done) | (rw [mj_w_id (by omega) (by omega)]; omega) | (unfold mj_w; omega)) ?_)
            refine Exists.intro _ (Exists.intro ((IA (w + 2) (I + 1 + k)).toNat + 1) (And.intro a6 (And.intro (by first | (rw [mj_w_id (by omega) (by omega)]; done) | (rw [mj_w_id (by omega) (by omega)]; omega) | (unfold mj_w; omega)) (And.intro (by omega) ?_))))
            refine Exists.intro (((I + 1 + k + 1 : Nat) : Int)) (And.intro (by first | (rw [mj_w_id (by omega) (by omega)]; done) | (rw [mj_w_id (by omega) (by omega)]; omega) | (unfold mj_w; omega)) ?_)
            refine ih1 _ (by omega) (fun q h1 h2 => by rw [mj_up_ne h2, mj_up_ne h1]; exact f1 q h1 h2) (fun k hk => by rw [mj_up_ne (by omega), mj_up_k hk]; exact f2 k hk) ?_ (fun d hd' => ?_)
            · rw [mj_up_ne (by omega), mj_up_at, c1]
              unfold wr_pn
              rw [q1]
              simp
            · rw [mj_up_row, mj_up_ne (by omega), c2, wr_ct_one]
              unfold wr_pe
              rw [q1]
              by_cases e : d = (IA (w + 2) (I + 1 + k)).toNat + 1
              · have e2 : (d : Int) - 1 = IA (w + 2) (I + 1 + k) := by omega
                rw [e2, e, mj_u_at]
                simp
              · have e2 : ¬ IA (w + 2) (I + 1 + k) = (d : Int) - 1 := by omega
                rw [mj_u_ne e, f4 d hd']
                simp [e2]
                rfl
  refine mj_Ct_of (by decide +kernel) (by decide) (Nat.le_of_ble_eq_true rfl) ?_
  refine mj_go z_W_countDepths [20] 60 ?_
  refine And.intro h0 (Exists.intro _ (And.intro r6 ?_))
  refine And.intro trivial (And.intro (Nat.le_of_ble_eq_true rfl) (And.intro (Nat.le_of_ble_eq_true rfl) (And.intro (Nat.le_of_ble_eq_true rfl) (Exists.intro _ (And.intro (ct_A_fill a6 (by decide)) ?_)))))
  rintro r9 sh9 FR9 IA9 LA9 n9 ⟨z0, z1, z2, z3, z4, z5⟩
  subst z0
  replace z1 := z1.symm
  subst z1
  replace z2 := z2.symm
  subst z2
  replace z3 := z3.symm
  subst z3
  replace z4 := z4.symm
  subst z4
  replace z5 := z5.symm
  subst z5
  refine And.intro (Or.inl rfl) ?_
  refine And.intro h0 ?_
  refine And.intro hN.1 ?_
  have e0 : mj_up (mj_fl IA (w + 6) 302 0) w 8 0 b = IA b := by
    rw [mj_up_ne (by omega)]
    funext j
    have : ¬ b = w + 6 := by omega
    simp [mj_fl, this]
  rw [e0, hI]
  refine Exists.intro (((I + 1 + 0 : Nat) : Int)) (And.intro (by first | (rw [mj_w_id (by omega) (by omega)]; done) | (rw [mj_w_id (by omega) (by omega)]; omega) | (unfold mj_w; omega)) ?_)
  refine loop1 G 0 _ (by omega) (fun q h1 h2 => ?_) (fun k hk => ?_) (by rw [mj_up_at]; rfl) (fun d hd' => ?_)
  · rw [mj_up_ne h1]
    funext j
    simp [mj_fl, h2]
  · rw [mj_up_k hk]
    have : ¬ w = w + 6 := by omega
    simp [mj_fl]
  · rw [mj_up_ne (by omega)]
    simp [mj_fl, hd']
    rfl
end WW
