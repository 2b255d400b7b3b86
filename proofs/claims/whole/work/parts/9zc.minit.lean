/-! THE REFERENCE: its constructor -/
/-- a new reference -/
def mN0 (IA : mj_FI) (LA : mj_LA) : Prop := (∀ k, IA 52 k = 0) ∧ (∀ q, 53 ≤ q → q ≤ 76 → q ≠ 66 → ∀ k, IA q k = 0) ∧ (∀ c, c < 3 → IA 66 (1001 * c) = 0 ∧ ∀ v, 1 ≤ v → v ≤ 1000 → IA 66 (1001 * c + v) = -1) ∧ (∀ j, LA 69 j = 0#64)
section KK
variable {sh : mj_Sh} {FR : mj_FR} {IA : mj_FI} {LA : mj_LA}
/-- rowOf, up to circuit c and variable v -/
def mi_r (c v : Nat) (f : Nat → Int) : Prop := ∀ d u, d < 3 → u ≤ 1000 → f (1001 * d + u) = if 1 ≤ u ∧ (d < c ∨ (d = c ∧ u < v)) then -1 else 0
set_option maxHeartbeats 2000000 in
theorem mi_loop {n : Nat} {Q : mj_Q} (h : isM sh FR n) (hQ : ∀ J : mj_FI, (∀ q, q ≠ 60 → q ≠ 66 → J q = IA q) → (∀ j, J 60 j = 0) → mi_r 3 1 (J 66) → mj_G m_M_init Q 249 [some (.inr (.inr (.inl 52))), some (.inl 3), some (.inl 1001)] [] sh FR J LA n 24 186905) :
    ∀ (t c : Nat) (J : mj_FI) (y2 : Option mj_V), c + t = 3 → (t = 0 → y2 = some (.inl 1001)) → (∀ q, q ≠ 60 → q ≠ 66 → J q = IA q) → (∀ j, J 60 j = 0) → mi_r c 1 (J 66) → mj_G m_M_init Q 203 [some (.inr (.inr (.inl 52))), some (.inl c), y2] [] sh FR J LA n 24 186905 := by
  intro t
  induction t with
  | zero =>
    intro c J y2 hc hy f g hr
    have e : c = 3 := by omega
    subst e
    rw [hy rfl]
    refine mj_go z_M_init [249] 60 ?_
    refine And.intro (fun d => ?_) (fun d => ?_)
    · exact hQ J f g hr
    · exact absurd (by decide) d
  | succ t ih =>
    intro c J y2 hc hy f g hr
    have inn : ∀ (u v : Nat) (J : mj_FI), v + u = 1001 → 1 ≤ v → (∀ q, q ≠ 60 → q ≠ 66 → J q = IA q) → (∀ j, J 60 j = 0) → mi_r c v (J 66) → mj_G m_M_init Q 210 [some (.inr (.inr (.inl 52))), some (.inl c), some (.inl v)] [] sh FR J LA n 24 186905 := by
      intro u
      induction u with
      | zero =>
        intro v J hv hv1 f g hr
        have e : v = 1001 := by omega
        subst e
        have key := ih (c + 1) (mj_up J 60 c 0) (some (.inl 1001)) (by omega) (fun _ => rfl) (fun q q1 q2 => by rw [mj_up_ne q1]; exact f q q1 q2) (fun j => by
          by_cases e : j = c
          · rw [e, mj_up_at]
          · rw [mj_up_k e]; exact g j) (by
          rw [mj_up_ne (by decide)]
          intro d u hd hu
          rw [hr d u hd hu]
          by_cases z : 1 ≤ u ∧ (d < c ∨ (d = c ∧ u < 1001))
          · rw [if_pos z, if_pos (by omega)]
          · rw [if_neg z, if_neg (by omega)])
        refine mj_go z_M_init [203] 60 ?_
        refine And.intro (fun d => ?_) (fun d => ?_)
        · clear d
          refine And.intro h.o (Exists.intro _ (And.intro h.r10 ?_))
          refine Exists.intro _ (Exists.intro (c) (And.intro h.a10 (And.intro (by first | (rw [mj_w_id (by omega) (by omega)]; done) | (rw [mj_w_id (by omega) (by omega)]; omega) | (unfold mj_w; omega)) (And.intro (by omega) ?_))))
          refine Exists.intro (((c + 1 : Nat) : Int)) (And.intro (by first | (rw [mj_w_id (by omega) (by omega)]; done) | (rw [mj_w_id (by omega) (by omega)]; omega) | (unfold mj_w; omega)) ?_)
          exact key
        · exact absurd (by decide) d
      | succ u ihu =>
        intro v J hv hv1 f g hr
        have key := ihu (v + 1) (mj_up J 66 (1001 * c + v) (-1)) (by omega) (by omega) (fun q q1 q2 => by rw [mj_up_ne q2]; exact f q q1 q2) (fun j => by rw [mj_up_ne (by decide)]; exact g j) (by
          rw [mj_up_row]
          intro d u hd hu
          by_cases e : 1001 * d + u = 1001 * c + v
          · rw [e, mj_u_at, if_pos (by omega)]
          · rw [mj_u_ne e, hr d u hd hu]
            by_cases z : 1 ≤ u ∧ (d < c ∨ (d = c ∧ u < v))
            · rw [if_pos z, if_pos (by omega)]
            · rw [if_neg z, if_neg (by omega)])
        refine mj_go z_M_init [210] 60 ?_
        refine And.intro (fun d => ?_) (fun d => ?_)
        · simp (disch := (clear d; omega)) only [mj_w_id] at d
          omega
        · clear d
          refine And.intro h.o (Exists.intro _ (And.intro h.r16 ?_))
          refine Exists.intro (((1001 * c : Nat) : Int)) (And.intro (by first | (rw [mj_w_id (by omega) (by omega)]; done) | (rw [mj_w_id (by omega) (by omega)]; omega) | (unfold mj_w; omega)) ?_)
          refine Exists.intro (((1001 * c + v : Nat) : Int)) (And.intro (by first | (rw [mj_w_id (by omega) (by omega)]; done) | (rw [mj_w_id (by omega) (by omega)]; omega) | (unfold mj_w; omega)) ?_)
          refine Exists.intro _ (Exists.intro (1001 * c + v) (And.intro h.a16 (And.intro (by first | (rw [mj_w_id (by omega) (by omega)]; done) | (rw [mj_w_id (by omega) (by omega)]; omega) | (unfold mj_w; omega)) (And.intro (by omega) ?_))))
          refine Exists.intro (((v + 1 : Nat) : Int)) (And.intro (by first | (rw [mj_w_id (by omega) (by omega)]; done) | (rw [mj_w_id (by omega) (by omega)]; omega) | (unfold mj_w; omega)) ?_)
          exact key
    refine mj_go z_M_init [210] 60 ?_
    refine And.intro (fun d => ?_) (fun d => ?_)
    · simp (disch := (clear d; omega)) only [mj_w_id] at d
      omega
    · exact inn 1000 1 J (by omega) (by omega) f g hr
set_option maxHeartbeats 8000000 in
theorem ct_M_init {w : Nat} (hw : w = 52) (h0 : sh w = (10, 0)) (hF : mj_scF (w + 1) FR) (hI : ∀ k, IA w k = 0) : mj_Ct m_M_init [.inr (.inr (.inl w))] sh FR IA LA (w + 1) (fun o sh' FR' IA' LA' n' => o = .inl none ∧ n' = 77 ∧ isM sh' FR' 77 ∧ mj_scF 77 FR' ∧ gr sh FR IA LA 52 sh' FR' IA' LA' ∧ mN0 IA' LA') := by
  have f0 := hF
  have f1 := scF_up (q := w) (k := 1) (scF_nw f0) (show (w + 1) < (w + 1) + 1 by omega)
  have f2 := scF_up (q := w) (k := 3) (scF_nw f1) (show (w + 1 + 1) < (w + 1 + 1) + 1 by omega)
  have f3 := scF_up (q := w) (k := 5) (scF_nw f2) (show (w + 1 + 1 + 1) < (w + 1 + 1 + 1) + 1 by omega)
  have f4 := scF_up (q := w) (k := 6) (scF_nw f3) (show (w + 1 + 1 + 1 + 1) < (w + 1 + 1 + 1 + 1) + 1 by omega)
  have f5 := scF_up (q := w) (k := 7) (scF_nw f4) (show (w + 1 + 1 + 1 + 1 + 1) < (w + 1 + 1 + 1 + 1 + 1) + 1 by omega)
  have f6 := scF_up (q := w) (k := 8) (scF_nw f5) (show (w + 1 + 1 + 1 + 1 + 1 + 1) < (w + 1 + 1 + 1 + 1 + 1 + 1) + 1 by omega)
  have f7 := scF_up (q := w) (k := 9) (scF_nw f6) (show (w + 1 + 1 + 1 + 1 + 1 + 1 + 1) < (w + 1 + 1 + 1 + 1 + 1 + 1 + 1) + 1 by omega)
  have f8 := scF_up (q := w) (k := 10) (scF_nw f7) (show (w + 1 + 1 + 1 + 1 + 1 + 1 + 1 + 1) < (w + 1 + 1 + 1 + 1 + 1 + 1 + 1 + 1) + 1 by omega)
  have f9 := scF_up (q := w) (k := 11) (scF_nw f8) (show (w + 1 + 1 + 1 + 1 + 1 + 1 + 1 + 1 + 1) < (w + 1 + 1 + 1 + 1 + 1 + 1 + 1 + 1 + 1) + 1 by omega)
  have f10 := scF_up (q := w) (k := 12) (scF_nw f9) (show (w + 1 + 1 + 1 + 1 + 1 + 1 + 1 + 1 + 1 + 1) < (w + 1 + 1 + 1 + 1 + 1 + 1 + 1 + 1 + 1 + 1) + 1 by omega)
  have f11 := scF_up (q := w) (k := 13) (scF_nw f10) (show (w + 1 + 1 + 1 + 1 + 1 + 1 + 1 + 1 + 1 + 1 + 1) < (w + 1 + 1 + 1 + 1 + 1 + 1 + 1 + 1 + 1 + 1 + 1) + 1 by omega)
  have f12 := scF_up (q := w) (k := 14) (scF_nw f11) (show (w + 1 + 1 + 1 + 1 + 1 + 1 + 1 + 1 + 1 + 1 + 1 + 1) < (w + 1 + 1 + 1 + 1 + 1 + 1 + 1 + 1 + 1 + 1 + 1 + 1) + 1 by omega)
  have f13 := scF_up (q := w) (k := 15) (scF_nw f12) (show (w + 1 + 1 + 1 + 1 + 1 + 1 + 1 + 1 + 1 + 1 + 1 + 1 + 1) < (w + 1 + 1 + 1 + 1 + 1 + 1 + 1 + 1 + 1 + 1 + 1 + 1 + 1) + 1 by omega)
  have f14 := scF_up (q := w) (k := 16) (scF_nw f13) (show (w + 1 + 1 + 1 + 1 + 1 + 1 + 1 + 1 + 1 + 1 + 1 + 1 + 1 + 1) < (w + 1 + 1 + 1 + 1 + 1 + 1 + 1 + 1 + 1 + 1 + 1 + 1 + 1 + 1) + 1 by omega)
  have f15 := scF_up (q := w) (k := 17) (scF_nw f14) (show (w + 1 + 1 + 1 + 1 + 1 + 1 + 1 + 1 + 1 + 1 + 1 + 1 + 1 + 1 + 1) < (w + 1 + 1 + 1 + 1 + 1 + 1 + 1 + 1 + 1 + 1 + 1 + 1 + 1 + 1 + 1) + 1 by omega)
  have f16 := scF_up (q := w) (k := 18) (scF_nw f15) (show (w + 1 + 1 + 1 + 1 + 1 + 1 + 1 + 1 + 1 + 1 + 1 + 1 + 1 + 1 + 1 + 1) < (w + 1 + 1 + 1 + 1 + 1 + 1 + 1 + 1 + 1 + 1 + 1 + 1 + 1 + 1 + 1 + 1) + 1 by omega)
  have f17 := scF_up (q := w) (k := 19) (scF_nw f16) (show (w + 1 + 1 + 1 + 1 + 1 + 1 + 1 + 1 + 1 + 1 + 1 + 1 + 1 + 1 + 1 + 1 + 1) < (w + 1 + 1 + 1 + 1 + 1 + 1 + 1 + 1 + 1 + 1 + 1 + 1 + 1 + 1 + 1 + 1 + 1) + 1 by omega)
  have f18 := scF_up (q := w) (k := 23) (scF_nw f17) (show (w + 1 + 1 + 1 + 1 + 1 + 1 + 1 + 1 + 1 + 1 + 1 + 1 + 1 + 1 + 1 + 1 + 1 + 1) < (w + 1 + 1 + 1 + 1 + 1 + 1 + 1 + 1 + 1 + 1 + 1 + 1 + 1 + 1 + 1 + 1 + 1 + 1) + 1 by omega)
  have f19 := scF_up (q := w) (k := 24) (scF_nw f18) (show (w + 1 + 1 + 1 + 1 + 1 + 1 + 1 + 1 + 1 + 1 + 1 + 1 + 1 + 1 + 1 + 1 + 1 + 1 + 1) < (w + 1 + 1 + 1 + 1 + 1 + 1 + 1 + 1 + 1 + 1 + 1 + 1 + 1 + 1 + 1 + 1 + 1 + 1 + 1) + 1 by omega)
  have f20 := scF_up (q := w) (k := 25) (scF_nw f19) (show (w + 1 + 1 + 1 + 1 + 1 + 1 + 1 + 1 + 1 + 1 + 1 + 1 + 1 + 1 + 1 + 1 + 1 + 1 + 1 + 1) < (w + 1 + 1 + 1 + 1 + 1 + 1 + 1 + 1 + 1 + 1 + 1 + 1 + 1 + 1 + 1 + 1 + 1 + 1 + 1 + 1) + 1 by omega)
  have f21 := scF_up (q := w) (k := 26) (scF_nw f20) (show (w + 1 + 1 + 1 + 1 + 1 + 1 + 1 + 1 + 1 + 1 + 1 + 1 + 1 + 1 + 1 + 1 + 1 + 1 + 1 + 1 + 1) < (w + 1 + 1 + 1 + 1 + 1 + 1 + 1 + 1 + 1 + 1 + 1 + 1 + 1 + 1 + 1 + 1 + 1 + 1 + 1 + 1 + 1) + 1 by omega)
  have f22 := scF_up (q := w) (k := 27) (scF_nw f21) (show (w + 1 + 1 + 1 + 1 + 1 + 1 + 1 + 1 + 1 + 1 + 1 + 1 + 1 + 1 + 1 + 1 + 1 + 1 + 1 + 1 + 1 + 1) < (w + 1 + 1 + 1 + 1 + 1 + 1 + 1 + 1 + 1 + 1 + 1 + 1 + 1 + 1 + 1 + 1 + 1 + 1 + 1 + 1 + 1 + 1) + 1 by omega)
  have f23 := scF_up (q := w) (k := 28) (scF_nw f22) (show (w + 1 + 1 + 1 + 1 + 1 + 1 + 1 + 1 + 1 + 1 + 1 + 1 + 1 + 1 + 1 + 1 + 1 + 1 + 1 + 1 + 1 + 1 + 1) < (w + 1 + 1 + 1 + 1 + 1 + 1 + 1 + 1 + 1 + 1 + 1 + 1 + 1 + 1 + 1 + 1 + 1 + 1 + 1 + 1 + 1 + 1 + 1) + 1 by omega)
  have f24 := scF_up (q := w) (k := 29) (scF_nw f23) (show (w + 1 + 1 + 1 + 1 + 1 + 1 + 1 + 1 + 1 + 1 + 1 + 1 + 1 + 1 + 1 + 1 + 1 + 1 + 1 + 1 + 1 + 1 + 1 + 1) < (w + 1 + 1 + 1 + 1 + 1 + 1 + 1 + 1 + 1 + 1 + 1 + 1 + 1 + 1 + 1 + 1 + 1 + 1 + 1 + 1 + 1 + 1 + 1 + 1) + 1 by omega)
  generalize hsh : (mj_nw (mj_nw (mj_nw (mj_nw (mj_nw (mj_nw (mj_nw (mj_nw (mj_nw (mj_nw (mj_nw (mj_nw (mj_nw (mj_nw (mj_nw (mj_nw (mj_nw (mj_nw (mj_nw (mj_nw (mj_nw (mj_nw (mj_nw (mj_nw sh (w + 1) (1, 8192)) (w + 1 + 1) (1, 8192)) (w + 1 + 1 + 1) (0, 3)) (w + 1 + 1 + 1 + 1) (0, 3)) (w + 1 + 1 + 1 + 1 + 1) (0, 3)) (w + 1 + 1 + 1 + 1 + 1 + 1) (0, 3)) (w + 1 + 1 + 1 + 1 + 1 + 1 + 1) (0, 3)) (w + 1 + 1 + 1 + 1 + 1 + 1 + 1 + 1) (0, 3)) (w + 1 + 1 + 1 + 1 + 1 + 1 + 1 + 1 + 1) (0, 42)) (w + 1 + 1 + 1 + 1 + 1 + 1 + 1 + 1 + 1 + 1) (0, 900)) (w + 1 + 1 + 1 + 1 + 1 + 1 + 1 + 1 + 1 + 1 + 1) (0, 900)) (w + 1 + 1 + 1 + 1 + 1 + 1 + 1 + 1 + 1 + 1 + 1 + 1) (0, 900)) (w + 1 + 1 + 1 + 1 + 1 + 1 + 1 + 1 + 1 + 1 + 1 + 1 + 1) (0, 48)) (w + 1 + 1 + 1 + 1 + 1 + 1 + 1 + 1 + 1 + 1 + 1 + 1 + 1 + 1) (0, 3003)) (w + 1 + 1 + 1 + 1 + 1 + 1 + 1 + 1 + 1 + 1 + 1 + 1 + 1 + 1 + 1) (0, 945)) (w + 1 + 1 + 1 + 1 + 1 + 1 + 1 + 1 + 1 + 1 + 1 + 1 + 1 + 1 + 1 + 1) (0, 900)) (w + 1 + 1 + 1 + 1 + 1 + 1 + 1 + 1 + 1 + 1 + 1 + 1 + 1 + 1 + 1 + 1 + 1) (3, 161280)) (w + 1 + 1 + 1 + 1 + 1 + 1 + 1 + 1 + 1 + 1 + 1 + 1 + 1 + 1 + 1 + 1 + 1 + 1) (0, 5)) (w + 1 + 1 + 1 + 1 + 1 + 1 + 1 + 1 + 1 + 1 + 1 + 1 + 1 + 1 + 1 + 1 + 1 + 1 + 1) (0, 5)) (w + 1 + 1 + 1 + 1 + 1 + 1 + 1 + 1 + 1 + 1 + 1 + 1 + 1 + 1 + 1 + 1 + 1 + 1 + 1 + 1) (2, 315)) (w + 1 + 1 + 1 + 1 + 1 + 1 + 1 + 1 + 1 + 1 + 1 + 1 + 1 + 1 + 1 + 1 + 1 + 1 + 1 + 1 + 1) (0, 315)) (w + 1 + 1 + 1 + 1 + 1 + 1 + 1 + 1 + 1 + 1 + 1 + 1 + 1 + 1 + 1 + 1 + 1 + 1 + 1 + 1 + 1 + 1) (0, 315)) (w + 1 + 1 + 1 + 1 + 1 + 1 + 1 + 1 + 1 + 1 + 1 + 1 + 1 + 1 + 1 + 1 + 1 + 1 + 1 + 1 + 1 + 1 + 1) (0, 315)) (w + 1 + 1 + 1 + 1 + 1 + 1 + 1 + 1 + 1 + 1 + 1 + 1 + 1 + 1 + 1 + 1 + 1 + 1 + 1 + 1 + 1 + 1 + 1 + 1) (2, 315)) = sh8
  generalize hFR : (mj_up (mj_nw (mj_up (mj_nw (mj_up (mj_nw (mj_up (mj_nw (mj_up (mj_nw (mj_up (mj_nw (mj_up (mj_nw (mj_up (mj_nw (mj_up (mj_nw (mj_up (mj_nw (mj_up (mj_nw (mj_up (mj_nw (mj_up (mj_nw (mj_up (mj_nw (mj_up (mj_nw (mj_up (mj_nw (mj_up (mj_nw (mj_up (mj_nw (mj_up (mj_nw (mj_up (mj_nw (mj_up (mj_nw (mj_up (mj_nw (mj_up (mj_nw (mj_up (mj_nw FR (w + 1) fun _ => .inr 0) w 1 (.inl (w + 1))) (w + 1 + 1) fun _ => .inr 0) w 3 (.inl (w + 1 + 1))) (w + 1 + 1 + 1) fun _ => .inr 0) w 5 (.inl (w + 1 + 1 + 1))) (w + 1 + 1 + 1 + 1) fun _ => .inr 0) w 6 (.inl (w + 1 + 1 + 1 + 1))) (w + 1 + 1 + 1 + 1 + 1) fun _ => .inr 0) w 7 (.inl (w + 1 + 1 + 1 + 1 + 1))) (w + 1 + 1 + 1 + 1 + 1 + 1) fun _ => .inr 0) w 8 (.inl (w + 1 + 1 + 1 + 1 + 1 + 1))) (w + 1 + 1 + 1 + 1 + 1 + 1 + 1) fun _ => .inr 0) w 9 (.inl (w + 1 + 1 + 1 + 1 + 1 + 1 + 1))) (w + 1 + 1 + 1 + 1 + 1 + 1 + 1 + 1) fun _ => .inr 0) w 10 (.inl (w + 1 + 1 + 1 + 1 + 1 + 1 + 1 + 1))) (w + 1 + 1 + 1 + 1 + 1 + 1 + 1 + 1 + 1) fun _ => .inr 0) w 11 (.inl (w + 1 + 1 + 1 + 1 + 1 + 1 + 1 + 1 + 1))) (w + 1 + 1 + 1 + 1 + 1 + 1 + 1 + 1 + 1 + 1) fun _ => .inr 0) w 12 (.inl (w + 1 + 1 + 1 + 1 + 1 + 1 + 1 + 1 + 1 + 1))) (w + 1 + 1 + 1 + 1 + 1 + 1 + 1 + 1 + 1 + 1 + 1) fun _ => .inr 0) w 13 (.inl (w + 1 + 1 + 1 + 1 + 1 + 1 + 1 + 1 + 1 + 1 + 1))) (w + 1 + 1 + 1 + 1 + 1 + 1 + 1 + 1 + 1 + 1 + 1 + 1) fun _ => .inr 0) w 14 (.inl (w + 1 + 1 + 1 + 1 + 1 + 1 + 1 + 1 + 1 + 1 + 1 + 1))) (w + 1 + 1 + 1 + 1 + 1 + 1 + 1 + 1 + 1 + 1 + 1 + 1 + 1) fun _ => .inr 0) w 15 (.inl (w + 1 + 1 + 1 + 1 + 1 + 1 + 1 + 1 + 1 + 1 + 1 + 1 + 1))) (w + 1 + 1 + 1 + 1 + 1 + 1 + 1 + 1 + 1 + 1 + 1 + 1 + 1 + 1) fun _ => .inr 0) w 16 (.inl (w + 1 + 1 + 1 + 1 + 1 + 1 + 1 + 1 + 1 + 1 + 1 + 1 + 1 + 1))) (w + 1 + 1 + 1 + 1 + 1 + 1 + 1 + 1 + 1 + 1 + 1 + 1 + 1 + 1 + 1) fun _ => .inr 0) w 17 (.inl (w + 1 + 1 + 1 + 1 + 1 + 1 + 1 + 1 + 1 + 1 + 1 + 1 + 1 + 1 + 1))) (w + 1 + 1 + 1 + 1 + 1 + 1 + 1 + 1 + 1 + 1 + 1 + 1 + 1 + 1 + 1 + 1) fun _ => .inr 0) w 18 (.inl (w + 1 + 1 + 1 + 1 + 1 + 1 + 1 + 1 + 1 + 1 + 1 + 1 + 1 + 1 + 1 + 1))) (w + 1 + 1 + 1 + 1 + 1 + 1 + 1 + 1 + 1 + 1 + 1 + 1 + 1 + 1 + 1 + 1 + 1) fun _ => .inr 0) w 19 (.inl (w + 1 + 1 + 1 + 1 + 1 + 1 + 1 + 1 + 1 + 1 + 1 + 1 + 1 + 1 + 1 + 1 + 1))) (w + 1 + 1 + 1 + 1 + 1 + 1 + 1 + 1 + 1 + 1 + 1 + 1 + 1 + 1 + 1 + 1 + 1 + 1) fun _ => .inr 0) w 23 (.inl (w + 1 + 1 + 1 + 1 + 1 + 1 + 1 + 1 + 1 + 1 + 1 + 1 + 1 + 1 + 1 + 1 + 1 + 1))) (w + 1 + 1 + 1 + 1 + 1 + 1 + 1 + 1 + 1 + 1 + 1 + 1 + 1 + 1 + 1 + 1 + 1 + 1 + 1) fun _ => .inr 0) w 24 (.inl (w + 1 + 1 + 1 + 1 + 1 + 1 + 1 + 1 + 1 + 1 + 1 + 1 + 1 + 1 + 1 + 1 + 1 + 1 + 1))) (w + 1 + 1 + 1 + 1 + 1 + 1 + 1 + 1 + 1 + 1 + 1 + 1 + 1 + 1 + 1 + 1 + 1 + 1 + 1 + 1) fun _ => .inr 0) w 25 (.inl (w + 1 + 1 + 1 + 1 + 1 + 1 + 1 + 1 + 1 + 1 + 1 + 1 + 1 + 1 + 1 + 1 + 1 + 1 + 1 + 1))) (w + 1 + 1 + 1 + 1 + 1 + 1 + 1 + 1 + 1 + 1 + 1 + 1 + 1 + 1 + 1 + 1 + 1 + 1 + 1 + 1 + 1) fun _ => .inr 0) w 26 (.inl (w + 1 + 1 + 1 + 1 + 1 + 1 + 1 + 1 + 1 + 1 + 1 + 1 + 1 + 1 + 1 + 1 + 1 + 1 + 1 + 1 + 1))) (w + 1 + 1 + 1 + 1 + 1 + 1 + 1 + 1 + 1 + 1 + 1 + 1 + 1 + 1 + 1 + 1 + 1 + 1 + 1 + 1 + 1 + 1) fun _ => .inr 0) w 27 (.inl (w + 1 + 1 + 1 + 1 + 1 + 1 + 1 + 1 + 1 + 1 + 1 + 1 + 1 + 1 + 1 + 1 + 1 + 1 + 1 + 1 + 1 + 1))) (w + 1 + 1 + 1 + 1 + 1 + 1 + 1 + 1 + 1 + 1 + 1 + 1 + 1 + 1 + 1 + 1 + 1 + 1 + 1 + 1 + 1 + 1 + 1) fun _ => .inr 0) w 28 (.inl (w + 1 + 1 + 1 + 1 + 1 + 1 + 1 + 1 + 1 + 1 + 1 + 1 + 1 + 1 + 1 + 1 + 1 + 1 + 1 + 1 + 1 + 1 + 1))) (w + 1 + 1 + 1 + 1 + 1 + 1 + 1 + 1 + 1 + 1 + 1 + 1 + 1 + 1 + 1 + 1 + 1 + 1 + 1 + 1 + 1 + 1 + 1 + 1) fun _ => .inr 0) w 29 (.inl (w + 1 + 1 + 1 + 1 + 1 + 1 + 1 + 1 + 1 + 1 + 1 + 1 + 1 + 1 + 1 + 1 + 1 + 1 + 1 + 1 + 1 + 1 + 1 + 1))) = FR8 at f24
  generalize hIA : (mj_nw (mj_nw (mj_nw (mj_nw (mj_nw (mj_nw (mj_nw (mj_nw (mj_nw (mj_nw (mj_nw (mj_nw (mj_nw (mj_nw (mj_nw (mj_nw (mj_nw (mj_nw (mj_nw (mj_nw (mj_nw (mj_nw (mj_nw (mj_nw IA (w + 1) fun _ => 0) (w + 1 + 1) fun _ => 0) (w + 1 + 1 + 1) fun _ => 0) (w + 1 + 1 + 1 + 1) fun _ => 0) (w + 1 + 1 + 1 + 1 + 1) fun _ => 0) (w + 1 + 1 + 1 + 1 + 1 + 1) fun _ => 0) (w + 1 + 1 + 1 + 1 + 1 + 1 + 1) fun _ => 0) (w + 1 + 1 + 1 + 1 + 1 + 1 + 1 + 1) fun _ => 0) (w + 1 + 1 + 1 + 1 + 1 + 1 + 1 + 1 + 1) fun _ => 0) (w + 1 + 1 + 1 + 1 + 1 + 1 + 1 + 1 + 1 + 1) fun _ => 0) (w + 1 + 1 + 1 + 1 + 1 + 1 + 1 + 1 + 1 + 1 + 1) fun _ => 0) (w + 1 + 1 + 1 + 1 + 1 + 1 + 1 + 1 + 1 + 1 + 1 + 1) fun _ => 0) (w + 1 + 1 + 1 + 1 + 1 + 1 + 1 + 1 + 1 + 1 + 1 + 1 + 1) fun _ => 0) (w + 1 + 1 + 1 + 1 + 1 + 1 + 1 + 1 + 1 + 1 + 1 + 1 + 1 + 1) fun _ => 0) (w + 1 + 1 + 1 + 1 + 1 + 1 + 1 + 1 + 1 + 1 + 1 + 1 + 1 + 1 + 1) fun _ => 0) (w + 1 + 1 + 1 + 1 + 1 + 1 + 1 + 1 + 1 + 1 + 1 + 1 + 1 + 1 + 1 + 1) fun _ => 0) (w + 1 + 1 + 1 + 1 + 1 + 1 + 1 + 1 + 1 + 1 + 1 + 1 + 1 + 1 + 1 + 1 + 1) fun _ => 0) (w + 1 + 1 + 1 + 1 + 1 + 1 + 1 + 1 + 1 + 1 + 1 + 1 + 1 + 1 + 1 + 1 + 1 + 1) fun _ => 0) (w + 1 + 1 + 1 + 1 + 1 + 1 + 1 + 1 + 1 + 1 + 1 + 1 + 1 + 1 + 1 + 1 + 1 + 1 + 1) fun _ => 0) (w + 1 + 1 + 1 + 1 + 1 + 1 + 1 + 1 + 1 + 1 + 1 + 1 + 1 + 1 + 1 + 1 + 1 + 1 + 1 + 1) fun _ => 0) (w + 1 + 1 + 1 + 1 + 1 + 1 + 1 + 1 + 1 + 1 + 1 + 1 + 1 + 1 + 1 + 1 + 1 + 1 + 1 + 1 + 1) fun _ => 0) (w + 1 + 1 + 1 + 1 + 1 + 1 + 1 + 1 + 1 + 1 + 1 + 1 + 1 + 1 + 1 + 1 + 1 + 1 + 1 + 1 + 1 + 1) fun _ => 0) (w + 1 + 1 + 1 + 1 + 1 + 1 + 1 + 1 + 1 + 1 + 1 + 1 + 1 + 1 + 1 + 1 + 1 + 1 + 1 + 1 + 1 + 1 + 1) fun _ => 0) (w + 1 + 1 + 1 + 1 + 1 + 1 + 1 + 1 + 1 + 1 + 1 + 1 + 1 + 1 + 1 + 1 + 1 + 1 + 1 + 1 + 1 + 1 + 1 + 1) fun _ => 0) = IA8
  generalize hLA : (mj_nw (mj_nw (mj_nw (mj_nw (mj_nw (mj_nw (mj_nw (mj_nw (mj_nw (mj_nw (mj_nw (mj_nw (mj_nw (mj_nw (mj_nw (mj_nw (mj_nw (mj_nw (mj_nw (mj_nw (mj_nw (mj_nw (mj_nw (mj_nw LA (w + 1) fun _ => 0) (w + 1 + 1) fun _ => 0) (w + 1 + 1 + 1) fun _ => 0) (w + 1 + 1 + 1 + 1) fun _ => 0) (w + 1 + 1 + 1 + 1 + 1) fun _ => 0) (w + 1 + 1 + 1 + 1 + 1 + 1) fun _ => 0) (w + 1 + 1 + 1 + 1 + 1 + 1 + 1) fun _ => 0) (w + 1 + 1 + 1 + 1 + 1 + 1 + 1 + 1) fun _ => 0) (w + 1 + 1 + 1 + 1 + 1 + 1 + 1 + 1 + 1) fun _ => 0) (w + 1 + 1 + 1 + 1 + 1 + 1 + 1 + 1 + 1 + 1) fun _ => 0) (w + 1 + 1 + 1 + 1 + 1 + 1 + 1 + 1 + 1 + 1 + 1) fun _ => 0) (w + 1 + 1 + 1 + 1 + 1 + 1 + 1 + 1 + 1 + 1 + 1 + 1) fun _ => 0) (w + 1 + 1 + 1 + 1 + 1 + 1 + 1 + 1 + 1 + 1 + 1 + 1 + 1) fun _ => 0) (w + 1 + 1 + 1 + 1 + 1 + 1 + 1 + 1 + 1 + 1 + 1 + 1 + 1 + 1) fun _ => 0) (w + 1 + 1 + 1 + 1 + 1 + 1 + 1 + 1 + 1 + 1 + 1 + 1 + 1 + 1 + 1) fun _ => 0) (w + 1 + 1 + 1 + 1 + 1 + 1 + 1 + 1 + 1 + 1 + 1 + 1 + 1 + 1 + 1 + 1) fun _ => 0) (w + 1 + 1 + 1 + 1 + 1 + 1 + 1 + 1 + 1 + 1 + 1 + 1 + 1 + 1 + 1 + 1 + 1) fun _ => 0) (w + 1 + 1 + 1 + 1 + 1 + 1 + 1 + 1 + 1 + 1 + 1 + 1 + 1 + 1 + 1 + 1 + 1 + 1) fun _ => 0) (w + 1 + 1 + 1 + 1 + 1 + 1 + 1 + 1 + 1 + 1 + 1 + 1 + 1 + 1 + 1 + 1 + 1 + 1 + 1) fun _ => 0) (w + 1 + 1 + 1 + 1 + 1 + 1 + 1 + 1 + 1 + 1 + 1 + 1 + 1 + 1 + 1 + 1 + 1 + 1 + 1 + 1) fun _ => 0) (w + 1 + 1 + 1 + 1 + 1 + 1 + 1 + 1 + 1 + 1 + 1 + 1 + 1 + 1 + 1 + 1 + 1 + 1 + 1 + 1 + 1) fun _ => 0) (w + 1 + 1 + 1 + 1 + 1 + 1 + 1 + 1 + 1 + 1 + 1 + 1 + 1 + 1 + 1 + 1 + 1 + 1 + 1 + 1 + 1 + 1) fun _ => 0) (w + 1 + 1 + 1 + 1 + 1 + 1 + 1 + 1 + 1 + 1 + 1 + 1 + 1 + 1 + 1 + 1 + 1 + 1 + 1 + 1 + 1 + 1 + 1) fun _ => 0) (w + 1 + 1 + 1 + 1 + 1 + 1 + 1 + 1 + 1 + 1 + 1 + 1 + 1 + 1 + 1 + 1 + 1 + 1 + 1 + 1 + 1 + 1 + 1 + 1) fun _ => 0) = LA8
  have low : ∀ q, q < w + 1 → sh8 q = sh q ∧ IA8 q = IA q ∧ LA8 q = LA q ∧ (q ≠ w → FR8 q = FR q) := by
    intro q hq
    rw [← hsh, ← hIA, ← hLA, ← hFR]
    have e1 : ¬ q = (w + 1) := by omega
    have e2 : ¬ q = (w + 1 + 1) := by omega
    have e3 : ¬ q = (w + 1 + 1 + 1) := by omega
    have e4 : ¬ q = (w + 1 + 1 + 1 + 1) := by omega
    have e5 : ¬ q = (w + 1 + 1 + 1 + 1 + 1) := by omega
    have e6 : ¬ q = (w + 1 + 1 + 1 + 1 + 1 + 1) := by omega
    have e7 : ¬ q = (w + 1 + 1 + 1 + 1 + 1 + 1 + 1) := by omega
    have e8 : ¬ q = (w + 1 + 1 + 1 + 1 + 1 + 1 + 1 + 1) := by omega
    have e9 : ¬ q = (w + 1 + 1 + 1 + 1 + 1 + 1 + 1 + 1 + 1) := by omega
    have e10 : ¬ q = (w + 1 + 1 + 1 + 1 + 1 + 1 + 1 + 1 + 1 + 1) := by omega
    have e11 : ¬ q = (w + 1 + 1 + 1 + 1 + 1 + 1 + 1 + 1 + 1 + 1 + 1) := by omega
    have e12 : ¬ q = (w + 1 + 1 + 1 + 1 + 1 + 1 + 1 + 1 + 1 + 1 + 1 + 1) := by omega
    have e13 : ¬ q = (w + 1 + 1 + 1 + 1 + 1 + 1 + 1 + 1 + 1 + 1 + 1 + 1 + 1) := by omega
    have e14 : ¬ q = (w + 1 + 1 + 1 + 1 + 1 + 1 + 1 + 1 + 1 + 1 + 1 + 1 + 1 + 1) := by omega
    have e15 : ¬ q = (w + 1 + 1 + 1 + 1 + 1 + 1 + 1 + 1 + 1 + 1 + 1 + 1 + 1 + 1 + 1) := by omega
    have e16 : ¬ q = (w + 1 + 1 + 1 + 1 + 1 + 1 + 1 + 1 + 1 + 1 + 1 + 1 + 1 + 1 + 1 + 1) := by omega
    have e17 : ¬ q = (w + 1 + 1 + 1 + 1 + 1 + 1 + 1 + 1 + 1 + 1 + 1 + 1 + 1 + 1 + 1 + 1 + 1) := by omega
    have e18 : ¬ q = (w + 1 + 1 + 1 + 1 + 1 + 1 + 1 + 1 + 1 + 1 + 1 + 1 + 1 + 1 + 1 + 1 + 1 + 1) := by omega
    have e19 : ¬ q = (w + 1 + 1 + 1 + 1 + 1 + 1 + 1 + 1 + 1 + 1 + 1 + 1 + 1 + 1 + 1 + 1 + 1 + 1 + 1) := by omega
    have e20 : ¬ q = (w + 1 + 1 + 1 + 1 + 1 + 1 + 1 + 1 + 1 + 1 + 1 + 1 + 1 + 1 + 1 + 1 + 1 + 1 + 1 + 1) := by omega
    have e21 : ¬ q = (w + 1 + 1 + 1 + 1 + 1 + 1 + 1 + 1 + 1 + 1 + 1 + 1 + 1 + 1 + 1 + 1 + 1 + 1 + 1 + 1 + 1) := by omega
    have e22 : ¬ q = (w + 1 + 1 + 1 + 1 + 1 + 1 + 1 + 1 + 1 + 1 + 1 + 1 + 1 + 1 + 1 + 1 + 1 + 1 + 1 + 1 + 1 + 1) := by omega
    have e23 : ¬ q = (w + 1 + 1 + 1 + 1 + 1 + 1 + 1 + 1 + 1 + 1 + 1 + 1 + 1 + 1 + 1 + 1 + 1 + 1 + 1 + 1 + 1 + 1 + 1) := by omega
    have e24 : ¬ q = (w + 1 + 1 + 1 + 1 + 1 + 1 + 1 + 1 + 1 + 1 + 1 + 1 + 1 + 1 + 1 + 1 + 1 + 1 + 1 + 1 + 1 + 1 + 1 + 1) := by omega
    simp only [mj_nw, e1, e2, e3, e4, e5, e6, e7, e8, e9, e10, e11, e12, e13, e14, e15, e16, e17, e18, e19, e20, e21, e22, e23, e24, if_false]
    refine ⟨trivial, trivial, trivial, fun e0 => ?_⟩
    funext j
    simp only [mj_nw, mj_up, e0, e1, e2, e3, e4, e5, e6, e7, e8, e9, e10, e11, e12, e13, e14, e15, e16, e17, e18, e19, e20, e21, e22, e23, e24, if_false]
  have hM : w = 52 → isM sh8 FR8 77 := by
    intro e
    subst e
    rw [← hsh, ← hFR]
    refine ⟨⟨by decide, ?_⟩, ⟨?_, ?_, ?_, ?_, ?_, ?_, ?_, ?_, ?_, ?_, ?_, ?_, ?_, ?_, ?_, ?_, ?_, ?_, ?_, ?_, ?_, ?_, ?_, ?_⟩, ⟨by decide, ?_⟩, ⟨by decide, ?_⟩, ⟨by decide, ?_⟩, ⟨by decide, ?_⟩, ⟨by decide, ?_⟩, ⟨by decide, ?_⟩, ⟨by decide, ?_⟩, ⟨by decide, ?_⟩, ⟨by decide, ?_⟩, ⟨by decide, ?_⟩, ⟨by decide, ?_⟩, ⟨by decide, ?_⟩, ⟨by decide, ?_⟩, ⟨by decide, ?_⟩, ⟨by decide, ?_⟩, ⟨by decide, ?_⟩, ⟨by decide, ?_⟩, ⟨by decide, ?_⟩, ⟨by decide, ?_⟩, ⟨by decide, ?_⟩, ⟨by decide, ?_⟩, ⟨by decide, ?_⟩, ⟨by decide, ?_⟩, ⟨by decide, ?_⟩⟩ <;> simp [mj_up, mj_nw, h0]
  have hz : w = 52 → (∀ q, 53 ≤ q → q ≤ 76 → ∀ k, IA8 q k = 0) ∧ ∀ j, LA8 69 j = 0#64 := by
    intro e
    subst e
    refine ⟨fun q h1 h2 k => ?_, fun j => ?_⟩
    · rw [← hIA]
      rcases (show q = 53 ∨ q = 54 ∨ q = 55 ∨ q = 56 ∨ q = 57 ∨ q = 58 ∨ q = 59 ∨ q = 60 ∨ q = 61 ∨ q = 62 ∨ q = 63 ∨ q = 64 ∨ q = 65 ∨ q = 66 ∨ q = 67 ∨ q = 68 ∨ q = 69 ∨ q = 70 ∨ q = 71 ∨ q = 72 ∨ q = 73 ∨ q = 74 ∨ q = 75 ∨ q = 76 by omega) with e | e | e | e | e | e | e | e | e | e | e | e | e | e | e | e | e | e | e | e | e | e | e | e <;> subst e <;> simp [mj_nw]
    · rw [← hLA]
      simp [mj_nw]
  refine mj_Ct_of (by decide +kernel) (by decide) (Nat.le_of_ble_eq_true rfl) ?_
  refine mj_go z_M_init [203] 120 ?_
  refine And.intro (Nat.le_of_ble_eq_true rfl) ?_
  refine Exists.intro 8192 (And.intro (by decide) (And.intro (by decide) (And.intro f0 (And.intro ⟨show w < (w + 1) by omega, trivial⟩ (And.intro ⟨show w < (w + 1) by omega, trivial⟩ (And.intro (Nat.le_of_ble_eq_true rfl) (And.intro (Nat.le_of_ble_eq_true rfl) ?_)))))))
  refine And.intro ⟨show w < (w + 1) + 1 by omega, by rw [mj_nw_ne (by omega)]; exact h0⟩ ?_
  refine Exists.intro 8192 (And.intro (by decide) (And.intro (by decide) (And.intro f1 (And.intro ⟨show w < (w + 1 + 1) by omega, trivial⟩ (And.intro ⟨show w < (w + 1 + 1) by omega, trivial⟩ (And.intro (Nat.le_of_ble_eq_true rfl) (And.intro (Nat.le_of_ble_eq_true rfl) ?_)))))))
  refine And.intro ⟨show w < (w + 1 + 1) + 1 by omega, by rw [mj_nw_ne (by omega), mj_nw_ne (by omega)]; exact h0⟩ ?_
  refine Exists.intro 3 (And.intro (by decide) (And.intro (by decide) (And.intro f2 (And.intro ⟨show w < (w + 1 + 1 + 1) by omega, trivial⟩ (And.intro ⟨show w < (w + 1 + 1 + 1) by omega, trivial⟩ (And.intro (Nat.le_of_ble_eq_true rfl) (And.intro (Nat.le_of_ble_eq_true rfl) ?_)))))))
  refine And.intro ⟨show w < (w + 1 + 1 + 1) + 1 by omega, by rw [mj_nw_ne (by omega), mj_nw_ne (by omega), mj_nw_ne (by omega)]; exact h0⟩ ?_
  refine Exists.intro 3 (And.intro (by decide) (And.intro (by decide) (And.intro f3 (And.intro ⟨show w < (w + 1 + 1 + 1 + 1) by omega, trivial⟩ (And.intro ⟨show w < (w + 1 + 1 + 1 + 1) by omega, trivial⟩ (And.intro (Nat.le_of_ble_eq_true rfl) (And.intro (Nat.le_of_ble_eq_true rfl) ?_)))))))
  refine And.intro ⟨show w < (w + 1 + 1 + 1 + 1) + 1 by omega, by rw [mj_nw_ne (by omega), mj_nw_ne (by omega), mj_nw_ne (by omega), mj_nw_ne (by omega)]; exact h0⟩ ?_
  refine Exists.intro 3 (And.intro (by decide) (And.intro (by decide) (And.intro f4 (And.intro ⟨show w < (w + 1 + 1 + 1 + 1 + 1) by omega, trivial⟩ (And.intro ⟨show w < (w + 1 + 1 + 1 + 1 + 1) by omega, trivial⟩ (And.intro (Nat.le_of_ble_eq_true rfl) (And.intro (Nat.le_of_ble_eq_true rfl) ?_)))))))
  refine And.intro ⟨show w < (w + 1 + 1 + 1 + 1 + 1) + 1 by omega, by rw [mj_nw_ne (by omega), mj_nw_ne (by omega), mj_nw_ne (by omega), mj_nw_ne (by omega), mj_nw_ne (by omega)]; exact h0⟩ ?_
  refine Exists.intro 3 (And.intro (by decide) (And.intro (by decide) (And.intro f5 (And.intro ⟨show w < (w + 1 + 1 + 1 + 1 + 1 + 1) by omega, trivial⟩ (And.intro ⟨show w < (w + 1 + 1 + 1 + 1 + 1 + 1) by omega, trivial⟩ (And.intro (Nat.le_of_ble_eq_true rfl) (And.intro (Nat.le_of_ble_eq_true rfl) ?_)))))))
  refine And.intro ⟨show w < (w + 1 + 1 + 1 + 1 + 1 + 1) + 1 by omega, by rw [mj_nw_ne (by omega), mj_nw_ne (by omega), mj_nw_ne (by omega), mj_nw_ne (by omega), mj_nw_ne (by omega), mj_nw_ne (by omega)]; exact h0⟩ ?_
  refine Exists.intro 3 (And.intro (by decide) (And.intro (by decide) (And.intro f6 (And.intro ⟨show w < (w + 1 + 1 + 1 + 1 + 1 + 1 + 1) by omega, trivial⟩ (And.intro ⟨show w < (w + 1 + 1 + 1 + 1 + 1 + 1 + 1) by omega, trivial⟩ (And.intro (Nat.le_of_ble_eq_true rfl) (And.intro (Nat.le_of_ble_eq_true rfl) ?_)))))))
  refine And.intro ⟨show w < (w + 1 + 1 + 1 + 1 + 1 + 1 + 1) + 1 by omega, by rw [mj_nw_ne (by omega), mj_nw_ne (by omega), mj_nw_ne (by omega), mj_nw_ne (by omega), mj_nw_ne (by omega), mj_nw_ne (by omega), mj_nw_ne (by omega)]; exact h0⟩ ?_
  refine Exists.intro 3 (And.intro (by decide) (And.intro (by decide) (And.intro f7 (And.intro ⟨show w < (w + 1 + 1 + 1 + 1 + 1 + 1 + 1 + 1) by omega, trivial⟩ (And.intro ⟨show w < (w + 1 + 1 + 1 + 1 + 1 + 1 + 1 + 1) by omega, trivial⟩ (And.intro (Nat.le_of_ble_eq_true rfl) (And.intro (Nat.le_of_ble_eq_true rfl) ?_)))))))
  refine And.intro ⟨show w < (w + 1 + 1 + 1 + 1 + 1 + 1 + 1 + 1) + 1 by omega, by rw [mj_nw_ne (by omega), mj_nw_ne (by omega), mj_nw_ne (by omega), mj_nw_ne (by omega), mj_nw_ne (by omega), mj_nw_ne (by omega), mj_nw_ne (by omega), mj_nw_ne (by omega)]; exact h0⟩ ?_
  refine Exists.intro 42 (And.intro (by decide) (And.intro (by decide) (And.intro f8 (And.intro ⟨show w < (w + 1 + 1 + 1 + 1 + 1 + 1 + 1 + 1 + 1) by omega, trivial⟩ (And.intro ⟨show w < (w + 1 + 1 + 1 + 1 + 1 + 1 + 1 + 1 + 1) by omega, trivial⟩ (And.intro (Nat.le_of_ble_eq_true rfl) (And.intro (Nat.le_of_ble_eq_true rfl) ?_)))))))
  refine And.intro ⟨show w < (w + 1 + 1 + 1 + 1 + 1 + 1 + 1 + 1 + 1) + 1 by omega, by rw [mj_nw_ne (by omega), mj_nw_ne (by omega), mj_nw_ne (by omega), mj_nw_ne (by omega), mj_nw_ne (by omega), mj_nw_ne (by omega), mj_nw_ne (by omega), mj_nw_ne (by omega), mj_nw_ne (by omega)]; exact h0⟩ ?_
  refine Exists.intro 900 (And.intro (by decide) (And.intro (by decide) (And.intro f9 (And.intro ⟨show w < (w + 1 + 1 + 1 + 1 + 1 + 1 + 1 + 1 + 1 + 1) by omega, trivial⟩ (And.intro ⟨show w < (w + 1 + 1 + 1 + 1 + 1 + 1 + 1 + 1 + 1 + 1) by omega, trivial⟩ (And.intro (Nat.le_of_ble_eq_true rfl) (And.intro (Nat.le_of_ble_eq_true rfl) ?_)))))))
  refine And.intro ⟨show w < (w + 1 + 1 + 1 + 1 + 1 + 1 + 1 + 1 + 1 + 1) + 1 by omega, by rw [mj_nw_ne (by omega), mj_nw_ne (by omega), mj_nw_ne (by omega), mj_nw_ne (by omega), mj_nw_ne (by omega), mj_nw_ne (by omega), mj_nw_ne (by omega), mj_nw_ne (by omega), mj_nw_ne (by omega), mj_nw_ne (by omega)]; exact h0⟩ ?_
  refine Exists.intro 900 (And.intro (by decide) (And.intro (by decide) (And.intro f10 (And.intro ⟨show w < (w + 1 + 1 + 1 + 1 + 1 + 1 + 1 + 1 + 1 + 1 + 1) by omega, trivial⟩ (And.intro ⟨show w < (w + 1 + 1 + 1 + 1 + 1 + 1 + 1 + 1 + 1 + 1 + 1) by omega, trivial⟩ (And.intro (Nat.le_of_ble_eq_true rfl) (And.intro (Nat.le_of_ble_eq_true rfl) ?_)))))))
  refine And.intro ⟨show w < (w + 1 + 1 + 1 + 1 + 1 + 1 + 1 + 1 + 1 + 1 + 1) + 1 by omega, by rw [mj_nw_ne (by omega), mj_nw_ne (by omega), mj_nw_ne (by omega), mj_nw_ne (by omega), mj_nw_ne (by omega), mj_nw_ne (by omega), mj_nw_ne (by omega), mj_nw_ne (by omega), mj_nw_ne (by omega), mj_nw_ne (by omega), mj_nw_ne (by omega)]; exact h0⟩ ?_
  refine Exists.intro 900 (And.intro (by decide) (And.intro (by decide) (And.intro f11 (And.intro ⟨show w < (w + 1 + 1 + 1 + 1 + 1 + 1 + 1 + 1 + 1 + 1 + 1 + 1) by omega, trivial⟩ (And.intro ⟨show w < (w + 1 + 1 + 1 + 1 + 1 + 1 + 1 + 1 + 1 + 1 + 1 + 1) by omega, trivial⟩ (And.intro (Nat.le_of_ble_eq_true rfl) (And.intro (Nat.le_of_ble_eq_true rfl) ?_)))))))
  refine And.intro ⟨show w < (w + 1 + 1 + 1 + 1 + 1 + 1 + 1 + 1 + 1 + 1 + 1 + 1) + 1 by omega, by rw [mj_nw_ne (by omega), mj_nw_ne (by omega), mj_nw_ne (by omega), mj_nw_ne (by omega), mj_nw_ne (by omega), mj_nw_ne (by omega), mj_nw_ne (by omega), mj_nw_ne (by omega), mj_nw_ne (by omega), mj_nw_ne (by omega), mj_nw_ne (by omega), mj_nw_ne (by omega)]; exact h0⟩ ?_
  refine Exists.intro 48 (And.intro (by decide) (And.intro (by decide) (And.intro f12 (And.intro ⟨show w < (w + 1 + 1 + 1 + 1 + 1 + 1 + 1 + 1 + 1 + 1 + 1 + 1 + 1) by omega, trivial⟩ (And.intro ⟨show w < (w + 1 + 1 + 1 + 1 + 1 + 1 + 1 + 1 + 1 + 1 + 1 + 1 + 1) by omega, trivial⟩ (And.intro (Nat.le_of_ble_eq_true rfl) (And.intro (Nat.le_of_ble_eq_true rfl) ?_)))))))
  refine And.intro ⟨show w < (w + 1 + 1 + 1 + 1 + 1 + 1 + 1 + 1 + 1 + 1 + 1 + 1 + 1) + 1 by omega, by rw [mj_nw_ne (by omega), mj_nw_ne (by omega), mj_nw_ne (by omega), mj_nw_ne (by omega), mj_nw_ne (by omega), mj_nw_ne (by omega), mj_nw_ne (by omega), mj_nw_ne (by omega), mj_nw_ne (by omega), mj_nw_ne (by omega), mj_nw_ne (by omega), mj_nw_ne (by omega), mj_nw_ne (by omega)]; exact h0⟩ ?_
  refine Exists.intro 3003 (And.intro (by decide) (And.intro (by decide) (And.intro f13 (And.intro ⟨show w < (w + 1 + 1 + 1 + 1 + 1 + 1 + 1 + 1 + 1 + 1 + 1 + 1 + 1 + 1) by omega, trivial⟩ (And.intro ⟨show w < (w + 1 + 1 + 1 + 1 + 1 + 1 + 1 + 1 + 1 + 1 + 1 + 1 + 1 + 1) by omega, trivial⟩ (And.intro (Nat.le_of_ble_eq_true rfl) (And.intro (Nat.le_of_ble_eq_true rfl) ?_)))))))
  refine And.intro ⟨show w < (w + 1 + 1 + 1 + 1 + 1 + 1 + 1 + 1 + 1 + 1 + 1 + 1 + 1 + 1) + 1 by omega, by rw [mj_nw_ne (by omega), mj_nw_ne (by omega), mj_nw_ne (by omega), mj_nw_ne (by omega), mj_nw_ne (by omega), mj_nw_ne (by omega), mj_nw_ne (by omega), mj_nw_ne (by omega), mj_nw_ne (by omega), mj_nw_ne (by omega), mj_nw_ne (by omega), mj_nw_ne (by omega), mj_nw_ne (by omega), mj_nw_ne (by omega)]; exact h0⟩ ?_
  refine Exists.intro 945 (And.intro (by decide) (And.intro (by decide) (And.intro f14 (And.intro ⟨show w < (w + 1 + 1 + 1 + 1 + 1 + 1 + 1 + 1 + 1 + 1 + 1 + 1 + 1 + 1 + 1) by omega, trivial⟩ (And.intro ⟨show w < (w + 1 + 1 + 1 + 1 + 1 + 1 + 1 + 1 + 1 + 1 + 1 + 1 + 1 + 1 + 1) by omega, trivial⟩ (And.intro (Nat.le_of_ble_eq_true rfl) (And.intro (Nat.le_of_ble_eq_true rfl) ?_)))))))
  refine And.intro ⟨show w < (w + 1 + 1 + 1 + 1 + 1 + 1 + 1 + 1 + 1 + 1 + 1 + 1 + 1 + 1 + 1) + 1 by omega, by rw [mj_nw_ne (by omega), mj_nw_ne (by omega), mj_nw_ne (by omega), mj_nw_ne (by omega), mj_nw_ne (by omega), mj_nw_ne (by omega), mj_nw_ne (by omega), mj_nw_ne (by omega), mj_nw_ne (by omega), mj_nw_ne (by omega), mj_nw_ne (by omega), mj_nw_ne (by omega), mj_nw_ne (by omega), mj_nw_ne (by omega), mj_nw_ne (by omega)]; exact h0⟩ ?_
  refine Exists.intro 900 (And.intro (by decide) (And.intro (by decide) (And.intro f15 (And.intro ⟨show w < (w + 1 + 1 + 1 + 1 + 1 + 1 + 1 + 1 + 1 + 1 + 1 + 1 + 1 + 1 + 1 + 1) by omega, trivial⟩ (And.intro ⟨show w < (w + 1 + 1 + 1 + 1 + 1 + 1 + 1 + 1 + 1 + 1 + 1 + 1 + 1 + 1 + 1 + 1) by omega, trivial⟩ (And.intro (Nat.le_of_ble_eq_true rfl) (And.intro (Nat.le_of_ble_eq_true rfl) ?_)))))))
  refine And.intro ⟨show w < (w + 1 + 1 + 1 + 1 + 1 + 1 + 1 + 1 + 1 + 1 + 1 + 1 + 1 + 1 + 1 + 1) + 1 by omega, by rw [mj_nw_ne (by omega), mj_nw_ne (by omega), mj_nw_ne (by omega), mj_nw_ne (by omega), mj_nw_ne (by omega), mj_nw_ne (by omega), mj_nw_ne (by omega), mj_nw_ne (by omega), mj_nw_ne (by omega), mj_nw_ne (by omega), mj_nw_ne (by omega), mj_nw_ne (by omega), mj_nw_ne (by omega), mj_nw_ne (by omega), mj_nw_ne (by omega), mj_nw_ne (by omega)]; exact h0⟩ ?_
  refine Exists.intro 161280 (And.intro (by decide) (And.intro (by decide) (And.intro f16 (And.intro ⟨show w < (w + 1 + 1 + 1 + 1 + 1 + 1 + 1 + 1 + 1 + 1 + 1 + 1 + 1 + 1 + 1 + 1 + 1) by omega, trivial⟩ (And.intro ⟨show w < (w + 1 + 1 + 1 + 1 + 1 + 1 + 1 + 1 + 1 + 1 + 1 + 1 + 1 + 1 + 1 + 1 + 1) by omega, trivial⟩ (And.intro (Nat.le_of_ble_eq_true rfl) (And.intro (Nat.le_of_ble_eq_true rfl) ?_)))))))
  refine And.intro ⟨show w < (w + 1 + 1 + 1 + 1 + 1 + 1 + 1 + 1 + 1 + 1 + 1 + 1 + 1 + 1 + 1 + 1 + 1) + 1 by omega, by rw [mj_nw_ne (by omega), mj_nw_ne (by omega), mj_nw_ne (by omega), mj_nw_ne (by omega), mj_nw_ne (by omega), mj_nw_ne (by omega), mj_nw_ne (by omega), mj_nw_ne (by omega), mj_nw_ne (by omega), mj_nw_ne (by omega), mj_nw_ne (by omega), mj_nw_ne (by omega), mj_nw_ne (by omega), mj_nw_ne (by omega), mj_nw_ne (by omega), mj_nw_ne (by omega), mj_nw_ne (by omega)]; exact h0⟩ ?_
  refine Exists.intro 5 (And.intro (by decide) (And.intro (by decide) (And.intro f17 (And.intro ⟨show w < (w + 1 + 1 + 1 + 1 + 1 + 1 + 1 + 1 + 1 + 1 + 1 + 1 + 1 + 1 + 1 + 1 + 1 + 1) by omega, trivial⟩ (And.intro ⟨show w < (w + 1 + 1 + 1 + 1 + 1 + 1 + 1 + 1 + 1 + 1 + 1 + 1 + 1 + 1 + 1 + 1 + 1 + 1) by omega, trivial⟩ (And.intro (Nat.le_of_ble_eq_true rfl) (And.intro (Nat.le_of_ble_eq_true rfl) ?_)))))))
  refine And.intro ⟨show w < (w + 1 + 1 + 1 + 1 + 1 + 1 + 1 + 1 + 1 + 1 + 1 + 1 + 1 + 1 + 1 + 1 + 1 + 1) + 1 by omega, by rw [mj_nw_ne (by omega), mj_nw_ne (by omega), mj_nw_ne (by omega), mj_nw_ne (by omega), mj_nw_ne (by omega), mj_nw_ne (by omega), mj_nw_ne (by omega), mj_nw_ne (by omega), mj_nw_ne (by omega), mj_nw_ne (by omega), mj_nw_ne (by omega), mj_nw_ne (by omega), mj_nw_ne (by omega), mj_nw_ne (by omega), mj_nw_ne (by omega), mj_nw_ne (by omega), mj_nw_ne (by omega), mj_nw_ne (by omega)]; exact h0⟩ ?_
  refine Exists.intro 5 (And.intro (by decide) (And.intro (by decide) (And.intro f18 (And.intro ⟨show w < (w + 1 + 1 + 1 + 1 + 1 + 1 + 1 + 1 + 1 + 1 + 1 + 1 + 1 + 1 + 1 + 1 + 1 + 1 + 1) by omega, trivial⟩ (And.intro ⟨show w < (w + 1 + 1 + 1 + 1 + 1 + 1 + 1 + 1 + 1 + 1 + 1 + 1 + 1 + 1 + 1 + 1 + 1 + 1 + 1) by omega, trivial⟩ (And.intro (Nat.le_of_ble_eq_true rfl) (And.intro (Nat.le_of_ble_eq_true rfl) ?_)))))))
  refine And.intro ⟨show w < (w + 1 + 1 + 1 + 1 + 1 + 1 + 1 + 1 + 1 + 1 + 1 + 1 + 1 + 1 + 1 + 1 + 1 + 1 + 1) + 1 by omega, by rw [mj_nw_ne (by omega), mj_nw_ne (by omega), mj_nw_ne (by omega), mj_nw_ne (by omega), mj_nw_ne (by omega), mj_nw_ne (by omega), mj_nw_ne (by omega), mj_nw_ne (by omega), mj_nw_ne (by omega), mj_nw_ne (by omega), mj_nw_ne (by omega), mj_nw_ne (by omega), mj_nw_ne (by omega), mj_nw_ne (by omega), mj_nw_ne (by omega), mj_nw_ne (by omega), mj_nw_ne (by omega), mj_nw_ne (by omega), mj_nw_ne (by omega)]; exact h0⟩ ?_
  refine Exists.intro 315 (And.intro (by decide) (And.intro (by decide) (And.intro f19 (And.intro ⟨show w < (w + 1 + 1 + 1 + 1 + 1 + 1 + 1 + 1 + 1 + 1 + 1 + 1 + 1 + 1 + 1 + 1 + 1 + 1 + 1 + 1) by omega, trivial⟩ (And.intro ⟨show w < (w + 1 + 1 + 1 + 1 + 1 + 1 + 1 + 1 + 1 + 1 + 1 + 1 + 1 + 1 + 1 + 1 + 1 + 1 + 1 + 1) by omega, trivial⟩ (And.intro (Nat.le_of_ble_eq_true rfl) (And.intro (Nat.le_of_ble_eq_true rfl) ?_)))))))
  refine And.intro ⟨show w < (w + 1 + 1 + 1 + 1 + 1 + 1 + 1 + 1 + 1 + 1 + 1 + 1 + 1 + 1 + 1 + 1 + 1 + 1 + 1 + 1) + 1 by omega, by rw [mj_nw_ne (by omega), mj_nw_ne (by omega), mj_nw_ne (by omega), mj_nw_ne (by omega), mj_nw_ne (by omega), mj_nw_ne (by omega), mj_nw_ne (by omega), mj_nw_ne (by omega), mj_nw_ne (by omega), mj_nw_ne (by omega), mj_nw_ne (by omega), mj_nw_ne (by omega), mj_nw_ne (by omega), mj_nw_ne (by omega), mj_nw_ne (by omega), mj_nw_ne (by omega), mj_nw_ne (by omega), mj_nw_ne (by omega), mj_nw_ne (by omega), mj_nw_ne (by omega)]; exact h0⟩ ?_
  refine Exists.intro 315 (And.intro (by decide) (And.intro (by decide) (And.intro f20 (And.intro ⟨show w < (w + 1 + 1 + 1 + 1 + 1 + 1 + 1 + 1 + 1 + 1 + 1 + 1 + 1 + 1 + 1 + 1 + 1 + 1 + 1 + 1 + 1) by omega, trivial⟩ (And.intro ⟨show w < (w + 1 + 1 + 1 + 1 + 1 + 1 + 1 + 1 + 1 + 1 + 1 + 1 + 1 + 1 + 1 + 1 + 1 + 1 + 1 + 1 + 1) by omega, trivial⟩ (And.intro (Nat.le_of_ble_eq_true rfl) (And.intro (Nat.le_of_ble_eq_true rfl) ?_)))))))
  refine And.intro ⟨show w < (w + 1 + 1 + 1 + 1 + 1 + 1 + 1 + 1 + 1 + 1 + 1 + 1 + 1 + 1 + 1 + 1 + 1 + 1 + 1 + 1 + 1) + 1 by omega, by rw [mj_nw_ne (by omega), mj_nw_ne (by omega), mj_nw_ne (by omega), mj_nw_ne (by omega), mj_nw_ne (by omega), mj_nw_ne (by omega), mj_nw_ne (by omega), mj_nw_ne (by omega), mj_nw_ne (by omega), mj_nw_ne (by omega), mj_nw_ne (by omega), mj_nw_ne (by omega), mj_nw_ne (by omega), mj_nw_ne (by omega), mj_nw_ne (by omega), mj_nw_ne (by omega), mj_nw_ne (by omega), mj_nw_ne (by omega), mj_nw_ne (by omega), mj_nw_ne (by omega), mj_nw_ne (by omega)]; exact h0⟩ ?_
  refine Exists.intro 315 (And.intro (by decide) (And.intro (by decide) (And.intro f21 (And.intro ⟨show w < (w + 1 + 1 + 1 + 1 + 1 + 1 + 1 + 1 + 1 + 1 + 1 + 1 + 1 + 1 + 1 + 1 + 1 + 1 + 1 + 1 + 1 + 1) by omega, trivial⟩ (And.intro ⟨show w < (w + 1 + 1 + 1 + 1 + 1 + 1 + 1 + 1 + 1 + 1 + 1 + 1 + 1 + 1 + 1 + 1 + 1 + 1 + 1 + 1 + 1 + 1) by omega, trivial⟩ (And.intro (Nat.le_of_ble_eq_true rfl) (And.intro (Nat.le_of_ble_eq_true rfl) ?_)))))))
  refine And.intro ⟨show w < (w + 1 + 1 + 1 + 1 + 1 + 1 + 1 + 1 + 1 + 1 + 1 + 1 + 1 + 1 + 1 + 1 + 1 + 1 + 1 + 1 + 1 + 1) + 1 by omega, by rw [mj_nw_ne (by omega), mj_nw_ne (by omega), mj_nw_ne (by omega), mj_nw_ne (by omega), mj_nw_ne (by omega), mj_nw_ne (by omega), mj_nw_ne (by omega), mj_nw_ne (by omega), mj_nw_ne (by omega), mj_nw_ne (by omega), mj_nw_ne (by omega), mj_nw_ne (by omega), mj_nw_ne (by omega), mj_nw_ne (by omega), mj_nw_ne (by omega), mj_nw_ne (by omega), mj_nw_ne (by omega), mj_nw_ne (by omega), mj_nw_ne (by omega), mj_nw_ne (by omega), mj_nw_ne (by omega), mj_nw_ne (by omega)]; exact h0⟩ ?_
  refine Exists.intro 315 (And.intro (by decide) (And.intro (by decide) (And.intro f22 (And.intro ⟨show w < (w + 1 + 1 + 1 + 1 + 1 + 1 + 1 + 1 + 1 + 1 + 1 + 1 + 1 + 1 + 1 + 1 + 1 + 1 + 1 + 1 + 1 + 1 + 1) by omega, trivial⟩ (And.intro ⟨show w < (w + 1 + 1 + 1 + 1 + 1 + 1 + 1 + 1 + 1 + 1 + 1 + 1 + 1 + 1 + 1 + 1 + 1 + 1 + 1 + 1 + 1 + 1 + 1) by omega, trivial⟩ (And.intro (Nat.le_of_ble_eq_true rfl) (And.intro (Nat.le_of_ble_eq_true rfl) ?_)))))))
  refine And.intro ⟨show w < (w + 1 + 1 + 1 + 1 + 1 + 1 + 1 + 1 + 1 + 1 + 1 + 1 + 1 + 1 + 1 + 1 + 1 + 1 + 1 + 1 + 1 + 1 + 1) + 1 by omega, by rw [mj_nw_ne (by omega), mj_nw_ne (by omega), mj_nw_ne (by omega), mj_nw_ne (by omega), mj_nw_ne (by omega), mj_nw_ne (by omega), mj_nw_ne (by omega), mj_nw_ne (by omega), mj_nw_ne (by omega), mj_nw_ne (by omega), mj_nw_ne (by omega), mj_nw_ne (by omega), mj_nw_ne (by omega), mj_nw_ne (by omega), mj_nw_ne (by omega), mj_nw_ne (by omega), mj_nw_ne (by omega), mj_nw_ne (by omega), mj_nw_ne (by omega), mj_nw_ne (by omega), mj_nw_ne (by omega), mj_nw_ne (by omega), mj_nw_ne (by omega)]; exact h0⟩ ?_
  refine Exists.intro 315 (And.intro (by decide) (And.intro (by decide) (And.intro f23 (And.intro ⟨show w < (w + 1 + 1 + 1 + 1 + 1 + 1 + 1 + 1 + 1 + 1 + 1 + 1 + 1 + 1 + 1 + 1 + 1 + 1 + 1 + 1 + 1 + 1 + 1 + 1) by omega, trivial⟩ (And.intro ⟨show w < (w + 1 + 1 + 1 + 1 + 1 + 1 + 1 + 1 + 1 + 1 + 1 + 1 + 1 + 1 + 1 + 1 + 1 + 1 + 1 + 1 + 1 + 1 + 1 + 1) by omega, trivial⟩ (And.intro (Nat.le_of_ble_eq_true rfl) (And.intro (Nat.le_of_ble_eq_true rfl) ?_)))))))
  refine And.intro ⟨show w < (w + 1 + 1 + 1 + 1 + 1 + 1 + 1 + 1 + 1 + 1 + 1 + 1 + 1 + 1 + 1 + 1 + 1 + 1 + 1 + 1 + 1 + 1 + 1 + 1) + 1 by omega, by rw [mj_nw_ne (by omega), mj_nw_ne (by omega), mj_nw_ne (by omega), mj_nw_ne (by omega), mj_nw_ne (by omega), mj_nw_ne (by omega), mj_nw_ne (by omega), mj_nw_ne (by omega), mj_nw_ne (by omega), mj_nw_ne (by omega), mj_nw_ne (by omega), mj_nw_ne (by omega), mj_nw_ne (by omega), mj_nw_ne (by omega), mj_nw_ne (by omega), mj_nw_ne (by omega), mj_nw_ne (by omega), mj_nw_ne (by omega), mj_nw_ne (by omega), mj_nw_ne (by omega), mj_nw_ne (by omega), mj_nw_ne (by omega), mj_nw_ne (by omega), mj_nw_ne (by omega)]; exact h0⟩ ?_
  rw [hsh, hFR, hIA, hLA]
  have hM1 := hM hw
  have hz1 := hz hw
  clear hM hz
  have hfin : isM sh8 FR8 77 ∧ mj_scF 77 FR8 := ⟨hM1, by subst hw; exact f24⟩
  clear f0 f1 f2 f3 f4 f5 f6 f7 f8 f9 f10 f11 f12 f13 f14 f15 f16 f17 f18 f19 f20 f21 f22 f23 f24 hsh hFR hIA hLA
  subst hw
  refine mi_loop (IA := IA8) (n := 77) hM1 (fun J a b d => ?_) 3 0 IA8 _ (by omega) (fun z => absurd z (by decide)) (fun _ _ _ => rfl) (hz1.1 60 (by decide) (by decide)) (fun d u hd hu => by rw [hz1.1 66 (by decide) (by decide), if_neg (by omega)])
  refine mj_go z_M_init [] 60 ?_
  refine ⟨⟨rfl, rfl, hM1, hfin.2, fun q hq => ?_, fun k => ?_, fun q h1 h2 h3 k => ?_, fun c hc => ⟨?_, fun v v1 v2 => ?_⟩, hz1.2⟩, Nat.le_of_ble_eq_true rfl, Nat.le_of_ble_eq_true rfl⟩
  · have := low q (by omega)
    exact ⟨this.1, this.2.2.2 (by omega), by rw [a q (by omega) (by omega)]; exact this.2.1, this.2.2.1⟩
  · rw [a 52 (by decide) (by decide), (low 52 (by decide)).2.1]
    exact hI k
  · by_cases e : q = 60
    · subst e
      exact b k
    · rw [a q e h3]
      exact hz1.1 q h1 h2 k
  · have := d c 0 hc (by decide)
    rw [Nat.add_zero] at this
    rw [this, if_neg (by omega)]
  · rw [d c v hc v2, if_pos (by omega)]
end KK
