/-! WRITER: numberGates -/
theorem nt_wl_pre {IA : mj_FI} {b : Nat} (v : Nat) : ∀ t, ∃ r, nt_wl IA b (v + t) = nt_wl IA b v ++ r
  | 0 => ⟨[], by simp⟩
  | t + 1 => by
    obtain ⟨r, hr⟩ := nt_wl_pre v t
    have e0 : nt_wl IA b (v + t + 1) = if IA b 10 < IA (b + 1) (v + t + 1) then nt_wl IA b (v + t) ++ [(IA (b + 1) (v + t + 1)).toNat] else nt_wl IA b (v + t) := rfl
    show ∃ r, nt_wl IA b (v + t + 1) = _
    rw [e0, hr]
    split
    · exact ⟨r ++ [_], by rw [List.append_assoc]⟩
    · exact ⟨r, rfl⟩
theorem wr_rk_pre {N D ow : Nat → Int} {p r : List Nat} {s : Nat} (hpw : (p ++ s :: r).Pairwise (fun a c => ow a < ow c)) : wr_rk N D ow (p ++ s :: r) s = wr_ct (wr_pl N D (D s)) (p ++ s :: r) + wr_ct (wr_pe N D (D s)) p := by
  rw [List.pairwise_append] at hpw
  obtain ⟨_, h1, h2⟩ := hpw
  have h3 : ∀ x, x ∈ r → ow s < ow x := fun x hx => List.rel_of_pairwise_cons h1 hx
  unfold wr_rk
  rw [wr_ct_or (P := wr_pl N D (D s)) (Q := fun g => decide (N g = 1) && decide (D g = D s ∧ ow g < ow s)) (p ++ s :: r) (fun x _ => ?_)]
  · congr 1
    rw [wr_ct_app, wr_ct_0 (l := s :: r) (fun x hx => ?_), Nat.add_zero]
    · refine wr_ct_congr fun x hx => ?_
      have := h2 x hx s List.mem_cons_self
      unfold wr_pe
      congr 1
      rw [decide_eq_decide]
      exact ⟨fun z => z.1, fun z => ⟨z, this⟩⟩
    · have : ¬ ow x < ow s := by
        rcases List.mem_cons.mp hx with e | e
        · subst e
          omega
        · have := h3 x e
          omega
      simp [this]
  · unfold wr_pl wr_lt
    by_cases hn : N x = 1
    · by_cases h4 : D x < D s
      · have h5 : ¬ D x = D s := by omega
        simp [hn, h4, h5]
      · simp [hn, h4]
    · simp [hn]
section WW
variable {sh : mj_Sh} {FR : mj_FR} {IA : mj_FI} {LA : mj_LA} {n w b : Nat}
/-- the numbers of the text -/
def wr_U (IA J : mj_FI) (w b I m : Nat) : Prop := (∀ s, s ≤ I → J (w + 4) s = (s : Int)) ∧ ∀ s ∈ nt_wl IA b m, IA (w + 3) s = 1 → J (w + 4) s = ((I + 1 + wr_rk (IA (w + 3)) (IA (w + 2)) (IA (b + 2)) (nt_wl IA b m) s : Nat) : Int) ∧ J (w + 5) (I + 1 + wr_rk (IA (w + 3)) (IA (w + 2)) (IA (b + 2)) (nt_wl IA b m) s) = (s : Int)
set_option maxHeartbeats 2000000 in
theorem ct_W_numberGates (h : isW sh FR n w) (hN : isNet sh FR n b) (ha : b + 8 < w ∨ w + 6 < b) {m I O G : Nat} (hnW : nW IA b m I O G) (hn : ∀ s, s < 315 → IA (w + 3) s = 0 ∨ IA (w + 3) s = 1) (hd : ∀ s, s < 315 → 0 ≤ IA (w + 2) s ∧ IA (w + 2) s ≤ 300) :
    mj_Ct m_W_numberGates [.inr (.inr (.inl w)), .inr (.inr (.inl b))] sh FR IA LA n (mj_po (fun o J => o = .inl none ∧ (∀ q, q ≠ w → q ≠ w + 4 → q ≠ w + 5 → q ≠ w + 6 → J q = IA q) ∧ (∀ k, k ≠ 8 → J w k = IA w k) ∧ J w 8 = ((wr_ct (wr_pn (IA (w + 3))) (nt_wl IA b m) : Nat) : Int) ∧ wr_U IA J w b I m) sh FR LA n) := by
  have hW := h
  obtain ⟨h0, r1, r2, r3, r4, r5, r6, a1, a2, a3, a4, a5, a6⟩ := h
  obtain ⟨nd1, nd2⟩ := nt_wl_G hnW
  have hpw := nt_wl_pw hnW m (Nat.le_refl _)
  have hg := fun s => nt_wl_g (s := s) hnW
  have hso := hnW.so
  obtain ⟨w1, w2, w3, w4, w5, w6, w7, w8, w9, w10, w11, w12⟩ := id hnW
  have hlist : ∀ P : Nat → Bool, wr_ct P (wr_gl I G) = wr_ct P (nt_wl IA b m) := fun P => wr_ct_eq (wr_gl_nd G) nd1 (fun x => by rw [wr_gl_mem, hg]; rfl)
  generalize hQ : mj_po (fun o J => o = .inl none ∧ (∀ q, q ≠ w → q ≠ w + 4 → q ≠ w + 5 → q ≠ w + 6 → J q = IA q) ∧ (∀ k, k ≠ 8 → J w k = IA w k) ∧ J w 8 = ((wr_ct (wr_pn (IA (w + 3))) (nt_wl IA b m) : Nat) : Int) ∧ wr_U IA J w b I m) sh FR LA n = Q
  generalize hrk : wr_rk (IA (w + 3)) (IA (w + 2)) (IA (b + 2)) (nt_wl IA b m) = rk
  have hrk2 : ∀ s, wr_rk (IA (w + 3)) (IA (w + 2)) (IA (b + 2)) (nt_wl IA b m) s = rk s := fun s => by rw [hrk]
  have ctb : ∀ P : Nat → Bool, wr_ct P (nt_wl IA b m) ≤ 300 := fun P => by
    have := wr_ct_le (P := P) (l := nt_wl IA b m)
    omega
  have loop2 : ∀ (t v : Nat) (J : mj_FI) (x : Option mj_V), v + t = m → (∀ q, q ≠ w → q ≠ w + 4 → q ≠ w + 5 → q ≠ w + 6 → J q = IA q) → (∀ k, k ≠ 8 → J w k = IA w k) → J w 8 = ((wr_ct (wr_pn (IA (w + 3))) (nt_wl IA b m) : Nat) : Int) →
      (∀ s, s ≤ I → J (w + 4) s = (s : Int)) → (∀ d : Nat, d ≤ 300 → J (w + 6) d = ((wr_ct (wr_pl (IA (w + 3)) (IA (w + 2)) d) (nt_wl IA b m) + wr_ct (wr_pe (IA (w + 3)) (IA (w + 2)) d) (nt_wl IA b v) : Nat) : Int)) → (∀ s ∈ nt_wl IA b v, IA (w + 3) s = 1 → J (w + 4) s = ((I + 1 + rk s : Nat) : Int) ∧ J (w + 5) (I + 1 + rk s) = (s : Int)) →
      mj_G m_W_numberGates Q 30 [some (.inr (.inr (.inl w))), some (.inr (.inr (.inl b))), some (.inl ((v + 1 : Nat) : Int)), x] [] sh FR J LA n 0 0 := by
    intro t
    induction t with
    | zero =>
      intro v J x hv f1 f2 f3 f4 f5 f6
      have hv : v = m := by omega
      subst hv
      subst hQ
      have hb0 : J b = IA b := f1 b (by omega) (by omega) (by omega) (by omega)
      refine mj_go z_W_numberGates [30] 60 ?_
      refine And.intro hN.1 ?_
      rw [hb0, w6]
      refine And.intro (fun d => ?_) (fun d => ?_)
      · refine ⟨⟨rfl, rfl, rfl, rfl, rfl, f1, f2, f3, f4, fun s hs h1 => ?_⟩, Nat.le_of_ble_eq_true rfl, Nat.le_of_ble_eq_true rfl⟩
        rw [hrk2]
        exact f6 s hs h1
      · simp (disch := (clear d; omega)) only [mj_w_id] at d
        omega
    | succ t ih =>
      intro v J x hv f1 f2 f3 f4 f5 f6
      have hb0 : J b = IA b := f1 b (by omega) (by omega) (by omega) (by omega)
      have hb1 : J (b + 1) = IA (b + 1) := f1 _ (by omega) (by omega) (by omega) (by omega)
      have jr2 : J (w + 2) = IA (w + 2) := f1 _ (by omega) (by omega) (by omega) (by omega)
      have jr3 : J (w + 3) = IA (w + 3) := f1 _ (by omega) (by omega) (by omega) (by omega)
      have q0 := hso (v + 1) (by omega)
      have e0 : nt_wl IA b (v + 1) = if IA b 10 < IA (b + 1) (v + 1) then nt_wl IA b v ++ [(IA (b + 1) (v + 1)).toNat] else nt_wl IA b v := rfl
      rw [w7] at e0
      have skip : ∀ x : Option mj_V, wr_ct (fun g => decide (IA (w + 3) g = 1)) (nt_wl IA b (v + 1)) = wr_ct (fun g => decide (IA (w + 3) g = 1)) (nt_wl IA b v) → (∃ r, nt_wl IA b (v + 1) = nt_wl IA b v ++ r ∧ ∀ s ∈ r, ¬ IA (w + 3) s = 1) → mj_G m_W_numberGates Q 113 [some (.inr (.inr (.inl w))), some (.inr (.inr (.inl b))), some (.inl ((v + 1 : Nat) : Int)), x] [] sh FR J LA n 0 0 := by
        intro x _ hr
        obtain ⟨r, r1, r2⟩ := hr
        refine mj_go z_W_numberGates [30] 60 ?_
        refine Exists.intro (((v + 1 + 1 : Nat) : Int)) (And.intro (by first | (rw [mj_w_id (by omega) (by omega)]; done) | (rw [mj_w_id (by omega) (by omega)]; omega) | (unfold mj_w; omega)) ?_)
        refine ih (v + 1) J x (by omega) f1 f2 f3 f4 (fun d hd' => ?_) (fun s hs h1 => ?_)
        · have hz : wr_ct (wr_pe (IA (w + 3)) (IA (w + 2)) d) r = 0 := wr_ct_0 fun y hy => by
            unfold wr_pe
            simp [r2 y hy]
          rw [f5 d hd', r1, wr_ct_app, hz]
          rfl
        · rw [r1] at hs
          rcases List.mem_append.mp hs with z | z
          · exact f6 s z h1
          · exact absurd h1 (r2 s z)
      refine mj_go z_W_numberGates [30, 113] 60 ?_
      refine And.intro hN.1 ?_
      rw [hb0, w6]
      refine And.intro (fun d => ?_) (fun d => ?_)
      · simp (disch := (clear d; omega)) only [mj_w_id] at d
        omega
      · clear d
        refine And.intro hN.1 (Exists.intro _ (And.intro hN.2.1 ?_))
        refine Exists.intro _ (Exists.intro (v + 1) (And.intro hN.2.2.2.2.2.2.2.2.2.1 (And.intro (by first | (rw [mj_w_id (by omega) (by omega)]; done) | (rw [mj_w_id (by omega) (by omega)]; omega) | (unfold mj_w; omega)) (And.intro (by omega) ?_))))
        rw [hb1]
        refine And.intro hN.1 (And.intro (Nat.le_of_ble_eq_true rfl) (And.intro (Nat.le_of_ble_eq_true rfl) (And.intro (Nat.le_of_ble_eq_true rfl) (Exists.intro _ (And.intro (ct_N_isGate (IA := J) hN (by omega) (by omega) (by rw [hb0]; omega) (by rw [hb0]; omega)) ?_)))))
        rintro r9 sh9 FR9 IA9 LA9 n9 ⟨z0, z1, z2, z3, z4, z5⟩
        subst z0
        replace z1 := z1.symm
        subst z1
        replace z2 := z2.symm
        subst z2
        replace z3 := z3.symm
        subst z3
        replace z4 := z4.symm
        subst z4
        replace z5 := z5.symm
        subst z5
        refine And.intro (Or.inl rfl) ?_
        rw [hb0, w7]
        by_cases hgate : (I : Int) < IA (b + 1) (v + 1)
        · rw [if_pos hgate] at e0 ⊢
          generalize hsv : (IA (b + 1) (v + 1)).toNat = s at e0
          have hsI : IA (b + 1) (v + 1) = (s : Int) := by omega
          rw [hsI]
          have s315 : s < 315 := by omega
          refine And.intro (fun d => ?_) (fun d => ?_)
          · exact absurd d (by decide)
          · clear d
            refine And.intro h0 (Exists.intro _ (And.intro r3 ?_))
            refine Exists.intro _ (Exists.intro (s) (And.intro a3 (And.intro (by first | (rw [mj_w_id (by omega) (by omega)]; done) | (rw [mj_w_id (by omega) (by omega)]; omega) | (unfold mj_w; omega)) (And.intro (by omega) ?_))))
            rw [jr3]
            rcases hn s s315 with q | q
            · rw [q]
              refine And.intro (fun d => ?_) (fun d => ?_)
              · clear d
                refine skip _ ?_ ⟨[s], e0, fun y hy => ?_⟩
                · rw [e0, wr_ct_app, wr_ct_one, q]
                  simp
                · have : y = s := by simpa using hy
                  subst this
                  omega
              · exact absurd (show mj_w 0 = 0 by decide) d
            · rw [q]
              obtain ⟨r, hr⟩ := nt_wl_pre (IA := IA) (b := b) (v + 1) t
              rw [show v + 1 + t = m by omega, e0, List.append_assoc] at hr
              have hr : nt_wl IA b m = nt_wl IA b v ++ s :: r := hr
              have hsm : s ∈ nt_wl IA b m := by rw [hr]; simp
              have D1 := hd s s315
              have hk : rk s = wr_ct (wr_pl (IA (w + 3)) (IA (w + 2)) (IA (w + 2) s)) (nt_wl IA b m) + wr_ct (wr_pe (IA (w + 3)) (IA (w + 2)) (IA (w + 2) s)) (nt_wl IA b v) := by
                rw [← hrk2 s, hr]
                exact wr_rk_pre (by rw [← hr]; exact hpw)
              have h6 := f5 (IA (w + 2) s).toNat (by omega)
              rw [show (((IA (w + 2) s).toNat : Nat) : Int) = IA (w + 2) s by omega, ← hk] at h6
              have hrn : rk s < 300 := by
                have h7 := wr_rk_n (D := IA (w + 2)) (ow := IA (b + 2)) nd1 hsm q
                rw [hrk2] at h7
                have := ctb (fun g => decide (IA (w + 3) g = 1))
                omega
              have hnsv : ¬ s ∈ nt_wl IA b v := by
                intro z
                rw [hr, List.nodup_append] at nd1
                exact nd1.2.2 s z s List.mem_cons_self rfl
              have hinj : ∀ g ∈ nt_wl IA b v, IA (w + 3) g = 1 → rk g ≠ rk s := by
                intro g hg1 hg2 e
                have := wr_rk_inj (D := IA (w + 2)) nd1 hpw (by rw [hr]; exact List.mem_append_left _ hg1) hsm hg2 q (by rw [hrk2, hrk2]; exact e)
                subst this
                exact hnsv hg1
              have hsg : I + 1 ≤ s := by
                have := (hg s).mp hsm
                unfold lf_g at this
                omega
              refine And.intro (fun d => ?_) (fun d => ?_)
              · exact absurd d (by decide)
              · clear d
                refine And.intro h0 (Exists.intro _ (And.intro r4 ?_))
                refine And.intro hN.1 ?_
                rw [hb0, w7]
                refine Exists.intro (((I + 1 : Nat) : Int)) (And.intro (by first | (rw [mj_w_id (by omega) (by omega)]; done) | (rw [mj_w_id (by omega) (by omega)]; omega) | (unfold mj_w; omega)) ?_)
                refine And.intro h0 (Exists.intro _ (And.intro r6 ?_))
                refine And.intro h0 (Exists.intro _ (And.intro r2 ?_))
                refine Exists.intro _ (Exists.intro (s) (And.intro a2 (And.intro (by first | (rw [mj_w_id (by omega) (by omega)]; done) | (rw [mj_w_id (by omega) (by omega)]; omega) | (unfold mj_w; omega)) (And.intro (by omega) ?_))))
                rw [jr2]
                refine Exists.intro _ (Exists.intro ((IA (w + 2) s).toNat) (And.intro a6 (And.intro (by first | (rw [mj_w_id (by omega) (by omega)]; done) | (rw [mj_w_id (by omega) (by omega)]; omega) | (unfold mj_w; omega)) (And.intro (by omega) ?_))))
                rw [h6]
                refine Exists.intro (((I + 1 + rk s : Nat) : Int)) (And.intro (by first | (rw [mj_w_id (by omega) (by omega)]; done) | (rw [mj_w_id (by omega) (by omega)]; omega) | (unfold mj_w; omega)) ?_)
                refine Exists.intro _ (Exists.intro (s) (And.intro a4 (And.intro (by first | (rw [mj_w_id (by omega) (by omega)]; done) | (rw [mj_w_id (by omega) (by omega)]; omega) | (unfold mj_w; omega)) (And.intro (by omega) ?_))))
                refine And.intro h0 (Exists.intro _ (And.intro r6 ?_))
                refine And.intro h0 (Exists.intro _ (And.intro r2 ?_))
                refine Exists.intro _ (Exists.intro (s) (And.intro a2 (And.intro (by first | (rw [mj_w_id (by omega) (by omega)]; done) | (rw [mj_w_id (by omega) (by omega)]; omega) | (unfold mj_w; omega)) (And.intro (by omega) ?_))))
                rw [mj_up_ne (show w + 2 ≠ w + 4 by omega), jr2]
                refine And.intro rfl (And.intro rfl ?_)
                refine Exists.intro _ (Exists.intro ((IA (w + 2) s).toNat) (And.intro a6 (And.intro (by first | (rw [mj_w_id (by omega) (by omega)]; done) | (rw [mj_w_id (by omega) (by omega)]; omega) | (unfold mj_w; omega)) (And.intro (by omega) ?_))))
                rw [mj_up_ne (show w + 6 ≠ w + 4 by omega), h6]
                refine Exists.intro (((rk s + 1 : Nat) : Int)) (And.intro (by first | (rw [mj_w_id (by omega) (by omega)]; done) | (rw [mj_w_id (by omega) (by omega)]; omega) | (unfold mj_w; omega)) ?_)
                refine Exists.intro _ (Exists.intro ((IA (w + 2) s).toNat) (And.intro a6 (And.intro (by first | (rw [mj_w_id (by omega) (by omega)]; done) | (rw [mj_w_id (by omega) (by omega)]; omega) | (unfold mj_w; omega)) (And.intro (by omega) ?_))))
                refine And.intro h0 (Exists.intro _ (And.intro r5 ?_))
                refine And.intro h0 (Exists.intro _ (And.intro r4 ?_))
                refine Exists.intro _ (Exists.intro (s) (And.intro a4 (And.intro (by first | (rw [mj_w_id (by omega) (by omega)]; done) | (rw [mj_w_id (by omega) (by omega)]; omega) | (unfold mj_w; omega)) (And.intro (by omega) ?_))))
                rw [mj_up_ne (show w + 4 ≠ w + 6 by omega), mj_up_at]
                refine Exists.intro _ (Exists.intro (I + 1 + rk s) (And.intro a5 (And.intro (by first | (rw [mj_w_id (by omega) (by omega)]; done) | (rw [mj_w_id (by omega) (by omega)]; omega) | (unfold mj_w; omega)) (And.intro (by omega) ?_))))
                refine mj_go z_W_numberGates [30] 60 ?_
                refine Exists.intro (((v + 1 + 1 : Nat) : Int)) (And.intro (by first | (rw [mj_w_id (by omega) (by omega)]; done) | (rw [mj_w_id (by omega) (by omega)]; omega) | (unfold mj_w; omega)) ?_)
                refine ih (v + 1) _ _ (by omega) (fun q h1 h2 h3 h4 => by rw [mj_up_ne h3, mj_up_ne h4, mj_up_ne h2]; exact f1 q h1 h2 h3 h4) (fun k hk => by rw [mj_up_ne (by omega), mj_up_ne (by omega), mj_up_ne (by omega)]; exact f2 k hk) (by rw [mj_up_ne (by omega), mj_up_ne (by omega), mj_up_ne (by omega)]; exact f3) (fun g hg1 => ?_) (fun d hd' => ?_) (fun g hg1 hg2 => ?_)
                · rw [mj_up_ne (by omega), mj_up_ne (by omega), mj_up_row, mj_u_ne (by omega)]
                  exact f4 g hg1
                · rw [mj_up_ne (by omega), mj_up_row, mj_up_ne (by omega), e0, wr_ct_app, wr_ct_one]
                  unfold mj_u
                  by_cases e : d = (IA (w + 2) s).toNat
                  · have e2 : (d : Int) = IA (w + 2) s := by omega
                    rw [if_pos e, e2]
                    have e3 : wr_pe (IA (w + 3)) (IA (w + 2)) (IA (w + 2) s) s = true := by
                      unfold wr_pe
                      simp [q]
                    rw [e3, if_pos rfl]
                    omega
                  · have e3 : ¬ wr_pe (IA (w + 3)) (IA (w + 2)) d s = true := by
                      unfold wr_pe
                      simp only [Bool.and_eq_true, decide_eq_true_eq]
                      omega
                    rw [if_neg e, if_neg e3, Nat.add_zero]
                    exact f5 d hd'
                · rw [e0] at hg1
                  rw [mj_up_row, mj_up_ne (show w + 4 ≠ w + 5 by omega), mj_up_ne (show w + 4 ≠ w + 6 by omega), mj_up_row, mj_up_ne (show w + 5 ≠ w + 6 by omega), mj_up_ne (show w + 5 ≠ w + 4 by omega)]
                  rcases List.mem_append.mp hg1 with z | z
                  · rw [mj_u_ne (show g ≠ s by intro e; subst e; exact hnsv z), mj_u_ne (show I + 1 + rk g ≠ I + 1 + rk s by have := hinj g z hg2; omega)]
                    exact f6 g z hg2
                  · have : g = s := by simpa using z
                    subst this
                    rw [mj_u_at, mj_u_at]
                    exact ⟨rfl, rfl⟩
        · rw [if_neg hgate] at e0 ⊢
          refine And.intro (fun d => ?_) (fun d => ?_)
          · clear d
            exact skip _ (by rw [e0]) ⟨[], by rw [e0]; simp, fun y hy => by simp at hy⟩
          · exact absurd (show mj_w 0 = 0 by decide) d
  have loop1 : ∀ (t i : Nat) (J : mj_FI), i + t = I + 1 → (∀ q, q ≠ w → q ≠ w + 4 → q ≠ w + 5 → q ≠ w + 6 → J q = IA q) → (∀ k, k ≠ 8 → J w k = IA w k) → J w 8 = ((wr_ct (wr_pn (IA (w + 3))) (nt_wl IA b m) : Nat) : Int) → (∀ s, s < i → J (w + 4) s = (s : Int)) → (∀ d : Nat, d ≤ 300 → J (w + 6) d = ((wr_ct (wr_pl (IA (w + 3)) (IA (w + 2)) d) (nt_wl IA b m) : Nat) : Int)) →
      mj_G m_W_numberGates Q 7 [some (.inr (.inr (.inl w))), some (.inr (.inr (.inl b))), some (.inl i), none] [] sh FR J LA n 0 0 := by
    intro t
    induction t with
    | zero =>
      intro i J hi f1 f2 f3 f4 f5
      have hb0 : J b = IA b := f1 b (by omega) (by omega) (by omega) (by omega)
      refine mj_go z_W_numberGates [7, 30] 60 ?_
      refine And.intro hN.1 ?_
      rw [hb0, w7]
      refine And.intro (fun d => ?_) (fun d => ?_)
      · exact loop2 m 0 J none (by omega) f1 f2 f3 (fun s hs => f4 s (by omega)) (fun d hd' => by rw [f5 d hd']; rfl) (fun s hs => by simp [nt_wl] at hs)
      · simp (disch := (clear d; omega)) only [mj_w_id] at d
        omega
    | succ t ih =>
      intro i J hi f1 f2 f3 f4 f5
      have hb0 : J b = IA b := f1 b (by omega) (by omega) (by omega) (by omega)
      refine mj_go z_W_numberGates [7, 30] 60 ?_
      refine And.intro hN.1 ?_
      rw [hb0, w7]
      refine And.intro (fun d => ?_) (fun d => ?_)
      · simp (disch := (clear d; omega)) only [mj_w_id] at d
        omega
      · clear d
        refine And.intro h0 (Exists.intro _ (And.intro r4 ?_))
        refine Exists.intro _ (Exists.intro (i) (And.intro a4 (And.intro (by first | (rw [mj_w_id (by omega) (by omega)]; done) | (rw [mj_w_id (by omega) (by omega)]; omega) | (unfold mj_w; omega)) (And.intro (by omega) ?_))))
        refine Exists.intro (((i + 1 : Nat) : Int)) (And.intro (by first | (rw [mj_w_id (by omega) (by omega)]; done) | (rw [mj_w_id (by omega) (by omega)]; omega) | (unfold mj_w; omega)) ?_)
        refine ih (i + 1) _ (by omega) (fun q h1 h2 h3 h4 => by rw [mj_up_ne h2]; exact f1 q h1 h2 h3 h4) (fun k hk => by rw [mj_up_ne (by omega)]; exact f2 k hk) (by rw [mj_up_ne (by omega)]; exact f3) (fun s hs => ?_) (fun d hd' => by rw [mj_up_ne (by omega)]; exact f5 d hd')
        rw [mj_up_row]
        unfold mj_u
        split
        · omega
        · exact f4 s (by omega)
  refine mj_Ct_of (by decide +kernel) (by decide) (Nat.le_of_ble_eq_true rfl) ?_
  refine mj_go z_W_numberGates [7] 60 ?_
  refine And.intro h0 (And.intro (Nat.le_of_ble_eq_true rfl) (And.intro (Nat.le_of_ble_eq_true rfl) (And.intro (Nat.le_of_ble_eq_true rfl) (Exists.intro _ (And.intro (ct_W_countDepths hW hN ha w7 w8 w2 w4 hn hd) ?_)))))
  rintro o1 sh9 FR9 J1 LA9 n9 ⟨z1, z2, z3, z4, hp1⟩
  replace z1 := z1.symm
  subst z1
  replace z2 := z2.symm
  subst z2
  replace z3 := z3.symm
  subst z3
  replace z4 := z4.symm
  subst z4
  obtain ⟨ho, g1, g2, g3, g4⟩ := hp1
  subst ho
  refine And.intro (Or.inl rfl) ?_
  rw [hlist] at g3
  exact loop1 (I + 1) 0 J1 (by omega) (fun q h1 h2 h3 h4 => g1 q h1 h4) g2 g3 (fun s hs => by omega) (fun d hd' => by rw [g4 d hd', hlist])
end WW
