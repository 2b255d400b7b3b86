/-! READER: checkWhole -/
/-- the slot that a row of literals leads to -/
def nF (so f : Nat → Int) (s : Nat) : Nat := (so (f s / 2).toNat).toNat
def nNo (IA : mj_FI) (b I O G : Nat) : Prop := ∀ lit, nU IA b I O G lit → ¬ IA (b + 1) (lit / 2).toNat = -1
def cw_q (IA : mj_FI) (r b m I O G : Nat) (J : mj_FI) : Prop :=
  (J r 1 = 7 ∧ 1 ≤ J r 2 ∧ (∃ lit, nU IA b I O G lit ∧ IA (b + 1) (lit / 2).toNat = -1 ∧ J r 2 = lit / 2) ∧ ∀ lit, nU IA b I O G lit → IA (b + 1) (lit / 2).toNat = -1 → J r 2 ≤ lit / 2) ∨
  (nNo IA b I O G ∧ J r 1 = 8 ∧ ∃ dep ws, ar_F (nF (IA (b + 1)) (IA (b + 3))) (nF (IA (b + 1)) (IA (b + 4))) (nt_wl IA b m) dep ws ∧ lf_v (lf_g I G) (nF (IA (b + 1)) (IA (b + 3))) (nF (IA (b + 1)) (IA (b + 4))) (IA (b + 2)) ws (J r 2)) ∨
  (nNo IA b I O G ∧ J r 1 = IA r 1 ∧ J r 2 = IA r 2 ∧ ∃ od, ar_T (nF (IA (b + 1)) (IA (b + 3))) (nF (IA (b + 1)) (IA (b + 4))) (IA (b + 2)) (nt_wl IA b m) (J (b + 6)) od ∧ mj_rl (J (b + 7)) od)
def cw_f (IA J : mj_FI) (r b : Nat) : Prop := (∀ q, q ≠ r → q ≠ b → (q < b + 6 ∨ b + 8 < q) → (q < r + 4 ∨ r + 6 < q) → J q = IA q) ∧ (∀ k, k ≠ 1 → k ≠ 2 → J r k = IA r k) ∧ (∀ k, k ≠ 8 → J b k = IA b k)
/-- fanins of a net without missing variables -/
theorem nW.fan {IA : mj_FI} {b m I O G : Nat} (h : nW IA b m I O G) (hn : nNo IA b I O G) {s : Nat} (hs : lf_g I G s) : (0 ≤ IA (b + 3) s ∧ IA (b + 3) s ≤ 2001 ∧ IA (b + 1) (IA (b + 3) s / 2).toNat = (nF (IA (b + 1)) (IA (b + 3)) s : Int) ∧ nF (IA (b + 1)) (IA (b + 3)) s < 315) ∧
    0 ≤ IA (b + 4) s ∧ IA (b + 4) s ≤ 2001 ∧ IA (b + 1) (IA (b + 4) s / 2).toNat = (nF (IA (b + 1)) (IA (b + 4)) s : Int) ∧ nF (IA (b + 1)) (IA (b + 4)) s < 315 := by
  have hso := h.so
  obtain ⟨w1, w2, w3, w4, w5, w6, w7, w8, w9, w10, w11, w12⟩ := h
  obtain ⟨s1, s2⟩ := hs
  obtain ⟨g1, g2⟩ := w11 s s1 s2
  have n1 := hn (IA (b + 3) s) (Or.inr ⟨s - (I + 1), by omega, Or.inl (by rw [show I + 1 + (s - (I + 1)) = s by omega])⟩)
  have n2 := hn (IA (b + 4) s) (Or.inr ⟨s - (I + 1), by omega, Or.inr (by rw [show I + 1 + (s - (I + 1)) = s by omega])⟩)
  have q1 := hso (IA (b + 3) s / 2).toNat (by omega)
  have q2 := hso (IA (b + 4) s / 2).toNat (by omega)
  unfold nF
  omega
section RR
variable {sh : mj_Sh} {FR : mj_FR} {IA : mj_FI} {LA : mj_LA} {n r b : Nat}
set_option maxHeartbeats 1000000 in
theorem ct_R_checkWhole (h : isRd sh FR n r b) (hN : isNet sh FR n b) (hap : rd_ap r b) {m I O G : Nat} (hW : nW IA b m I O G) :
    mj_Ct m_R_checkWhole [.inr (.inr (.inl r))] sh FR IA LA n (mj_po (fun o J => o = .inl none ∧ cw_f IA J r b ∧ cw_q IA r b m I O G J) sh FR LA n) := by
  have hR := h
  obtain ⟨h0, r3, r4, r5, r6, r7, a1, a2, a3, a4, s0, s1, a5, a6⟩ := h
  have hso := hW.so
  have hlm := nt_lm_w hW
  obtain ⟨hnd, hlen⟩ := nt_wl_G hW
  have hpw := nt_wl_pw hW m (Nat.le_refl _)
  have hg := fun s => nt_wl_g (s := s) hW
  obtain ⟨w1, w2, w3, w4, w5, w6, w7, w8, w9, w10, w11, w12⟩ := id hW
  have hlf : lf_ap (r + 4) b := by
    unfold rd_ap at hap
    unfold lf_ap
    omega
  have hap' := hap
  unfold rd_ap at hap'
  refine mj_Ct_of (by decide +kernel) (by decide) (Nat.le_of_ble_eq_true rfl) ?_
  refine mj_go z_R_checkWhole [] 60 ?_
  refine And.intro h0 (Exists.intro _ (And.intro r7 ?_))
  refine And.intro hN.1 (And.intro (Nat.le_of_ble_eq_true rfl) (And.intro (Nat.le_of_ble_eq_true rfl) (And.intro (Nat.le_of_ble_eq_true rfl) (Exists.intro _ (And.intro (ct_N_leastMissing hN w7 w9 w8 w2 w3 w4 hso (fun k hk => by have := w12 k hk; omega) (fun j hj => by have := w11 (I + 1 + j) (by omega) (by omega); omega)) ?_)))))
  rintro r9 sh9 FR9 IA9 LA9 n9 ⟨z0, z1, z2, z3, z4, z5⟩
  subst z0
  replace z1 := z1.symm
  subst z1
  replace z2 := z2.symm
  subst z2
  replace z3 := z3.symm
  subst z3
  replace z4 := z4.symm
  subst z4
  replace z5 := z5.symm
  subst z5
  refine And.intro (Or.inl rfl) ?_
  generalize nt_lm IA b I O G = x at hlm
  refine And.intro (fun c => ?_) (fun c => ?_)
  · have hx : x = 0 ∧ ∀ lit, nU IA b I O G lit → ¬ IA (b + 1) (lit / 2).toNat = -1 := by
      rcases hlm with q | ⟨q1, q2, _⟩
      · exact q
      · simp (disch := (clear c; omega)) only [mj_w_id] at c
        omega
    have hno : nNo IA b I O G := hx.2
    have hfan := fun s hs => hW.fan hno (s := s) hs
    have hV0 := ar_V0 (L := nF (IA (b + 1)) (IA (b + 3))) (R := nF (IA (b + 1)) (IA (b + 4))) (ow := IA (b + 2)) (w0 := nt_wl IA b m) (dx := IA (b + 6)) (fun s hs => by
      have q1 := hfan s ((hg s).mp hs)
      have q2 := (hg s).mp hs
      unfold lf_g at q2
      omega) hpw (by omega)
    refine And.intro h0 (Exists.intro _ (And.intro r7 ?_))
    refine And.intro hN.1 (And.intro (Nat.le_of_ble_eq_true rfl) (And.intro (Nat.le_of_ble_eq_true rfl) (And.intro (Nat.le_of_ble_eq_true rfl) (Exists.intro _ (And.intro (ct_N_arrange (L := nF (IA (b + 1)) (IA (b + 3))) (R := nF (IA (b + 1)) (IA (b + 4))) hN w6 w7 w1 w2 w8 w4 hso (by omega) (fun s hs => ⟨by have q2 := (hg s).mp hs; unfold lf_g at q2; omega, hfan s ((hg s).mp hs)⟩)) ?_)))))
    rintro o1 sh9 FR9 J1 LA9 n9 ⟨z1, z2, z3, z4, hp⟩
    replace z1 := z1.symm
    subst z1
    replace z2 := z2.symm
    subst z2
    replace z3 := z3.symm
    subst z3
    replace z4 := z4.symm
    subst z4
    have hgo := ar_go_w (L := nF (IA (b + 1)) (IA (b + 3))) (R := nF (IA (b + 1)) (IA (b + 4))) (ow := IA (b + 2)) (w0 := nt_wl IA b m) G 1 _ _ _ (by omega) hV0
    generalize ar_go (nF (IA (b + 1)) (IA (b + 3))) (nF (IA (b + 1)) (IA (b + 4))) G 1 (fun s => if s ∈ nt_wl IA b m then 1000000 else if s < 315 then 0 else IA (b + 6) s) (nt_wl IA b m) [] = X at hp hgo
    obtain ⟨k1, k2, k3, k4, k5, k6, k7⟩ := hp
    obtain ⟨ok, dep, ws, od⟩ := X
    subst k3
    refine And.intro (Or.inl rfl) ?_
    cases ok with
    | true =>
      obtain ⟨g1, g2⟩ := hgo.1 rfl
      refine And.intro (fun d => ?_) (fun d => ?_)
      · refine ⟨⟨rfl, rfl, rfl, rfl, rfl, ⟨?_, ?_, k2⟩, Or.inr (Or.inr ⟨hno, ?_, ?_, od, ?_, k7⟩)⟩, Nat.le_of_ble_eq_true rfl, Nat.le_of_ble_eq_true rfl⟩
        · intro q q1 q2 q3 q4
          exact k1 q q2 (by omega) (by omega) (by omega)
        · intro k _ _
          rw [k1 r (by omega) (by omega) (by omega) (by omega)]
        · rw [k1 r (by omega) (by omega) (by omega) (by omega)]
        · rw [k1 r (by omega) (by omega) (by omega) (by omega)]
        · rw [k4]
          exact g2
      · exact absurd (show ¬ mj_w 1 = 0 by decide) d
    | false =>
      have g1 := hgo.2 rfl
      obtain ⟨f1, f2, f3, f4, f5, f6⟩ := id g1
      have f2 : ws.Sublist (nt_wl IA b m) := f2
      have f3 : ∀ s, s < 315 → (s ∈ ws ↔ dep s = 1000000) := f3
      have f4 : ∀ s, s < 315 → 0 ≤ dep s ∧ dep s ≤ 1000000 := f4
      have f6 : ∀ s ∈ nt_wl IA b m, ¬ dep s = 1000000 → ¬ dep (nF (IA (b + 1)) (IA (b + 3)) s) = 1000000 ∧ ¬ dep (nF (IA (b + 1)) (IA (b + 4)) s) = 1000000 := fun s hs hn => ⟨(f6 s hs hn).1, (f6 s hs hn).2.1⟩
      have k4 : J1 (b + 6) = dep := k4
      have k5 : J1 b 8 = (ws.length : Int) := k5
      have k6 : mj_rl (J1 (b + 8)) ws := k6
      have e1 : J1 (b + 1) = IA (b + 1) := k1 _ (by omega) (by omega) (by omega) (by omega)
      have e2 : J1 (b + 2) = IA (b + 2) := k1 _ (by omega) (by omega) (by omega) (by omega)
      have e3 : J1 (b + 3) = IA (b + 3) := k1 _ (by omega) (by omega) (by omega) (by omega)
      have e4 : J1 (b + 4) = IA (b + 4) := k1 _ (by omega) (by omega) (by omega) (by omega)
      have hws : ∀ s ∈ ws, lf_g I G s := fun s hs => (hg s).mp (f2.subset hs)
      have hNN : lf_N J1 b I G (nF (IA (b + 1)) (IA (b + 3))) (nF (IA (b + 1)) (IA (b + 4))) := by
        unfold lf_N
        rw [e1, e3, e4, k4]
        refine ⟨w4, w2, fun u u1 u2 => hws u ((f3 u u1).mpr u2), f4, hfan, fun u hu => f6 u ((hg u).mpr hu)⟩
      refine And.intro (fun d => ?_) (fun d => ?_)
      · exact absurd d (show ¬ ¬ mj_w 0 = 0 by decide)
      · refine And.intro h0 (Exists.intro _ (And.intro r6 ?_))
        refine And.intro h0 (Exists.intro _ (And.intro r7 ?_))
        refine And.intro a4 (And.intro (Nat.le_of_ble_eq_true rfl) (And.intro (Nat.le_of_ble_eq_true rfl) (And.intro (Nat.le_of_ble_eq_true rfl) (Exists.intro _ (And.intro (ct_F_leastOnLoop (IA := J1) (wl := ws) hR.lf hN hlf hNN k5 (by have := f2.length_le; omega) k6 (List.Sublist.nodup f2 hnd) (fun s hs => ⟨by have := hws s hs; unfold lf_g at this; omega, by rw [k4]; exact (f3 s (by have := hws s hs; unfold lf_g at this; omega)).mp hs⟩) (fun s hs => by rw [e2]; obtain ⟨j, j1, j2, j3, j4⟩ := w10.2.2 s (by have := hws s hs; unfold lf_g at this; omega) (by have := hws s hs; unfold lf_g at this; omega); omega)) ?_)))))
        rintro o2 sh9 FR9 J2 LA9 n9 ⟨z1, z2, z3, z4, hp2⟩
        replace z1 := z1.symm
        subst z1
        replace z2 := z2.symm
        subst z2
        replace z3 := z3.symm
        subst z3
        replace z4 := z4.symm
        subst z4
        obtain ⟨p1, v, ho, hv⟩ := hp2
        rw [e2] at hv
        subst ho
        refine And.intro (Or.inl rfl) ?_
        refine And.intro h0 (And.intro (Nat.le_of_ble_eq_true rfl) (And.intro (Nat.le_of_ble_eq_true rfl) (And.intro (Nat.le_of_ble_eq_true rfl) (Exists.intro _ (And.intro (ct_R_fail hR) ?_)))))
        rintro r9 sh9 FR9 IA9 LA9 n9 ⟨z0, z1, z2, z3, z4, z5⟩
        subst z0
        replace z1 := z1.symm
        subst z1
        replace z2 := z2.symm
        subst z2
        replace z3 := z3.symm
        subst z3
        replace z4 := z4.symm
        subst z4
        replace z5 := z5.symm
        subst z5
        refine And.intro (Or.inl rfl) ?_
        refine And.intro rfl ?_
        refine ⟨⟨rfl, rfl, rfl, rfl, rfl, ⟨?_, ?_, ?_⟩, Or.inr (Or.inl ⟨hno, ?_, dep, ws, g1, ?_⟩)⟩, Nat.le_of_ble_eq_true rfl, Nat.le_of_ble_eq_true rfl⟩
        · intro q q1 q2 q3 q4
          rw [mj_up_ne q1, mj_up_ne q1, p1 q (by omega) (by omega) (by omega)]
          exact k1 q q2 (by omega) (by omega) (by omega)
        · intro k k1' k2'
          rw [mj_up_k k2', mj_up_k k1', p1 r (by omega) (by omega) (by omega), k1 r (by omega) (by omega) (by omega) (by omega)]
        · intro k hk
          rw [mj_up_ne (by omega), mj_up_ne (by omega), p1 b (by omega) (by omega) (by omega)]
          exact k2 k hk
        · rw [mj_up_k (by decide), mj_up_at]
        · rw [mj_up_at]
          exact hv
  · have hx : 1 ≤ x ∧ x ≤ 1000 ∧ (∃ lit, nU IA b I O G lit ∧ IA (b + 1) (lit / 2).toNat = -1 ∧ x = lit / 2) ∧ ∀ lit, nU IA b I O G lit → IA (b + 1) (lit / 2).toNat = -1 → x ≤ lit / 2 := by
      rcases hlm with ⟨q1, _⟩ | q
      · subst q1
        exact absurd (by decide) c
      · exact q
    refine And.intro h0 (And.intro (Nat.le_of_ble_eq_true rfl) (And.intro (Nat.le_of_ble_eq_true rfl) (And.intro (Nat.le_of_ble_eq_true rfl) (Exists.intro _ (And.intro (ct_R_fail hR) ?_)))))
    rintro r9 sh9 FR9 IA9 LA9 n9 ⟨z0, z1, z2, z3, z4, z5⟩
    subst z0
    replace z1 := z1.symm
    subst z1
    replace z2 := z2.symm
    subst z2
    replace z3 := z3.symm
    subst z3
    replace z4 := z4.symm
    subst z4
    replace z5 := z5.symm
    subst z5
    refine And.intro (Or.inl rfl) ?_
    refine And.intro rfl ?_
    refine ⟨⟨rfl, rfl, rfl, rfl, rfl, ⟨?_, ?_, ?_⟩, Or.inl ⟨?_, ?_⟩⟩, Nat.le_of_ble_eq_true rfl, Nat.le_of_ble_eq_true rfl⟩
    · intro q q1 q2 q3 q4
      rw [mj_up_ne q1, mj_up_ne q1]
    · intro k k1 k2
      rw [mj_up_k k2, mj_up_k k1]
    · intro k hk
      rw [mj_up_ne (by omega), mj_up_ne (by omega)]
    · rw [mj_up_k (by decide), mj_up_at]
    · rw [mj_up_at]
      exact ⟨hx.1, hx.2.2⟩
end RR
