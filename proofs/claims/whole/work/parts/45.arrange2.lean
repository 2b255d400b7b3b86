/-! NET: arrange, the layers -/
def ar_q (X : Bool × (Nat → Int) × List Nat × List Nat) (IA : mj_FI) (b : Nat) (o : mj_O) (J : mj_FI) : Prop :=
  (∀ q, q ≠ b → q ≠ b + 6 → q ≠ b + 7 → q ≠ b + 8 → J q = IA q) ∧ (∀ k, k ≠ 8 → J b k = IA b k) ∧ o = .inl (some (.inl (if X.1 = true then 1 else 0))) ∧ J (b + 6) = X.2.1 ∧ J b 8 = (X.2.2.1.length : Int) ∧ mj_rl (J (b + 8)) X.2.2.1 ∧ mj_rl (J (b + 7)) X.2.2.2
section NN
variable {sh : mj_Sh} {FR : mj_FR} {IA : mj_FI} {LA : mj_LA} {n b : Nat}
set_option maxHeartbeats 2000000 in
theorem ar_loop (hN : isNet sh FR n b) {L R : Nat → Nat} {G : Nat} {X : Bool × (Nat → Int) × List Nat × List Nat} (hG : IA b 11 = (G : Int)) (hG2 : G ≤ 300) :
    ∀ (t d : Nat) (dep : Nat → Int) (ws od : List Nat) (J : mj_FI) (x3 x4 x5 : Option mj_V), d + t = G + 1 → 1 ≤ d → (∀ s, s < 315 → 0 ≤ dep s ∧ dep s ≤ 1000000) → (∀ s ∈ ws, dep s = 1000000) → od.length + ws.length ≤ 300 →
      (∀ s ∈ ws, s < 315 ∧ (0 ≤ IA (b + 3) s ∧ IA (b + 3) s ≤ 2001 ∧ IA (b + 1) (IA (b + 3) s / 2).toNat = (L s : Int) ∧ L s < 315) ∧ 0 ≤ IA (b + 4) s ∧ IA (b + 4) s ≤ 2001 ∧ IA (b + 1) (IA (b + 4) s / 2).toNat = (R s : Int) ∧ R s < 315) →
      (∀ q, q ≠ b → q ≠ b + 6 → q ≠ b + 7 → q ≠ b + 8 → J q = IA q) → (∀ k, k ≠ 8 → J b k = IA b k) → J (b + 6) = dep → J b 8 = (ws.length : Int) → mj_rl (J (b + 8)) ws → mj_rl (J (b + 7)) od → ar_go L R t d dep ws od = X →
      mj_G m_N_arrange (mj_po (ar_q X IA b) sh FR LA n) 8 [some (.inr (.inr (.inl b))), some (.inl od.length), some (.inl d), x3, x4, x5] [] sh FR J LA n 0 0 := by
  have hN' := hN
  obtain ⟨h0, r0, r1, r2, r3, r4, r5, r6, r7, a0, a1, a2, a3, a4, a5, a6, a7⟩ := hN
  intro t
  induction t with
  | zero =>
    intro d dep ws od J x3 x4 x5 hdt hd1 hdep hw hlen hs f1 f2 e6 e8 rw8 ro hX
    subst hX
    have e11 : J b 11 = (G : Int) := by rw [f2 11 (by decide)]; exact hG
    refine mj_go z_N_arrange [8, 28] 60 ?_
    refine And.intro h0 ?_
    rw [e11]
    refine And.intro (fun c => ?_) (fun c => ?_)
    · exact ⟨Or.inr rfl, ⟨rfl, rfl, rfl, rfl, f1, f2, rfl, e6, e8, rw8, ro⟩, Nat.le_of_ble_eq_true rfl, Nat.le_of_ble_eq_true rfl⟩
    · simp (disch := (clear c; omega)) only [mj_w_id] at c
      omega
  | succ t ih =>
    intro d dep ws od J x3 x4 x5 hdt hd1 hdep hw hlen hs f1 f2 e6 e8 rw8 ro hX
    have e11 : J b 11 = (G : Int) := by rw [f2 11 (by decide)]; exact hG
    have j1 : J (b + 1) = IA (b + 1) := f1 _ (by omega) (by omega) (by omega) (by omega)
    have j3 : J (b + 3) = IA (b + 3) := f1 _ (by omega) (by omega) (by omega) (by omega)
    have j4 : J (b + 4) = IA (b + 4) := f1 _ (by omega) (by omega) (by omega) (by omega)
    simp only [ar_go] at hX
    refine mj_go z_N_arrange [8, 28] 60 ?_
    refine And.intro h0 ?_
    rw [e11]
    refine And.intro (fun c => ?_) (fun c => ?_)
    · simp (disch := (clear c; omega)) only [mj_w_id] at c
      omega
    · refine And.intro h0 ?_
      rw [e8]
      refine And.intro (fun c2 => ?_) (fun c2 => ?_)
      · simp (disch := (clear c2; omega)) only [mj_w_id] at c2
        rw [if_pos (by omega)] at hX
        subst hX
        exact ⟨Or.inr rfl, ⟨rfl, rfl, rfl, rfl, f1, f2, rfl, e6, e8, rw8, ro⟩, Nat.le_of_ble_eq_true rfl, Nat.le_of_ble_eq_true rfl⟩
      · simp (disch := (clear c2; omega)) only [mj_w_id] at c2
        rw [if_neg (by omega)] at hX
        suffices cont : ∀ (J2 : mj_FI) (x : Option mj_V), ar_in J J2 b dep d (ar_P L R dep d) od ws [] → mj_G m_N_arrange (mj_po (ar_q X IA b) sh FR LA n) 125 [some (.inr (.inr (.inl b))), some (.inl ((od ++ ws.filter (ar_P L R dep d)).length : Nat)), some (.inl d), some (.inl ((ws.filter (fun s => !ar_P L R dep d s)).length : Nat)), some (.inl ws.length), x] [] sh FR J2 LA n 0 0 by
          have lay := ar_layer (IA := J) (L := L) (R := R) (dep := dep) (d := d) (ws := ws) (od := od) hN' (by omega) hdep hw hlen e8 (by rw [j1, j3, j4]; exact hs) cont ws [] J x5 rfl ⟨fun q _ _ _ => rfl, fun s => by rw [e6]; simp, by simpa using ro, fun i s hi => by simp at hi, by
            intro i s hi
            have := rw8 i s hi
            simpa using this⟩
          rw [List.filter_nil, List.filter_nil, List.append_nil] at lay
          exact lay
        intro J2 x k
        obtain ⟨k1, k2, k3, k4, k5⟩ := k
        have e82 : J2 b 8 = (ws.length : Int) := by rw [k1 b (by omega) (by omega) (by omega)]; exact e8
        have hlp := ar_len (P := ar_P L R dep d) ws
        generalize hws' : ws.filter (fun s => !ar_P L R dep d s) = ws' at *
        generalize hwp : ws.filter (ar_P L R dep d) = wp at *
        refine mj_go z_N_arrange [8, 28] 60 ?_
        refine And.intro h0 ?_
        rw [e82]
        refine And.intro (fun c3 => ?_) (fun c3 => ?_)
        · simp (disch := (clear c3; omega)) only [mj_w_id] at c3
          rw [if_neg (by omega)] at hX
          refine And.intro h0 ?_
          refine Exists.intro (((d + 1 : Nat) : Int)) (And.intro (by first | (rw [mj_w_id (by omega) (by omega)]; done) | (rw [mj_w_id (by omega) (by omega)]; omega) | (unfold mj_w; omega)) ?_)
          refine ih (d + 1) (fun s => if s ∈ wp then (d : Int) else dep s) ws' (od ++ wp) _ _ _ _ (by omega) (by omega) ?_ ?_ (by rw [List.length_append]; omega) ?_ ?_ ?_ ?_ (by rw [mj_up_at]) (by rw [mj_up_ne (by omega)]; exact k4) (by rw [mj_up_ne (by omega)]; exact k3) hX
          · intro s h315
            have := hdep s h315
            split <;> omega
          · intro s hs'
            have h1 : s ∈ ws := by
              rw [← hws'] at hs'
              exact (List.mem_filter.mp hs').1
            have h2 : ¬ s ∈ wp := by
              rw [← hwp]
              rw [← hws'] at hs'
              intro z
              have z1 := (List.mem_filter.mp z).2
              have z2 := (List.mem_filter.mp hs').2
              rw [z1] at z2
              cases z2
            rw [if_neg h2]
            exact hw s h1
          · intro s hs'
            rw [← hws'] at hs'
            exact hs s (List.mem_filter.mp hs').1
          · intro q h1 h2 h3 h4
            rw [mj_up_ne h1, k1 q h2 h3 h4]
            exact f1 q h1 h2 h3 h4
          · intro k hk
            rw [mj_up_k hk, k1 b (by omega) (by omega) (by omega)]
            exact f2 k hk
          · rw [mj_up_ne (by omega)]
            funext s
            exact k2 s
        · have c3 := Classical.not_not.mp c3
          simp (disch := (clear c3; omega)) only [mj_w_id] at c3
          have c4 : ws'.length = ws.length := by omega
          rw [if_pos c4] at hX
          subst hX
          have hp0 : wp = [] := List.eq_nil_of_length_eq_zero (by omega)
          have hw0 : ws' = ws := by
            rw [← hws']
            exact List.Sublist.eq_of_length List.filter_sublist (by rw [hws']; exact c4)
          rw [hp0] at k2 k3
          rw [hw0] at k4
          rw [List.append_nil] at k3
          refine ⟨Or.inl rfl, ⟨rfl, rfl, rfl, rfl, ?_, ?_, rfl, ?_, e82, k4, k3⟩, Nat.le_of_ble_eq_true rfl, Nat.le_of_ble_eq_true rfl⟩
          · intro q h1 h2 h3 h4
            rw [k1 q h2 h3 h4]
            exact f1 q h1 h2 h3 h4
          · intro k hk
            rw [k1 b (by omega) (by omega) (by omega)]
            exact f2 k hk
          · funext s
            rw [k2 s, if_neg (by simp)]
theorem ct_N_arrange (hN : isNet sh FR n b) {L R : Nat → Nat} {m i G : Nat} (hm : IA b 9 = (m : Int)) (hi : IA b 10 = (i : Int)) (hm1 : m ≤ 1000) (hi14 : i ≤ 14) (hG : IA b 11 = (G : Int)) (hG2 : G ≤ 300) (h5 : ∀ j, j < 1001 → -1 ≤ IA (b + 1) j ∧ IA (b + 1) j < 315) (h6 : (nt_wl IA b m).length ≤ 300)
    (hs : ∀ s ∈ nt_wl IA b m, s < 315 ∧ (0 ≤ IA (b + 3) s ∧ IA (b + 3) s ≤ 2001 ∧ IA (b + 1) (IA (b + 3) s / 2).toNat = (L s : Int) ∧ L s < 315) ∧ 0 ≤ IA (b + 4) s ∧ IA (b + 4) s ≤ 2001 ∧ IA (b + 1) (IA (b + 4) s / 2).toNat = (R s : Int) ∧ R s < 315) :
    mj_Ct m_N_arrange [.inr (.inr (.inl b))] sh FR IA LA n (mj_po (ar_q (ar_go L R G 1 (fun s => if s ∈ nt_wl IA b m then 1000000 else if s < 315 then 0 else IA (b + 6) s) (nt_wl IA b m) []) IA b) sh FR LA n) := by
  have hN' := hN
  obtain ⟨h0, r0, r1, r2, r3, r4, r5, r6, r7, a0, a1, a2, a3, a4, a5, a6, a7⟩ := hN
  refine mj_Ct_of (by decide +kernel) (by decide) (Nat.le_of_ble_eq_true rfl) ?_
  refine mj_go z_N_arrange [8] 60 ?_
  refine And.intro h0 (And.intro (Nat.le_of_ble_eq_true rfl) (And.intro (Nat.le_of_ble_eq_true rfl) (And.intro (Nat.le_of_ble_eq_true rfl) (Exists.intro _ (And.intro (ct_N_waitForAll hN' hm hi hm1 hi14 h5 (by rw [← nt_wl_len]; exact h6)) ?_)))))
  rintro r9 sh9 FR9 IA9 LA9 n9 ⟨z0, z1, z2, z3, z4, z5⟩
  subst z0
  replace z1 := z1.symm
  subst z1
  replace z2 := z2.symm
  subst z2
  replace z3 := z3.symm
  subst z3
  replace z4 := z4.symm
  subst z4
  replace z5 := z5.symm
  subst z5
  refine And.intro (Or.inl rfl) ?_
  refine ar_loop hN' hG hG2 G 1 _ (nt_wl IA b m) [] _ none none none (by omega) (by omega) ?_ ?_ (by simpa using h6) hs (fun q h1 h2 h3 h4 => nt_wa_o h2 h4 h1 m) (fun k hk => nt_wa_b hk m) (funext fun s => nt_wa_d m s) (by rw [nt_wa_8, nt_wl_len]) (nt_wa_w (by omega) m) (fun i s hi => by simp at hi) rfl
  · intro s h315
    rw [if_pos h315]
    split <;> omega
  · intro s hs'
    rw [if_pos hs']
end NN
