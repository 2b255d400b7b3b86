/-! NET: arrange -/
/-- a row begins with a list of slots -/
def mj_rl (f : Nat → Int) (l : List Nat) : Prop := ∀ (i s : Nat), l[i]? = some s → f i = (s : Int)
theorem mj_rl_app {f : Nat → Int} {l : List Nat} {s : Nat} (h : mj_rl f l) : mj_rl (mj_u f l.length s) (l ++ [s]) := by
  intro i x hx
  by_cases e : i < l.length
  · rw [List.getElem?_append_left e] at hx
    rw [mj_u_ne (by omega)]
    exact h i x hx
  · rw [List.getElem?_append_right (by omega)] at hx
    have : i - l.length = 0 := by
      by_cases z : i - l.length = 0
      · exact z
      · rw [List.getElem?_eq_none (by simp; omega)] at hx
        cases hx
    rw [this] at hx
    cases hx
    rw [show i = l.length by omega, mj_u_at]
theorem mj_rl_pre {f : Nat → Int} {l k : List Nat} (h : mj_rl f (l ++ k)) : mj_rl f l := fun i x hx => h i x (by
  have e : i < l.length := by
    by_cases z : i < l.length
    · exact z
    · rw [List.getElem?_eq_none (by omega)] at hx
      cases hx
  rw [List.getElem?_append_left e]
  exact hx)
/-- the gates' slots among the variables 1 .. v, by variable -/
def nt_wl (IA : mj_FI) (b : Nat) : Nat → List Nat
  | 0 => []
  | v + 1 => if IA b 10 < IA (b + 1) (v + 1) then nt_wl IA b v ++ [(IA (b + 1) (v + 1)).toNat] else nt_wl IA b v
theorem nt_wl_len {IA : mj_FI} {b : Nat} : ∀ v, (nt_wl IA b v).length = nt_wn IA b v
  | 0 => rfl
  | v + 1 => by
    simp only [nt_wl, nt_wn]
    split
    · rw [List.length_append, nt_wl_len v]
      rfl
    · exact nt_wl_len v
theorem nt_wa_w {IA : mj_FI} {b : Nat} (h : 0 ≤ IA b 10) : ∀ v, mj_rl (nt_wa IA b v (b + 8)) (nt_wl IA b v)
  | 0 => fun i s hs => by cases hs
  | v + 1 => by
    simp only [nt_wl, nt_wa]
    split
    · rename_i hc
      have ih := mj_rl_app (s := (IA (b + 1) (v + 1)).toNat) (nt_wa_w h v)
      rw [mj_up_ne (by omega), mj_up_row, mj_up_ne (by omega), ← nt_wl_len]
      rw [show (((IA (b + 1) (v + 1)).toNat : Nat) : Int) = IA (b + 1) (v + 1) by omega] at ih
      exact ih
    · exact nt_wa_w h v
theorem nt_wa_d {IA : mj_FI} {b : Nat} : ∀ v s, nt_wa IA b v (b + 6) s = if s ∈ nt_wl IA b v then 1000000 else if s < 315 then 0 else IA (b + 6) s
  | 0, s => by
    rw [if_neg (show ¬ s ∈ nt_wl IA b 0 by simp [nt_wl])]
    simp only [nt_wa]
    rw [mj_up_ne (by omega)]
    simp [mj_fl]
  | v + 1, s => by
    have ih := nt_wa_d (IA := IA) (b := b) v s
    have e0 : nt_wl IA b (v + 1) = if IA b 10 < IA (b + 1) (v + 1) then nt_wl IA b v ++ [(IA (b + 1) (v + 1)).toNat] else nt_wl IA b v := rfl
    simp only [nt_wa]
    split
    · rename_i hc
      rw [if_pos hc] at e0
      rw [e0, mj_up_ne (by omega), mj_up_ne (by omega), mj_up_row]
      unfold mj_u
      by_cases e : s = (IA (b + 1) (v + 1)).toNat
      · rw [if_pos e, if_pos (by rw [e]; simp)]
      · rw [if_neg e, ih]
        by_cases e2 : s ∈ nt_wl IA b v
        · rw [if_pos e2, if_pos (List.mem_append_left _ e2)]
        · rw [if_neg e2, if_neg (show ¬ s ∈ nt_wl IA b v ++ [(IA (b + 1) (v + 1)).toNat] by
            intro z
            rcases List.mem_append.mp z with z | z
            · exact e2 z
            · exact e (by simpa using z))]
    · rename_i hc
      rw [if_neg hc] at e0
      rw [e0]
      exact ih
/-- both fanins have got their depth in an earlier layer -/
def ar_P (L R : Nat → Nat) (dep : Nat → Int) (d : Nat) (s : Nat) : Bool := decide (dep (L s) < (d : Int) ∧ dep (R s) < (d : Int))
/-- the layers from d on: does it end well, the depths, the gates that wait, the order -/
def ar_go (L R : Nat → Nat) : Nat → Nat → (Nat → Int) → List Nat → List Nat → Bool × (Nat → Int) × List Nat × List Nat
  | 0, _, dep, ws, od => (true, dep, ws, od)
  | t + 1, d, dep, ws, od => if ws.length = 0 then (true, dep, ws, od)
      else if (ws.filter (fun s => !ar_P L R dep d s)).length = ws.length then (false, dep, ws, od)
      else ar_go L R t (d + 1) (fun s => if s ∈ ws.filter (ar_P L R dep d) then (d : Int) else dep s) (ws.filter (fun s => !ar_P L R dep d s)) (od ++ ws.filter (ar_P L R dep d))
theorem ar_len {α : Type} {P : α → Bool} : ∀ ws : List α, (ws.filter P).length + (ws.filter (fun s => !P s)).length = ws.length
  | [] => rfl
  | s :: r => by
    have := ar_len (P := P) r
    by_cases h : P s = true
    · simp [List.filter_cons, h]
      omega
    · simp [List.filter_cons, h]
      omega
/-- the state within a layer: xs are done, ys are left -/
def ar_in (IA0 J : mj_FI) (b : Nat) (dep : Nat → Int) (d : Nat) (P : Nat → Bool) (od xs ys : List Nat) : Prop :=
  (∀ q, q ≠ b + 6 → q ≠ b + 7 → q ≠ b + 8 → J q = IA0 q) ∧ (∀ s, J (b + 6) s = if s ∈ xs.filter P then (d : Int) else dep s) ∧ mj_rl (J (b + 7)) (od ++ xs.filter P) ∧
  mj_rl (J (b + 8)) (xs.filter (fun s => !P s)) ∧ mj_rl (fun i => J (b + 8) (xs.length + i)) ys
section NN
variable {sh : mj_Sh} {FR : mj_FR} {IA : mj_FI} {LA : mj_LA} {n b : Nat}
set_option maxHeartbeats 2000000 in
/-- one layer -/
theorem ar_layer (hN : isNet sh FR n b) {Q : mj_Q} {L R : Nat → Nat} {dep : Nat → Int} {d : Nat} {ws od : List Nat} (hd : d ≤ 300) (hdep : ∀ s, s < 315 → 0 ≤ dep s ∧ dep s ≤ 1000000) (hw : ∀ s ∈ ws, dep s = 1000000) (hlen : od.length + ws.length ≤ 300) (h8 : IA b 8 = (ws.length : Int))
    (hs : ∀ s ∈ ws, s < 315 ∧ (0 ≤ IA (b + 3) s ∧ IA (b + 3) s ≤ 2001 ∧ IA (b + 1) (IA (b + 3) s / 2).toNat = (L s : Int) ∧ L s < 315) ∧ 0 ≤ IA (b + 4) s ∧ IA (b + 4) s ≤ 2001 ∧ IA (b + 1) (IA (b + 4) s / 2).toNat = (R s : Int) ∧ R s < 315)
    (cont : ∀ (J : mj_FI) (x : Option mj_V), ar_in IA J b dep d (ar_P L R dep d) od ws [] → mj_G m_N_arrange Q 125 [some (.inr (.inr (.inl b))), some (.inl ((od ++ ws.filter (ar_P L R dep d)).length : Nat)), some (.inl d), some (.inl ((ws.filter (fun s => !ar_P L R dep d s)).length : Nat)), some (.inl ws.length), x] [] sh FR J LA n 0 0) :
    ∀ (ys xs : List Nat) (J : mj_FI) (x : Option mj_V), ws = xs ++ ys → ar_in IA J b dep d (ar_P L R dep d) od xs ys →
      mj_G m_N_arrange Q 28 [some (.inr (.inr (.inl b))), some (.inl ((od ++ xs.filter (ar_P L R dep d)).length : Nat)), some (.inl d), some (.inl ((xs.filter (fun s => !ar_P L R dep d s)).length : Nat)), some (.inl xs.length), x] [] sh FR J LA n 0 0 := by
  have hN' := hN
  obtain ⟨h0, r0, r1, r2, r3, r4, r5, r6, r7, a0, a1, a2, a3, a4, a5, a6, a7⟩ := hN
  intro ys
  induction ys with
  | nil =>
    intro xs J x hws hJ
    rw [List.append_nil] at hws
    subst hws
    have e8 : J b 8 = (ws.length : Int) := by rw [hJ.1 b (by omega) (by omega) (by omega)]; exact h8
    refine mj_go z_N_arrange [28, 125] 60 ?_
    refine And.intro h0 ?_
    rw [e8]
    refine And.intro (fun c => ?_) (fun c => ?_)
    · exact cont J x hJ
    · simp (disch := (clear c; omega)) only [mj_w_id] at c
      omega
  | cons s ys ih =>
    intro xs J x hws hJ
    obtain ⟨j1, j2, j3, j4, j5⟩ := hJ
    have hx1 : xs.length + ys.length + 1 = ws.length := by rw [hws, List.length_append, List.length_cons]; omega
    have hmem : s ∈ ws := by rw [hws]; simp
    obtain ⟨g1, ⟨g2, g3, g4, g5⟩, g6, g7, g8, g9⟩ := hs s hmem
    have e8 : J b 8 = (ws.length : Int) := by rw [j1 b (by omega) (by omega) (by omega)]; exact h8
    have es : J (b + 8) xs.length = (s : Int) := j5 0 s rfl
    have e3 : J (b + 3) = IA (b + 3) := j1 _ (by omega) (by omega) (by omega)
    have e4 : J (b + 4) = IA (b + 4) := j1 _ (by omega) (by omega) (by omega)
    have e1 : J (b + 1) = IA (b + 1) := j1 _ (by omega) (by omega) (by omega)
    have hl1 := ar_len (P := ar_P L R dep d) xs
    have hin : ∀ q, q ∈ xs.filter (ar_P L R dep d) → dep q = 1000000 := fun q hq => hw q (by rw [hws]; exact List.mem_append_left _ (List.mem_filter.mp hq).1)
    have hdd : ∀ q, q < 315 → 0 ≤ J (b + 6) q ∧ J (b + 6) q ≤ 1000000 ∧ (J (b + 6) q < (d : Int) ↔ dep q < (d : Int)) := by
      intro q hq
      rw [j2 q]
      have := hdep q hq
      by_cases z : q ∈ xs.filter (ar_P L R dep d)
      · rw [if_pos z]
        have := hin q z
        omega
      · rw [if_neg z]
        omega
    have dl := hdd (L s) g5
    have dr := hdd (R s) g9
    have rest : mj_rl (fun i => J (b + 8) ((xs ++ [s]).length + i)) ys := by
      intro i y hy
      have := j5 (i + 1) y hy
      have e : xs.length + (i + 1) = (xs ++ [s]).length + i := by rw [List.length_append, List.length_singleton]; omega
      show J (b + 8) ((xs ++ [s]).length + i) = y
      rw [← e]
      exact this
    have keep : ar_P L R dep d s = false → mj_G m_N_arrange Q 108 [some (.inr (.inr (.inl b))), some (.inl ((od ++ xs.filter (ar_P L R dep d)).length : Nat)), some (.inl d), some (.inl ((xs.filter (fun s => !ar_P L R dep d s)).length : Nat)), some (.inl xs.length), some (.inl s)] [] sh FR J LA n 0 0 := by
      intro hP
      have f1 : (xs ++ [s]).filter (ar_P L R dep d) = xs.filter (ar_P L R dep d) := by simp [List.filter_append, List.filter_cons, hP]
      have f2 : (xs ++ [s]).filter (fun s => !ar_P L R dep d s) = xs.filter (fun s => !ar_P L R dep d s) ++ [s] := by simp [List.filter_append, List.filter_cons, hP]
      have ih1 := ih (xs ++ [s]) (mj_up J (b + 8) (xs.filter (fun s => !ar_P L R dep d s)).length s) (some (.inl s)) (by rw [hws]; simp) ⟨fun q h1 h2 h3 => by rw [mj_up_ne h3]; exact j1 q h1 h2 h3, fun q => by rw [mj_up_ne (by omega), f1]; exact j2 q, by rw [mj_up_ne (by omega), f1]; exact j3, by rw [mj_up_row, f2]; exact mj_rl_app j4, by
        intro i y hy
        show mj_up J (b + 8) _ _ (b + 8) ((xs ++ [s]).length + i) = y
        rw [mj_up_row, mj_u_ne (by rw [List.length_append, List.length_singleton]; omega)]
        exact rest i y hy⟩
      rw [f1, f2, List.length_append (bs := [s]), List.length_append (bs := [s]), List.length_singleton] at ih1
      refine mj_go z_N_arrange [28, 125] 60 ?_
      refine And.intro h0 (Exists.intro _ (And.intro r7 ?_))
      refine Exists.intro _ (Exists.intro ((xs.filter (fun s => !ar_P L R dep d s)).length) (And.intro a7 (And.intro (by first | (rw [mj_w_id (by omega) (by omega)]; done) | (rw [mj_w_id (by omega) (by omega)]; omega) | (unfold mj_w; omega)) (And.intro (by omega) ?_))))
      refine Exists.intro ((((xs.filter (fun s => !ar_P L R dep d s)).length + 1 : Nat) : Int)) (And.intro (by first | (rw [mj_w_id (by omega) (by omega)]; done) | (rw [mj_w_id (by omega) (by omega)]; omega) | (unfold mj_w; omega)) ?_)
      refine Exists.intro (((xs.length + 1 : Nat) : Int)) (And.intro (by first | (rw [mj_w_id (by omega) (by omega)]; done) | (rw [mj_w_id (by omega) (by omega)]; omega) | (unfold mj_w; omega)) ?_)
      exact ih1
    refine mj_go z_N_arrange [28, 108, 125] 60 ?_
    refine And.intro h0 ?_
    rw [e8]
    refine And.intro (fun c => ?_) (fun c => ?_)
    · simp (disch := (clear c; omega)) only [mj_w_id] at c
      omega
    · refine And.intro h0 (Exists.intro _ (And.intro r7 ?_))
      refine Exists.intro _ (Exists.intro (xs.length) (And.intro a7 (And.intro (by first | (rw [mj_w_id (by omega) (by omega)]; done) | (rw [mj_w_id (by omega) (by omega)]; omega) | (unfold mj_w; omega)) (And.intro (by omega) ?_))))
      rw [es]
      refine And.intro h0 (Exists.intro _ (And.intro r5 ?_))
      refine And.intro h0 (Exists.intro _ (And.intro r2 ?_))
      refine Exists.intro _ (Exists.intro (s) (And.intro a2 (And.intro (by first | (rw [mj_w_id (by omega) (by omega)]; done) | (rw [mj_w_id (by omega) (by omega)]; omega) | (unfold mj_w; omega)) (And.intro (by omega) ?_))))
      rw [e3]
      refine And.intro h0 (And.intro (Nat.le_of_ble_eq_true rfl) (And.intro (Nat.le_of_ble_eq_true rfl) (And.intro (Nat.le_of_ble_eq_true rfl) (Exists.intro _ (And.intro (ct_N_slotFor hN' (by omega) (by omega)) ?_)))))
      rintro r9 sh9 FR9 IA9 LA9 n9 ⟨z0, z1, z2, z3, z4, z5⟩
      subst z0
      replace z1 := z1.symm
      subst z1
      replace z2 := z2.symm
      subst z2
      replace z3 := z3.symm
      subst z3
      replace z4 := z4.symm
      subst z4
      replace z5 := z5.symm
      subst z5
      refine And.intro (Or.inl rfl) ?_
      rw [e1, g4]
      refine Exists.intro _ (Exists.intro (L s) (And.intro a5 (And.intro (by first | (rw [mj_w_id (by omega) (by omega)]; done) | (rw [mj_w_id (by omega) (by omega)]; omega) | (unfold mj_w; omega)) (And.intro (by omega) ?_))))
      refine And.intro (fun c1 => ?_) (fun c1 => ?_)
      · simp (disch := (clear c1; omega)) only [mj_w_id] at c1
        exact keep (decide_eq_false (by omega))
      · simp (disch := (clear c1; omega)) only [mj_w_id] at c1
        refine And.intro h0 (Exists.intro _ (And.intro r5 ?_))
        refine And.intro h0 (Exists.intro _ (And.intro r3 ?_))
        refine Exists.intro _ (Exists.intro (s) (And.intro a3 (And.intro (by first | (rw [mj_w_id (by omega) (by omega)]; done) | (rw [mj_w_id (by omega) (by omega)]; omega) | (unfold mj_w; omega)) (And.intro (by omega) ?_))))
        rw [e4]
        refine And.intro h0 (And.intro (Nat.le_of_ble_eq_true rfl) (And.intro (Nat.le_of_ble_eq_true rfl) (And.intro (Nat.le_of_ble_eq_true rfl) (Exists.intro _ (And.intro (ct_N_slotFor hN' (by omega) (by omega)) ?_)))))
        rintro r9 sh9 FR9 IA9 LA9 n9 ⟨z0, z1, z2, z3, z4, z5⟩
        subst z0
        replace z1 := z1.symm
        subst z1
        replace z2 := z2.symm
        subst z2
        replace z3 := z3.symm
        subst z3
        replace z4 := z4.symm
        subst z4
        replace z5 := z5.symm
        subst z5
        refine And.intro (Or.inl rfl) ?_
        rw [e1, g8]
        refine Exists.intro _ (Exists.intro (R s) (And.intro a5 (And.intro (by first | (rw [mj_w_id (by omega) (by omega)]; done) | (rw [mj_w_id (by omega) (by omega)]; omega) | (unfold mj_w; omega)) (And.intro (by omega) ?_))))
        refine And.intro (fun c2 => ?_) (fun c2 => ?_)
        · simp (disch := (clear c2; omega)) only [mj_w_id] at c2
          exact keep (decide_eq_false (by omega))
        · simp (disch := (clear c2; omega)) only [mj_w_id] at c2
          have hP : ar_P L R dep d s = true := decide_eq_true (by omega)
          have f1 : (xs ++ [s]).filter (ar_P L R dep d) = xs.filter (ar_P L R dep d) ++ [s] := by simp [List.filter_append, List.filter_cons, hP]
          have f2 : (xs ++ [s]).filter (fun s => !ar_P L R dep d s) = xs.filter (fun s => !ar_P L R dep d s) := by simp [List.filter_append, List.filter_cons, hP]
          have lo : (od ++ xs.filter (ar_P L R dep d)).length < 300 := by rw [List.length_append]; omega
          have ih1 := ih (xs ++ [s]) (mj_up (mj_up J (b + 6) s d) (b + 7) (od ++ xs.filter (ar_P L R dep d)).length s) (some (.inl s)) (by rw [hws]; simp) ⟨fun q h1 h2 h3 => by rw [mj_up_ne h2, mj_up_ne h1]; exact j1 q h1 h2 h3, fun q => by
            rw [mj_up_ne (by omega), mj_up_row, f1]
            unfold mj_u
            by_cases z : q = s
            · rw [if_pos z, if_pos (by rw [z]; simp)]
            · rw [if_neg z, j2 q]
              by_cases z2 : q ∈ xs.filter (ar_P L R dep d)
              · rw [if_pos z2, if_pos (List.mem_append_left _ z2)]
              · rw [if_neg z2, if_neg (show ¬ q ∈ xs.filter (ar_P L R dep d) ++ [s] by
                  intro z3
                  rcases List.mem_append.mp z3 with z3 | z3
                  · exact z2 z3
                  · exact z (by simpa using z3))], by rw [mj_up_row, mj_up_ne (by omega), f1, ← List.append_assoc]; exact mj_rl_app j3, by rw [mj_up_ne (by omega), mj_up_ne (by omega), f2]; exact j4, by
            intro i y hy
            rw [mj_up_ne (by omega), mj_up_ne (by omega)]
            exact rest i y hy⟩
          rw [f1, f2, ← List.append_assoc, List.length_append (bs := [s]), List.length_append (as := xs) (bs := [s]), List.length_singleton] at ih1
          refine And.intro h0 (Exists.intro _ (And.intro r5 ?_))
          refine Exists.intro _ (Exists.intro (s) (And.intro a5 (And.intro (by first | (rw [mj_w_id (by omega) (by omega)]; done) | (rw [mj_w_id (by omega) (by omega)]; omega) | (unfold mj_w; omega)) (And.intro (by omega) ?_))))
          refine And.intro h0 (Exists.intro _ (And.intro r6 ?_))
          refine Exists.intro _ (Exists.intro ((od ++ xs.filter (ar_P L R dep d)).length) (And.intro a6 (And.intro (by first | (rw [mj_w_id (by omega) (by omega)]; done) | (rw [mj_w_id (by omega) (by omega)]; omega) | (unfold mj_w; omega)) (And.intro (by omega) ?_))))
          refine Exists.intro ((((od ++ xs.filter (ar_P L R dep d)).length + 1 : Nat) : Int)) (And.intro (by first | (rw [mj_w_id (by omega) (by omega)]; done) | (rw [mj_w_id (by omega) (by omega)]; omega) | (unfold mj_w; omega)) ?_)
          refine Exists.intro (((xs.length + 1 : Nat) : Int)) (And.intro (by first | (rw [mj_w_id (by omega) (by omega)]; done) | (rw [mj_w_id (by omega) (by omega)]; omega) | (unfold mj_w; omega)) ?_)
          exact ih1
end NN
