/-! NET: a net that has been read -/
def nW (IA : mj_FI) (b m I O G : Nat) : Prop := m ≤ 1000 ∧ I ≤ 14 ∧ O ≤ 16 ∧ G ≤ 300 ∧ I + G ≤ m ∧ IA b 9 = (m : Int) ∧ IA b 10 = (I : Int) ∧ IA b 11 = (G : Int) ∧ IA b 12 = (O : Int) ∧ ab_V m (I + G + 1) (IA (b + 1)) (IA (b + 2)) ∧
  (∀ j, I + 1 ≤ j → j < I + 1 + G → (0 ≤ IA (b + 3) j ∧ IA (b + 3) j ≤ 2 * (m : Int) + 1) ∧ 0 ≤ IA (b + 4) j ∧ IA (b + 4) j ≤ 2 * (m : Int) + 1) ∧ (∀ k, k < O → 0 ≤ IA (b + 5) k ∧ IA (b + 5) k ≤ 2 * (m : Int) + 1)
theorem nW.so {IA : mj_FI} {b m I O G : Nat} (h : nW IA b m I O G) : ∀ j, j < 1001 → -1 ≤ IA (b + 1) j ∧ IA (b + 1) j < 315 := by
  obtain ⟨w1, w2, w3, w4, w5, w6, w7, w8, w9, ⟨v0, v1, v2⟩, w11, w12⟩ := h
  intro j hj
  by_cases e : j = 0
  · subst e
    omega
  · rcases v1 j (by omega) hj with q | ⟨q1, q2, _, _⟩ <;> omega
theorem nt_wl_mem {IA : mj_FI} {b I : Nat} (h : IA b 10 = (I : Int)) : ∀ v s, s ∈ nt_wl IA b v ↔ ∃ j, 1 ≤ j ∧ j ≤ v ∧ IA (b + 1) j = (s : Int) ∧ I < s
  | 0, s => by
    simp only [nt_wl]
    constructor
    · intro z
      simp at z
    · rintro ⟨j, h1, h2, _⟩
      omega
  | v + 1, s => by
    have ih := nt_wl_mem h v s
    have e0 : nt_wl IA b (v + 1) = if IA b 10 < IA (b + 1) (v + 1) then nt_wl IA b v ++ [(IA (b + 1) (v + 1)).toNat] else nt_wl IA b v := rfl
    by_cases hc : IA b 10 < IA (b + 1) (v + 1)
    · rw [if_pos hc] at e0
      rw [e0, List.mem_append, ih, List.mem_singleton]
      constructor
      · rintro (⟨j, h1, h2, h3, h4⟩ | e)
        · exact ⟨j, h1, by omega, h3, h4⟩
        · exact ⟨v + 1, by omega, by omega, by omega, by omega⟩
      · rintro ⟨j, h1, h2, h3, h4⟩
        by_cases e : j = v + 1
        · subst e
          right
          omega
        · exact Or.inl ⟨j, h1, by omega, h3, h4⟩
    · rw [if_neg hc] at e0
      rw [e0, ih]
      constructor
      · rintro ⟨j, h1, h2, h3, h4⟩
        exact ⟨j, h1, by omega, h3, h4⟩
      · rintro ⟨j, h1, h2, h3, h4⟩
        by_cases e : j = v + 1
        · subst e
          omega
        · exact ⟨j, h1, by omega, h3, h4⟩
theorem nt_wl_g {IA : mj_FI} {b m I O G : Nat} (h : nW IA b m I O G) {s : Nat} : s ∈ nt_wl IA b m ↔ lf_g I G s := by
  obtain ⟨w1, w2, w3, w4, w5, w6, w7, w8, w9, ⟨v0, v1, v2⟩, w11, w12⟩ := h
  rw [nt_wl_mem w7]
  unfold lf_g
  constructor
  · rintro ⟨j, h1, h2, h3, h4⟩
    rcases v1 j h1 (by omega) with q | ⟨q1, q2, _, _⟩ <;> omega
  · rintro ⟨h1, h2⟩
    obtain ⟨j, j1, j2, j3, j4⟩ := v2 s (by omega) (by omega)
    exact ⟨j, j1, j2, j4, by omega⟩
theorem nt_wl_pw {IA : mj_FI} {b m I O G : Nat} (h : nW IA b m I O G) : ∀ v, v ≤ m → (nt_wl IA b v).Pairwise (fun a c => IA (b + 2) a < IA (b + 2) c) := by
  have hm := fun v s => nt_wl_mem (IA := IA) (b := b) (I := I) h.2.2.2.2.2.2.1 v s
  obtain ⟨w1, w2, w3, w4, w5, w6, w7, w8, w9, ⟨v0, v1, v2⟩, w11, w12⟩ := h
  have hown : ∀ j s, 1 ≤ j → j ≤ m → IA (b + 1) j = ((s : Nat) : Int) → 1 ≤ s → IA (b + 2) s = 2 * (j : Int) := by
    intro j s h1 h2 h3 h4
    rcases v1 j h1 (by omega) with q | ⟨_, _, q, _⟩
    · omega
    · rw [h3] at q
      exact q
  intro v
  induction v with
  | zero =>
    intro _
    exact List.Pairwise.nil
  | succ v ih =>
    intro hv
    have ih := ih (by omega)
    have e0 : nt_wl IA b (v + 1) = if IA b 10 < IA (b + 1) (v + 1) then nt_wl IA b v ++ [(IA (b + 1) (v + 1)).toNat] else nt_wl IA b v := rfl
    by_cases hc : IA b 10 < IA (b + 1) (v + 1)
    · rw [if_pos hc] at e0
      rw [e0, List.pairwise_append]
      refine ⟨ih, List.pairwise_singleton _ _, fun a ha c hc2 => ?_⟩
      have hc3 : c = (IA (b + 1) (v + 1)).toNat := by simpa using hc2
      obtain ⟨j, j1, j2, j3, j4⟩ := (hm v a).mp ha
      rw [hown j a j1 (by omega) j3 (by omega), hown (v + 1) c (by omega) hv (by omega) (by omega)]
      omega
    · rw [if_neg hc] at e0
      rw [e0]
      exact ih
theorem nt_wl_G {IA : mj_FI} {b m I O G : Nat} (h : nW IA b m I O G) : (nt_wl IA b m).Nodup ∧ (nt_wl IA b m).length = G := by
  have hn : (nt_wl IA b m).Nodup := (nt_wl_pw h m (Nat.le_refl _)).imp (fun q e => by subst e; omega)
  have h1 : (nt_wl IA b m).length ≤ G := nd_len G _ (I + 1) hn (fun x hx => (nt_wl_g h).mp hx)
  refine ⟨hn, Nat.le_antisymm h1 ?_⟩
  have : ∀ (k : Nat), k ≤ G → ∀ l : List Nat, (∀ x, lf_g I k x → x ∈ l) → k ≤ l.length := by
    intro k
    induction k with
    | zero => intro _ l _; omega
    | succ k ih =>
      intro hk l hl
      have h2 := ih (by omega) (l.filter (fun x => x ≠ I + 1 + k)) (fun x hx => by
        rw [List.mem_filter]
        refine ⟨hl x ⟨hx.1, by have := hx.2; omega⟩, ?_⟩
        have := hx.2
        simp
        omega)
      have h3 : I + 1 + k ∈ l := hl _ ⟨by omega, by omega⟩
      have h4 := ar_len (P := fun x => decide (x ≠ I + 1 + k)) l
      have h5 : 0 < (l.filter (fun s => !decide (s ≠ I + 1 + k))).length := List.length_pos_of_mem (a := I + 1 + k) (by rw [List.mem_filter]; exact ⟨h3, by simp⟩)
      omega
  exact this G (Nat.le_refl _) _ (fun x hx => (nt_wl_g h).mpr hx)
/-- a literal that the text uses -/
def nU (IA : mj_FI) (b I O G : Nat) (lit : Int) : Prop := (∃ k, k < O ∧ lit = IA (b + 5) k) ∨ ∃ j, j < G ∧ (lit = IA (b + 3) (I + 1 + j) ∨ lit = IA (b + 4) (I + 1 + j))
def nt_mn (U : Int → Prop) (so : Nat → Int) (x : Int) : Prop := (∀ lit, U lit → so (lit / 2).toNat = -1 → x ≤ lit / 2) ∧ (x = 1001 ∨ ∃ lit, U lit ∧ so (lit / 2).toNat = -1 ∧ x = lit / 2)
theorem nt_mn_add {IA : mj_FI} {b : Nat} {U U' : Int → Prop} {x l : Int} (h : nt_mn U (IA (b + 1)) x) (hx : x ≤ 1001) (hl : l ≤ 2001) (hU : ∀ y, U' y ↔ U y ∨ y = l) : nt_mn U' (IA (b + 1)) (min x (nt_mv IA b l)) := by
  obtain ⟨h1, h2⟩ := h
  unfold nt_mv
  by_cases hc : IA (b + 1) (l / 2).toNat = -1
  · rw [if_pos hc]
    refine ⟨fun y hy hs => ?_, ?_⟩
    · rcases (hU y).mp hy with q | q
      · have := h1 y q hs
        omega
      · subst q
        omega
    · by_cases hm : x ≤ l / 2
      · rw [show min x (l / 2) = x by omega]
        rcases h2 with q | ⟨y, y1, y2, y3⟩
        · exact Or.inl q
        · exact Or.inr ⟨y, (hU y).mpr (Or.inl y1), y2, y3⟩
      · rw [show min x (l / 2) = l / 2 by omega]
        exact Or.inr ⟨l, (hU l).mpr (Or.inr rfl), hc, rfl⟩
  · rw [if_neg hc, show min x 1001 = x by omega]
    refine ⟨fun y hy hs => ?_, ?_⟩
    · rcases (hU y).mp hy with q | q
      · exact h1 y q hs
      · subst q
        exact absurd hs hc
    · rcases h2 with q | ⟨y, y1, y2, y3⟩
      · exact Or.inl q
      · exact Or.inr ⟨y, (hU y).mpr (Or.inl y1), y2, y3⟩
/-- what leastMissing answers -/
theorem nt_lm_w {IA : mj_FI} {b m I O G : Nat} (h : nW IA b m I O G) : (nt_lm IA b I O G = 0 ∧ ∀ lit, nU IA b I O G lit → ¬ IA (b + 1) (lit / 2).toNat = -1) ∨
    (1 ≤ nt_lm IA b I O G ∧ nt_lm IA b I O G ≤ 1000 ∧ (∃ lit, nU IA b I O G lit ∧ IA (b + 1) (lit / 2).toNat = -1 ∧ nt_lm IA b I O G = lit / 2) ∧ ∀ lit, nU IA b I O G lit → IA (b + 1) (lit / 2).toNat = -1 → nt_lm IA b I O G ≤ lit / 2) := by
  obtain ⟨w1, w2, w3, w4, w5, w6, w7, w8, w9, ⟨v0, v1, v2⟩, w11, w12⟩ := h
  have r1 : ∀ k, k ≤ O → nt_lo IA b k ≤ 1001 ∧ nt_mn (fun y => ∃ i, i < k ∧ y = IA (b + 5) i) (IA (b + 1)) (nt_lo IA b k) := by
    intro k
    induction k with
    | zero => exact fun _ => ⟨Int.le_refl _, fun y hy => by obtain ⟨i, hi, _⟩ := hy; omega, Or.inl rfl⟩
    | succ k ih =>
      intro hk
      obtain ⟨i1, i2⟩ := ih (by omega)
      simp only [nt_lo]
      refine ⟨by omega, nt_mn_add i2 i1 (by have := w12 k (by omega); omega) (fun y => ?_)⟩
      constructor
      · rintro ⟨i, q1, q2⟩
        by_cases e : i = k
        · subst e
          exact Or.inr q2
        · exact Or.inl ⟨i, by omega, q2⟩
      · rintro (⟨i, q1, q2⟩ | q)
        · exact ⟨i, by omega, q2⟩
        · exact ⟨k, by omega, q⟩
  have r2 : ∀ k, k ≤ G → nt_lg IA b I (nt_lo IA b O) k ≤ 1001 ∧ nt_mn (nU IA b I O k) (IA (b + 1)) (nt_lg IA b I (nt_lo IA b O) k) := by
    intro k
    induction k with
    | zero =>
      intro _
      obtain ⟨i1, i2, i3⟩ := r1 O (Nat.le_refl _)
      refine ⟨i1, fun y hy hs => i2 y ?_ hs, ?_⟩
      · rcases hy with hy | ⟨j, hj, _⟩
        · exact hy
        · omega
      · rcases i3 with q | ⟨y, y1, y2⟩
        · exact Or.inl q
        · exact Or.inr ⟨y, Or.inl y1, y2⟩
    | succ k ih =>
      intro hk
      obtain ⟨i1, i2⟩ := ih (by omega)
      obtain ⟨g1, g2⟩ := w11 (I + 1 + k) (by omega) (by omega)
      simp only [nt_lg]
      refine ⟨by omega, nt_mn_add (U := fun y => nU IA b I O k y ∨ y = IA (b + 3) (I + 1 + k)) (nt_mn_add i2 i1 (by omega) (fun y => Iff.rfl)) (by omega) (by omega) (fun y => ?_)⟩
      unfold nU
      constructor
      · rintro (q | ⟨j, q1, q2⟩)
        · exact Or.inl (Or.inl (Or.inl q))
        · by_cases e : j = k
          · subst e
            rcases q2 with q2 | q2
            · exact Or.inl (Or.inr q2)
            · exact Or.inr q2
          · exact Or.inl (Or.inl (Or.inr ⟨j, by omega, q2⟩))
      · rintro (((q | ⟨j, q1, q2⟩) | q) | q)
        · exact Or.inl q
        · exact Or.inr ⟨j, by omega, q2⟩
        · exact Or.inr ⟨k, by omega, Or.inl q⟩
        · exact Or.inr ⟨k, by omega, Or.inr q⟩
  obtain ⟨i1, i2, i3⟩ := r2 G (Nat.le_refl _)
  have rng : ∀ lit, nU IA b I O G lit → 0 ≤ lit ∧ lit ≤ 2001 := by
    intro lit hl
    rcases hl with ⟨k, k1, k2⟩ | ⟨j, j1, j2⟩
    · have := w12 k k1
      omega
    · have := w11 (I + 1 + j) (by omega) (by omega)
      rcases j2 with j2 | j2 <;> omega
  have pos : ∀ lit, nU IA b I O G lit → IA (b + 1) (lit / 2).toNat = -1 → 1 ≤ lit / 2 := by
    intro lit hl hs
    have := rng lit hl
    by_cases e : lit / 2 = 0
    · rw [e] at hs
      have : IA (b + 1) 0 = -1 := hs
      omega
    · omega
  unfold nt_lm
  by_cases hc : nt_lg IA b I (nt_lo IA b O) G ≤ 1000
  · rw [if_pos hc]
    rcases i3 with q | ⟨y, y1, y2, y3⟩
    · omega
    · have := pos y y1 y2
      exact Or.inr ⟨by omega, hc, ⟨y, y1, y2, y3⟩, i2⟩
  · rw [if_neg hc]
    refine Or.inl ⟨rfl, fun lit hl hs => ?_⟩
    have h1 := i2 lit hl hs
    have h2 := rng lit hl
    omega
