/-! NET: what the layers give -/
def ar_lx (dep ow : Nat → Int) (a c : Nat) : Prop := dep a < dep c ∨ (dep a = dep c ∧ ow a < ow c)
/-- the state before layer d -/
def ar_V (L R : Nat → Nat) (ow : Nat → Int) (w0 : List Nat) (d : Nat) (dep : Nat → Int) (ws od : List Nat) : Prop :=
  ws.Sublist w0 ∧ (∀ s ∈ w0, s < 315 ∧ L s < 315 ∧ R s < 315) ∧ w0.Pairwise (fun a c => ow a < ow c) ∧ (∀ s ∈ ws, dep s = 1000000 ∧ ((d : Int) ≤ dep (L s) + 1 ∨ (d : Int) ≤ dep (R s) + 1)) ∧ (∀ s ∈ w0, s ∈ ws ∨ (s ∈ od ∧ 1 ≤ dep s ∧ dep s < (d : Int) ∧ dep s = 1 + max (dep (L s)) (dep (R s)))) ∧
  (∀ s, s < 315 → ¬ s ∈ w0 → dep s = 0) ∧ (∀ s ∈ od, s ∈ w0 ∧ dep s < (d : Int)) ∧ od.Pairwise (ar_lx dep ow) ∧ od.length + ws.length = w0.length ∧ d ≤ od.length + 1 ∧ 1 ≤ d ∧ w0.length ≤ 300
theorem ar_V.dep0 {L R : Nat → Nat} {ow : Nat → Int} {w0 : List Nat} {d : Nat} {dep : Nat → Int} {ws od : List Nat} (h : ar_V L R ow w0 d dep ws od) {s : Nat} (hs : s < 315) : 0 ≤ dep s ∧ dep s ≤ 1000000 := by
  obtain ⟨v1, v2, v3, v4, v5, v6, v7, v8, v9, v10, v11, v12⟩ := h
  by_cases z : s ∈ w0
  · rcases v5 s z with h1 | ⟨_, h1, h2, _⟩
    · have := (v4 s h1).1
      omega
    · omega
  · have := v6 s hs z
    omega
theorem ar_V.mem {L R : Nat → Nat} {ow : Nat → Int} {w0 : List Nat} {d : Nat} {dep : Nat → Int} {ws od : List Nat} (h : ar_V L R ow w0 d dep ws od) {s : Nat} (hs : s < 315) : s ∈ ws ↔ dep s = 1000000 := by
  obtain ⟨v1, v2, v3, v4, v5, v6, v7, v8, v9, v10, v11, v12⟩ := h
  constructor
  · exact fun z => (v4 s z).1
  · intro z
    by_cases z2 : s ∈ w0
    · rcases v5 s z2 with h1 | ⟨_, h1, h2, _⟩
      · exact h1
      · omega
    · have := v6 s hs z2
      omega
theorem ar_V_step {L R : Nat → Nat} {ow : Nat → Int} {w0 : List Nat} {d : Nat} {dep : Nat → Int} {ws od : List Nat} (h : ar_V L R ow w0 d dep ws od) (hk : ¬ (ws.filter (fun s => !ar_P L R dep d s)).length = ws.length) :
    ar_V L R ow w0 (d + 1) (fun s => if s ∈ ws.filter (ar_P L R dep d) then (d : Int) else dep s) (ws.filter (fun s => !ar_P L R dep d s)) (od ++ ws.filter (ar_P L R dep d)) := by
  have hd0 := fun s hs => h.dep0 (s := s) hs
  have hmem := fun s hs => h.mem (s := s) hs
  obtain ⟨v1, v2, v3, v4, v5, v6, v7, v8, v9, v10, v11, v12⟩ := h
  have hl := ar_len (P := ar_P L R dep d) ws
  have hwp : ∀ s, s ∈ ws.filter (ar_P L R dep d) ↔ s ∈ ws ∧ dep (L s) < (d : Int) ∧ dep (R s) < (d : Int) := by
    intro s
    rw [List.mem_filter]
    simp [ar_P]
  have hwk : ∀ s, s ∈ ws.filter (fun s => !ar_P L R dep d s) ↔ s ∈ ws ∧ ¬ (dep (L s) < (d : Int) ∧ dep (R s) < (d : Int)) := by
    intro s
    rw [List.mem_filter]
    simp only [ar_P, Bool.not_eq_true', decide_eq_false_iff_not]
  have hsub := (List.filter_sublist (p := ar_P L R dep d) (l := ws)).trans v1
  generalize hgp : ws.filter (ar_P L R dep d) = wp at *
  generalize hgk : ws.filter (fun s => !ar_P L R dep d s) = wk at *
  have hdp : ∀ s, s ∈ wp → (if s ∈ wp then (d : Int) else dep s) = d := fun s hs => if_pos hs
  have hdn : ∀ s, ¬ s ∈ wp → (if s ∈ wp then (d : Int) else dep s) = dep s := fun s hs => if_neg hs
  have hlow : ∀ s, dep s < (d : Int) → ¬ s ∈ wp := by
    intro s hs z
    have := (v4 s ((hwp s).mp z).1).1
    omega
  have hge : ∀ s, s < 315 → dep s ≤ (if s ∈ wp then (d : Int) else dep s) ∨ (d : Int) ≤ (if s ∈ wp then (d : Int) else dep s) := by
    intro s _
    by_cases z : s ∈ wp
    · rw [hdp s z]
      exact Or.inr (Int.le_refl _)
    · rw [hdn s z]
      exact Or.inl (Int.le_refl _)
  have hod : ∀ s ∈ od, ¬ s ∈ wp := fun s hs => hlow s (v7 s hs).2
  refine ⟨?_, v2, v3, ?_, ?_, ?_, ?_, ?_, ?_, ?_, by omega, v12⟩
  · rw [← hgk]
    exact List.filter_sublist.trans v1
  · intro s hs
    obtain ⟨s1, s2⟩ := (hwk s).mp hs
    have s3 : ¬ s ∈ wp := fun z => s2 ((hwp s).mp z).2
    obtain ⟨_, w2, w3⟩ := v2 s (v1.subset s1)
    dsimp only
    rw [hdn s s3]
    refine ⟨(v4 s s1).1, ?_⟩
    have gl := hge (L s) w2
    have gr := hge (R s) w3
    omega
  · intro s hs
    dsimp only
    rcases v5 s hs with q | ⟨q1, q2, q3, q4⟩
    · by_cases z : dep (L s) < (d : Int) ∧ dep (R s) < (d : Int)
      · have zp : s ∈ wp := (hwp s).mpr ⟨q, z⟩
        refine Or.inr ⟨List.mem_append_right _ zp, ?_⟩
        rw [hdp s zp, hdn _ (hlow _ z.1), hdn _ (hlow _ z.2)]
        have := (v4 s q).2
        omega
      · exact Or.inl ((hwk s).mpr ⟨q, z⟩)
    · refine Or.inr ⟨List.mem_append_left _ q1, ?_⟩
      have hl1 : dep (L s) < (d : Int) := by omega
      have hr1 : dep (R s) < (d : Int) := by omega
      rw [hdn s (hod s q1), hdn _ (hlow _ hl1), hdn _ (hlow _ hr1)]
      omega
  · intro s s1 s2
    dsimp only
    rw [hdn s (fun z => s2 (v1.subset ((hwp s).mp z).1))]
    exact v6 s s1 s2
  · intro s hs
    dsimp only
    rcases List.mem_append.mp hs with q | q
    · rw [hdn s (hod s q)]
      have := v7 s q
      exact ⟨this.1, by omega⟩
    · rw [hdp s q]
      exact ⟨v1.subset ((hwp s).mp q).1, by omega⟩
  · rw [List.pairwise_append]
    refine ⟨?_, ?_, ?_⟩
    · refine List.Pairwise.imp_of_mem ?_ v8
      intro a c ha hc hac
      unfold ar_lx at hac ⊢
      dsimp only
      rw [hdn a (hod a ha), hdn c (hod c hc)]
      exact hac
    · have := List.Pairwise.sublist hsub v3
      refine List.Pairwise.imp_of_mem ?_ this
      intro a c ha hc hac
      unfold ar_lx
      dsimp only
      rw [hdp a ha, hdp c hc]
      exact Or.inr ⟨rfl, hac⟩
    · intro a ha c hc
      unfold ar_lx
      dsimp only
      rw [hdn a (hod a ha), hdp c hc]
      exact Or.inl (v7 a ha).2
  · rw [List.length_append]
    omega
  · rw [List.length_append]
    omega
/-- all gates have their depth -/
def ar_T (L R : Nat → Nat) (ow : Nat → Int) (w0 : List Nat) (dep : Nat → Int) (od : List Nat) : Prop :=
  (∀ s ∈ w0, s ∈ od ∧ 1 ≤ dep s ∧ dep s ≤ (w0.length : Int) ∧ dep s = 1 + max (dep (L s)) (dep (R s))) ∧ (∀ s, s < 315 → ¬ s ∈ w0 → dep s = 0) ∧ (∀ s ∈ od, s ∈ w0) ∧ od.Pairwise (ar_lx dep ow) ∧ od.length = w0.length
/-- some wait for ever -/
def ar_F (L R : Nat → Nat) (w0 : List Nat) (dep : Nat → Int) (ws : List Nat) : Prop :=
  ws ≠ [] ∧ ws.Sublist w0 ∧ (∀ s, s < 315 → (s ∈ ws ↔ dep s = 1000000)) ∧ (∀ s, s < 315 → 0 ≤ dep s ∧ dep s ≤ 1000000) ∧ (∀ s ∈ ws, dep (L s) = 1000000 ∨ dep (R s) = 1000000) ∧ (∀ s ∈ w0, ¬ dep s = 1000000 → ¬ dep (L s) = 1000000 ∧ ¬ dep (R s) = 1000000 ∧ dep s = 1 + max (dep (L s)) (dep (R s)))
theorem ar_go_w {L R : Nat → Nat} {ow : Nat → Int} {w0 : List Nat} : ∀ (t d : Nat) (dep : Nat → Int) (ws od : List Nat), d + t = w0.length + 1 → ar_V L R ow w0 d dep ws od →
    ((ar_go L R t d dep ws od).1 = true → (ar_go L R t d dep ws od).2.2.1 = [] ∧ ar_T L R ow w0 (ar_go L R t d dep ws od).2.1 (ar_go L R t d dep ws od).2.2.2) ∧
    ((ar_go L R t d dep ws od).1 = false → ar_F L R w0 (ar_go L R t d dep ws od).2.1 (ar_go L R t d dep ws od).2.2.1) := by
  have fin : ∀ (d : Nat) (dep : Nat → Int) (ws od : List Nat), ws.length = 0 → ar_V L R ow w0 d dep ws od → ws = [] ∧ ar_T L R ow w0 dep od := by
    intro d dep ws od hz h
    obtain ⟨v1, v2, v3, v4, v5, v6, v7, v8, v9, v10, v11, v12⟩ := h
    have hz2 := List.eq_nil_of_length_eq_zero hz
    refine ⟨hz2, fun s hs => ?_, v6, fun s hs => (v7 s hs).1, v8, by omega⟩
    rcases v5 s hs with q | ⟨q1, q2, q3, q4⟩
    · rw [hz2] at q
      simp at q
    · exact ⟨q1, q2, by omega, q4⟩
  intro t
  induction t with
  | zero =>
    intro d dep ws od hd hV
    have hz : ws.length = 0 := by
      obtain ⟨v1, v2, v3, v4, v5, v6, v7, v8, v9, v10, v11, v12⟩ := hV
      omega
    exact ⟨fun _ => fin d dep ws od hz hV, fun z => by cases z⟩
  | succ t ih =>
    intro d dep ws od hd hV
    simp only [ar_go]
    by_cases h1 : ws.length = 0
    · rw [if_pos h1]
      exact ⟨fun _ => fin d dep ws od h1 hV, fun z => by cases z⟩
    · rw [if_neg h1]
      by_cases h2 : (ws.filter (fun s => !ar_P L R dep d s)).length = ws.length
      · rw [if_pos h2]
        refine ⟨(fun z => by cases z), fun _ => ?_⟩
        have hw : ws.filter (fun s => !ar_P L R dep d s) = ws := List.Sublist.eq_of_length List.filter_sublist h2
        have hd0 := fun s hs => hV.dep0 (s := s) hs
        have hm := fun s hs => hV.mem (s := s) hs
        obtain ⟨v1, v2, v3, v4, v5, v6, v7, v8, v9, v10, v11, v12⟩ := hV
        have key : ∀ s, s < 315 → (d : Int) ≤ dep s → dep s = 1000000 := by
          intro s s1 s2
          by_cases z : s ∈ w0
          · rcases v5 s z with q | ⟨q1, q2, q3, q4⟩
            · exact (v4 s q).1
            · omega
          · have := v6 s s1 z
            omega
        refine ⟨fun z => h1 (by have z : ws = [] := z; rw [z]; rfl), v1, hm, hd0, fun s hs => ?_, fun s hs hn => ?_⟩
        · obtain ⟨_, w2, w3⟩ := v2 s (v1.subset hs)
          have hs2 : s ∈ ws.filter (fun s => !ar_P L R dep d s) := by rw [hw]; exact hs
          have hs3 := (List.mem_filter.mp hs2).2
          simp only [ar_P, Bool.not_eq_true', decide_eq_false_iff_not] at hs3
          by_cases z : dep (L s) < (d : Int)
          · exact Or.inr (key _ w3 (by omega))
          · exact Or.inl (key _ w2 (by omega))
        · rcases v5 s hs with q | ⟨q1, q2, q3, q4⟩
          · exact absurd (v4 s q).1 hn
          · show ¬ dep (L s) = 1000000 ∧ ¬ dep (R s) = 1000000 ∧ dep s = 1 + max (dep (L s)) (dep (R s))
            exact ⟨by omega, by omega, q4⟩
      · rw [if_neg h2]
        exact ih (d + 1) _ _ _ (by omega) (ar_V_step hV h2)
/-- at the beginning -/
theorem ar_V0 {L R : Nat → Nat} {ow : Nat → Int} {w0 : List Nat} {dx : Nat → Int} (h1 : ∀ s ∈ w0, s < 315 ∧ L s < 315 ∧ R s < 315) (h2 : w0.Pairwise (fun a c => ow a < ow c)) (h3 : w0.length ≤ 300) : ar_V L R ow w0 1 (fun s => if s ∈ w0 then 1000000 else if s < 315 then 0 else dx s) w0 [] := by
  have hp : ∀ s, s < 315 → 0 ≤ (fun s => if s ∈ w0 then (1000000 : Int) else if s < 315 then 0 else dx s) s := by
    intro s hs
    dsimp only
    rw [if_pos hs]
    split <;> omega
  refine ⟨List.Sublist.refl _, h1, h2, fun s hs => ⟨if_pos hs, Or.inl ?_⟩, fun s hs => Or.inl hs, fun s s1 s2 => ?_, fun s hs => by simp at hs, List.Pairwise.nil, by simp, by simp, Nat.le_refl _, h3⟩
  · have := hp (L s) (h1 s hs).2.1
    omega
  · dsimp only
    rw [if_neg s2, if_pos s1]
