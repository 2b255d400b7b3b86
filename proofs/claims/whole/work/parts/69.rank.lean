/-! WRITER: ranks -/
def wr_ct (P : Nat → Bool) (l : List Nat) : Nat := (l.filter P).length
theorem wr_ct_eq {P : Nat → Bool} {l k : List Nat} (hl : l.Nodup) (hk : k.Nodup) (h : ∀ x, x ∈ l ↔ x ∈ k) : wr_ct P l = wr_ct P k := by
  refine Nat.le_antisymm (nd_sub _ _ (hl.filter _) fun x hx => ?_) (nd_sub _ _ (hk.filter _) fun x hx => ?_)
  · rw [List.mem_filter] at hx ⊢
    exact ⟨(h x).mp hx.1, hx.2⟩
  · rw [List.mem_filter] at hx ⊢
    exact ⟨(h x).mpr hx.1, hx.2⟩
theorem wr_ct_app {P : Nat → Bool} {l k : List Nat} : wr_ct P (l ++ k) = wr_ct P l + wr_ct P k := by
  unfold wr_ct
  rw [List.filter_append, List.length_append]
theorem wr_ct_one {P : Nat → Bool} {s : Nat} : wr_ct P [s] = if P s = true then 1 else 0 := by
  unfold wr_ct
  by_cases h : P s = true <;> simp [h]
theorem wr_ct_or {P Q R : Nat → Bool} : ∀ (l : List Nat), (∀ x ∈ l, R x = (P x || Q x) ∧ ¬ (P x = true ∧ Q x = true)) → wr_ct R l = wr_ct P l + wr_ct Q l
  | [], _ => rfl
  | x :: r, h => by
    have ih := wr_ct_or r (fun y hy => h y (List.mem_cons_of_mem _ hy))
    have h1 := h x List.mem_cons_self
    unfold wr_ct at ih ⊢
    by_cases hp : P x = true
    · by_cases hq : Q x = true
      · exact absurd ⟨hp, hq⟩ h1.2
      · simp only [Bool.not_eq_true] at hq
        simp [List.filter_cons, h1.1, hp, hq, ih]
        omega
    · simp only [Bool.not_eq_true] at hp
      by_cases hq : Q x = true
      · simp [List.filter_cons, h1.1, hp, hq, ih]
        omega
      · simp only [Bool.not_eq_true] at hq
        simp [List.filter_cons, h1.1, hp, hq, ih]
theorem wr_ct_0 {P : Nat → Bool} {l : List Nat} (h : ∀ x ∈ l, P x = false) : wr_ct P l = 0 := by
  unfold wr_ct
  rw [List.length_eq_zero_iff, List.filter_eq_nil_iff]
  intro x hx
  rw [h x hx]
  simp
theorem wr_ct_congr {P Q : Nat → Bool} {l : List Nat} (h : ∀ x ∈ l, P x = Q x) : wr_ct P l = wr_ct Q l := by
  unfold wr_ct
  rw [List.filter_congr h]
theorem wr_ct_le {P : Nat → Bool} {l : List Nat} : wr_ct P l ≤ l.length := List.length_filter_le _ _
/-- before: less deep, or as deep and of a lesser variable -/
def wr_lt (D ow : Nat → Int) (g s : Nat) : Bool := decide (D g < D s ∨ (D g = D s ∧ ow g < ow s))
def wr_rk (N D ow : Nat → Int) (wl : List Nat) (s : Nat) : Nat := wr_ct (fun g => decide (N g = 1) && wr_lt D ow g s) wl
theorem wr_rk_lt {N D ow : Nat → Int} {wl : List Nat} {s t : Nat} (hn : wl.Nodup) (hs : s ∈ wl) (h1 : N s = 1) (h : wr_lt D ow s t = true) : wr_rk N D ow wl s < wr_rk N D ow wl t := by
  unfold wr_rk wr_ct
  have hlt : D s < D t ∨ (D s = D t ∧ ow s < ow t) := of_decide_eq_true h
  have hn2 : (s :: wl.filter (fun g => decide (N g = 1) && wr_lt D ow g s)).Nodup := by
    rw [List.nodup_cons]
    refine ⟨fun z => ?_, hn.filter _⟩
    have z2 := (List.mem_filter.mp z).2
    simp [wr_lt] at z2
  have := nd_sub _ (wl.filter (fun g => decide (N g = 1) && wr_lt D ow g t)) hn2 (fun x hx => by
    rw [List.mem_filter]
    rcases List.mem_cons.mp hx with e | e
    · subst e
      exact ⟨hs, by simp [h1, h]⟩
    · obtain ⟨e1, e2⟩ := List.mem_filter.mp e
      refine ⟨e1, ?_⟩
      simp only [wr_lt, Bool.and_eq_true, decide_eq_true_eq] at e2 ⊢
      omega)
  rw [List.length_cons] at this
  omega
theorem wr_rk_inj {N D ow : Nat → Int} {wl : List Nat} {s t : Nat} (hn : wl.Nodup) (hpw : wl.Pairwise (fun a c => ow a < ow c)) (hs : s ∈ wl) (ht : t ∈ wl) (h1 : N s = 1) (h2 : N t = 1) (h : wr_rk N D ow wl s = wr_rk N D ow wl t) : s = t := by
  by_cases e : s = t
  · exact e
  · exfalso
    have hne : ow s ≠ ow t := by
      rcases nd_two wl s t hs ht e with q | q
      · have := List.pairwise_iff_forall_sublist.mp hpw q
        omega
      · have := List.pairwise_iff_forall_sublist.mp hpw q
        omega
    by_cases z : wr_lt D ow s t = true
    · have := wr_rk_lt hn hs h1 z
      omega
    · have z2 : wr_lt D ow t s = true := by
        simp only [wr_lt, decide_eq_true_eq] at z ⊢
        omega
      have := wr_rk_lt hn ht h2 z2
      omega
theorem wr_rk_n {N D ow : Nat → Int} {wl : List Nat} {s : Nat} (hn : wl.Nodup) (hs : s ∈ wl) (h1 : N s = 1) : wr_rk N D ow wl s < wr_ct (fun g => decide (N g = 1)) wl := by
  unfold wr_rk wr_ct
  have hn2 : (s :: wl.filter (fun g => decide (N g = 1) && wr_lt D ow g s)).Nodup := by
    rw [List.nodup_cons]
    refine ⟨fun z => ?_, hn.filter _⟩
    have z2 := (List.mem_filter.mp z).2
    simp [wr_lt] at z2
  have := nd_sub _ (wl.filter (fun g => decide (N g = 1))) hn2 (fun x hx => by
    rw [List.mem_filter]
    rcases List.mem_cons.mp hx with e | e
    · subst e
      exact ⟨hs, by simp [h1]⟩
    · obtain ⟨e1, e2⟩ := List.mem_filter.mp e
      refine ⟨e1, ?_⟩
      simp only [Bool.and_eq_true] at e2
      exact e2.1)
  rw [List.length_cons] at this
  omega
theorem nd_map {f : Nat → Nat} : ∀ (l : List Nat), l.Nodup → (∀ x ∈ l, ∀ y ∈ l, f x = f y → x = y) → (l.map f).Nodup
  | [], _, _ => List.nodup_nil
  | x :: r, hn, h => by
    rw [List.map_cons, List.nodup_cons]
    have hn2 := List.nodup_cons.mp hn
    refine ⟨fun z => ?_, nd_map r hn2.2 (fun a ha c hc => h a (List.mem_cons_of_mem _ ha) c (List.mem_cons_of_mem _ hc))⟩
    obtain ⟨y, y1, y2⟩ := List.mem_map.mp z
    have := h y (List.mem_cons_of_mem _ y1) x List.mem_cons_self y2
    subst this
    exact hn2.1 y1
/-- each rank is taken -/
theorem wr_rk_sur {N D ow : Nat → Int} {wl : List Nat} (hn : wl.Nodup) (hpw : wl.Pairwise (fun a c => ow a < ow c)) {i : Nat} (hi : i < wr_ct (fun g => decide (N g = 1)) wl) : ∃ s ∈ wl, N s = 1 ∧ wr_rk N D ow wl s = i := by
  refine Classical.byContradiction fun hno => ?_
  have hf : ∀ x ∈ wl.filter (fun g => decide (N g = 1)), x ∈ wl ∧ N x = 1 := fun x hx => by
    obtain ⟨e1, e2⟩ := List.mem_filter.mp hx
    exact ⟨e1, of_decide_eq_true e2⟩
  have h1 := nd_map (f := wr_rk N D ow wl) (wl.filter (fun g => decide (N g = 1))) (hn.filter _) (fun x hx y hy e => wr_rk_inj hn hpw (hf x hx).1 (hf y hy).1 (hf x hx).2 (hf y hy).2 e)
  have h2 := nd_sub _ ((List.range (wr_ct (fun g => decide (N g = 1)) wl)).erase i) h1 (fun r hr => by
    obtain ⟨x, x1, x2⟩ := List.mem_map.mp hr
    have h3 := wr_rk_n (D := D) (ow := ow) hn (hf x x1).1 (hf x x1).2
    rw [x2] at h3
    refine (List.mem_erase_of_ne ?_).mpr (List.mem_range.mpr h3)
    intro e
    subst e
    exact hno ⟨x, (hf x x1).1, (hf x x1).2, x2⟩)
  rw [List.length_map, List.length_erase_of_mem (List.mem_range.mpr hi), List.length_range] at h2
  unfold wr_ct at h2 hi
  omega
