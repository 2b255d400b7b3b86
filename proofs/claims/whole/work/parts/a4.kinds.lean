/-! THE TWO SIDES COUPLED: how many functions -/
theorem sdr_le {E : Nat → Nat → Prop} {A B : List Nat} (hA : A.Nodup) (hne : ∀ a ∈ A, ∀ a' ∈ A, ∀ y, E a y → E a' y → a = a') (hcov : ∀ a ∈ A, ∃ y ∈ B, E a y) : A.length ≤ B.length := by
  have hf : ∀ a : Nat, ∃ y, a ∈ A → y ∈ B ∧ E a y := fun a => by
    by_cases h : a ∈ A
    · obtain ⟨y, y1, y2⟩ := hcov a h
      exact ⟨y, fun _ => ⟨y1, y2⟩⟩
    · exact ⟨0, fun z => absurd z h⟩
  obtain ⟨f, hf⟩ := Classical.axiomOfChoice hf
  have h1 := nd_map (f := f) A hA (fun a ha a' ha' e => hne a ha a' ha' (f a) (hf a ha).2 (by rw [e]; exact (hf a' ha').2))
  have h2 := nd_sub (A.map f) B h1 (fun y hy => by
    obtain ⟨a, ha, e⟩ := List.mem_map.mp hy
    rw [← e]
    exact (hf a ha).1)
  rw [List.length_map] at h2
  exact h2
section PP
variable {IA : mj_FI} {LA : mj_LA} {x c b m I O G : Nat} {od ld : List Nat}
theorem si_M (h : cp IA LA x c b m I O G od ld) {y d b2 m2 O2 G2 : Nat} {od2 ld2 : List Nat} (h2 : cp IA LA y d b2 m2 I O2 G2 od2 ld2) {s t : Nat} (hs : nS I G s) (ht : nS I G2 t) : M_si LA I x (rN I s) y (rN I t) ↔ C_si LA c s d t (C_W I) := by
  unfold M_si
  rw [h.eq h2 hs ht, h.eq h2 hs ht, si_lw (I := I) h.1.2.2.1 h2.1.2.2.1 (C_W_le h.W.2.1).1 0 0]
  simp only [lw_x1 (a := 1) (e := 0) h2.1.2.2.1 (by decide)]
/-- a row of circuit d -/
def kv (I : Nat) (Gf : Nat → Nat) (fr to d r : Nat) : Prop := fr ≤ d ∧ d ≤ to ∧ M_is I (Gf d) r
def kE (LA : mj_LA) (I : Nat) (Gf : Nat → Nat) (fr to y y' : Nat) : Prop := ∃ d r d' r', y = 315 * d + r ∧ r < 315 ∧ kv I Gf fr to d r ∧ y' = 315 * d' + r' ∧ r' < 315 ∧ kv I Gf fr to d' r' ∧ M_si LA I d r d' r'
theorem nl_len {Gf : Nat → Nat} {fr to : Nat} {l A : List Nat} (hI : I ≤ 14) (hG : ∀ d, fr ≤ d → d ≤ to → Gf d ≤ 300) (hl : M_nl LA I Gf fr (to + 1) 0 l) (hA : A.Nodup)
    (hAv : ∀ y ∈ A, ∃ d r, y = 315 * d + r ∧ r < 315 ∧ kv I Gf fr to d r)
    (hAne : ∀ d r d' r', 315 * d + r ∈ A → r < 315 → 315 * d' + r' ∈ A → r' < 315 → M_si LA I d r d' r' → 315 * d + r = 315 * d' + r')
    (hAc : ∀ d r, kv I Gf fr to d r → ∃ d' r', r' < 315 ∧ 315 * d' + r' ∈ A ∧ M_si LA I d r d' r')
    (sy : ∀ d r d' r', kv I Gf fr to d r → kv I Gf fr to d' r' → M_si LA I d r d' r' → M_si LA I d' r' d r)
    (tr : ∀ d r d' r' d2 r2, kv I Gf fr to d r → kv I Gf fr to d' r' → kv I Gf fr to d2 r2 → M_si LA I d r d' r' → M_si LA I d' r' d2 r2 → M_si LA I d r d2 r2) : A.length = l.length := by
  have v3 : ∀ d r, kv I Gf fr to d r → r < 315 := fun d r ⟨h1, h2, h3⟩ => by
    have := hG d h1 h2
    rcases h3 with q | q
    · omega
    · omega
  have lm : ∀ y, y ∈ l ↔ ∃ d s, y = 315 * d + s ∧ kv I Gf fr to d s ∧ ¬ M_ol LA I Gf fr d s := fun y => by
    rw [hl.2 y]
    constructor
    · rintro ⟨d, s, e1, e2, e3, e4, e5, e6⟩
      exact ⟨d, s, e1, ⟨e3, by omega, e5⟩, e6⟩
    · rintro ⟨d, s, e1, e2, e6⟩
      exact ⟨d, s, e1, v3 d s e2, e2.1, Or.inl (by have := e2.2.1; omega), e2.2.2, e6⟩
  have mn : ∀ (n d r : Nat), 315 * d + r < n → kv I Gf fr to d r → ∃ d' r', 315 * d' + r' ∈ l ∧ kv I Gf fr to d' r' ∧ M_si LA I d r d' r' := by
    intro n
    induction n with
    | zero => intro d r h; omega
    | succ n ih =>
      intro d r hn hv
      by_cases ho : M_ol LA I Gf fr d r
      · obtain ⟨d1, s1, o1, o2, o3, o4, o5⟩ := ho
        have hv1 : kv I Gf fr to d1 s1 := ⟨o1, by have := hv.2.1; omega, o3⟩
        have := v3 d1 s1 hv1
        obtain ⟨d', r', k1, k2, k3⟩ := ih d1 s1 (by omega) hv1
        exact ⟨d', r', k1, k2, tr _ _ _ _ _ _ hv hv1 k2 o5 k3⟩
      · exact ⟨d, r, (lm _).mpr ⟨d, r, rfl, hv, ho⟩, hv, Or.inl fun w _ => rfl⟩
  refine Nat.le_antisymm (sdr_le (E := kE LA I Gf fr to) hA ?_ ?_) (sdr_le (E := kE LA I Gf fr to) hl.1 ?_ ?_)
  · rintro a ha a' ha' y ⟨d, r, d1, r1, e1, e2, e3, e4, e5, e6, e7⟩ ⟨d', r', d1', r1', f1, f2, f3, f4, f5, f6, f7⟩
    have q1 : d1' = d1 := by omega
    have q2 : r1' = r1 := by omega
    subst q1 q2
    rw [e1, f1]
    exact hAne d r d' r' (by rw [← e1]; exact ha) e2 (by rw [← f1]; exact ha') f2 (tr _ _ _ _ _ _ e3 e6 f3 e7 (sy _ _ _ _ f3 f6 f7))
  · intro a ha
    obtain ⟨d, r, e1, e2, e3⟩ := hAv a ha
    obtain ⟨d', r', k1, k2, k3⟩ := mn (315 * d + r + 1) d r (by omega) e3
    exact ⟨_, k1, d, r, d', r', e1, e2, e3, rfl, v3 _ _ k2, k2, k3⟩
  · rintro a ha a' ha' y ⟨d, r, d1, r1, e1, e2, e3, e4, e5, e6, e7⟩ ⟨d', r', d1', r1', f1, f2, f3, f4, f5, f6, f7⟩
    have q1 : d1' = d1 := by omega
    have q2 : r1' = r1 := by omega
    subst q1 q2
    have k1 := tr _ _ _ _ _ _ e3 e6 f3 e7 (sy _ _ _ _ f3 f6 f7)
    have k2 := sy _ _ _ _ e3 f3 k1
    obtain ⟨g, t, g1, g2, g3⟩ := (lm a).mp ha
    obtain ⟨g', t', g1', g2', g3'⟩ := (lm a').mp ha'
    have w1 := v3 g t g2
    have w2 := v3 g' t' g2'
    have q3 : g = d := by omega
    have q4 : t = r := by omega
    have q5 : g' = d' := by omega
    have q6 : t' = r' := by omega
    subst q3 q4 q5 q6
    rcases Nat.lt_trichotomy a a' with z | z | z
    · exact absurd ⟨g, t, e3.1, by omega, e3.2.2, by omega, k2⟩ g3'
    · exact z
    · exact absurd ⟨g', t', f3.1, by omega, f3.2.2, by omega, k1⟩ g3
  · intro a ha
    obtain ⟨g, t, g1, g2, g3⟩ := (lm a).mp ha
    obtain ⟨d', r', k0, k1, k2⟩ := hAc g t g2
    obtain ⟨d2, r2, e1, e2, e3⟩ := hAv _ k1
    have q1 : d2 = d' := by omega
    have q2 : r2 = r' := by omega
    subst q1 q2
    exact ⟨_, k1, g, t, d2, r2, g1, v3 _ _ g2, g2, rfl, e2, e3, k2⟩
theorem ld_ne (h : cS IA LA c b m I O G od ld) {t u : Nat} (ht : t ∈ ld) (hu : u ∈ ld) (hs : C_si LA c t c u (C_W I)) : t = u := by
  apply Classical.byContradiction
  intro q
  have hp := h.2.2.2.2.1.2.2.2.2.2.1
  rcases nd_two ld t u ht hu q with z | z
  · have := hp.sublist z
    exact (List.pairwise_cons.mp this).1 u List.mem_cons_self hs
  · have := hp.sublist z
    exact (List.pairwise_cons.mp this).1 t List.mem_cons_self (C_si_symm rfl hs)
theorem ld_nd (h : cS IA LA c b m I O G od ld) : ld.Nodup := h.2.2.2.2.1.2.2.2.2.1.sublist h.2.2.2.2.1.2.2.2.1
theorem ld_nS (h : cS IA LA c b m I O G od ld) {t : Nat} (ht : t ∈ ld) : nS I G t := h.en.mp (h.2.2.2.2.1.2.2.2.1.subset ht)
theorem q_functions (h : cp IA LA x c b m I O G od ld) {l : List Nat} (hl : M_nl LA I (fun _ => G) x (x + 1) 0 l) : ld.length = l.length := by
  have hI := h.W.2.1
  have hG := h.W.2.2.2.1
  have sp : ∀ d r, kv I (fun _ => G) x x d r → d = x ∧ nS I G (rI I r) ∧ rN I (rI I r) = r := fun d r ⟨k1, k2, k3⟩ => ⟨by omega, rI_N k3⟩
  have key := nl_len (A := ld.map (fun t => 315 * x + rN I t)) hI (fun _ _ _ => hG) hl (nd_map ld (ld_nd h.1) (fun t ht u hu e => rN_inj hI (ld_nS h.1 ht) (ld_nS h.1 hu) (by omega))) (fun y hy => ?_) (fun d r d' r' h1 h2 h3 h4 h5 => ?_) (fun d r hv => ?_) (fun d r d' r' hv hv' h5 => ?_) (fun d r d' r' d2 r2 hv hv' hv2 h5 h6 => ?_)
  · rw [List.length_map] at key
    exact key
  · obtain ⟨t, ht, e⟩ := List.mem_map.mp hy
    exact ⟨x, rN I t, e.symm, rN_lt hI hG (ld_nS h.1 ht), Nat.le_refl _, Nat.le_refl _, rN_is (ld_nS h.1 ht)⟩
  · obtain ⟨t, ht, e⟩ := List.mem_map.mp h1
    obtain ⟨u, hu, e'⟩ := List.mem_map.mp h3
    have a1 := rN_lt hI hG (ld_nS h.1 ht)
    have a2 := rN_lt hI hG (ld_nS h.1 hu)
    have q1 : d = x := by omega
    have q2 : d' = x := by omega
    have q3 : r = rN I t := by omega
    have q4 : r' = rN I u := by omega
    subst q1 q2 q3 q4
    rw [ld_ne h.1 ht hu ((si_M h h (ld_nS h.1 ht) (ld_nS h.1 hu)).mp h5)]
  · obtain ⟨q1, q2, q3⟩ := sp d r hv
    subst q1
    obtain ⟨t, ht, hs, _⟩ := h.1.led q2
    refine ⟨d, rN I t, rN_lt hI hG (ld_nS h.1 ht), List.mem_map.mpr ⟨t, ht, rfl⟩, ?_⟩
    rw [← q3]
    exact (si_M h h q2 (ld_nS h.1 ht)).mpr (C_si_symm rfl hs)
  · obtain ⟨q1, q2, q3⟩ := sp d r hv
    obtain ⟨q1', q2', q3'⟩ := sp d' r' hv'
    rw [q1, q1', ← q3, ← q3'] at h5 ⊢
    exact (si_M h h q2' q2).mpr (C_si_symm rfl ((si_M h h q2 q2').mp h5))
  · obtain ⟨q1, q2, q3⟩ := sp d r hv
    obtain ⟨q1', q2', q3'⟩ := sp d' r' hv'
    obtain ⟨p1, p2, p3⟩ := sp d2 r2 hv2
    rw [q1, q1', ← q3, ← q3'] at h5
    rw [q1', p1, ← q3', ← p3] at h6
    rw [q1, p1, ← q3, ← p3]
    exact (si_M h h q2 p2).mpr (C_si_trans rfl ((si_M h h q2 q2').mp h5) ((si_M h h q2' p2).mp h6))
end PP
section P2
variable {IA : mj_FI} {LA : mj_LA} {b1 b2 m1 m2 I O1 O2 G1 G2 : Nat} {od1 od2 ld1 ld2 : List Nat}
/-- the two circuits side by side -/
def cS2 (d : Nat) : Nat := if d = 0 then 1 else 15
def cG2 (G1 G2 d : Nat) : Nat := if d = 0 then G1 else G2
theorem cp.m9 {x c b m O G : Nat} {od ld : List Nat} (h : cp IA LA x c b m I O G od ld) : LA c 9 = C_mk I := h.1.2.2.1
theorem q_all (h0 : cp IA LA 0 1 b1 m1 I O1 G1 od1 ld1) (h1 : cp IA LA 1 15 b2 m2 I O2 G2 od2 ld2) {l l2 : List Nat} {Gf : Nat → Nat} (g0 : Gf 0 = G1) (g1 : Gf 1 = G2) (hl : M_nl LA I Gf 0 2 0 l) (n2 : l2.Nodup) (hl2 : ∀ t, t ∈ l2 ↔ C_un LA 15 1 (C_W I) ld2 ld1 t) : ld1.length + l2.length = l.length := by
  have hI := h0.W.2.1
  have hG1 := h0.W.2.2.2.1
  have hG2 := h1.W.2.2.2.1
  have m15 : LA 15 9 = LA 1 9 := by rw [h0.m9, h1.m9]
  have nl2 : ∀ t, t ∈ l2 → nS I G2 t := fun t ht => ld_nS h1.1 ((hl2 t).mp ht).1
  have vd : ∀ d r, kv I Gf 0 1 d r → (d = 0 ∧ nS I G1 (rI I r) ∧ rN I (rI I r) = r) ∨ (d = 1 ∧ nS I G2 (rI I r) ∧ rN I (rI I r) = r) := fun d r ⟨k1, k2, k3⟩ => by
    rcases (by omega : d = 0 ∨ d = 1) with q | q
    · subst q
      rw [g0] at k3
      exact Or.inl ⟨rfl, rI_N k3⟩
    · subst q
      rw [g1] at k3
      exact Or.inr ⟨rfl, rI_N k3⟩
  -- relations between rows, by slots
  have rel : ∀ d r d' r', kv I Gf 0 1 d r → kv I Gf 0 1 d' r' → (M_si LA I d r d' r' ↔ C_si LA (cS2 d) (rI I r) (cS2 d') (rI I r') (C_W I)) := by
    intro d r d' r' hv hv'
    rcases vd d r hv with ⟨q1, q2, q3⟩ | ⟨q1, q2, q3⟩
    · rcases vd d' r' hv' with ⟨p1, p2, p3⟩ | ⟨p1, p2, p3⟩
      · rw [q1, p1]
        have := si_M h0 h0 q2 p2
        rw [q3, p3] at this
        exact this
      · rw [q1, p1]
        have := si_M h0 h1 q2 p2
        rw [q3, p3] at this
        exact this
    · rcases vd d' r' hv' with ⟨p1, p2, p3⟩ | ⟨p1, p2, p3⟩
      · rw [q1, p1]
        have := si_M h1 h0 q2 p2
        rw [q3, p3] at this
        exact this
      · rw [q1, p1]
        have := si_M h1 h1 q2 p2
        rw [q3, p3] at this
        exact this
  have mm : ∀ d d', LA (cS2 d) 9 = LA (cS2 d') 9 := fun d d' => by
    unfold cS2
    split <;> split <;> first | rfl | exact m15 | exact m15.symm
  have v0 : ∀ t, nS I G1 t → kv I Gf 0 1 0 (rN I t) := fun t ht => ⟨Nat.le_refl _, by omega, by rw [g0]; exact rN_is ht⟩
  have v1 : ∀ t, nS I G2 t → kv I Gf 0 1 1 (rN I t) := fun t ht => ⟨by omega, Nat.le_refl _, by rw [g1]; exact rN_is ht⟩
  have memA : ∀ d r, r < 315 → 315 * d + r ∈ ld1.map (fun t => 315 * 0 + rN I t) ++ l2.map (fun t => 315 * 1 + rN I t) → (d = 0 ∧ ∃ t ∈ ld1, r = rN I t) ∨ (d = 1 ∧ ∃ t ∈ l2, r = rN I t) := by
    intro d r hr h
    rcases List.mem_append.mp h with q | q
    · obtain ⟨t, ht, e⟩ := List.mem_map.mp q
      have a1 := rN_lt hI hG1 (ld_nS h0.1 ht)
      exact Or.inl ⟨by omega, t, ht, by omega⟩
    · obtain ⟨t, ht, e⟩ := List.mem_map.mp q
      have a1 := rN_lt hI hG2 (nl2 t ht)
      exact Or.inr ⟨by omega, t, ht, by omega⟩
  have key := nl_len (to := 1) (A := ld1.map (fun t => 315 * 0 + rN I t) ++ l2.map (fun t => 315 * 1 + rN I t)) hI (fun d _ hd => by
      rcases (by omega : d = 0 ∨ d = 1) with q | q
      · rw [q, g0]; exact hG1
      · rw [q, g1]; exact hG2) hl ?_ (fun y hy => ?_) (fun d r d' r' k1 k2 k3 k4 k5 => ?_) (fun d r hv => ?_) (fun d r d' r' hv hv' h5 => ?_) (fun d r d' r' d2 r2 hv hv' hv2 h5 h6 => ?_)
  · rw [List.length_append, List.length_map, List.length_map] at key
    exact key
  · rw [List.nodup_append]
    refine ⟨nd_map ld1 (ld_nd h0.1) (fun t ht u hu e => rN_inj hI (ld_nS h0.1 ht) (ld_nS h0.1 hu) (by omega)), nd_map l2 n2 (fun t ht u hu e => rN_inj hI (nl2 t ht) (nl2 u hu) (by omega)), fun a ha a' ha' e => ?_⟩
    obtain ⟨t, ht, e1⟩ := List.mem_map.mp ha
    obtain ⟨u, hu, e2⟩ := List.mem_map.mp ha'
    have a1 := rN_lt hI hG1 (ld_nS h0.1 ht)
    omega
  · rcases List.mem_append.mp hy with q | q
    · obtain ⟨t, ht, e⟩ := List.mem_map.mp q
      exact ⟨0, rN I t, e.symm, rN_lt hI hG1 (ld_nS h0.1 ht), v0 t (ld_nS h0.1 ht)⟩
    · obtain ⟨t, ht, e⟩ := List.mem_map.mp q
      exact ⟨1, rN I t, e.symm, rN_lt hI hG2 (nl2 t ht), v1 t (nl2 t ht)⟩
  · rcases memA d r k2 k1 with ⟨q1, t, ht, q3⟩ | ⟨q1, t, ht, q3⟩
    · rcases memA d' r' k4 k3 with ⟨p1, u, hu, p3⟩ | ⟨p1, u, hu, p3⟩
      · rw [q1, p1, q3, p3] at k5 ⊢
        rw [ld_ne h0.1 ht hu ((si_M h0 h0 (ld_nS h0.1 ht) (ld_nS h0.1 hu)).mp k5)]
      · rw [q1, p1, q3, p3] at k5
        have := (si_M h0 h1 (ld_nS h0.1 ht) (nl2 u hu)).mp k5
        exact absurd this (((hl2 u).mp hu).2 t ht)
    · rcases memA d' r' k4 k3 with ⟨p1, u, hu, p3⟩ | ⟨p1, u, hu, p3⟩
      · rw [q1, p1, q3, p3] at k5
        have := (si_M h1 h0 (nl2 t ht) (ld_nS h0.1 hu)).mp k5
        exact absurd (C_si_symm m15.symm this) (((hl2 t).mp ht).2 u hu)
      · rw [q1, p1, q3, p3] at k5 ⊢
        rw [ld_ne h1.1 ((hl2 t).mp ht).1 ((hl2 u).mp hu).1 ((si_M h1 h1 (nl2 t ht) (nl2 u hu)).mp k5)]
  · rcases vd d r hv with ⟨q1, q2, q3⟩ | ⟨q1, q2, q3⟩
    · obtain ⟨t, ht, hs, _⟩ := h0.1.led q2
      refine ⟨0, rN I t, rN_lt hI hG1 (ld_nS h0.1 ht), List.mem_append.mpr (Or.inl (List.mem_map.mpr ⟨t, ht, rfl⟩)), ?_⟩
      rw [q1, ← q3]
      exact (si_M h0 h0 q2 (ld_nS h0.1 ht)).mpr (C_si_symm rfl hs)
    · obtain ⟨t, ht, hs, _⟩ := h1.1.led q2
      by_cases e : t ∈ l2
      · refine ⟨1, rN I t, rN_lt hI hG2 (nl2 t e), List.mem_append.mpr (Or.inr (List.mem_map.mpr ⟨t, e, rfl⟩)), ?_⟩
        rw [q1, ← q3]
        exact (si_M h1 h1 q2 (nl2 t e)).mpr (C_si_symm rfl hs)
      · have : ∃ u ∈ ld1, C_si LA 1 u 15 t (C_W I) := by
          apply Classical.byContradiction
          intro q
          exact e ((hl2 t).mpr ⟨ht, fun u hu z => q ⟨u, hu, z⟩⟩)
        obtain ⟨u, hu, hz⟩ := this
        refine ⟨0, rN I u, rN_lt hI hG1 (ld_nS h0.1 hu), List.mem_append.mpr (Or.inl (List.mem_map.mpr ⟨u, hu, rfl⟩)), ?_⟩
        rw [q1, ← q3]
        exact (si_M h1 h0 q2 (ld_nS h0.1 hu)).mpr (C_si_symm m15 (C_si_trans m15 hz hs))
  · exact (rel d' r' d r hv' hv).mpr (C_si_symm (mm d' d) ((rel d r d' r' hv hv').mp h5))
  · exact (rel d r d2 r2 hv hv2).mpr (C_si_trans (mm d' d) ((rel d r d' r' hv hv').mp h5) ((rel d' r' d2 r2 hv' hv2).mp h6))
end P2
