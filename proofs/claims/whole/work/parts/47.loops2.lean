/-! LOOP FINDER: comesBack, leastOnLoop -/
def lf_cl (L R : Nat → Nat) (g : Nat → Prop) (S : Nat → Prop) : Prop := ∀ u, g u → S u → S (L u) ∧ S (R u)
/-- t is come to from s, by fanins -/
def lf_R (L R : Nat → Nat) (g : Nat → Prop) (s t : Nat) : Prop := ∀ S : Nat → Prop, S (L s) → S (R s) → lf_cl L R g S → S t
def lf_g (I G u : Nat) : Prop := I + 1 ≤ u ∧ u < I + 1 + G
theorem lf_add_mem {un : Nat → Int} {tr : List Nat} {x y : Nat} : y ∈ lf_add un tr x ↔ y ∈ tr ∨ (un x = 1000000 ∧ y = x) := by
  unfold lf_add
  by_cases h : un x = 1000000 ∧ ¬ x ∈ tr
  · rw [if_pos h, List.mem_append]
    simp [h.1]
  · rw [if_neg h]
    constructor
    · exact Or.inl
    · rintro (h1 | ⟨h1, h2⟩)
      · exact h1
      · subst h2
        exact Classical.byContradiction fun z => h ⟨h1, z⟩
theorem lf_add_pre {un : Nat → Int} {tr : List Nat} {x j u : Nat} (h : tr[j]? = some u) : (lf_add un tr x)[j]? = some u := by
  unfold lf_add
  have hj : j < tr.length := by
    by_cases z : j < tr.length
    · exact z
    · rw [List.getElem?_eq_none (by omega)] at h
      cases h
  split
  · rw [List.getElem?_append_left hj]
    exact h
  · exact h
theorem lf_add_len {un : Nat → Int} {tr : List Nat} {x : Nat} : tr.length ≤ (lf_add un tr x).length := by
  unfold lf_add
  split
  · rw [List.length_append]
    omega
  · exact Nat.le_refl _
/-- what the net at b must be where loops are looked for -/
def lf_N (IA : mj_FI) (b I G : Nat) (L R : Nat → Nat) : Prop := G ≤ 300 ∧ I ≤ 14 ∧ (∀ u, u < 315 → IA (b + 6) u = 1000000 → lf_g I G u) ∧ (∀ x, x < 315 → 0 ≤ IA (b + 6) x ∧ IA (b + 6) x ≤ 1000000) ∧
  (∀ u, lf_g I G u → (0 ≤ IA (b + 3) u ∧ IA (b + 3) u ≤ 2001 ∧ IA (b + 1) (IA (b + 3) u / 2).toNat = (L u : Int) ∧ L u < 315) ∧ 0 ≤ IA (b + 4) u ∧ IA (b + 4) u ≤ 2001 ∧ IA (b + 1) (IA (b + 4) u / 2).toNat = (R u : Int) ∧ R u < 315) ∧
  (∀ u, lf_g I G u → ¬ IA (b + 6) u = 1000000 → ¬ IA (b + 6) (L u) = 1000000 ∧ ¬ IA (b + 6) (R u) = 1000000)
theorem lf_N.move {IA J : mj_FI} {b I G : Nat} {L R : Nat → Nat} (h : lf_N IA b I G L R) (e : ∀ k, k ≤ 8 → J (b + k) = IA (b + k)) : lf_N J b I G L R := by
  unfold lf_N at h ⊢
  rw [e 1 (by decide), e 3 (by decide), e 4 (by decide), e 6 (by decide)]
  exact h
section FF
variable {sh : mj_Sh} {FR : mj_FR} {IA : mj_FI} {LA : mj_LA} {n f b : Nat}
set_option maxHeartbeats 1000000 in
theorem ct_F_comesBack (hF : isLf sh FR n f) (hN : isNet sh FR n b) (hap : lf_ap f b) {start I G : Nat} {L R : Nat → Nat} (hst : start < 315) (hun : IA (b + 6) start = 1000000) (hr : ∀ x, x < 315 → 0 ≤ IA (f + 2) x ∧ IA (f + 2) x ≤ 1000) (hfr : ∀ u, u < 315 → ¬ IA (f + 2) u = (start : Int)) (hW : lf_N IA b I G L R) :
    mj_Ct m_F_comesBack [.inr (.inr (.inl f)), .inr (.inr (.inl b)), .inl start] sh FR IA LA n (mj_po (fun o J => (∃ v, o = .inl (some (.inl v)) ∧ ((v = 1 ∧ lf_R L R (lf_g I G) start start) ∨ (v = 0 ∧ ¬ lf_R L R (lf_g I G) start start))) ∧ ∃ tr, lf_I IA J f b start tr) sh FR LA n) := by
  obtain ⟨hG2, hI14, hG, hd, hgs, hpl⟩ := hW
  obtain ⟨h0, f0, f1, a1, a2⟩ := id hF
  have loop : ∀ (t i : Nat) (tr : List Nat) (J : mj_FI), i + t = 300 → i ≤ tr.length → lf_I IA J f b start tr → (∀ x ∈ tr, lf_R L R (lf_g I G) start x) → (IA (b + 6) (L start) = 1000000 → L start ∈ tr) → (IA (b + 6) (R start) = 1000000 → R start ∈ tr) →
      (∀ j u, j < i → tr[j]? = some u → u ≠ start ∧ (IA (b + 6) (L u) = 1000000 → L u ∈ tr) ∧ (IA (b + 6) (R u) = 1000000 → R u ∈ tr)) →
      mj_G m_F_comesBack (mj_po (fun o J => (∃ v, o = .inl (some (.inl v)) ∧ ((v = 1 ∧ lf_R L R (lf_g I G) start start) ∨ (v = 0 ∧ ¬ lf_R L R (lf_g I G) start start))) ∧ ∃ tr, lf_I IA J f b start tr) sh FR LA n) 14 [some (.inr (.inr (.inl f))), some (.inr (.inr (.inl b))), some (.inl start), some (.inl i)] [] sh FR J LA n 0 0 := by
    intro t
    induction t with
    | zero =>
      intro i tr J hit hil hJ hA hB1 hB2 hC
      have hl := lf_len hJ hG
      have hno : ¬ lf_R L R (lf_g I G) start start := by
        intro hr
        have h1 := hr (fun u => u ∈ tr ∨ ¬ IA (b + 6) u = 1000000) (by
          by_cases z : IA (b + 6) (L start) = 1000000
          · exact Or.inl (hB1 z)
          · exact Or.inr z) (by
          by_cases z : IA (b + 6) (R start) = 1000000
          · exact Or.inl (hB2 z)
          · exact Or.inr z) (by
          intro u hg hu
          by_cases hu2 : u ∈ tr
          · obtain ⟨j, hj⟩ := List.getElem?_of_mem hu2
            have hjl : j < tr.length := by
              by_cases z : j < tr.length
              · exact z
              · rw [List.getElem?_eq_none (by omega)] at hj
                cases hj
            obtain ⟨c1, c2, c3⟩ := hC j u (by omega) hj
            exact ⟨(Classical.em _).imp c2 id, (Classical.em _).imp c3 id⟩
          · rcases hu with hu | hu
            · exact absurd hu hu2
            · exact ⟨Or.inr (hpl u hg hu).1, Or.inr (hpl u hg hu).2⟩)
        rcases h1 with h1 | h1
        · obtain ⟨j, hj⟩ := List.getElem?_of_mem h1
          have hjl : j < tr.length := by
            by_cases z : j < tr.length
            · exact z
            · rw [List.getElem?_eq_none (by omega)] at hj
              cases hj
          exact (hC j start (by omega) hj).1 rfl
        · exact h1 hun
      refine mj_go z_F_comesBack [14] 60 ?_
      refine And.intro h0 ?_
      rw [hJ.2.1]
      refine And.intro (fun c => ?_) (fun c => ?_)
      · exact ⟨Or.inl rfl, ⟨rfl, rfl, rfl, rfl, ⟨0, rfl, Or.inr ⟨rfl, hno⟩⟩, tr, hJ⟩, Nat.le_of_ble_eq_true rfl, Nat.le_of_ble_eq_true rfl⟩
      · simp (disch := (clear c; omega)) only [mj_w_id] at c
        omega
    | succ t ih =>
      intro i tr J hit hil hJ hA hB1 hB2 hC
      have hl := lf_len hJ hG
      by_cases hend : i = tr.length
      · have hno : ¬ lf_R L R (lf_g I G) start start := by
          intro hr
          have h1 := hr (fun u => u ∈ tr ∨ ¬ IA (b + 6) u = 1000000) ((Classical.em _).imp hB1 id) ((Classical.em _).imp hB2 id) (by
            intro u hg hu
            by_cases hu2 : u ∈ tr
            · obtain ⟨j, hj⟩ := List.getElem?_of_mem hu2
              have hjl : j < tr.length := by
                by_cases z : j < tr.length
                · exact z
                · rw [List.getElem?_eq_none (by omega)] at hj
                  cases hj
              obtain ⟨c1, c2, c3⟩ := hC j u (by omega) hj
              exact ⟨(Classical.em _).imp c2 id, (Classical.em _).imp c3 id⟩
            · rcases hu with hu | hu
              · exact absurd hu hu2
              · exact ⟨Or.inr (hpl u hg hu).1, Or.inr (hpl u hg hu).2⟩)
          rcases h1 with h1 | h1
          · obtain ⟨j, hj⟩ := List.getElem?_of_mem h1
            have hjl : j < tr.length := by
              by_cases z : j < tr.length
              · exact z
              · rw [List.getElem?_eq_none (by omega)] at hj
                cases hj
            exact (hC j start (by omega) hj).1 rfl
          · exact h1 hun
        refine mj_go z_F_comesBack [14] 60 ?_
        refine And.intro h0 ?_
        rw [hJ.2.1]
        refine And.intro (fun c => ?_) (fun c => ?_)
        · exact ⟨Or.inl rfl, ⟨rfl, rfl, rfl, rfl, ⟨0, rfl, Or.inr ⟨rfl, hno⟩⟩, tr, hJ⟩, Nat.le_of_ble_eq_true rfl, Nat.le_of_ble_eq_true rfl⟩
        · simp (disch := (clear c; omega)) only [mj_w_id] at c
          omega
      · have hit2 : i < tr.length := by omega
        have hu : tr[i]? = some tr[i] := List.getElem?_eq_getElem hit2
        generalize tr[i] = u at hu
        have hmem : u ∈ tr := List.mem_of_getElem? hu
        have eu : J (f + 1) i = (u : Int) := hJ.2.2.1 i u hu
        obtain ⟨u1, u2⟩ := hJ.2.2.2.2.2.2 u hmem
        have hgu := hG u u1 u2
        obtain ⟨gL, gR⟩ := hgs u hgu
        refine mj_go z_F_comesBack [14] 60 ?_
        refine And.intro h0 ?_
        rw [hJ.2.1]
        refine And.intro (fun c => ?_) (fun c => ?_)
        · simp (disch := (clear c; omega)) only [mj_w_id] at c
          omega
        · refine And.intro (fun c2 => ?_) (fun c2 => ?_)
          · simp (disch := (clear c2; omega)) only [mj_w_id] at c2
            omega
          · refine And.intro h0 (Exists.intro _ (And.intro f0 ?_))
            refine Exists.intro _ (Exists.intro (i) (And.intro a1 (And.intro (by first | (rw [mj_w_id (by omega) (by omega)]; done) | (rw [mj_w_id (by omega) (by omega)]; omega) | (unfold mj_w; omega)) (And.intro (by omega) ?_))))
            rw [eu]
            refine And.intro (fun d => ?_) (fun d => ?_)
            · simp (disch := (clear d; omega)) only [mj_w_id] at d
              refine And.intro h0 (Exists.intro _ (And.intro f0 ?_))
              refine Exists.intro _ (Exists.intro (i) (And.intro a1 (And.intro (by first | (rw [mj_w_id (by omega) (by omega)]; done) | (rw [mj_w_id (by omega) (by omega)]; omega) | (unfold mj_w; omega)) (And.intro (by omega) ?_))))
              rw [eu]
              refine And.intro h0 (And.intro (Nat.le_of_ble_eq_true rfl) (And.intro (Nat.le_of_ble_eq_true rfl) (And.intro (Nat.le_of_ble_eq_true rfl) (Exists.intro _ (And.intro (ct_F_reachFanins hF hN hap hst u1 hG2 hG hd hr gL gR hJ) ?_)))))
              rintro o1 sh9 FR9 J1 LA9 n9 ⟨z1, z2, z3, z4, hp⟩
              replace z1 := z1.symm
              subst z1
              replace z2 := z2.symm
              subst z2
              replace z3 := z3.symm
              subst z3
              replace z4 := z4.symm
              subst z4
              obtain ⟨ho, hJ1⟩ := hp
              subst ho
              refine And.intro (Or.inl rfl) ?_
              refine Exists.intro (((i + 1 : Nat) : Int)) (And.intro (by first | (rw [mj_w_id (by omega) (by omega)]; done) | (rw [mj_w_id (by omega) (by omega)]; omega) | (unfold mj_w; omega)) ?_)
              have q1 := lf_add_len (un := IA (b + 6)) (tr := tr) (x := L u)
              have q2 := lf_add_len (un := IA (b + 6)) (tr := lf_add (IA (b + 6)) tr (L u)) (x := R u)
              have hup : ∀ y, y ∈ tr → y ∈ lf_add (IA (b + 6)) (lf_add (IA (b + 6)) tr (L u)) (R u) := fun y hy => lf_add_mem.mpr (Or.inl (lf_add_mem.mpr (Or.inl hy)))
              refine ih (i + 1) _ J1 (by omega) (by omega) hJ1 ?_ (fun z => hup _ (hB1 z)) (fun z => hup _ (hB2 z)) ?_
              · intro x hx S s1 s2 s3
                have su := hA u hmem S s1 s2 s3
                have sLR := s3 u hgu su
                rcases lf_add_mem.mp hx with hx | ⟨_, hx⟩
                · rcases lf_add_mem.mp hx with hx | ⟨_, hx⟩
                  · exact hA x hx S s1 s2 s3
                  · rw [hx]
                    exact sLR.1
                · rw [hx]
                  exact sLR.2
              · intro j y hj hy
                by_cases hji : j < i
                · have hjl : j < tr.length := by omega
                  have hz : tr[j]? = some tr[j] := List.getElem?_eq_getElem hjl
                  have hy2 := lf_add_pre (un := IA (b + 6)) (x := R u) (lf_add_pre (un := IA (b + 6)) (x := L u) hz)
                  rw [hy] at hy2
                  cases hy2
                  obtain ⟨c1, c2, c3⟩ := hC j _ hji hz
                  exact ⟨c1, fun z => hup _ (c2 z), fun z => hup _ (c3 z)⟩
                · have e : j = i := by omega
                  subst e
                  have hy2 := lf_add_pre (un := IA (b + 6)) (x := R u) (lf_add_pre (un := IA (b + 6)) (x := L u) hu)
                  rw [hy] at hy2
                  cases hy2
                  exact ⟨by omega, fun z => lf_add_mem.mpr (Or.inl (lf_add_mem.mpr (Or.inr ⟨z, rfl⟩))), fun z => lf_add_mem.mpr (Or.inr ⟨z, rfl⟩)⟩
            · have d := Classical.not_not.mp d
              simp (disch := (clear d; omega)) only [mj_w_id] at d
              have e : u = start := by omega
              subst e
              exact ⟨Or.inr rfl, ⟨rfl, rfl, rfl, rfl, ⟨1, rfl, Or.inl ⟨rfl, hA u hmem⟩⟩, tr, hJ⟩, Nat.le_of_ble_eq_true rfl, Nat.le_of_ble_eq_true rfl⟩
  have hgst := hG start hst hun
  obtain ⟨gL, gR⟩ := hgs start hgst
  have hI0 : lf_I IA (mj_up IA f 2 0) f b start [] := ⟨fun q h1 _ _ => mj_up_ne h1, by rw [mj_up_at]; rfl, fun i s hi => by simp at hi, fun u hu => by
    rw [mj_up_ne (by omega)]
    exact ⟨fun z => absurd z (hfr u hu), fun z => by simp at z⟩, fun u => Or.inr (by rw [mj_up_ne (by omega)]), List.nodup_nil, fun u hu => by simp at hu⟩
  refine mj_Ct_of (by decide +kernel) (by decide) (Nat.le_of_ble_eq_true rfl) ?_
  refine mj_go z_F_comesBack [14] 60 ?_
  refine And.intro h0 ?_
  refine And.intro h0 (And.intro (Nat.le_of_ble_eq_true rfl) (And.intro (Nat.le_of_ble_eq_true rfl) (And.intro (Nat.le_of_ble_eq_true rfl) (Exists.intro _ (And.intro (ct_F_reachFanins hF hN hap hst hst hG2 hG hd hr gL gR hI0) ?_)))))
  rintro o1 sh9 FR9 J1 LA9 n9 ⟨z1, z2, z3, z4, hp⟩
  replace z1 := z1.symm
  subst z1
  replace z2 := z2.symm
  subst z2
  replace z3 := z3.symm
  subst z3
  replace z4 := z4.symm
  subst z4
  obtain ⟨ho, hJ1⟩ := hp
  subst ho
  refine And.intro (Or.inl rfl) ?_
  refine loop 300 0 _ J1 (by omega) (by omega) hJ1 ?_ (fun z => lf_add_mem.mpr (Or.inl (lf_add_mem.mpr (Or.inr ⟨z, rfl⟩)))) (fun z => lf_add_mem.mpr (Or.inr ⟨z, rfl⟩)) (fun j u hj => by omega)
  intro x hx S s1 s2 s3
  rcases lf_add_mem.mp hx with hx | ⟨_, hx⟩
  · rcases lf_add_mem.mp hx with hx | ⟨_, hx⟩
    · simp at hx
    · rw [hx]
      exact s1
  · rw [hx]
    exact s2
end FF
