/-! LOOP FINDER: leastOnLoop -/
/-- the first on a loop among the gates that wait -/
def lf_v (g : Nat → Prop) (L R : Nat → Nat) (own : Nat → Int) (wl : List Nat) (v : Int) : Prop :=
  (∃ xs s ys, wl = xs ++ s :: ys ∧ (∀ x ∈ xs, ¬ lf_R L R g x x) ∧ lf_R L R g s s ∧ v = own s / 2) ∨ ((∀ x ∈ wl, ¬ lf_R L R g x x) ∧ v = 0)
section FF
variable {sh : mj_Sh} {FR : mj_FR} {IA : mj_FI} {LA : mj_LA} {n f b : Nat}
set_option maxHeartbeats 1000000 in
theorem ct_F_leastOnLoop (hF : isLf sh FR n f) (hN : isNet sh FR n b) (hap : lf_ap f b) {I G : Nat} {L R : Nat → Nat} {wl : List Nat} (hW : lf_N IA b I G L R) (h8 : IA b 8 = (wl.length : Int)) (hwl : wl.length ≤ 300) (hrl : mj_rl (IA (b + 8)) wl) (hnd : wl.Nodup) (hun : ∀ s ∈ wl, s < 315 ∧ IA (b + 6) s = 1000000) (hown : ∀ s ∈ wl, 0 ≤ IA (b + 2) s ∧ IA (b + 2) s ≤ 2001) :
    mj_Ct m_F_leastOnLoop [.inr (.inr (.inl f)), .inr (.inr (.inl b))] sh FR IA LA n (mj_po (fun o J => (∀ q, q ≠ f → q ≠ f + 1 → q ≠ f + 2 → J q = IA q) ∧ ∃ v, o = .inl (some (.inl v)) ∧ lf_v (lf_g I G) L R (IA (b + 2)) wl v) sh FR LA n) := by
  obtain ⟨h0, f0, f1, a1, a2⟩ := id hF
  have hbf : ∀ k, k ≤ 8 → b + k ≠ f ∧ b + k ≠ f + 1 ∧ b + k ≠ f + 2 := by
    intro k hk
    unfold lf_ap at hap
    omega
  have loop : ∀ (ys xs : List Nat) (J : mj_FI) (x : Option mj_V), wl = xs ++ ys → (∀ q, q ≠ f → q ≠ f + 1 → q ≠ f + 2 → J q = IA q) → (∀ u, u < 315 → J (f + 2) u = 0 ∨ ∃ y ∈ xs, J (f + 2) u = (y : Int)) → (∀ x ∈ xs, ¬ lf_R L R (lf_g I G) x x) →
      mj_G m_F_leastOnLoop (mj_po (fun o J => (∀ q, q ≠ f → q ≠ f + 1 → q ≠ f + 2 → J q = IA q) ∧ ∃ v, o = .inl (some (.inl v)) ∧ lf_v (lf_g I G) L R (IA (b + 2)) wl v) sh FR LA n) 10 [some (.inr (.inr (.inl f))), some (.inr (.inr (.inl b))), some (.inl xs.length), x] [] sh FR J LA n 0 0 := by
    intro ys
    induction ys with
    | nil =>
      intro xs J x hw hf hm hx
      rw [List.append_nil] at hw
      subst hw
      have e8 : J b 8 = (wl.length : Int) := by rw [hf b (hbf 0 (by decide)).1 (hbf 0 (by decide)).2.1 (hbf 0 (by decide)).2.2]; exact h8
      refine mj_go z_F_leastOnLoop [10] 60 ?_
      refine And.intro hN.1 ?_
      rw [e8]
      refine And.intro (fun c => ?_) (fun c => ?_)
      · exact ⟨⟨rfl, rfl, rfl, rfl, hf, 0, rfl, Or.inr ⟨hx, rfl⟩⟩, Nat.le_of_ble_eq_true rfl, Nat.le_of_ble_eq_true rfl⟩
      · simp (disch := (clear c; omega)) only [mj_w_id] at c
        omega
    | cons s ys ih =>
      intro xs J x hw hf hm hx
      have hb : ∀ k, k ≤ 8 → J (b + k) = IA (b + k) := fun k hk => hf _ (hbf k hk).1 (hbf k hk).2.1 (hbf k hk).2.2
      have hlen : xs.length + ys.length + 1 = wl.length := by rw [hw, List.length_append, List.length_cons]; omega
      have hsm : s ∈ wl := by rw [hw]; simp
      obtain ⟨s1, s2⟩ := hun s hsm
      obtain ⟨o1, o2⟩ := hown s hsm
      have e8 : J b 8 = (wl.length : Int) := by rw [show J b = IA b from hb 0 (by decide)]; exact h8
      have es : J (b + 8) xs.length = (s : Int) := by
        rw [hb 8 (by decide)]
        refine hrl xs.length s ?_
        rw [hw, List.getElem?_append_right (Nat.le_refl _), Nat.sub_self]
        rfl
      have hgs : lf_g I G s := hW.2.2.1 s s1 s2
      have hxs : ∀ y ∈ xs, y ≠ s ∧ y < 315 := by
        intro y hy
        refine ⟨fun e => ?_, (hun y (by rw [hw]; exact List.mem_append_left _ hy)).1⟩
        rw [hw, List.nodup_append] at hnd
        exact hnd.2.2 y hy s List.mem_cons_self e
      have hr0 : ∀ u, u < 315 → 0 ≤ J (f + 2) u ∧ J (f + 2) u ≤ 1000 := by
        intro u hu
        rcases hm u hu with e | ⟨y, y1, y2⟩
        · omega
        · have := (hxs y y1).2
          omega
      have hfr0 : ∀ u, u < 315 → ¬ J (f + 2) u = (s : Int) := by
        intro u hu z
        rcases hm u hu with e | ⟨y, y1, y2⟩
        · have := hgs.1
          omega
        · have := (hxs y y1).1
          omega
      refine mj_go z_F_leastOnLoop [10] 60 ?_
      refine And.intro hN.1 ?_
      rw [e8]
      refine And.intro (fun c => ?_) (fun c => ?_)
      · simp (disch := (clear c; omega)) only [mj_w_id] at c
        omega
      · refine And.intro hN.1 (Exists.intro _ (And.intro hN.2.2.2.2.2.2.2.2.1 ?_))
        refine Exists.intro _ (Exists.intro (xs.length) (And.intro hN.2.2.2.2.2.2.2.2.2.2.2.2.2.2.2.2 (And.intro (by first | (rw [mj_w_id (by omega) (by omega)]; done) | (rw [mj_w_id (by omega) (by omega)]; omega) | (unfold mj_w; omega)) (And.intro (by omega) ?_))))
        rw [es]
        refine And.intro h0 (And.intro (Nat.le_of_ble_eq_true rfl) (And.intro (Nat.le_of_ble_eq_true rfl) (And.intro (Nat.le_of_ble_eq_true rfl) (Exists.intro _ (And.intro (ct_F_comesBack (IA := J) (start := s) (I := I) (G := G) (L := L) (R := R) hF hN hap s1 (by rw [hb 6 (by decide)]; exact s2) hr0 hfr0 (hW.move hb)) ?_)))))
        rintro o1 sh9 FR9 J1 LA9 n9 ⟨z1, z2, z3, z4, hp⟩
        replace z1 := z1.symm
        subst z1
        replace z2 := z2.symm
        subst z2
        replace z3 := z3.symm
        subst z3
        replace z4 := z4.symm
        subst z4
        obtain ⟨⟨v, ho, hv⟩, tr, hI⟩ := hp
        subst ho
        refine And.intro (Or.inl rfl) ?_
        have f1 : ∀ q, q ≠ f → q ≠ f + 1 → q ≠ f + 2 → J1 q = IA q := fun q h1 h2 h3 => (hI.1 q h1 h2 h3).trans (hf q h1 h2 h3)
        rcases hv with ⟨hv, hr⟩ | ⟨hv, hr⟩
        · subst hv
          refine And.intro (fun d => ?_) (fun d => ?_)
          · exact absurd d (by decide)
          · refine And.intro hN.1 (Exists.intro _ (And.intro hN.2.2.1 ?_))
            refine Exists.intro _ (Exists.intro (s) (And.intro hN.2.2.2.2.2.2.2.2.2.2.1 (And.intro (by first | (rw [mj_w_id (by omega) (by omega)]; done) | (rw [mj_w_id (by omega) (by omega)]; omega) | (unfold mj_w; omega)) (And.intro (by omega) ?_))))
            rw [f1 (b + 2) (hbf 2 (by decide)).1 (hbf 2 (by decide)).2.1 (hbf 2 (by decide)).2.2]
            refine Exists.intro (IA (b + 2) s / 2) (And.intro (nu_shr1 (by omega) (by omega)) ?_)
            exact ⟨⟨rfl, rfl, rfl, rfl, f1, _, rfl, Or.inl ⟨xs, s, ys, hw, hx, hr, rfl⟩⟩, Nat.le_of_ble_eq_true rfl, Nat.le_of_ble_eq_true rfl⟩
        · subst hv
          refine And.intro (fun d => ?_) (fun d => ?_)
          · refine Exists.intro (((xs.length + 1 : Nat) : Int)) (And.intro (by first | (rw [mj_w_id (by omega) (by omega)]; done) | (rw [mj_w_id (by omega) (by omega)]; omega) | (unfold mj_w; omega)) ?_)
            have ih1 := ih (xs ++ [s]) J1 (some (.inl s)) (by rw [hw]; simp) f1 (fun u hu => by
              rcases hI.2.2.2.2.1 u with e | e
              · exact Or.inr ⟨s, by simp, e⟩
              · rw [e]
                rcases hm u hu with e | ⟨y, y1, y2⟩
                · exact Or.inl e
                · exact Or.inr ⟨y, List.mem_append_left _ y1, y2⟩) (fun y hy => by
              rcases List.mem_append.mp hy with hy | hy
              · exact hx y hy
              · have : y = s := by simpa using hy
                subst this
                exact hr)
            rw [List.length_append, List.length_singleton] at ih1
            exact ih1
          · exact absurd (by decide) d
  refine mj_Ct_of (by decide +kernel) (by decide) (Nat.le_of_ble_eq_true rfl) ?_
  refine mj_go z_F_leastOnLoop [10] 60 ?_
  refine And.intro h0 (Exists.intro _ (And.intro f1 ?_))
  refine And.intro trivial (And.intro (Nat.le_of_ble_eq_true rfl) (And.intro (Nat.le_of_ble_eq_true rfl) (And.intro (Nat.le_of_ble_eq_true rfl) (Exists.intro _ (And.intro (ct_A_fill a2 (by decide)) ?_)))))
  rintro r9 sh9 FR9 IA9 LA9 n9 ⟨z0, z1, z2, z3, z4, z5⟩
  subst z0
  replace z1 := z1.symm
  subst z1
  replace z2 := z2.symm
  subst z2
  replace z3 := z3.symm
  subst z3
  replace z4 := z4.symm
  subst z4
  replace z5 := z5.symm
  subst z5
  refine And.intro (Or.inl rfl) ?_
  refine loop wl [] _ none rfl (fun q h1 h2 h3 => ?_) (fun u hu => Or.inl ?_) (fun x hx => by simp at hx)
  · funext j
    simp [mj_fl, h3]
  · simp [mj_fl, hu]
end FF
