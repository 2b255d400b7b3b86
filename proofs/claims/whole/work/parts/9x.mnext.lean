/-! THE REFERENCE: nextGate, written, writeGate -/
/-- gates that wait for a number -/
def ng_c (J : mj_FI) (j : Nat) : Prop := J 76 (15 + j) = 1 ∧ J 75 (15 + j) ≤ 0
abbrev ng_D (J : mj_FI) (k : Nat) : Int := J 74 (15 + k)
abbrev ng_N (J : mj_FI) (k : Nat) : Int := J 76 (15 + k)
abbrev ng_o (J : mj_FI) (c k : Nat) : Int := J 62 (300 * c + k)
def ng_r (J : mj_FI) (G : Nat) : Prop := ∀ k, k < G → (J 76 (15 + k) = 0 ∨ J 76 (15 + k) = 1) ∧ (0 ≤ J 75 (15 + k) ∧ J 75 (15 + k) ≤ 1000) ∧ 0 ≤ J 74 (15 + k) ∧ J 74 (15 + k) ≤ 1000
def ng_b (J : mj_FI) (c k : Nat) (z : Int) : Prop := (z = -1 ∧ ∀ j, j < k → ¬ ng_c J j) ∨ ∃ b : Nat, z = (b : Int) ∧ b < k ∧ ng_c J b ∧ ∀ j, j < k → ng_c J j → ¬ (ng_D J j < ng_D J b ∨ (ng_D J j = ng_D J b ∧ ng_o J c j < ng_o J c b))
theorem ng_b.skip {J : mj_FI} {c k : Nat} {z : Int} (h : ng_b J c k z) (hk : ¬ ng_c J k) : ng_b J c (k + 1) z := by
  have st : ∀ j, j < k + 1 → ng_c J j → j < k := fun j hj hc => by
    by_cases e : j = k
    · rw [e] at hc
      exact absurd hc hk
    · omega
  rcases h with ⟨h1, h2⟩ | ⟨b, h1, h2, h3, h4⟩
  · exact Or.inl ⟨h1, fun j hj hc => h2 j (st j hj hc) hc⟩
  · exact Or.inr ⟨b, h1, by omega, h3, fun j hj hc => h4 j (st j hj hc) hc⟩
theorem ng_b.keep {J : mj_FI} {c k b : Nat} (h : ng_b J c k (b : Int)) (hk : ¬ (ng_D J k < ng_D J b ∨ (ng_D J k = ng_D J b ∧ ng_o J c k < ng_o J c b))) : ng_b J c (k + 1) (b : Int) := by
  rcases h with ⟨h1, h2⟩ | ⟨b', h1, h2, h3, h4⟩
  · omega
  · have e : b = b' := by omega
    subst e
    refine Or.inr ⟨b, rfl, by omega, h3, fun j hj hc => ?_⟩
    by_cases e : j = k
    · rw [e]; exact hk
    · exact h4 j (by omega) hc
theorem ng_b.take {J : mj_FI} {c k : Nat} {z : Int} (h : ng_b J c k z) (hc : ng_c J k) (hk : z = -1 ∨ ∃ b : Nat, z = (b : Int) ∧ (ng_D J k < ng_D J b ∨ (ng_D J k = ng_D J b ∧ ng_o J c k < ng_o J c b))) : ng_b J c (k + 1) (k : Int) := by
  refine Or.inr ⟨k, rfl, by omega, hc, fun j hj hcj => ?_⟩
  by_cases e : j = k
  · rw [e]; omega
  · rcases h with ⟨h1, h2⟩ | ⟨b, h1, h2, h3, h4⟩
    · exact absurd hcj (h2 j (by omega))
    · have := h4 j (by omega) hcj
      rcases hk with z | ⟨b', z1, z2⟩
      · omega
      · have eb : b' = b := by omega
        subst eb
        omega
section MM
variable {sh : mj_Sh} {FR : mj_FR} {IA : mj_FI} {LA : mj_LA} {n : Nat}
set_option maxHeartbeats 2000000 in
theorem ct_M_nextGate (h : isM sh FR n) {c G : Nat} (hc : c < 2) (hG : IA 56 c = (G : Int)) (hG2 : G ≤ 300) (hr : ng_r IA G) (ho : ∀ k, k < G → 0 ≤ IA 62 (300 * c + k) ∧ IA 62 (300 * c + k) ≤ 2001) :
    mj_Ct m_M_nextGate [.inr (.inr (.inl 52)), .inl c] sh FR IA LA n (mj_po (fun o J => J = IA ∧ ∃ z, o = .inl (some (.inl z)) ∧ ng_b IA c G z) sh FR LA n) := by
  generalize hQ : mj_po (fun o J => J = IA ∧ ∃ z, o = .inl (some (.inl z)) ∧ ng_b IA c G z) sh FR LA n = Q
  have loop : ∀ (t k : Nat) (z : Int), k + t = G → ng_b IA c k z → mj_G m_M_nextGate Q 4 [some (.inr (.inr (.inl 52))), some (.inl c), some (.inl z), some (.inl k)] [] sh FR IA LA n 0 0 := by
    intro t
    induction t with
    | zero =>
      intro k z hk hb
      have e : k = G := by omega
      subst e
      refine mj_go z_M_nextGate [4] 60 ?_
      refine And.intro h.o (Exists.intro _ (And.intro h.r6 ?_))
      refine Exists.intro _ (Exists.intro (c) (And.intro h.a6 (And.intro (by first | (rw [mj_w_id (by omega) (by omega)]; done) | (rw [mj_w_id (by omega) (by omega)]; omega) | (unfold mj_w; omega)) (And.intro (by omega) ?_))))
      rw [hG]
      refine And.intro (fun d => ?_) (fun d => ?_)
      · subst hQ
        exact ⟨⟨rfl, rfl, rfl, rfl, rfl, z, rfl, hb⟩, Nat.le_of_ble_eq_true rfl, Nat.le_of_ble_eq_true rfl⟩
      · simp (disch := (clear d; omega)) only [mj_w_id] at d
        omega
    | succ t ih =>
      intro k z hk hb
      obtain ⟨u1, ⟨u2, u3⟩, u4, u5⟩ := hr k (by omega)
      have okk := ho k (by omega)
      have nx : ∀ z, ng_b IA c (k + 1) z → mj_G m_M_nextGate Q 116 [some (.inr (.inr (.inl 52))), some (.inl c), some (.inl z), some (.inl k)] [] sh FR IA LA n 0 0 := by
        intro z hb
        refine mj_go z_M_nextGate [4] 60 ?_
        refine Exists.intro (((k + 1 : Nat) : Int)) (And.intro (by first | (rw [mj_w_id (by omega) (by omega)]; done) | (rw [mj_w_id (by omega) (by omega)]; omega) | (unfold mj_w; omega)) ?_)
        exact ih (k + 1) z (by omega) hb
      have tk : ng_b IA c (k + 1) (k : Int) → mj_G m_M_nextGate Q 114 [some (.inr (.inr (.inl 52))), some (.inl c), some (.inl z), some (.inl k)] [] sh FR IA LA n 0 0 := by
        intro hb
        refine mj_go z_M_nextGate [116] 60 ?_
        exact nx k hb
      have cmp : ng_c IA k → mj_G m_M_nextGate Q 41 [some (.inr (.inr (.inl 52))), some (.inl c), some (.inl z), some (.inl k)] [] sh FR IA LA n 0 0 := by
        intro hck
        rcases id hb with ⟨h1, h2⟩ | ⟨b, h1, h2, h3, h4⟩
        · subst h1
          refine mj_go z_M_nextGate [114, 116] 60 ?_
          refine And.intro (fun d => ?_) (fun d => ?_)
          · exact tk (hb.take hck (Or.inl rfl))
          · exact absurd (by decide) d
        · subst h1
          obtain ⟨_, _, v4, v5⟩ := hr b (by omega)
          have okb := ho b (by omega)
          refine mj_go z_M_nextGate [114, 116] 60 ?_
          refine And.intro (fun d => ?_) (fun d => ?_)
          · simp (disch := (clear d; omega)) only [mj_w_id] at d
            omega
          · clear d
            refine And.intro h.o (Exists.intro _ (And.intro h.r27 ?_))
            refine Exists.intro (((15 + k : Nat) : Int)) (And.intro (by first | (rw [mj_w_id (by omega) (by omega)]; done) | (rw [mj_w_id (by omega) (by omega)]; omega) | (unfold mj_w; omega)) ?_)
            refine Exists.intro _ (Exists.intro (15 + k) (And.intro h.a27 (And.intro (by first | (rw [mj_w_id (by omega) (by omega)]; done) | (rw [mj_w_id (by omega) (by omega)]; omega) | (unfold mj_w; omega)) (And.intro (by omega) ?_))))
            refine And.intro h.o (Exists.intro _ (And.intro h.r27 ?_))
            refine Exists.intro (((15 + b : Nat) : Int)) (And.intro (by first | (rw [mj_w_id (by omega) (by omega)]; done) | (rw [mj_w_id (by omega) (by omega)]; omega) | (unfold mj_w; omega)) ?_)
            refine Exists.intro _ (Exists.intro (15 + b) (And.intro h.a27 (And.intro (by first | (rw [mj_w_id (by omega) (by omega)]; done) | (rw [mj_w_id (by omega) (by omega)]; omega) | (unfold mj_w; omega)) (And.intro (by omega) ?_))))
            refine And.intro (fun d => ?_) (fun d => ?_)
            · simp (disch := (clear d; omega)) only [mj_w_id] at d
              exact tk (hb.take hck (Or.inr ⟨b, rfl, Or.inl d⟩))
            · simp (disch := (clear d; omega)) only [mj_w_id] at d
              refine And.intro h.o (Exists.intro _ (And.intro h.r27 ?_))
              refine Exists.intro (((15 + k : Nat) : Int)) (And.intro (by first | (rw [mj_w_id (by omega) (by omega)]; done) | (rw [mj_w_id (by omega) (by omega)]; omega) | (unfold mj_w; omega)) ?_)
              refine Exists.intro _ (Exists.intro (15 + k) (And.intro h.a27 (And.intro (by first | (rw [mj_w_id (by omega) (by omega)]; done) | (rw [mj_w_id (by omega) (by omega)]; omega) | (unfold mj_w; omega)) (And.intro (by omega) ?_))))
              refine And.intro h.o (Exists.intro _ (And.intro h.r27 ?_))
              refine Exists.intro (((15 + b : Nat) : Int)) (And.intro (by first | (rw [mj_w_id (by omega) (by omega)]; done) | (rw [mj_w_id (by omega) (by omega)]; omega) | (unfold mj_w; omega)) ?_)
              refine Exists.intro _ (Exists.intro (15 + b) (And.intro h.a27 (And.intro (by first | (rw [mj_w_id (by omega) (by omega)]; done) | (rw [mj_w_id (by omega) (by omega)]; omega) | (unfold mj_w; omega)) (And.intro (by omega) ?_))))
              refine And.intro (fun e => ?_) (fun e => ?_)
              · simp (disch := (clear e; omega)) only [mj_w_id] at e
                exact nx _ (hb.keep (fun z => by rcases z with z | z; exact d z; exact e z.1))
              · replace e := Classical.not_not.mp e
                simp (disch := (clear e; omega)) only [mj_w_id] at e
                refine And.intro h.o (Exists.intro _ (And.intro h.r12 ?_))
                refine Exists.intro (((300 * c : Nat) : Int)) (And.intro (by first | (rw [mj_w_id (by omega) (by omega)]; done) | (rw [mj_w_id (by omega) (by omega)]; omega) | (unfold mj_w; omega)) ?_)
                refine Exists.intro (((300 * c + k : Nat) : Int)) (And.intro (by first | (rw [mj_w_id (by omega) (by omega)]; done) | (rw [mj_w_id (by omega) (by omega)]; omega) | (unfold mj_w; omega)) ?_)
                refine Exists.intro _ (Exists.intro (300 * c + k) (And.intro h.a12 (And.intro (by first | (rw [mj_w_id (by omega) (by omega)]; done) | (rw [mj_w_id (by omega) (by omega)]; omega) | (unfold mj_w; omega)) (And.intro (by omega) ?_))))
                refine And.intro h.o (Exists.intro _ (And.intro h.r12 ?_))
                refine Exists.intro (((300 * c : Nat) : Int)) (And.intro (by first | (rw [mj_w_id (by omega) (by omega)]; done) | (rw [mj_w_id (by omega) (by omega)]; omega) | (unfold mj_w; omega)) ?_)
                refine Exists.intro (((300 * c + b : Nat) : Int)) (And.intro (by first | (rw [mj_w_id (by omega) (by omega)]; done) | (rw [mj_w_id (by omega) (by omega)]; omega) | (unfold mj_w; omega)) ?_)
                refine Exists.intro _ (Exists.intro (300 * c + b) (And.intro h.a12 (And.intro (by first | (rw [mj_w_id (by omega) (by omega)]; done) | (rw [mj_w_id (by omega) (by omega)]; omega) | (unfold mj_w; omega)) (And.intro (by omega) ?_))))
                refine And.intro (fun f => ?_) (fun f => ?_)
                · simp (disch := (clear f; omega)) only [mj_w_id] at f
                  exact nx _ (hb.keep (fun z => by rcases z with z | z; exact d z; have := z.2; unfold ng_o at this; omega))
                · simp (disch := (clear f; omega)) only [mj_w_id] at f
                  exact tk (hb.take hck (Or.inr ⟨b, rfl, Or.inr ⟨e, by unfold ng_o; omega⟩⟩))
      refine mj_go z_M_nextGate [41, 116] 60 ?_
      refine And.intro h.o (Exists.intro _ (And.intro h.r6 ?_))
      refine Exists.intro _ (Exists.intro (c) (And.intro h.a6 (And.intro (by first | (rw [mj_w_id (by omega) (by omega)]; done) | (rw [mj_w_id (by omega) (by omega)]; omega) | (unfold mj_w; omega)) (And.intro (by omega) ?_))))
      rw [hG]
      refine And.intro (fun d => ?_) (fun d => ?_)
      · simp (disch := (clear d; omega)) only [mj_w_id] at d
        omega
      · clear d
        refine And.intro h.o (Exists.intro _ (And.intro h.r29 ?_))
        refine Exists.intro (((15 + k : Nat) : Int)) (And.intro (by first | (rw [mj_w_id (by omega) (by omega)]; done) | (rw [mj_w_id (by omega) (by omega)]; omega) | (unfold mj_w; omega)) ?_)
        refine Exists.intro _ (Exists.intro (15 + k) (And.intro h.a29 (And.intro (by first | (rw [mj_w_id (by omega) (by omega)]; done) | (rw [mj_w_id (by omega) (by omega)]; omega) | (unfold mj_w; omega)) (And.intro (by omega) ?_))))
        refine And.intro (fun d => ?_) (fun d => ?_)
        · simp (disch := (clear d; omega)) only [mj_w_id] at d
          exact nx _ (hb.skip (fun z => by have := z.1; omega))
        · simp (disch := (clear d; omega)) only [mj_w_id] at d
          refine And.intro h.o (Exists.intro _ (And.intro h.r28 ?_))
          refine Exists.intro (((15 + k : Nat) : Int)) (And.intro (by first | (rw [mj_w_id (by omega) (by omega)]; done) | (rw [mj_w_id (by omega) (by omega)]; omega) | (unfold mj_w; omega)) ?_)
          refine Exists.intro _ (Exists.intro (15 + k) (And.intro h.a28 (And.intro (by first | (rw [mj_w_id (by omega) (by omega)]; done) | (rw [mj_w_id (by omega) (by omega)]; omega) | (unfold mj_w; omega)) (And.intro (by omega) ?_))))
          refine And.intro (fun e => ?_) (fun e => ?_)
          · simp (disch := (clear e; omega)) only [mj_w_id] at e
            exact cmp ⟨by omega, by omega⟩
          · simp (disch := (clear e; omega)) only [mj_w_id] at e
            exact nx _ (hb.skip (fun z => by have := z.2; omega))
  refine mj_Ct_of (by decide +kernel) (by decide) (Nat.le_of_ble_eq_true rfl) ?_
  refine mj_go z_M_nextGate [4] 60 ?_
  exact loop G 0 (-1) (by omega) (Or.inl ⟨rfl, fun j hj => by omega⟩)
/-- the literal in the text -/
def M_wl (B : mj_FI) (num : Nat → Int) (c : Nat) (lit : Int) : Nat := (2 * num (M_tr B c lit) + M_tu B c lit % 2).toNat
theorem ct_M_written (h : isM sh FR n) {B J : mj_FI} {c : Nat} {lit : Int} (hc : c < 2) (e6 : J 66 = B 66) (e3 : J 73 = B 73) (hr : M_rr B) (hl : M_st B c lit) (ht : M_st B c (B 73 (M_ro B c lit))) (hn : 0 ≤ J 75 (M_tr B c lit) ∧ J 75 (M_tr B c lit) ≤ 1000) : mj_Ct m_M_written [.inr (.inr (.inl 52)), .inl c, .inl lit] sh FR J LA n (mj_pu (.inl (some (.inl (M_wl B (J 75) c lit : Int)))) sh FR J LA n) := by
  have s := (M_tu_st ht).1
  have s1 := s.1
  have s2 := s.2.1
  have hrow := (s.row hr (by omega)).2
  have e : M_ro B c (M_tu B c lit) = M_tr B c lit := rfl
  rw [e] at hrow
  refine mj_Ct_of (by decide +kernel) (by decide) (Nat.le_of_ble_eq_true rfl) ?_
  refine mj_go z_M_written [] 60 ?_
  refine And.intro h.o (And.intro (Nat.le_of_ble_eq_true rfl) (And.intro (Nat.le_of_ble_eq_true rfl) (And.intro (Nat.le_of_ble_eq_true rfl) (Exists.intro _ (And.intro (ct_tuB h hc e6 e3 hr hl ht) ?_)))))
  rintro r9 sh9 FR9 IA9 LA9 n9 ⟨z0, z1, z2, z3, z4, z5⟩
  subst z0
  replace z1 := z1.symm
  subst z1
  replace z2 := z2.symm
  subst z2
  replace z3 := z3.symm
  subst z3
  replace z4 := z4.symm
  subst z4
  replace z5 := z5.symm
  subst z5
  refine And.intro (Or.inl rfl) ?_
  refine And.intro h.o (Exists.intro _ (And.intro h.r28 ?_))
  refine And.intro h.o (And.intro (Nat.le_of_ble_eq_true rfl) (And.intro (Nat.le_of_ble_eq_true rfl) (And.intro (Nat.le_of_ble_eq_true rfl) (Exists.intro _ (And.intro (ct_raB h hc e6 e3 hr ht) ?_)))))
  rintro r9 sh9 FR9 IA9 LA9 n9 ⟨z0, z1, z2, z3, z4, z5⟩
  subst z0
  replace z1 := z1.symm
  subst z1
  replace z2 := z2.symm
  subst z2
  replace z3 := z3.symm
  subst z3
  replace z4 := z4.symm
  subst z4
  replace z5 := z5.symm
  subst z5
  refine And.intro (Or.inl rfl) ?_
  refine Exists.intro _ (Exists.intro (M_tr B c lit) (And.intro h.a28 (And.intro (by first | (rw [mj_w_id (by omega) (by omega)]; done) | (rw [mj_w_id (by omega) (by omega)]; omega) | (unfold mj_w; omega)) (And.intro (by omega) ?_))))
  refine Exists.intro (2 * J 75 (M_tr B c lit)) (And.intro (by first | (rw [mj_w_id (by omega) (by omega)]; done) | (rw [mj_w_id (by omega) (by omega)]; omega) | (unfold mj_w; omega)) ?_)
  refine And.intro (by decide) ?_
  refine Exists.intro (M_tu B c lit % 2) (And.intro (nu_rem s1 (by omega) (by omega) (by omega)) ?_)
  refine Exists.intro ((M_wl B (J 75) c lit : Int)) (And.intro ((by unfold M_wl; rw [mj_w_id (by omega) (by omega)]; omega)) ?_)
  exact ⟨⟨rfl, rfl, rfl, rfl, rfl, rfl⟩, Nat.le_of_ble_eq_true rfl, Nat.le_of_ble_eq_true rfl⟩
end MM
