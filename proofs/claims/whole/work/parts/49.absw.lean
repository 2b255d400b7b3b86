/-! THE ABSTRACT PARSER: what it gives is well formed -/
/-- slots 1 .. s - 1 have their variables -/
def ab_V (m s : Nat) (so ow : Nat → Int) : Prop := so 0 = 0 ∧ (∀ j, 1 ≤ j → j < 1001 → so j = -1 ∨ (1 ≤ so j ∧ so j < (s : Int) ∧ ow (so j).toNat = 2 * (j : Int) ∧ j ≤ m)) ∧ (∀ i, 1 ≤ i → i < s → ∃ j : Nat, 1 ≤ j ∧ j ≤ m ∧ ow i = 2 * (j : Int) ∧ so j = (i : Int))
theorem ab_V_step {m s j : Nat} {so ow : Nat → Int} (h : ab_V m s so ow) (hs : 1 ≤ s) (hm : m ≤ 1000) (hj : j ≤ m) (hf : so j = -1) : ab_V m (s + 1) (mj_u so j s) (mj_u ow s (2 * (j : Int))) := by
  obtain ⟨h0, h1, h2⟩ := h
  have hj1 : 1 ≤ j := by
    by_cases z : j = 0
    · subst z
      omega
    · omega
  refine ⟨by rw [mj_u_ne (by omega)]; exact h0, fun k k1 k2 => ?_, fun i i1 i2 => ?_⟩
  · by_cases e : k = j
    · subst e
      refine Or.inr ⟨?_, ?_, ?_, hj⟩
      · rw [mj_u_at]; omega
      · rw [mj_u_at]; omega
      · rw [mj_u_at, show ((s : Int)).toNat = s from rfl, mj_u_at]
    · rw [mj_u_ne e]
      rcases h1 k k1 k2 with q | ⟨q1, q2, q3, q4⟩
      · exact Or.inl q
      · refine Or.inr ⟨q1, by omega, ?_, q4⟩
        rw [mj_u_ne (by omega)]
        exact q3
  · by_cases e : i = s
    · subst e
      exact ⟨j, hj1, hj, by rw [mj_u_at], by rw [mj_u_at]⟩
    · obtain ⟨k, k1, k2, k3, k4⟩ := h2 i i1 (by omega)
      refine ⟨k, k1, k2, by rw [mj_u_ne e]; exact k3, ?_⟩
      rw [mj_u_ne]
      · exact k4
      · intro z
        subst z
        omega
theorem ab_V_free {m s : Nat} {so ow : Nat → Int} (h : ab_V m s so ow) (hs : 1 ≤ s) (hm : m ≤ 1000) {v : Int} (hv : 0 ≤ v) (hf : ab_fr m so v) : ab_V m (s + 1) (mj_u so (v / 2).toNat s) (mj_u ow s v) := by
  have h1 := hf.1
  have h2 := hf.2.1
  have := ab_V_step h hs hm (j := (v / 2).toNat) (by omega) hf.2.2
  rw [show 2 * (((v / 2).toNat : Nat) : Int) = v by omega] at this
  exact this
theorem ab_in_w {by0 : Nat → Int} {m len : Nat} {bin : Bool} (hm : m ≤ 1000) (he : ab_en by0 len) : ∀ (t s p : Nat) (so ow : Nat → Int) (x : Nat × (Nat → Int) × (Nat → Int)), 1 ≤ s → p ≤ len → ab_V m s so ow → (bin = true → s + t ≤ m + 1 ∧ ∀ j, s ≤ j → j < 1001 → so j = -1) → ab_in by0 m bin t s p so ow = .inr x →
    x.1 ≤ len ∧ ab_V m (s + t) x.2.1 x.2.2 ∧ (bin = true → ∀ j, s + t ≤ j → j < 1001 → x.2.1 j = -1)
  | 0, s, p, so, ow, x, hs, hp, hV, hb, h => by
    cases h
    exact ⟨hp, hV, fun z => (hb z).2⟩
  | t + 1, s, p, so, ow, x, hs, hp, hV, hb, h => by
    simp only [ab_in] at h
    rw [show s + (t + 1) = s + 1 + t by omega]
    split at h
    · rename_i hbin
      obtain ⟨b1, b2⟩ := hb hbin
      exact ab_in_w hm he t (s + 1) p _ _ x (by omega) hp (ab_V_step hV hs hm (by omega) (b2 s (Nat.le_refl _) (by omega))) (fun z => ⟨by omega, fun j j1 j2 => by rw [mj_u_ne (by omega)]; exact b2 j (by omega) j2⟩) h
    · rename_i hbin
      split at h
      · rename_i hok
        split at h
        · rename_i hf
          exact ab_in_w hm he t (s + 1) _ _ _ x (by omega) (ab_L_e he hp) (ab_V_free hV hs hm (ab_L_n hok).1 hf) (fun z => absurd z hbin) h
        · cases h
      · cases h
theorem ab_ou_w {by0 : Nat → Int} {m len : Nat} (he : ab_en by0 len) : ∀ (t k p : Nat) (ou : Nat → Int) (x : Nat × (Nat → Int)), p ≤ len → ab_ou by0 m t k p ou = .inr x →
    x.1 ≤ len ∧ (∀ j, k ≤ j → j < k + t → 0 ≤ x.2 j ∧ x.2 j ≤ 2 * (m : Int) + 1) ∧ (∀ j, j < k ∨ k + t ≤ j → x.2 j = ou j)
  | 0, k, p, ou, x, hp, h => by
    cases h
    exact ⟨hp, fun j j1 j2 => by omega, fun j _ => rfl⟩
  | t + 1, k, p, ou, x, hp, h => by
    simp only [ab_ou] at h
    split at h
    · rename_i hok
      split at h
      · rename_i hv
        obtain ⟨q1, q2, q3⟩ := ab_ou_w he t (k + 1) _ _ x (ab_L_e he hp) h
        refine ⟨q1, fun j j1 j2 => ?_, fun j j1 => ?_⟩
        · by_cases e : j = k
          · rw [q3 j (by omega), e, mj_u_at]
            exact ⟨(ab_L_n hok).1, hv⟩
          · exact q2 j (by omega) (by omega)
        · rw [q3 j (by omega), mj_u_ne (by omega)]
      · cases h
    · cases h
theorem ab_gs_w {by0 : Nat → Int} {m len : Nat} {bin : Bool} (hm : m ≤ 1000) (he : ab_en by0 len) (hby : ∀ i, -1 ≤ by0 i) : ∀ (t s p : Nat) (so ow le ri : Nat → Int) (x : ab_T), 1 ≤ s → p ≤ len → ab_V m s so ow → (bin = true → s + t ≤ m + 1 ∧ ∀ j, s ≤ j → j < 1001 → so j = -1) → ab_gs by0 m bin t s p so ow le ri = .inr x →
    x.1 ≤ len ∧ ab_V m (s + t) x.2.1 x.2.2.1 ∧ (∀ j, s ≤ j → j < s + t → (0 ≤ x.2.2.2.1 j ∧ x.2.2.2.1 j ≤ 2 * (m : Int) + 1) ∧ 0 ≤ x.2.2.2.2 j ∧ x.2.2.2.2 j ≤ 2 * (m : Int) + 1) ∧ (∀ j, j < s ∨ s + t ≤ j → x.2.2.2.1 j = le j ∧ x.2.2.2.2 j = ri j)
  | 0, s, p, so, ow, le, ri, x, hs, hp, hV, hb, h => by
    cases h
    exact ⟨hp, hV, fun j j1 j2 => by omega, fun j _ => ⟨rfl, rfl⟩⟩
  | t + 1, s, p, so, ow, le, ri, x, hs, hp, hV, hb, h => by
    simp only [ab_gs] at h
    rw [show s + (t + 1) = s + 1 + t by omega]
    split at h
    · cases h
    · rename_i y hy
      suffices hq : y.1 ≤ len ∧ ab_V m (s + 1) y.2.1 y.2.2.1 ∧ (bin = true → s + 1 + t ≤ m + 1 ∧ ∀ j, s + 1 ≤ j → j < 1001 → y.2.1 j = -1) ∧ (∃ l r : Int, (0 ≤ l ∧ l ≤ 2 * (m : Int) + 1) ∧ (0 ≤ r ∧ r ≤ 2 * (m : Int) + 1) ∧ y.2.2.2.1 = mj_u le s l ∧ y.2.2.2.2 = mj_u ri s r) by
        obtain ⟨k1, k2, k3, l, r, k4, k5, k6, k7⟩ := hq
        obtain ⟨q1, q2, q3, q4⟩ := ab_gs_w hm he hby t (s + 1) _ _ _ _ _ x (by omega) k1 k2 k3 h
        refine ⟨q1, q2, fun j j1 j2 => ?_, fun j j1 => ?_⟩
        · by_cases e : j = s
          · subst e
            rw [(q4 j (by omega)).1, (q4 j (by omega)).2, k6, k7, mj_u_at, mj_u_at]
            exact ⟨k4, k5⟩
          · exact q3 j (by omega) (by omega)
        · rw [(q4 j (by omega)).1, (q4 j (by omega)).2, k6, k7, mj_u_ne (by omega), mj_u_ne (by omega)]
          exact ⟨rfl, rfl⟩
      split at hy
      · rename_i hbin
        obtain ⟨b1, b2⟩ := hb hbin
        unfold ab_sg at hy
        split at hy
        · cases hy
        · rename_i x1 hx1
          split at hy
          · cases hy
          · rename_i hc1
            split at hy
            · cases hy
            · rename_i x2 hx2
              split at hy
              · cases hy
              · rename_i hc2
                cases hy
                have p1 : 0 ≤ x1.1 := by
                  unfold ab_stp at hx1
                  split at hx1
                  · cases hx1
                  · split at hx1
                    · cases hx1
                      have := hby p
                      show 0 ≤ by0 p
                      omega
                    · split at hx1
                      · cases hx1
                        show 0 ≤ by0 p - 128 + 128 * by0 (p + 1)
                        omega
                      · cases hx1
                have p2 : 0 ≤ x2.1 := by
                  unfold ab_stp at hx2
                  split at hx2
                  · cases hx2
                  · split at hx2
                    · cases hx2
                      have := hby x1.2
                      show 0 ≤ by0 x1.2
                      omega
                    · split at hx2
                      · cases hx2
                        show 0 ≤ by0 x1.2 - 128 + 128 * by0 (x1.2 + 1)
                        omega
                      · cases hx2
                exact ⟨ab_stp_e he hx2, ab_V_step hV hs hm (by omega) (b2 s (Nat.le_refl _) (by omega)), fun z => ⟨by omega, fun j j1 j2 => by
                  show mj_u so s s j = -1
                  rw [mj_u_ne (by omega)]
                  exact b2 j (by omega) j2⟩, 2 * (s : Int) - x1.1, 2 * (s : Int) - x1.1 - x2.1, ⟨by omega, by omega⟩, ⟨by omega, by omega⟩, rfl, rfl⟩
      · rename_i hbin
        unfold ab_lg at hy
        split at hy
        · rename_i hok
          split at hy
          · rename_i hf
            split at hy
            · rename_i hv1
              split at hy
              · rename_i hv2
                cases hy
                exact ⟨ab_L_e he hp, ab_V_free hV hs hm (ab_L_n hok).1 hf, fun z => absurd z hbin, _, _, ⟨(ab_L_n hok).1, hv1⟩, ⟨(ab_L_n hok).1, hv2⟩, rfl, rfl⟩
              · cases hy
            · cases hy
          · cases hy
        · cases hy
