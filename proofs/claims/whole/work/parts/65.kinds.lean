/-! CIRCUIT: kindsNotIn -/
theorem nd_sub : ∀ (l k : List Nat), l.Nodup → (∀ x ∈ l, x ∈ k) → l.length ≤ k.length
  | [], _, _, _ => Nat.zero_le _
  | x :: r, k, hn, h => by
    have hn2 := List.nodup_cons.mp hn
    have ih := nd_sub r (k.erase x) hn2.2 (fun y hy => (List.mem_erase_of_ne (by intro e; subst e; exact hn2.1 hy)).mpr (h y (List.mem_cons_of_mem _ hy)))
    have hx : x ∈ k := h x List.mem_cons_self
    rw [List.length_erase_of_mem hx] at ih
    have := List.length_pos_of_mem hx
    rw [List.length_cons]
    omega
/-- slot t of c leads, and no leader of d has its function -/
def C_un (LA : mj_LA) (c d W : Nat) (ld ld' : List Nat) (t : Nat) : Prop := t ∈ ld ∧ ∀ u ∈ ld', ¬ C_si LA d u c t W
section CC
variable {sh : mj_Sh} {FR : mj_FR} {IA : mj_FI} {LA : mj_LA} {n c b : Nat}
set_option maxHeartbeats 1000000 in
theorem ct_C_kindsNotIn (h : isC sh FR n c b) {d b2 : Nat} (h' : isC sh FR n d b2) {W : Nat} {ld ld' : List Nat} (hW : IA d 8 = (W : Int)) (hW2 : W ≤ 256) (hm : LA c 9 = LA d 9) (hV : bk_V (IA (c + 13)) (LA (c + 11)) ld) (hV' : bk_V (IA (d + 13)) (LA (d + 11)) ld') (hh : ∀ t ∈ ld, LA (c + 11) t = C_hs LA c t W) (hh' : ∀ t ∈ ld', LA (d + 11) t = C_hs LA d t W) :
    mj_Ct m_C_kindsNotIn [.inr (.inr (.inl c)), .inr (.inr (.inl d))] sh FR IA LA n (mj_po (fun o J => J = IA ∧ ∃ l : List Nat, o = .inl (some (.inl (l.length : Int))) ∧ l.Nodup ∧ ∀ t, t ∈ l ↔ C_un LA c d W ld ld' t) sh FR LA n) := by
  have hC := h
  have hC' := h'
  obtain ⟨h0, r0, r4, r5, r6, r7, a4, a5, a6, a7⟩ := h
  obtain ⟨g0, k0, k4, k5, k6, k7, b4, b5, b6, b7⟩ := h'
  obtain ⟨v1, v2, ps, v3, v4, v5, v6⟩ := id hV
  have loop : ∀ (t p : Nat) (l : List Nat) (x : Option mj_V), p + t = 512 → l.Nodup → (∀ t, t ∈ l ↔ (∃ q, q < p ∧ IA (c + 13) q = (t : Int)) ∧ C_un LA c d W ld ld' t) →
      mj_G m_C_kindsNotIn (mj_po (fun o J => J = IA ∧ ∃ l : List Nat, o = .inl (some (.inl (l.length : Int))) ∧ l.Nodup ∧ ∀ t, t ∈ l ↔ C_un LA c d W ld ld' t) sh FR LA n) 4 [some (.inr (.inr (.inl c))), some (.inr (.inr (.inl d))), some (.inl (l.length : Int)), some (.inl p), x] [] sh FR IA LA n 0 0 := by
    intro t
    induction t with
    | zero =>
      intro p l x hp hn hm2
      refine mj_go z_C_kindsNotIn [4] 60 ?_
      refine And.intro (fun e => ?_) (fun e => ?_)
      · refine ⟨⟨rfl, rfl, rfl, rfl, rfl, l, rfl, hn, fun t => ?_⟩, Nat.le_of_ble_eq_true rfl, Nat.le_of_ble_eq_true rfl⟩
        rw [hm2 t]
        refine ⟨fun z => z.2, fun z => ⟨?_, z⟩⟩
        obtain ⟨_, k, y1, y2, _⟩ := v2 t z.1
        exact ⟨_, by omega, y2⟩
      · simp (disch := (clear e; omega)) only [mj_w_id] at e
        omega
    | succ t ih =>
      intro p l x hp hn hm2
      have hl : l.length ≤ 512 := by
        have := nd_sub l ld hn (fun y hy => ((hm2 y).mp hy).2.1)
        omega
      have same : (∀ t : Nat, IA (c + 13) p = (t : Int) → ¬ C_un LA c d W ld ld' t) → ∀ t, t ∈ l ↔ (∃ q, q < p + 1 ∧ IA (c + 13) q = (t : Int)) ∧ C_un LA c d W ld ld' t := by
        intro hno t
        rw [hm2 t]
        refine ⟨fun z => ⟨?_, z.2⟩, fun z => ⟨?_, z.2⟩⟩
        · obtain ⟨⟨q, q1, q2⟩, _⟩ := z
          exact ⟨q, by omega, q2⟩
        · obtain ⟨⟨q, q1, q2⟩, z2⟩ := z
          refine ⟨q, ?_, q2⟩
          by_cases e : q = p
          · subst e
            exact absurd z2 (hno t q2)
          · omega
      have skip : ∀ x : Option mj_V, (∀ t : Nat, IA (c + 13) p = (t : Int) → ¬ C_un LA c d W ld ld' t) → mj_G m_C_kindsNotIn (mj_po (fun o J => J = IA ∧ ∃ l : List Nat, o = .inl (some (.inl (l.length : Int))) ∧ l.Nodup ∧ ∀ t, t ∈ l ↔ C_un LA c d W ld ld' t) sh FR LA n) 44 [some (.inr (.inr (.inl c))), some (.inr (.inr (.inl d))), some (.inl (l.length : Int)), some (.inl p), x] [] sh FR IA LA n 0 0 := by
        intro x hno
        refine mj_go z_C_kindsNotIn [4] 60 ?_
        refine Exists.intro (((p + 1 : Nat) : Int)) (And.intro (by first | (rw [mj_w_id (by omega) (by omega)]; done) | (rw [mj_w_id (by omega) (by omega)]; omega) | (unfold mj_w; omega)) ?_)
        exact ih (p + 1) l x (by omega) hn (same hno)
      refine mj_go z_C_kindsNotIn [4, 44] 60 ?_
      refine And.intro (fun e => ?_) (fun e => ?_)
      · simp (disch := (clear e; omega)) only [mj_w_id] at e
        omega
      · clear e
        refine And.intro h0 (Exists.intro _ (And.intro r7 ?_))
        refine Exists.intro _ (Exists.intro (p) (And.intro a7 (And.intro (by first | (rw [mj_w_id (by omega) (by omega)]; done) | (rw [mj_w_id (by omega) (by omega)]; omega) | (unfold mj_w; omega)) (And.intro (by omega) ?_))))
        rcases v1 p (by omega) with hv | ⟨u, u1, u2⟩
        · rw [hv]
          refine And.intro (fun e => ?_) (fun e => ?_)
          · exact skip _ (fun t z => by omega)
          · exact absurd rfl e
        · rw [u2]
          have ult := (v2 u u1).1
          refine And.intro (fun e => ?_) (fun e => ?_)
          · simp (disch := (clear e; omega)) only [mj_w_id] at e
            omega
          · clear e
            refine And.intro g0 (Exists.intro _ (And.intro k7 ?_))
            refine And.intro g0 (And.intro (Nat.le_of_ble_eq_true rfl) (And.intro (Nat.le_of_ble_eq_true rfl) (And.intro (Nat.le_of_ble_eq_true rfl) (Exists.intro _ (And.intro (ct_C_bucketFor hC' hC ult hW hW2 hV') ?_)))))
            rintro o1 sh9 FR9 J1 LA9 n9 ⟨z1, z2, z3, z4, hp1⟩
            replace z1 := z1.symm
            subst z1
            replace z2 := z2.symm
            subst z2
            replace z3 := z3.symm
            subst z3
            replace z4 := z4.symm
            subst z4
            obtain ⟨hJ, p', ho, hp', hq⟩ := hp1
            replace hJ := hJ.symm
            subst hJ
            subst ho
            refine And.intro (Or.inl rfl) ?_
            refine Exists.intro _ (Exists.intro (p') (And.intro b7 (And.intro (by first | (rw [mj_w_id (by omega) (by omega)]; done) | (rw [mj_w_id (by omega) (by omega)]; omega) | (unfold mj_w; omega)) (And.intro (by omega) ?_))))
            rcases hq with ⟨y, y1, y2, y3, y4⟩ | ⟨hB, hno, _⟩
            · rw [y2]
              refine And.intro (fun e => ?_) (fun e => ?_)
              · clear e
                refine skip _ (fun t z q => ?_)
                have : t = u := by omega
                subst this
                exact q.2 y y1 y4
              · have e := Classical.not_not.mp e
                have ylt := (hV'.2.1 y y1).1
                simp (disch := (clear e; omega)) only [mj_w_id] at e
                omega
            · rw [hB]
              refine And.intro (fun e => ?_) (fun e => ?_)
              · exact absurd rfl e
              · clear e
                have hun : C_un LA c d W ld ld' u := ⟨u1, fun y y1 y2 => hno y y1 ⟨by rw [hh' y y1, hh u u1]; exact C_si_hs hm y2, y2⟩⟩
                have hul : ¬ u ∈ l := by
                  intro z
                  obtain ⟨⟨q, q1, q2⟩, _⟩ := (hm2 u).mp z
                  have := v6 q p (by omega) (by omega) (by rw [q2, u2]) (by omega)
                  omega
                refine Exists.intro (((l.length + 1 : Nat) : Int)) (And.intro (by first | (rw [mj_w_id (by omega) (by omega)]; done) | (rw [mj_w_id (by omega) (by omega)]; omega) | (unfold mj_w; omega)) ?_)
                have ih1 := ih (p + 1) (l ++ [u]) (some (.inl u)) (by omega) (by
                  rw [List.nodup_append]
                  refine ⟨hn, by simp, fun a ha z hz e => ?_⟩
                  have : z = u := by simpa using hz
                  subst this
                  subst e
                  exact hul ha) (fun t => by
                  rw [List.mem_append, hm2 t]
                  constructor
                  · rintro (⟨⟨q, q1, q2⟩, z2⟩ | z)
                    · exact ⟨⟨q, by omega, q2⟩, z2⟩
                    · have : t = u := by simpa using z
                      subst this
                      exact ⟨⟨p, by omega, u2⟩, hun⟩
                  · rintro ⟨⟨q, q1, q2⟩, z2⟩
                    by_cases e : q = p
                    · subst e
                      have : t = u := by omega
                      subst this
                      exact Or.inr (by simp)
                    · exact Or.inl ⟨⟨q, by omega, q2⟩, z2⟩)
                rw [List.length_append, List.length_singleton] at ih1
                refine mj_go z_C_kindsNotIn [4] 60 ?_
                refine Exists.intro (((p + 1 : Nat) : Int)) (And.intro (by first | (rw [mj_w_id (by omega) (by omega)]; done) | (rw [mj_w_id (by omega) (by omega)]; omega) | (unfold mj_w; omega)) ?_)
                exact ih1
  refine mj_Ct_of (by decide +kernel) (by decide) (Nat.le_of_ble_eq_true rfl) ?_
  refine mj_go z_C_kindsNotIn [4] 60 ?_
  exact loop 512 0 [] none (by omega) List.nodup_nil (fun t => ⟨fun z => by simp at z, fun z => by obtain ⟨⟨q, q1, _⟩, _⟩ := z; omega⟩)
end CC
