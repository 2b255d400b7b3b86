/-! THE LAW: the last queries on both sides -/
theorem M_nl_fr {LA : mj_LA} {I : Nat} {Gf Gf' : Nat → Nat} {fr c r : Nat} {l : List Nat} (h : M_nl LA I Gf fr c r l) (_ : Gf = Gf') : M_nl LA I Gf' fr c r l := by
  subst_vars
  exact h
theorem cp.os {IA : mj_FI} {LA : mj_LA} {x c b m I O G : Nat} {od ld : List Nat} (h : cp IA LA x c b m I O G od ld) : M_os IA x O := fun k hk => by
  rw [h.o65 hk]
  exact h.st.mpr (h.1.1.out hk)
section LL
variable {sh : mj_Sh} {FR : mj_FR} {IA : mj_FI} {LA : mj_LA} {b1 b2 b3 : Nat}
theorem st_functions (hI : Iv sh FR IA LA b1 b2 b3) {x : Int} (ix : mj_i x) : lwC sh FR IA LA m_L_functions m_M_functions [.inr (.inr (.inl 0)), .inl x, .inr (.inr (.inl 77))] [.inr (.inr (.inl 52)), .inl x] (lwF sh) := by
  by_cases hx : x = 0 ∨ x = 1
  · obtain ⟨n, c, b, m, I, O, G, od, ld, e, hn, ht, h⟩ := hI.c hx
    subst e
    refine lw_query (P2 := fun o J => J = mj_up IA 52 0 0 ∧ ∃ l : List Nat, o = .inl (some (.inl (l.length : Int))) ∧ M_nl LA I (fun _ => G) n (n + 1) 0 l) hI (ct_L_functions hI.t0 hI.a7 (ct_T_functions hI.1 ht h.1) (fun o s f i l k hq => ?_)) (fun o s f i l k hq => pu_q hq) (fun K hK => ⟨_, ct_M_functions hI.2.1 hn h.W.2.1 ⟨h.2.1.1, h.2.1.2.1, h.W.2.2.2.1, h.vr⟩, fun o s f J K1 n1 hq => ⟨hq.1, hq.2.1, hq.2.2.1, hq.2.2.2.1, ?_⟩⟩) (fun z o J p1 p2 => ?_) (fun e o J p1 p2 => ?_) (fun e => ⟨by decide, by decide⟩)
    · obtain ⟨q1, q2, q3, q4, q5, q6⟩ := pu_q hq
      exact ⟨q1, q5, Or.inl ⟨_, q6⟩⟩
    · have h5 := hq.2.2.2.2
      rw [hK.nl] at h5
      exact h5
    · obtain ⟨d2, l, d3, d4⟩ := p2
      have e : .inl (some (.inl z)) = (.inl (some (.inl (ld.length : Int))) : mj_O) := p1
      cases e
      exact ⟨d2, by rw [d3, q_functions h d4]⟩
    · have e : .inr e = (.inl (some (.inl (ld.length : Int))) : mj_O) := p1
      cases e
  · exact lw_bad hI (ct_L_functions hI.t0 hI.a7 (ct_T_functionsX hI.1 ix hx) (fun o s f i l k hq => ⟨(pu_q hq).1, (pu_q hq).2.2.2.2.1, Or.inr (pu_q hq).2.2.2.2.2⟩)) (ct_M_functionsX hI.2.1 ix hx) rfl
theorem st_allFunctions (hI : Iv sh FR IA LA b1 b2 b3) : lwC sh FR IA LA m_L_allFunctions m_M_allFunctions [.inr (.inr (.inl 0)), .inr (.inr (.inl 77))] [.inr (.inr (.inl 52))] (lwF sh) := by
  obtain ⟨m1, I1, O1, G1, od1, ld1, h0⟩ := hI.2.2.2.2.2.2.2.2.2.2.1
  obtain ⟨m2, I2, O2, G2, od2, ld2, h1⟩ := hI.2.2.2.2.2.2.2.2.2.2.2
  refine lw_query (P2 := M_an IA (I1 = I2) (fun o => ∃ l : List Nat, o = .inl (some (.inl (l.length : Int))) ∧ M_nl LA I1 (cG2 G1 G2) 0 2 0 l)) hI (ct_L_allFunctions hI.t0 hI.a7 (ct_T_allFunctions hI.1 h0.1 h1.1) (fun o s f i l k hq => ?_)) (fun o s f i l k hq => po_q hq) (fun K hK => ⟨_, ct_M_allFunctions (G := cG2 G1 G2) hI.2.1 h0.W.2.1 h1.W.2.1 ⟨h0.2.1.1, h0.2.1.2.1, h0.W.2.2.2.1, h0.vr⟩ ⟨h1.2.1.1, h1.2.1.2.1, h1.W.2.2.2.1, h1.vr⟩, fun o s f J K1 n1 hq => ⟨hq.1, hq.2.1, hq.2.2.1, hq.2.2.2.1, ?_⟩⟩) (fun z o J p1 p2 => ?_) (fun e o J p1 p2 => ?_) (fun e => ⟨by decide, by decide⟩)
  · obtain ⟨q1, q2, q3, q4, q5, q6⟩ := po_q hq
    refine ⟨q1, q5, ?_⟩
    rcases q6 with ⟨_, l, e, _⟩ | ⟨_, e⟩
    · exact Or.inl ⟨_, e⟩
    · exact Or.inr e
  · have h5 := hq.2.2.2.2
    rw [hK.nl] at h5
    exact h5
  · rcases p1 with ⟨a1, l, a2, a3, a4⟩ | ⟨_, a2⟩
    · cases a2
      subst a1
      rcases p2 with ⟨_, d2, l2, d3, d4⟩ | ⟨d1, _⟩
      · exact ⟨d2, by rw [d3, ← q_all h0 h1 rfl rfl d4 a3 a4]⟩
      · exact absurd rfl d1
    · cases a2
  · rcases p1 with ⟨a1, l, a2, a3, a4⟩ | ⟨a1, a2⟩
    · cases a2
    · rcases p2 with ⟨d1, _⟩ | ⟨_, d2, d3⟩
      · exact absurd d1 a1
      · exact ⟨d2, ⟨by decide, by decide⟩, 0, d3⟩
theorem st_compare (hI : Iv sh FR IA LA b1 b2 b3) : lwC sh FR IA LA m_L_compare m_M_compare [.inr (.inr (.inl 0)), .inr (.inr (.inl 77))] [.inr (.inr (.inl 52))] (lwF sh) := by
  obtain ⟨m1, I1, O1, G1, od1, ld1, h0⟩ := hI.2.2.2.2.2.2.2.2.2.2.1
  obtain ⟨m2, I2, O2, G2, od2, ld2, h1⟩ := hI.2.2.2.2.2.2.2.2.2.2.2
  refine lw_query (P2 := M_an IA (I1 = I2) (fun o => (¬ O1 = O2 ∧ o = .inl (some (.inl (-2)))) ∨ (O1 = O2 ∧ ((∃ k : Nat, o = .inl (some (.inl k)) ∧ k < O1 ∧ ¬ M_oe IA LA I1 k ∧ ∀ i, i < k → M_oe IA LA I1 i) ∨ (o = .inl (some (.inl (-1))) ∧ ∀ i, i < O1 → M_oe IA LA I1 i))))) hI (ct_L_compare hI.t0 hI.a7 (ct_T_compare hI.1 h0.1 h1.1) (fun o s f i l k hq => ?_)) (fun o s f i l k hq => po_q hq) (fun K hK => ⟨_, ct_M_compare hI.2.1 h0.2.1.1 h0.W.2.1 h1.2.1.1 h1.W.2.1 h0.2.1.2.2.1 h0.W.2.2.1 h1.2.1.2.2.1 h1.W.2.2.1 hI.rr h0.os h1.os, fun o s f J K1 n1 hq => ⟨hq.1, hq.2.1, hq.2.2.1, hq.2.2.2.1, ?_⟩⟩) (fun z o J p1 p2 => ?_) (fun e o J p1 p2 => ?_) (fun e => ⟨by decide, by decide⟩)
  · obtain ⟨q1, q2, q3, q4, q5, q6⟩ := po_q hq
    refine ⟨q1, q5, ?_⟩
    rcases q6 with ⟨_, _, z, e, _⟩ | ⟨_, _, e⟩ | ⟨_, e⟩
    · exact Or.inl ⟨_, e⟩
    · exact Or.inl ⟨_, e⟩
    · exact Or.inr e
  · have h5 := hq.2.2.2.2
    rw [hK.oe] at h5
    exact h5
  · rcases p1 with ⟨a1, a2, y, a3, a4⟩ | ⟨a1, a2, a3⟩ | ⟨_, a3⟩
    · cases a3
      subst a1 a2
      rcases p2 with ⟨_, d2, d3⟩ | ⟨d1, _⟩
      · refine ⟨d2, ?_⟩
        rcases d3 with ⟨d3, _⟩ | ⟨_, d3⟩
        · exact absurd rfl d3
        · have key : ∀ k : Nat, k < O1 → (tw_df IA LA b1 b2 (C_W I1) k (-1) → M_oe IA LA I1 k) ∧ (∀ y, tw_df IA LA b1 b2 (C_W I1) k y → 0 ≤ y → ¬ M_oe IA LA I1 k) := fun k hk => ⟨fun q => by
              rcases q_oe h0 h1 hk hk q with ⟨_, q⟩ | ⟨q, _⟩
              · exact q
              · omega, fun y q hy => by
              rcases q_oe h0 h1 hk hk q with ⟨q, _⟩ | ⟨_, q⟩
              · omega
              · exact q⟩
          rcases a4 with ⟨k, e1, e2, ⟨y2, e3, e4⟩, e5⟩ | ⟨e1, e2⟩
          · have f1 := (key k e2).2 y2 e3 e4
            rcases d3 with ⟨k', g1, g2, g3, g4⟩ | ⟨_, g2⟩
            · rcases Nat.lt_trichotomy k k' with w | w | w
              · exact absurd (g4 k w) f1
              · rw [g1, e1, w]
              · exact absurd ((key k' g2).1 (e5 k' w)) g3
            · exact absurd (g2 k e2) f1
          · rcases d3 with ⟨k', g1, g2, g3, g4⟩ | ⟨g1, g2⟩
            · exact absurd ((key k' g2).1 (e2 k' g2)) g3
            · rw [g1, e1]
      · exact absurd rfl d1
    · cases a3
      rcases p2 with ⟨_, d2, d3⟩ | ⟨d1, _⟩
      · refine ⟨d2, ?_⟩
        rcases d3 with ⟨_, d3⟩ | ⟨d3, _⟩
        · exact d3
        · exact absurd d3 a2
      · exact absurd a1 d1
    · cases a3
  · rcases p1 with ⟨a1, a2, y, a3, a4⟩ | ⟨a1, a2, a3⟩ | ⟨a1, a3⟩
    · cases a3
    · cases a3
    · rcases p2 with ⟨d1, _⟩ | ⟨_, d2, d3⟩
      · exact absurd d1 a1
      · exact ⟨d2, ⟨by decide, by decide⟩, 0, d3⟩
theorem st_witness (hI : Iv sh FR IA LA b1 b2 b3) {k : Int} (ik : mj_i k) : lwC sh FR IA LA m_L_witness m_M_witness [.inr (.inr (.inl 0)), .inl k, .inr (.inr (.inl 77))] [.inr (.inr (.inl 52)), .inl k] (lwF sh) := by
  obtain ⟨m1, I1, O1, G1, od1, ld1, h0⟩ := hI.2.2.2.2.2.2.2.2.2.2.1
  obtain ⟨m2, I2, O2, G2, od2, ld2, h1⟩ := hI.2.2.2.2.2.2.2.2.2.2.2
  refine lw_query (P2 := M_a2 IA (I1 = I2) (0 ≤ k ∧ k < (O1 : Int) ∧ k < (O2 : Int)) (fun o => ∃ z, o = .inl (some (.inl z)) ∧ C_fst (fun v => M_bt LA I1 0 (M_ro IA 0 (IA 65 (16 * 0 + k.toNat))) (IA 65 (16 * 0 + k.toNat)) v ^^ M_bt LA I1 1 (M_ro IA 1 (IA 65 (16 * 1 + k.toNat))) (IA 65 (16 * 1 + k.toNat)) v) 0 (2 ^ I1) z)) hI (ct_L_witness hI.t0 hI.a7 (ct_T_witness hI.1 h0.1 h1.1 ik) (fun o s f i l k hq => ?_)) (fun o s f i l k hq => po_q hq) (fun K hK => ⟨_, ct_M_witness hI.2.1 h0.2.1.1 h0.W.2.1 h1.2.1.1 h1.W.2.1 h0.2.1.2.2.1 h0.W.2.2.1 h1.2.1.2.2.1 h1.W.2.2.1 hI.rr h0.os h1.os ik, fun o s f J K1 n1 hq => ⟨hq.1, hq.2.1, hq.2.2.1, hq.2.2.2.1, ?_⟩⟩) (fun z o J p1 p2 => ?_) (fun e o J p1 p2 => ?_) kd12
  · obtain ⟨q1, q2, q3, q4, q5, q6⟩ := po_q hq
    refine ⟨q1, q5, ?_⟩
    rcases q6 with ⟨_, _, z, e, _⟩ | ⟨_, _, e⟩ | ⟨_, e⟩
    · exact Or.inl ⟨_, e⟩
    · exact Or.inr (Or.inr e)
    · exact Or.inr (Or.inl e)
  · have h5 := hq.2.2.2.2
    rw [hK.bt] at h5
    exact h5
  · rcases p1 with ⟨a1, a2, y, a3, a4⟩ | ⟨_, _, a3⟩ | ⟨_, a3⟩
    · cases a3
      subst a1
      rcases p2 with ⟨_, _, d2, y2, d3, d4⟩ | ⟨d1, _⟩ | ⟨_, d1, _⟩
      · exact ⟨d2, by rw [d3, C_fst_u d4 (q_df h0 h1 (by omega) (by omega) a4)]⟩
      · exact absurd rfl d1
      · exact absurd a2 d1
    · cases a3
    · cases a3
  · rcases p1 with ⟨a1, a2, y, a3, a4⟩ | ⟨a1, a2, a3⟩ | ⟨a1, a3⟩
    · cases a3
    · cases a3
      rcases p2 with ⟨_, d1, _⟩ | ⟨d1, _⟩ | ⟨_, _, d2, d3⟩
      · exact absurd d1 a2
      · exact absurd a1 d1
      · exact ⟨d2, ⟨by decide, by decide⟩, 0, d3⟩
    · cases a3
      rcases p2 with ⟨d1, _⟩ | ⟨_, d2, d3⟩ | ⟨d1, _⟩
      · exact absurd d1 a1
      · exact ⟨d2, ⟨by decide, by decide⟩, 0, d3⟩
      · exact absurd d1 a1
theorem st_same (hI : Iv sh FR IA LA b1 b2 b3) {a e : Int} (ia : mj_i a) (ie : mj_i e) : lwC sh FR IA LA m_L_same m_M_same [.inr (.inr (.inl 0)), .inl a, .inl e, .inr (.inr (.inl 77))] [.inr (.inr (.inl 52)), .inl a, .inl e] (lwF sh) := by
  obtain ⟨m1, I1, O1, G1, od1, ld1, h0⟩ := hI.2.2.2.2.2.2.2.2.2.2.1
  obtain ⟨m2, I2, O2, G2, od2, ld2, h1⟩ := hI.2.2.2.2.2.2.2.2.2.2.2
  refine lw_query (P2 := M_a2 IA (M_st IA 0 a ∧ M_st IA 1 e) (I1 = I2) (fun o => (M_eq LA I1 0 (M_ro IA 0 a) a 1 (M_ro IA 1 e) e ∧ o = .inl (some (.inl 1))) ∨ (¬ M_eq LA I1 0 (M_ro IA 0 a) a 1 (M_ro IA 1 e) e ∧ M_eq LA I1 0 (M_ro IA 0 a) a 1 (M_ro IA 1 e) (M_x1 e) ∧ o = .inl (some (.inl (-1)))) ∨ (¬ M_eq LA I1 0 (M_ro IA 0 a) a 1 (M_ro IA 1 e) e ∧ ¬ M_eq LA I1 0 (M_ro IA 0 a) a 1 (M_ro IA 1 e) (M_x1 e) ∧ o = .inl (some (.inl 0))))) hI (ct_L_same hI.t0 hI.a7 (ct_T_same hI.1 h0.1 h1.1 ia ie) (fun o s f i l k hq => ?_)) (fun o s f i l k hq => po_q hq) (fun K hK => ⟨_, ct_M_same hI.2.1 h0.2.1.1 h0.W.2.1 h1.2.1.1 h1.W.2.1 hI.rr ia ie, fun o s f J K1 n1 hq => ⟨hq.1, hq.2.1, hq.2.2.1, hq.2.2.2.1, ?_⟩⟩) (fun z o J p1 p2 => ?_) (fun e o J p1 p2 => ?_) kd02
  · obtain ⟨q1, q2, q3, q4, q5, q6⟩ := po_q hq
    refine ⟨q1, q5, ?_⟩
    rcases q6 with ⟨_, e⟩ | ⟨_, _, e⟩ | ⟨_, _, z, e, _⟩
    · exact Or.inr (Or.inl e)
    · exact Or.inr (Or.inr e)
    · exact Or.inl ⟨_, e⟩
  · have h5 := hq.2.2.2.2
    rw [hK.eq] at h5
    exact h5
  · rcases p1 with ⟨_, a3⟩ | ⟨_, _, a3⟩ | ⟨a1, a2, y, a3, a4⟩
    · cases a3
    · cases a3
    · cases a3
      subst a2
      have hq := q_same h0 h1 a1.1 a1.2 a4
      rcases p2 with ⟨_, _, d2, d3⟩ | ⟨d1, _⟩ | ⟨_, d1, _⟩
      · refine ⟨d2, ?_⟩
        rcases hq with ⟨f1, f2⟩ | ⟨f1, f2, f3⟩ | ⟨f1, f2, f3⟩
        · rcases d3 with ⟨_, g⟩ | ⟨g, _⟩ | ⟨g, _⟩
          · rw [g, f2]
          · exact absurd f1 g
          · exact absurd f1 g
        · rcases d3 with ⟨g, _⟩ | ⟨_, _, g⟩ | ⟨_, g, _⟩
          · exact absurd g f1
          · rw [g, f3]
          · exact absurd f2 g
        · rcases d3 with ⟨g, _⟩ | ⟨_, g, _⟩ | ⟨_, _, g⟩
          · exact absurd g f1
          · exact absurd g f2
          · rw [g, f3]
      · exact absurd ⟨h0.st.mpr a1.1, h1.st.mpr a1.2⟩ d1
      · exact absurd rfl d1
  · rcases p1 with ⟨a1, a3⟩ | ⟨a1, a2, a3⟩ | ⟨a1, a2, y, a3, a4⟩
    · cases a3
      rcases p2 with ⟨d1, _⟩ | ⟨_, d2, d3⟩ | ⟨d1, _⟩
      · exact absurd ⟨h0.st.mp d1.1, h1.st.mp d1.2⟩ a1
      · exact ⟨d2, ⟨by decide, by decide⟩, 0, d3⟩
      · exact absurd ⟨h0.st.mp d1.1, h1.st.mp d1.2⟩ a1
    · cases a3
      rcases p2 with ⟨_, d1, _⟩ | ⟨d1, _⟩ | ⟨_, _, d2, d3⟩
      · exact absurd d1 a2
      · exact absurd ⟨h0.st.mpr a1.1, h1.st.mpr a1.2⟩ d1
      · exact ⟨d2, ⟨by decide, by decide⟩, 0, d3⟩
    · cases a3
theorem st_literal (hI : Iv sh FR IA LA b1 b2 b3) {x w k : Int} (ix : mj_i x) (iw : mj_i w) (ik : mj_i k) : lwC sh FR IA LA m_L_literal m_M_literal [.inr (.inr (.inl 0)), .inl x, .inl w, .inl k, .inr (.inr (.inl 77))] [.inr (.inr (.inl 52)), .inl x, .inl w, .inl k] (lwF sh) := by
  by_cases hx : x = 0 ∨ x = 1
  · obtain ⟨n, c, b, m, I, O, G, od, ld, e, hn, ht, h⟩ := hI.c hx
    subst e
    refine lw_query (P2 := fun o J => (M_li I O G w k ∧ J = mj_up IA 52 0 0 ∧ o = .inl (some (.inl (if w = 0 then IA 61 (14 * n + k.toNat) else if w = 1 then IA 62 (300 * n + k.toNat) else IA 65 (16 * n + k.toNat))))) ∨ (¬ M_li I O G w k ∧ J = mj_up IA 52 0 2 ∧ o = .inl (some (.inl 0)))) hI (ct_L_literal hI.t0 hI.a7 (ct_T_literal hI.1 ht h.1 iw ik) (fun o s f i l k hq => ?_)) (fun o s f i l k hq => po_q hq) (fun K hK => ⟨_, ct_M_literal hI.2.1 hn h.2.1.1 h.W.2.1 h.2.1.2.1 h.W.2.2.2.1 h.2.1.2.2.1 h.W.2.2.1 iw ik, fun o s f J K1 n1 hq => ⟨hq.1, hq.2.1, hq.2.2.1, hq.2.2.2.1, hq.2.2.2.2⟩⟩) (fun z o J p1 p2 => ?_) (fun e o J p1 p2 => ?_) kd02
    · obtain ⟨q1, q2, q3, q4, q5, q6⟩ := po_q hq
      refine ⟨q1, q5, ?_⟩
      rcases q6 with ⟨_, _, _, e⟩ | ⟨_, _, _, e⟩ | ⟨_, _, _, e⟩ | ⟨_, _, _, e⟩
      · exact Or.inl ⟨_, e⟩
      · exact Or.inl ⟨_, e⟩
      · exact Or.inl ⟨_, e⟩
      · exact Or.inr (Or.inr e)
    · have hN := h.2.1
      rcases p1 with ⟨a1, a2, a3, a4⟩ | ⟨a1, a2, a3, a4⟩ | ⟨a1, a2, a3, a4⟩ | ⟨_, _, _, a4⟩
      · cases a4
        rcases p2 with ⟨_, d2, d3⟩ | ⟨d1, _⟩
        · refine ⟨d2, ?_⟩
          rw [d3, if_pos a1, hN.2.2.2.2.2.1 k.toNat (by omega)]
        · exact absurd (Or.inl ⟨a1, a2, a3⟩) d1
      · cases a4
        rcases p2 with ⟨_, d2, d3⟩ | ⟨d1, _⟩
        · refine ⟨d2, ?_⟩
          rw [d3, if_neg (by omega), if_pos a1, (hN.2.2.2.2.2.2.1 k.toNat (by omega)).1, show I + 1 + k.toNat = 1 + I + k.toNat by omega]
        · exact absurd (Or.inr (Or.inl ⟨a1, a2, a3⟩)) d1
      · cases a4
        rcases p2 with ⟨_, d2, d3⟩ | ⟨d1, _⟩
        · refine ⟨d2, ?_⟩
          rw [d3, if_neg (by omega), if_neg (by omega), h.o65 (by omega)]
        · exact absurd (Or.inr (Or.inr ⟨a1, a2, a3⟩)) d1
      · cases a4
    · rcases p1 with ⟨_, _, _, a4⟩ | ⟨_, _, _, a4⟩ | ⟨_, _, _, a4⟩ | ⟨a1, a2, a3, a4⟩
      · cases a4
      · cases a4
      · cases a4
      · cases a4
        rcases p2 with ⟨d1, _⟩ | ⟨_, d2, d3⟩
        · rcases d1 with d1 | d1 | d1
          · exact absurd d1 a1
          · exact absurd d1 a2
          · exact absurd d1 a3
        · exact ⟨d2, ⟨by decide, by decide⟩, 0, d3⟩
  · exact lw_bad hI (ct_L_literal hI.t0 hI.a7 (ct_T_literalX hI.1 ix hx) (fun o s f i l k hq => ⟨(pu_q hq).1, (pu_q hq).2.2.2.2.1, Or.inr (Or.inl (pu_q hq).2.2.2.2.2)⟩)) (ct_M_literalX hI.2.1 ix hx) rfl
theorem q_od {x c b m I O G : Nat} {od ld : List Nat} (h : cp IA LA x c b m I O G od ld) : ∀ k, k ≤ O → M_od IA x k = nt_od IA b k
  | 0, _ => rfl
  | k + 1, hk => by
    have hl := h.1.1.out (k := k) (by omega)
    simp only [M_od, nt_od]
    rw [q_od h k (by omega), h.o65 (by omega), h.ro hl, h.2.2.1 _ (h.sl hl)]
    rfl
theorem st_look (hI : Iv sh FR IA LA b1 b2 b3) {x w : Int} (ix : mj_i x) (iw : mj_i w) : lwC sh FR IA LA m_L_look m_M_look [.inr (.inr (.inl 0)), .inl x, .inl w, .inr (.inr (.inl 77))] [.inr (.inr (.inl 52)), .inl x, .inl w] (lwF sh) := by
  by_cases hx : x = 0 ∨ x = 1
  · obtain ⟨n, c, b, m, I, O, G, od, ld, e, hn, ht, h⟩ := hI.c hx
    subst e
    obtain ⟨⟨l1, t1, t2, t3, t4⟩, _, ⟨l2, u1, u2, u3, u4⟩, _⟩ := hI.2.2.2
    have hN := h.2.1
    have hW := h.W
    have key : (0 ≤ w ∧ w ≤ 8 ∧ tw_lk IA c b O w = .inl (some (.inl (M_lk IA n O w)))) ∨ (¬ (0 ≤ w ∧ w ≤ 8) ∧ tw_lk IA c b O w = .inr 0) := by
      by_cases e : 0 ≤ w ∧ w ≤ 8
      · refine Or.inl ⟨e.1, e.2, ?_⟩
        rcases (by omega : w = 0 ∨ w = 1 ∨ w = 2 ∨ w = 3 ∨ w = 4 ∨ w = 5 ∨ w = 6 ∨ w = 7 ∨ w = 8) with q | q | q | q | q | q | q | q | q
        · subst q
          show (.inl (some (.inl (IA b 10))) : mj_O) = .inl (some (.inl (IA 55 n)))
          rw [hN.1, hW.2.2.2.2.2.2.1]
        · subst q
          show (.inl (some (.inl (IA b 11))) : mj_O) = .inl (some (.inl (IA 56 n)))
          rw [hN.2.1, hW.2.2.2.2.2.2.2.1]
        · subst q
          show (.inl (some (.inl (IA b 12))) : mj_O) = .inl (some (.inl (IA 57 n)))
          rw [hN.2.2.1, hW.2.2.2.2.2.2.2.2.1]
        · subst q
          show (.inl (some (.inl (IA b 9))) : mj_O) = .inl (some (.inl (IA 58 n)))
          rw [hN.2.2.2.1, hW.2.2.2.2.2.1]
        · subst q
          show (.inl (some (.inl (IA c 1))) : mj_O) = .inl (some (.inl (IA 59 n)))
          rw [h.2.2.2.2.2.2.1]
        · subst q
          show (.inl (some (.inl (IA c 2))) : mj_O) = .inl (some (.inl (IA 60 n)))
          rw [h.2.2.2.2.2.2.2]
        · subst q
          show (.inl (some (.inl (nt_od IA b O))) : mj_O) = .inl (some (.inl (M_od IA n O)))
          rw [q_od h O (Nat.le_refl _)]
        · subst q
          show (.inl (some (.inl (IA 29 0))) : mj_O) = .inl (some (.inl (IA 52 2)))
          rw [t2, t3]
        · subst q
          show (.inl (some (.inl (IA 45 0))) : mj_O) = .inl (some (.inl (IA 52 4)))
          rw [u2, u3]
      · refine Or.inr ⟨e, ?_⟩
        unfold tw_lk
        rw [if_neg (by omega), if_neg (by omega), if_neg (by omega), if_neg (by omega), if_neg (by omega), if_neg (by omega), if_neg (by omega), if_neg (by omega), if_neg (by omega)]
    refine lw_query (P1 := fun o => o = tw_lk IA c b O w) (P2 := M_an IA (0 ≤ w ∧ w ≤ 8) (fun o => o = .inl (some (.inl (M_lk IA n O w))))) hI (ct_L_look hI.t0 hI.a7 (ct_T_look hI.1 ht h.1 iw) (fun o s f i l k hq => ?_)) (fun o s f i l k hq => pu_q hq) (fun K hK => ⟨_, ct_M_look hI.2.1 hn h.2.1.2.2.1 h.W.2.2.1 hI.rr h.2.2.2.2.2.1 h.os iw, fun o s f J K1 n1 hq => ⟨hq.1, hq.2.1, hq.2.2.1, hq.2.2.2.1, hq.2.2.2.2⟩⟩) (fun z o J p1 p2 => ?_) (fun e o J p1 p2 => ?_) (fun e => ⟨by decide, by decide⟩)
    · obtain ⟨q1, q2, q3, q4, q5, q6⟩ := pu_q hq
      refine ⟨q1, q5, ?_⟩
      rcases key with ⟨_, _, k3⟩ | ⟨_, k3⟩
      · exact Or.inl ⟨_, q6.trans k3⟩
      · exact Or.inr (q6.trans k3)
    · rcases key with ⟨k1, k2, k3⟩ | ⟨_, k3⟩
      · rw [k3] at p1
        cases p1
        rcases p2 with ⟨_, d2, d3⟩ | ⟨d1, _⟩
        · exact ⟨d2, d3⟩
        · exact absurd ⟨k1, k2⟩ d1
      · rw [k3] at p1
        cases p1
    · rcases key with ⟨k1, k2, k3⟩ | ⟨k1, k3⟩
      · rw [k3] at p1
        cases p1
      · rcases p2 with ⟨d1, _⟩ | ⟨_, d2, d3⟩
        · exact absurd d1 k1
        · exact ⟨d2, ⟨by decide, by decide⟩, 0, d3⟩
  · exact lw_bad hI (ct_L_look hI.t0 hI.a7 (ct_T_lookX hI.1 ix hx) (fun o s f i l k hq => ⟨(pu_q hq).1, (pu_q hq).2.2.2.2.1, Or.inr (pu_q hq).2.2.2.2.2⟩)) (ct_M_lookX hI.2.1 ix hx) rfl
theorem st_out (hI : Iv sh FR IA LA b1 b2 b3) {k : Int} (ik : mj_i k) : lwC sh FR IA LA m_L_out m_M_out [.inr (.inr (.inl 0)), .inl k, .inr (.inr (.inl 77))] [.inr (.inr (.inl 52)), .inl k] (lwFl sh) := by
  obtain ⟨_, _, ⟨l2, u1, u2, u3, u4⟩, _⟩ := hI.2.2.2
  have ef : (fun i => if i < l2 then IA 46 i % 256 else 0) = (fun i => if i < l2 then IA 54 i % 256 else 0) := funext fun i => by
    by_cases e : i < l2
    · rw [if_pos e, if_pos e, u4 i e]
    · rw [if_neg e, if_neg e]
  have hT := ct_T_out hI.1 ik u2 u1 (LA := LA)
  have hM : ∀ K : mj_LA, _ := fun K => ct_M_out hI.2.1 ik u3 (show l2 ≤ 8192 by omega) (LA := K)
  by_cases e : 0 ≤ k ∧ k < (l2 : Int)
  · rw [if_pos e, ef] at hT
    simp only [if_pos e] at hM
    refine ⟨_, ct_L_out hI.t0 hI.a7 hT (fun o s f i l k hq => ⟨(pu_q hq).1, (pu_q hq).2.2.2.2.1, Or.inl ⟨_, (pu_q hq).2.2.2.2.2⟩⟩), ?_⟩
    rintro o sh1 FR1 IA1 LA1 n1 (⟨z, LA2, e1, hq, e2⟩ | ⟨e', hq, e1⟩)
    · obtain ⟨q1, q2, q3, q4, q5, q6⟩ := pu_q hq
      cases q6
      subst q1 q2 q3 q4 q5 e1 e2
      refine ⟨rfl, rfl, 0, rfl, ⟨by omega, by omega⟩, _, hM _, fun o2 sh2 FR2 IA2 LA2 n2 h2 => ?_⟩
      obtain ⟨r0, r1, r2, r3, r4, r5⟩ := h2
      subst r0 r1 r2 r3 r4 r5
      exact ⟨rfl, rfl, _, rfl, ⟨b1, b2, b3, hI.q up77⟩, mj_up_at, fun _ => up77_at⟩
    · have := hq.1
      cases this
  · rw [if_neg e] at hT
    simp only [if_neg e] at hM
    refine ⟨_, ct_L_out hI.t0 hI.a7 hT (fun o s f i l k hq => ⟨(pu_q hq).1, (pu_q hq).2.2.2.2.1, Or.inr (pu_q hq).2.2.2.2.2⟩), ?_⟩
    rintro o sh1 FR1 IA1 LA1 n1 (⟨z, LA2, e1, hq, e2⟩ | ⟨e', hq, e1⟩)
    · have := hq.1
      cases this
    · obtain ⟨q1, q2, q3, q4, q5, q6⟩ := pu_q hq
      cases q6
      subst q1 q2 q3 q4 q5 e1
      refine ⟨rfl, rfl, 1, rfl, ⟨by omega, by omega⟩, _, hM _, fun o2 sh2 FR2 IA2 LA2 n2 h2 => ?_⟩
      obtain ⟨r0, r1, r2, r3, r4, r5⟩ := h2
      subst r0 r1 r2 r3 r4 r5
      exact ⟨rfl, rfl, _, rfl, ⟨b1, b2, b3, hI.q (fun _ _ => rfl)⟩, mj_up_at, fun z => by omega⟩
end LL
