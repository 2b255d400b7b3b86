/-! THE LAW: more queries on both sides -/
section LL
variable {sh : mj_Sh} {FR : mj_FR} {IA : mj_FI} {LA : mj_LA} {b1 b2 b3 : Nat}
theorem lw_queryz {NL NM : mj_M} {asL asM : List mj_V} {Q1 : mj_Q} {P1 : mj_O → Prop} {P2 : mj_O → mj_FI → Prop} {kd : Nat → Int} (hI : Iv sh FR IA LA b1 b2 b3) (hL : mj_Ct NL asL sh FR IA LA 78 (lH Q1 kd)) (hQ : ∀ o sh1 FR1 IA1 LA1 n1, Q1 o sh1 FR1 IA1 LA1 n1 → sh1 = sh ∧ FR1 = FR ∧ IA1 = IA ∧ LA1 = LA ∧ n1 = 78 ∧ P1 o)
    (hM : ∀ K, kl LA K → ∃ Q2 : mj_Q, mj_Ct NM asM sh FR IA K 78 Q2 ∧ ∀ o sh1 FR1 J K1 n1, Q2 o sh1 FR1 J K1 n1 → sh1 = sh ∧ FR1 = FR ∧ K1 = K ∧ n1 = 78 ∧ P2 o J)
    (hok : ∀ z o J, P1 (.inl (some (.inl z))) → P2 o J → J = mj_up IA 52 0 0 ∧ o = .inl (some (.inl z)) ∧ (z = 0 ∨ z = 1)) (hbad : ∀ e o J, P1 (.inr e) → P2 o J → J = mj_up IA 52 0 (kd e) ∧ (1 ≤ kd e ∧ kd e ≤ 2) ∧ o = .inl (some (.inl 0))) (hkd : ∀ e, 0 ≤ kd e ∧ kd e ≤ 2) : lwC sh FR IA LA NL NM asL asM (lwFz sh) := by
  refine ⟨_, hL, ?_⟩
  rintro o sh1 FR1 IA1 LA1 n1 (⟨z, LA2, e1, hq, e2⟩ | ⟨e, hq, e1⟩)
  · obtain ⟨q1, q2, q3, q4, q5, q6⟩ := hQ _ _ _ _ _ _ hq
    subst q1 q2 q3 q4 q5 e1 e2
    obtain ⟨Q2, k1, k2⟩ := hM _ (Or.inr ⟨BitVec.ofInt 64 (mj_w z), rfl⟩)
    refine ⟨rfl, rfl, 0, rfl, ⟨by omega, by omega⟩, Q2, k1, fun o2 sh2 FR2 IA2 LA2 n2 h2 => ?_⟩
    obtain ⟨r1, r2, r3, r4, r5⟩ := k2 _ _ _ _ _ _ h2
    obtain ⟨s1, s2, s3⟩ := hok z _ _ q6 r5
    subst r1 r2 r3 r4 s1 s2
    exact ⟨rfl, rfl, z, rfl, s3, ⟨b1, b2, b3, hI.q up77⟩, mj_up_at, fun _ => up77_at⟩
  · obtain ⟨q1, q2, q3, q4, q5, q6⟩ := hQ _ _ _ _ _ _ hq
    subst q1 q2 q3 q4 q5 e1
    obtain ⟨Q2, k1, k2⟩ := hM _ (Or.inl rfl)
    refine ⟨rfl, rfl, kd e, rfl, hkd e, Q2, k1, fun o2 sh2 FR2 IA2 LA2 n2 h2 => ?_⟩
    obtain ⟨r1, r2, r3, r4, r5⟩ := k2 _ _ _ _ _ _ h2
    obtain ⟨s1, s2, s3⟩ := hbad e _ _ q6 r5
    subst r1 r2 r3 r4 s1 s3
    exact ⟨rfl, rfl, 0, rfl, Or.inl rfl, ⟨b1, b2, b3, hI.q (fun _ _ => rfl)⟩, mj_up_at, fun z => by omega⟩
theorem lw_badz {NL NM : mj_M} {asL asM : List mj_V} {e : Nat} {kd : Nat → Int} (hI : Iv sh FR IA LA b1 b2 b3) (hL : mj_Ct NL asL sh FR IA LA 78 (lH (mj_pu (.inr e) sh FR IA LA 78) kd)) (hM : mj_Ct NM asM sh FR IA LA 78 (mj_pu (.inl (some (.inl 0))) sh FR (mj_up IA 52 0 1) LA 78)) (hk : kd e = 1) : lwC sh FR IA LA NL NM asL asM (lwFz sh) := by
  refine ⟨_, hL, ?_⟩
  rintro o sh1 FR1 IA1 LA1 n1 (⟨z, LA2, e1, hq, e2⟩ | ⟨e', hq, e1⟩)
  · have := hq.1
    cases this
  · obtain ⟨q1, q2, q3, q4, q5, q6⟩ := pu_q hq
    cases q6
    subst q1 q2 q3 q4 q5 e1
    refine ⟨rfl, rfl, kd e, rfl, by omega, _, hM, fun o2 sh2 FR2 IA2 LA2 n2 h2 => ?_⟩
    obtain ⟨r0, r1, r2, r3, r4, r5⟩ := h2
    subst r0 r1 r2 r3 r4 r5
    exact ⟨rfl, rfl, 0, rfl, Or.inl rfl, ⟨b1, b2, b3, hI.q (fun _ _ => rfl)⟩, by rw [mj_up_at, hk], fun z => by omega⟩
theorem st_least (hI : Iv sh FR IA LA b1 b2 b3) {x lit v : Int} (ix : mj_i x) (il : mj_i lit) (iv : mj_i v) : lwC sh FR IA LA m_L_least m_M_least [.inr (.inr (.inl 0)), .inl x, .inl lit, .inl v, .inr (.inr (.inl 77))] [.inr (.inr (.inl 52)), .inl x, .inl lit, .inl v] (lwF sh) := by
  by_cases hx : x = 0 ∨ x = 1
  · obtain ⟨n, c, b, m, I, O, G, od, ld, e, hn, ht, h⟩ := hI.c hx
    subst e
    refine lw_query (P2 := M_an IA (M_st IA n lit ∧ 0 ≤ v ∧ v < ((2 ^ I : Nat) : Int)) (fun o => ∃ z, o = .inl (some (.inl z)) ∧ C_fst (M_bt LA I n (M_ro IA n lit) lit) v.toNat (2 ^ I) z)) hI (ct_L_least hI.t0 hI.a7 (ct_T_least hI.1 ht h.1 il iv) (fun o s f i l k hq => ?_)) (fun o s f i l k hq => po_q hq) (fun K hK => ⟨_, ct_M_least hI.2.1 hn h.2.1.1 h.W.2.1 il iv hI.rr, fun o s f J K1 n1 hq => ⟨hq.1, hq.2.1, hq.2.2.1, hq.2.2.2.1, ?_⟩⟩) (fun z o J p1 p2 => ?_) (fun e o J p1 p2 => ?_) (fun e => ⟨by decide, by decide⟩)
    · obtain ⟨q1, q2, q3, q4, q5, q6⟩ := po_q hq
      refine ⟨q1, q5, ?_⟩
      rcases q6 with ⟨_, _, z, e, _⟩ | ⟨_, e⟩
      · exact Or.inl ⟨_, e⟩
      · exact Or.inr e
    · have h5 := hq.2.2.2.2
      rw [hK.bt] at h5
      exact h5
    · rcases p1 with ⟨a1, a2, z2, a3, a4⟩ | ⟨_, a3⟩
      · cases a3
        rcases p2 with ⟨_, d2, z3, d3, d4⟩ | ⟨d1, _⟩
        · exact ⟨d2, by rw [d3, C_fst_u d4 (q_fst h a1 a4)]⟩
        · exact absurd ⟨h.st.mpr a1, a2⟩ d1
      · cases a3
    · rcases p1 with ⟨a1, a2, z2, a3, a4⟩ | ⟨a1, a3⟩
      · cases a3
      · rcases p2 with ⟨d1, _⟩ | ⟨_, d2, d3⟩
        · exact absurd ⟨h.st.mp d1.1, d1.2⟩ a1
        · exact ⟨d2, ⟨by decide, by decide⟩, 0, d3⟩
  · exact lw_bad hI (ct_L_least hI.t0 hI.a7 (ct_T_leastX hI.1 ix hx) (fun o s f i l k hq => ⟨(pu_q hq).1, (pu_q hq).2.2.2.2.1, Or.inr (pu_q hq).2.2.2.2.2⟩)) (ct_M_leastX hI.2.1 ix hx) rfl
theorem st_greatest (hI : Iv sh FR IA LA b1 b2 b3) {x lit : Int} (ix : mj_i x) (il : mj_i lit) : lwC sh FR IA LA m_L_greatest m_M_greatest [.inr (.inr (.inl 0)), .inl x, .inl lit, .inr (.inr (.inl 77))] [.inr (.inr (.inl 52)), .inl x, .inl lit] (lwF sh) := by
  by_cases hx : x = 0 ∨ x = 1
  · obtain ⟨n, c, b, m, I, O, G, od, ld, e, hn, ht, h⟩ := hI.c hx
    subst e
    refine lw_query (P2 := M_an IA (M_st IA n lit) (fun o => ∃ z, o = .inl (some (.inl z)) ∧ C_lst (M_bt LA I n (M_ro IA n lit) lit) (2 ^ I) z)) hI (ct_L_greatest hI.t0 hI.a7 (ct_T_greatest hI.1 ht h.1 il) (fun o s f i l k hq => ?_)) (fun o s f i l k hq => po_q hq) (fun K hK => ⟨_, ct_M_greatest hI.2.1 hn h.2.1.1 h.W.2.1 il hI.rr, fun o s f J K1 n1 hq => ⟨hq.1, hq.2.1, hq.2.2.1, hq.2.2.2.1, ?_⟩⟩) (fun z o J p1 p2 => ?_) (fun e o J p1 p2 => ?_) (fun e => ⟨by decide, by decide⟩)
    · obtain ⟨q1, q2, q3, q4, q5, q6⟩ := po_q hq
      refine ⟨q1, q5, ?_⟩
      rcases q6 with ⟨_, z, e, _⟩ | ⟨_, e⟩
      · exact Or.inl ⟨_, e⟩
      · exact Or.inr e
    · have h5 := hq.2.2.2.2
      rw [hK.bt] at h5
      exact h5
    · rcases p1 with ⟨a1, z2, a3, a4⟩ | ⟨_, a3⟩
      · cases a3
        rcases p2 with ⟨_, d2, z3, d3, d4⟩ | ⟨d1, _⟩
        · exact ⟨d2, by rw [d3, C_lst_u d4 (q_lst h a1 a4)]⟩
        · exact absurd (h.st.mpr a1) d1
      · cases a3
    · rcases p1 with ⟨a1, z2, a3, a4⟩ | ⟨a1, a3⟩
      · cases a3
      · rcases p2 with ⟨d1, _⟩ | ⟨_, d2, d3⟩
        · exact absurd (h.st.mp d1) a1
        · exact ⟨d2, ⟨by decide, by decide⟩, 0, d3⟩
  · exact lw_bad hI (ct_L_greatest hI.t0 hI.a7 (ct_T_greatestX hI.1 ix hx) (fun o s f i l k hq => ⟨(pu_q hq).1, (pu_q hq).2.2.2.2.1, Or.inr (pu_q hq).2.2.2.2.2⟩)) (ct_M_greatestX hI.2.1 ix hx) rfl
theorem st_implies (hI : Iv sh FR IA LA b1 b2 b3) {x lit oth : Int} (ix : mj_i x) (il : mj_i lit) (io : mj_i oth) : lwC sh FR IA LA m_L_implies m_M_implies [.inr (.inr (.inl 0)), .inl x, .inl lit, .inl oth, .inr (.inr (.inl 77))] [.inr (.inr (.inl 52)), .inl x, .inl lit, .inl oth] (lwFz sh) := by
  by_cases hx : x = 0 ∨ x = 1
  · obtain ⟨n, c, b, m, I, O, G, od, ld, e, hn, ht, h⟩ := hI.c hx
    subst e
    refine lw_queryz (P2 := M_an IA (M_st IA n lit ∧ M_st IA n oth) (fun o => (o = .inl (some (.inl 1)) ∧ ∀ w, w < C_W I → M_lw LA I n (M_ro IA n lit) lit w &&& (M_lw LA I n (M_ro IA n oth) oth w ^^^ 0xFFFFFFFFFFFFFFFF#64) = 0#64) ∨ (o = .inl (some (.inl 0)) ∧ ¬ ∀ w, w < C_W I → M_lw LA I n (M_ro IA n lit) lit w &&& (M_lw LA I n (M_ro IA n oth) oth w ^^^ 0xFFFFFFFFFFFFFFFF#64) = 0#64))) hI (ct_L_implies hI.t0 hI.a7 (ct_T_implies hI.1 ht h.1 il io) (fun o s f i l k hq => ?_)) (fun o s f i l k hq => po_q hq) (fun K hK => ⟨_, ct_M_implies hI.2.1 hn h.2.1.1 h.W.2.1 il io hI.rr, fun o s f J K1 n1 hq => ⟨hq.1, hq.2.1, hq.2.2.1, hq.2.2.2.1, ?_⟩⟩) (fun z o J p1 p2 => ?_) (fun e o J p1 p2 => ?_) (fun e => ⟨by decide, by decide⟩)
    · obtain ⟨q1, q2, q3, q4, q5, q6⟩ := po_q hq
      refine ⟨q1, q5, ?_⟩
      rcases q6 with ⟨_, _, ⟨e, _⟩ | ⟨e, _⟩⟩ | ⟨_, e⟩
      · exact Or.inl ⟨_, e, Or.inr rfl⟩
      · exact Or.inl ⟨_, e, Or.inl rfl⟩
      · exact Or.inr e
    · have h5 := hq.2.2.2.2
      rw [hK.lw] at h5
      exact h5
    · rcases p1 with ⟨a1, a2, a3⟩ | ⟨_, a3⟩
      · have hq : (∀ w, w < C_W I → C_lw LA c (wr_sl IA b lit) lit w &&& C_lw LA c (wr_sl IA b oth) (oth + 1) w = 0#64) ↔ ∀ w, w < C_W I → M_lw LA I n (M_ro IA n lit) lit w &&& (M_lw LA I n (M_ro IA n oth) oth w ^^^ 0xFFFFFFFFFFFFFFFF#64) = 0#64 := by
          constructor
          · intro q w hw
            rw [← q_imp h a1 a2 hw]
            exact q w hw
          · intro q w hw
            rw [q_imp h a1 a2 hw]
            exact q w hw
        rcases p2 with ⟨_, d2, d3⟩ | ⟨d1, _⟩
        · refine ⟨d2, ?_⟩
          rcases a3 with ⟨a3, a4⟩ | ⟨a3, a4⟩
          · cases a3
            rcases d3 with ⟨d3, d4⟩ | ⟨d3, d4⟩
            · exact ⟨d3, Or.inr rfl⟩
            · exact absurd (hq.mp a4) d4
          · cases a3
            rcases d3 with ⟨d3, d4⟩ | ⟨d3, d4⟩
            · exact absurd (hq.mpr d4) a4
            · exact ⟨d3, Or.inl rfl⟩
        · exact absurd ⟨h.st.mpr a1, h.st.mpr a2⟩ d1
      · cases a3
    · rcases p1 with ⟨a1, a2, a3⟩ | ⟨a1, a3⟩
      · rcases a3 with ⟨a3, _⟩ | ⟨a3, _⟩ <;> cases a3
      · rcases p2 with ⟨d1, _⟩ | ⟨_, d2, d3⟩
        · exact absurd ⟨h.st.mp d1.1, h.st.mp d1.2⟩ a1
        · exact ⟨d2, ⟨by decide, by decide⟩, d3⟩
  · exact lw_badz hI (ct_L_implies hI.t0 hI.a7 (ct_T_impliesX hI.1 ix hx) (fun o s f i l k hq => ⟨(pu_q hq).1, (pu_q hq).2.2.2.2.1, Or.inr (pu_q hq).2.2.2.2.2⟩)) (ct_M_impliesX hI.2.1 ix hx) rfl
theorem kd02 : ∀ e : Nat, 0 ≤ (if e = 0 then (1 : Int) else 2) ∧ (if e = 0 then (1 : Int) else 2) ≤ 2 := fun e => by split <;> omega
theorem kd12 : ∀ e : Nat, 0 ≤ (if e = 1 then (1 : Int) else 2) ∧ (if e = 1 then (1 : Int) else 2) ≤ 2 := fun e => by split <;> omega
theorem st_depends (hI : Iv sh FR IA LA b1 b2 b3) {x lit k : Int} (ix : mj_i x) (il : mj_i lit) (ik : mj_i k) : lwC sh FR IA LA m_L_depends m_M_depends [.inr (.inr (.inl 0)), .inl x, .inl lit, .inl k, .inr (.inr (.inl 77))] [.inr (.inr (.inl 52)), .inl x, .inl lit, .inl k] (lwFz sh) := by
  by_cases hx : x = 0 ∨ x = 1
  · obtain ⟨n, c, b, m, I, O, G, od, ld, e, hn, ht, h⟩ := hI.c hx
    subst e
    refine lw_queryz (P2 := M_a2 IA (M_st IA n lit) (0 ≤ k ∧ k < (I : Int)) (fun o => (o = .inl (some (.inl 1)) ∧ ¬ ∀ x, x < 2 ^ I → M_bt LA I n (M_ro IA n lit) lit x = M_bt LA I n (M_ro IA n lit) lit (M_fl x k.toNat)) ∨ (o = .inl (some (.inl 0)) ∧ ∀ x, x < 2 ^ I → M_bt LA I n (M_ro IA n lit) lit x = M_bt LA I n (M_ro IA n lit) lit (M_fl x k.toNat)))) hI (ct_L_depends hI.t0 hI.a7 (ct_T_depends hI.1 ht h.1 il ik) (fun o s f i l k hq => ?_)) (fun o s f i l k hq => po_q hq) (fun K hK => ⟨_, ct_M_depends hI.2.1 hn h.2.1.1 h.W.2.1 il ik hI.rr, fun o s f J K1 n1 hq => ⟨hq.1, hq.2.1, hq.2.2.1, hq.2.2.2.1, ?_⟩⟩) (fun z o J p1 p2 => ?_) (fun e o J p1 p2 => ?_) kd02
    · obtain ⟨q1, q2, q3, q4, q5, q6⟩ := po_q hq
      refine ⟨q1, q5, ?_⟩
      rcases q6 with ⟨_, _, z, _, e⟩ | ⟨_, e⟩ | ⟨_, _, e⟩
      · refine Or.inl ⟨_, e, ?_⟩
        show (if z = 0 then (0 : Int) else 1) = 0 ∨ (if z = 0 then (0 : Int) else 1) = 1
        by_cases ez : z = 0
        · rw [if_pos ez]
          exact Or.inl rfl
        · rw [if_neg ez]
          exact Or.inr rfl
      · exact Or.inr (Or.inl e)
      · exact Or.inr (Or.inr e)
    · have h5 := hq.2.2.2.2
      rw [hK.bt] at h5
      exact h5
    · rcases p1 with ⟨a1, a2, y, a3, a4⟩ | ⟨_, a3⟩ | ⟨_, _, a3⟩
      · have hq := (q_mv h (k := k.toNat) a1 (by omega) a3).2
        simp only [] at a4
        rcases p2 with ⟨_, _, d2, d3⟩ | ⟨d1, _⟩ | ⟨_, d1, _⟩
        · refine ⟨d2, ?_⟩
          by_cases ez : y = 0
          · rw [if_pos ez] at a4
            cases a4
            rcases d3 with ⟨_, d4⟩ | ⟨d3, d4⟩
            · exact absurd (hq.mp ez) d4
            · exact ⟨d3, Or.inl rfl⟩
          · rw [if_neg ez] at a4
            cases a4
            rcases d3 with ⟨d3, d4⟩ | ⟨d3, d4⟩
            · exact ⟨d3, Or.inr rfl⟩
            · exact absurd (hq.mpr d4) ez
        · exact absurd (h.st.mpr a1) d1
        · exact absurd a2 d1
      · cases a3
      · cases a3
    · rcases p1 with ⟨a1, a2, y, a3, a4⟩ | ⟨a1, a3⟩ | ⟨a1, a2, a3⟩
      · cases a4
      · cases a3
        rcases p2 with ⟨d1, _⟩ | ⟨_, d2, d3⟩ | ⟨d1, _⟩
        · exact absurd (h.st.mp d1) a1
        · exact ⟨d2, ⟨by decide, by decide⟩, d3⟩
        · exact absurd (h.st.mp d1) a1
      · cases a3
        rcases p2 with ⟨_, d1, _⟩ | ⟨d1, _⟩ | ⟨_, _, d2, d3⟩
        · exact absurd d1 a2
        · exact absurd (h.st.mpr a1) d1
        · exact ⟨d2, ⟨by decide, by decide⟩, d3⟩
  · exact lw_badz hI (ct_L_depends hI.t0 hI.a7 (ct_T_dependsX hI.1 ix hx) (fun o s f i l k hq => ⟨(pu_q hq).1, (pu_q hq).2.2.2.2.1, Or.inr (Or.inl (pu_q hq).2.2.2.2.2)⟩)) (ct_M_dependsX hI.2.1 ix hx) rfl
theorem st_rises (hI : Iv sh FR IA LA b1 b2 b3) {x lit k : Int} (ix : mj_i x) (il : mj_i lit) (ik : mj_i k) : lwC sh FR IA LA m_L_rises m_M_rises [.inr (.inr (.inl 0)), .inl x, .inl lit, .inl k, .inr (.inr (.inl 77))] [.inr (.inr (.inl 52)), .inl x, .inl lit, .inl k] (lwF sh) := by
  by_cases hx : x = 0 ∨ x = 1
  · obtain ⟨n, c, b, m, I, O, G, od, ld, e, hn, ht, h⟩ := hI.c hx
    subst e
    refine lw_query (P2 := M_a2 IA (M_st IA n lit) (0 ≤ k ∧ k < (I : Int)) (fun o => ∃ z, o = .inl (some (.inl z)) ∧ M_ri (M_bt LA I n (M_ro IA n lit) lit) (2 ^ I) k.toNat z)) hI (ct_L_rises hI.t0 hI.a7 (ct_T_rises hI.1 ht h.1 il ik) (fun o s f i l k hq => ?_)) (fun o s f i l k hq => po_q hq) (fun K hK => ⟨_, ct_M_rises hI.2.1 hn h.2.1.1 h.W.2.1 il ik hI.rr, fun o s f J K1 n1 hq => ⟨hq.1, hq.2.1, hq.2.2.1, hq.2.2.2.1, ?_⟩⟩) (fun z o J p1 p2 => ?_) (fun e o J p1 p2 => ?_) kd02
    · obtain ⟨q1, q2, q3, q4, q5, q6⟩ := po_q hq
      refine ⟨q1, q5, ?_⟩
      rcases q6 with ⟨_, _, z, _, e⟩ | ⟨_, e⟩ | ⟨_, _, e⟩
      · exact Or.inl ⟨_, e⟩
      · exact Or.inr (Or.inl e)
      · exact Or.inr (Or.inr e)
    · have h5 := hq.2.2.2.2
      rw [hK.bt] at h5
      exact h5
    · rcases p1 with ⟨a1, a2, y, a3, a4⟩ | ⟨_, a3⟩ | ⟨_, _, a3⟩
      · have hq := (q_mv h (k := k.toNat) a1 (by omega) a3).1
        cases a4
        rcases p2 with ⟨_, _, d2, y2, d3, d4⟩ | ⟨d1, _⟩ | ⟨_, d1, _⟩
        · exact ⟨d2, by rw [d3, M_ri_u d4 hq]⟩
        · exact absurd (h.st.mpr a1) d1
        · exact absurd a2 d1
      · cases a3
      · cases a3
    · rcases p1 with ⟨a1, a2, y, a3, a4⟩ | ⟨a1, a3⟩ | ⟨a1, a2, a3⟩
      · cases a4
      · cases a3
        rcases p2 with ⟨d1, _⟩ | ⟨_, d2, d3⟩ | ⟨d1, _⟩
        · exact absurd (h.st.mp d1) a1
        · exact ⟨d2, ⟨by decide, by decide⟩, 0, d3⟩
        · exact absurd (h.st.mp d1) a1
      · cases a3
        rcases p2 with ⟨_, d1, _⟩ | ⟨d1, _⟩ | ⟨_, _, d2, d3⟩
        · exact absurd d1 a2
        · exact absurd (h.st.mpr a1) d1
        · exact ⟨d2, ⟨by decide, by decide⟩, 0, d3⟩
  · exact lw_bad hI (ct_L_rises hI.t0 hI.a7 (ct_T_risesX hI.1 ix hx) (fun o s f i l k hq => ⟨(pu_q hq).1, (pu_q hq).2.2.2.2.1, Or.inr (Or.inl (pu_q hq).2.2.2.2.2)⟩)) (ct_M_risesX hI.2.1 ix hx) rfl
theorem st_leader (hI : Iv sh FR IA LA b1 b2 b3) {x lit : Int} (ix : mj_i x) (il : mj_i lit) : lwC sh FR IA LA m_L_leader m_M_leader [.inr (.inr (.inl 0)), .inl x, .inl lit, .inr (.inr (.inl 77))] [.inr (.inr (.inl 52)), .inl x, .inl lit] (lwF sh) := by
  by_cases hx : x = 0 ∨ x = 1
  · obtain ⟨n, c, b, m, I, O, G, od, ld, e, hn, ht, h⟩ := hI.c hx
    subst e
    refine lw_query (P2 := M_an IA (M_st IA n lit) (fun o => ∃ z, o = .inl (some (.inl z)) ∧ M_be IA LA I G n lit 630 z)) hI (ct_L_leader hI.t0 hI.a7 (ct_T_leader hI.1 ht h.1 il) (fun o s f i l k hq => ?_)) (fun o s f i l k hq => po_q hq) (fun K hK => ⟨_, ct_M_leader hI.2.1 hn h.2.1.1 h.W.2.1 h.2.1.2.1 h.W.2.2.2.1 hI.rr h.vr h.2.2.2.2.2.1 il, fun o s f J K1 n1 hq => ⟨hq.1, hq.2.1, hq.2.2.1, hq.2.2.2.1, ?_⟩⟩) (fun z o J p1 p2 => ?_) (fun e o J p1 p2 => ?_) (fun e => ⟨by decide, by decide⟩)
    · obtain ⟨q1, q2, q3, q4, q5, q6⟩ := po_q hq
      refine ⟨q1, q5, ?_⟩
      rcases q6 with ⟨_, e⟩ | ⟨_, e⟩
      · exact Or.inl ⟨_, e⟩
      · exact Or.inr e
    · have h5 := hq.2.2.2.2
      rw [hK.be] at h5
      exact h5
    · rcases p1 with ⟨a1, a3⟩ | ⟨_, a3⟩
      · cases a3
        rcases p2 with ⟨_, d2, z3, d3, d4⟩ | ⟨d1, _⟩
        · exact ⟨d2, by rw [d3, q_lead h a1 d4]⟩
        · exact absurd (h.st.mpr a1) d1
      · cases a3
    · rcases p1 with ⟨a1, a3⟩ | ⟨a1, a3⟩
      · cases a3
      · rcases p2 with ⟨d1, _⟩ | ⟨_, d2, d3⟩
        · exact absurd (h.st.mp d1) a1
        · exact ⟨d2, ⟨by decide, by decide⟩, 0, d3⟩
  · exact lw_bad hI (ct_L_leader hI.t0 hI.a7 (ct_T_leaderX hI.1 ix hx) (fun o s f i l k hq => ⟨(pu_q hq).1, (pu_q hq).2.2.2.2.1, Or.inr (pu_q hq).2.2.2.2.2⟩)) (ct_M_leaderX hI.2.1 ix hx) rfl
end LL
