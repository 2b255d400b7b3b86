/-! THE LAW: feed and write on both sides -/
theorem tw_by_in (v : BitVec 64) (i : Nat) : -128 ≤ tw_by v i ∧ tw_by v i ≤ 127 := by
  unfold tw_by mj_b
  omega
theorem ch_b_co {IA J : mj_FI} {LA K : mj_LA} {I G c r : Nat} {rd : Bool} {z : Int} (h1 : J 61 = IA 61) (h2 : J 62 = IA 62) (h6 : J 66 = IA 66) (h7 : J 67 = IA 67) (hK : kl LA K) (h : ch_b J K I G c rd r z) : ch_b IA LA I G c rd r z := by
  unfold ch_b at h ⊢
  rw [M_va_co h1 h2] at h
  cases rd with
  | false =>
    rw [if_neg (show ¬ (false = true) by decide)] at h ⊢
    exact h
  | true =>
    rw [if_pos (show true = true from rfl)] at h ⊢
    rw [hK.be] at h
    exact (M_be_co h1 h2 h6 h7).mp h
section LL
variable {sh : mj_Sh} {FR : mj_FR} {IA : mj_FI} {LA : mj_LA} {b1 b2 b3 : Nat}
theorem st_feed (hI : Iv sh FR IA LA b1 b2 b3) {x : Int} {v : BitVec 64} (ix : mj_i x) : lwC sh FR IA LA m_L_feed m_M_feed [.inr (.inr (.inl 0)), .inl x, .inr (.inl v), .inr (.inr (.inl 77))] [.inr (.inr (.inl 52)), .inl x, .inr (.inl v)] (lwF sh) := by
  obtain ⟨⟨l1, t1, t2, t3, t4⟩, hb, ⟨l2, u1, u2, u3, u4⟩, hr, h0, hz, hz0, ⟨m1, I1, O1, G1, od1, ld1, k1⟩, ⟨m2, I2, O2, G2, od2, ld2, k2⟩⟩ := id hI.2.2.2
  have hbb := hI.1.bb
  refine ⟨_, ct_L_feed hI.t0 hI.a7 (ct_T_feed hI.1 ix t2 t1) (fun o s f i l k hq => ?_), ?_⟩
  · refine ⟨hq.1, hq.2.2.2.1, ?_⟩
    rcases hq.2.2.2.2 with ⟨_, e, _⟩ | ⟨_, _, e, _⟩ | ⟨_, _, e, _⟩
    · exact Or.inr (Or.inl e)
    · exact Or.inr (Or.inr e)
    · exact Or.inl ⟨_, e⟩
  · rintro o sh1 FR1 IA1 LA1 n1 (⟨z, LA2, e1, hq, e2⟩ | ⟨e, hq, e1⟩)
    · obtain ⟨q1, q2, q3, q4, q5⟩ := hq
      subst q1 q2 q3 q4 e1 e2
      rcases q5 with ⟨_, q, _⟩ | ⟨_, _, q, _⟩ | ⟨a1, a2, a3, a4⟩
      · cases q
      · cases q
      · cases a3
        obtain ⟨f1, f2, f3, f4, f5⟩ := a4
        have hm5 : IA1 52 2 = (l1 : Int) := by rw [f1 52 (by decide) (by decide)]; exact t3
        refine ⟨rfl, rfl, 0, rfl, ⟨by omega, by omega⟩, _, ct_M_feed hI.2.1 ix hm5 t1, fun o2 sh2 FR2 IA2 LA3 n2 h2 => ?_⟩
        obtain ⟨r1, r2, r3, r4, r5⟩ := h2
        subst r1 r2 r3 r4
        rcases r5 with ⟨d, _⟩ | ⟨_, d, _⟩ | ⟨_, _, d3, d4⟩
        · exact absurd a1 d
        · omega
        · obtain ⟨g1, g2, g3, g4, g5⟩ := d4
          have gq : ∀ q, q ≠ 52 → q ≠ 53 → q ≠ 29 → q ≠ 30 → IA2 q = IA q := fun q w1 w2 w3 w4 => by rw [g1 q w1 w2, mj_up_ne w1, f1 q w3 w4]
          refine ⟨rfl, rfl, _, d3, ⟨b1, b2, b3, hI.1, hI.2.1, hI.2.2.1, ⟨l1 + x.toNat, by omega, ?_, g3, fun j hj => ?_⟩, fun j => ?_, ⟨l2, u1, ?_, ?_, fun j hj => ?_⟩, fun j hj => ?_, ?_, ?_, M_z0_fr hz0 (up77 69 (by decide)), ⟨m1, I1, O1, G1, od1, ld1, ?_⟩, ⟨m2, I2, O2, G2, od2, ld2, ?_⟩⟩, ?_, fun _ => up77_at⟩
          · rw [g1 29 (by decide) (by decide), mj_up_ne (by decide), f3]
          · have e30 : IA2 30 = IA1 30 := by rw [g1 30 (by decide) (by decide), mj_up_ne (by decide)]
            rw [e30]
            by_cases hj2 : j < l1
            · rw [g5 j (Or.inl hj2), mj_up_ne (by decide), f1 53 (by decide) (by decide), f5 j (Or.inl hj2), t4 j hj2]
            · have e := g4 (j - l1) (by omega)
              have e' := f4 (j - l1) (by omega)
              rw [show l1 + (j - l1) = j by omega] at e e'
              rw [e, e']
          · by_cases hj2 : j < l1 ∨ l1 + x.toNat ≤ j
            · rw [g5 j hj2, mj_up_ne (by decide), f1 53 (by decide) (by decide)]
              exact hb j
            · have e := g4 (j - l1) (by omega)
              rw [show l1 + (j - l1) = j by omega] at e
              rw [e]
              exact tw_by_in v _
          · rw [gq 45 (by decide) (by decide) (by decide) (by decide)]
            exact u2
          · rw [g2 4 (by decide), mj_up_k (by decide), f1 52 (by decide) (by decide)]
            exact u3
          · rw [gq 54 (by decide) (by decide) (by decide) (by decide), gq 46 (by decide) (by decide) (by decide) (by decide)]
            exact u4 j hj
          · rw [gq 66 (by decide) (by decide) (by decide) (by decide)]
            exact hr j hj
          · rw [gq 66 (by decide) (by decide) (by decide) (by decide)]
            exact h0
          · unfold bb3 at hbb
            rw [gq (b3 + 2) (by omega) (by omega) (by omega) (by omega)]
            exact hz
          · exact cp_fr k1 (Or.inl rfl) hbb.1 (fun q hq => gq q (by omega) (by omega) (by omega) (by omega)) up77
          · exact cp_fr k2 (Or.inr rfl) hbb.2.1 (fun q hq => gq q (by omega) (by omega) (by omega) (by omega)) up77
          · rw [g2 0 (by decide), mj_up_at]
    · obtain ⟨q1, q2, q3, q4, q5⟩ := hq
      subst q1 q2 q3 q4 e1
      rcases q5 with ⟨a1, q, a3⟩ | ⟨a1, a2, q, a3⟩ | ⟨_, _, q, _⟩
      · cases q
        subst a3
        refine ⟨rfl, rfl, 1, rfl, ⟨by omega, by omega⟩, _, ct_M_feed hI.2.1 ix t3 t1, fun o2 sh2 FR2 IA2 LA3 n2 h2 => ?_⟩
        obtain ⟨r1, r2, r3, r4, r5⟩ := h2
        subst r1 r2 r3 r4
        rcases r5 with ⟨_, d2, d3⟩ | ⟨d, _⟩ | ⟨d, _⟩
        · subst d3
          exact ⟨rfl, rfl, 0, d2, ⟨b1, b2, b3, hI.q (fun _ _ => rfl)⟩, mj_up_at, fun z => by omega⟩
        · exact absurd d a1
        · exact absurd d a1
      · cases q
        subst a3
        refine ⟨rfl, rfl, 2, rfl, ⟨by omega, by omega⟩, _, ct_M_feed hI.2.1 ix t3 t1, fun o2 sh2 FR2 IA2 LA3 n2 h2 => ?_⟩
        obtain ⟨r1, r2, r3, r4, r5⟩ := h2
        subst r1 r2 r3 r4
        rcases r5 with ⟨d, _⟩ | ⟨_, _, d2, d3⟩ | ⟨_, d, _⟩
        · exact absurd a1 d
        · subst d3
          exact ⟨rfl, rfl, 0, d2, ⟨b1, b2, b3, hI.q (fun _ _ => rfl)⟩, mj_up_at, fun z => by omega⟩
        · omega
      · cases q
theorem st_write (hI : Iv sh FR IA LA b1 b2 b3) {x : Int} {bin rd : Bool} (ix : mj_i x) : lwC sh FR IA LA m_L_write m_M_write [.inr (.inr (.inl 0)), .inl x, .inl (if bin = true then 1 else 0), .inl (if rd = true then 1 else 0), .inr (.inr (.inl 77))] [.inr (.inr (.inl 52)), .inl x, .inl (if bin = true then 1 else 0), .inl (if rd = true then 1 else 0)] (lwF sh) := by
  by_cases hx : x = 0 ∨ x = 1
  · obtain ⟨n, c, b, m, I, O, G, od, ld, e, hn, ht, h⟩ := hI.c hx
    subst e
    obtain ⟨⟨l1, t1, t2, t3, t4⟩, hb, ⟨l2, u1, u2, u3, u4⟩, hr, h0, hz, hz0, ⟨m1, I1, O1, G1, od1, ld1, k1⟩, ⟨m2, I2, O2, G2, od2, ld2, k2⟩⟩ := id hI.2.2.2
    have hbb := hI.1.bb
    have hbc : (c = 1 ∨ c = 15) ∧ (b = 2 ∨ b = 16 ∨ b = 36) := by
      unfold bb3 at hbb
      rcases ht with ⟨_, q1, q2⟩ | ⟨_, q1, q2⟩
      · exact ⟨Or.inl q1, by omega⟩
      · exact ⟨Or.inr q1, by omega⟩
    refine ⟨_, ct_L_write hI.t0 hI.a7 (ct_T_write (bin := bin) (rd := rd) hI.1 ht h.1) (fun o s f i l k hq => ?_), ?_⟩
    · obtain ⟨q1, q2, q3, q4, q5, tx, q6, _⟩ := hq
      exact ⟨q1, q4, Or.inl ⟨_, q6⟩⟩
    · rintro o sh1 FR1 IA1 LA1 n1 (⟨z, LA2, e1, hq, e2⟩ | ⟨e, hq, e1⟩)
      · obtain ⟨q1, q2, q3, q4, f1, tx, q6, f2, f3, f4, f5⟩ := hq
        subst q1 q2 q3 q4 e1 e2
        cases q6
        have hJ : ∀ q, (q ≤ 28 ∨ (36 ≤ q ∧ q ≤ 44) ∨ (55 ≤ q ∧ q ≤ 68)) → IA1 q = IA q := fun q hq => f1 q (by omega)
        have hrr : M_rr IA1 := fun j hj => by rw [f1 66 (by omega)]; exact hr j hj
        have h1 : cp IA1 (mj_up LA2 77 0 (BitVec.ofInt 64 (mj_w (tx.length : Int)))) n c b m I O G od ld := cp_fr h hbc.1 hbc.2 hJ up77
        obtain ⟨om, hS, om1, om2⟩ := h1.S hrr
        refine ⟨rfl, rfl, 0, rfl, ⟨by omega, by omega⟩, _, ct_M_write (rd := rd) (bin := bin) hI.2.1 hn hS (w_wl_nb h1), fun o2 sh2 FR2 IA2 LA3 n2 h2 => ?_⟩
        obtain ⟨r1, r2, r3, r4, B, ty, num, sn, ⟨c1, c2, c3, c4, c5, _⟩, g1, g2, g3, g4, g5, g6, g7, g8, g9, g10⟩ := h2
        subst r1 r2 r3 r4
        have e10 : IA1 b 10 = IA b 10 := by rw [f1 b (by omega)]
        have ewl : w_wl IA1 b m I = w_wl IA b m I := by
          unfold w_wl
          rw [nt_wl_co e10 (f1 (b + 1) (by omega))]
        have eB : ∀ q, 55 ≤ q → q ≤ 68 → B q = IA q := fun q w1 w2 => by rw [c1 q (by omega), mj_up_ne (by omega), f1 q (by omega)]
        have eU : ∀ q, 55 ≤ q → q ≤ 68 → mj_up IA1 52 0 0 q = IA q := fun q w1 w2 => by rw [mj_up_ne (by omega), f1 q (by omega)]
        have hbq : ∀ r, M_is I G r → ch_b IA LA2 I G n rd r (B 73 r) := fun r hr2 => ch_b_co (eU 61 (by decide) (by decide)) (eU 62 (by decide) (by decide)) (eU 66 (by decide) (by decide)) (eU 67 (by decide) (by decide)) (Or.inr ⟨_, rfl⟩) (c2 r hr2)
        rw [ewl] at g9 g10
        have etx : tx = ty := q_txt h om1 om2 eB hbq c4 c5 g8 g9 f5 g10
        subst etx
        have gq : ∀ q, q < 45 ∨ (52 < q ∧ q < 73 ∧ q ≠ 54) → IA2 q = IA q := fun q w => by rw [g1 q (by omega) (by omega) (by omega), f1 q (by omega)]
        refine ⟨rfl, rfl, _, g7, ⟨b1, b2, b3, hI.1, hI.2.1, hI.2.2.1, ⟨l1, t1, ?_, ?_, fun j hj => ?_⟩, fun j => ?_, ⟨tx.length, f2, ?_, g4, fun j hj => ?_⟩, fun j hj => ?_, ?_, ?_, M_z0_fr hz0 (up77 69 (by decide)), ⟨m1, I1, O1, G1, od1, ld1, ?_⟩, ⟨m2, I2, O2, G2, od2, ld2, ?_⟩⟩, g3, fun _ => up77_at⟩
        · rw [gq 29 (by omega)]
          exact t2
        · rw [g2 2 (by decide) (by decide), f1 52 (by omega)]
          exact t3
        · rw [gq 53 (by omega), gq 30 (by omega)]
          exact t4 j hj
        · rw [gq 53 (by omega)]
          exact hb j
        · rw [g1 45 (by omega) (by omega) (by omega)]
          exact f3
        · rw [g1 46 (by omega) (by omega) (by omega), g6 j _ (List.getElem?_eq_getElem hj), f4 j _ (List.getElem?_eq_getElem hj)]
        · rw [gq 66 (by omega)]
          exact hr j hj
        · rw [gq 66 (by omega)]
          exact h0
        · unfold bb3 at hbb
          rw [gq (b3 + 2) (by omega)]
          exact hz
        · exact cp_fr k1 (Or.inl rfl) hbb.1 (fun q hq => gq q (by omega)) up77
        · exact cp_fr k2 (Or.inr rfl) hbb.2.1 (fun q hq => gq q (by omega)) up77
      · obtain ⟨q1, q2, q3, q4, f1, tx, q6, _⟩ := hq
        cases q6
  · exact lw_bad hI (ct_L_write hI.t0 hI.a7 (ct_T_writeX hI.1 ix hx) (fun o s f i l k hq => ⟨(pu_q hq).1, (pu_q hq).2.2.2.2.1, Or.inr (pu_q hq).2.2.2.2.2⟩)) (ct_M_writeX hI.2.1 ix hx) rfl
end LL
