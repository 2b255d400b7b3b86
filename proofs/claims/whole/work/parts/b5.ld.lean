/-! THE LAW: load on both sides -/
theorem isM_FR {sh : mj_Sh} {FR FR' : mj_FR} {n : Nat} (h : isM sh FR n) (e : FR' 52 = FR 52) : isM sh FR' n := by
  unfold isM at h ⊢
  rw [e]
  exact h
theorem tw_sw0 {sh : mj_Sh} {FR : mj_FR} {n b1 b2 b3 : Nat} (h : isTw sh FR n b1 b2 b3) : isTw sh (mj_up (mj_up FR 29 7 (.inl b1)) 1 0 (.inl b3)) n b3 b2 b1 := by
  have hbb := h.bb
  unfold bb3 at hbb
  generalize hF : mj_up (mj_up FR 29 7 (.inl b1)) 1 0 (.inl b3) = F
  have e0 : ∀ q, q ≠ 29 → q ≠ 1 → F q = FR q := fun q h1 h2 => by rw [← hF, mj_up_ne h2, mj_up_ne h1]
  have e1 : ∀ k, k ≠ 0 → F 1 k = FR 1 k := fun k hk => by rw [← hF, mj_up_k hk, mj_up_ne (by decide)]
  have e2 : F 1 0 = .inl b3 := by rw [← hF, mj_up_at]
  have e3 : ∀ k, k ≠ 7 → F 29 k = FR 29 k := fun k hk => by rw [← hF, mj_up_ne (by decide), mj_up_k hk]
  have e4 : F 29 7 = .inl b1 := by rw [← hF, mj_up_ne (by decide), mj_up_at]
  obtain ⟨t0, t1, t2, t3, t4, ⟨c0, c1, c2, c3, c4, c5, c6⟩, hC2, ⟨r0, r1, r2, r3, r4, r5, r6, r7, r8, r9, r10, r11, r12⟩, hW, hN1, hN2, hN3, hb⟩ := h
  refine ⟨t0, by rw [e0 0 (by decide) (by decide)]; exact t1, by rw [e0 0 (by decide) (by decide)]; exact t2, by rw [e0 0 (by decide) (by decide)]; exact t3, by rw [e0 0 (by decide) (by decide)]; exact t4, ⟨c0, e2, by rw [e1 4 (by decide)]; exact c2, by rw [e1 5 (by decide)]; exact c3, by rw [e1 6 (by decide)]; exact c4, by rw [e1 7 (by decide)]; exact c5, c6⟩, ?_, ⟨r0, by rw [e3 3 (by decide)]; exact r1, by rw [e3 4 (by decide)]; exact r2, by rw [e3 5 (by decide)]; exact r3, by rw [e3 6 (by decide)]; exact r4, e4, r6, r7, r8, r9, by rw [e0 (29 + 4) (by decide) (by decide)]; exact r10, by rw [e0 (29 + 4) (by decide) (by decide)]; exact r11, r12⟩, ?_, isNet_FR hN3 (fun k => by rw [e0 b3 (by omega) (by omega)]), isNet_FR hN2 (fun k => by rw [e0 b2 (by omega) (by omega)]), isNet_FR hN1 (fun k => by rw [e0 b1 (by omega) (by omega)]), by omega⟩
  · unfold isC at hC2 ⊢
    rw [e0 15 (by decide) (by decide)]
    exact hC2
  · unfold isW at hW ⊢
    rw [e0 45 (by decide) (by decide)]
    exact hW
theorem tw_sw1 {sh : mj_Sh} {FR : mj_FR} {n b1 b2 b3 : Nat} (h : isTw sh FR n b1 b2 b3) : isTw sh (mj_up (mj_up FR 29 7 (.inl b2)) 15 0 (.inl b3)) n b1 b3 b2 := by
  have hbb := h.bb
  unfold bb3 at hbb
  generalize hF : mj_up (mj_up FR 29 7 (.inl b2)) 15 0 (.inl b3) = F
  have e0 : ∀ q, q ≠ 29 → q ≠ 15 → F q = FR q := fun q h1 h2 => by rw [← hF, mj_up_ne h2, mj_up_ne h1]
  have e1 : ∀ k, k ≠ 0 → F 15 k = FR 15 k := fun k hk => by rw [← hF, mj_up_k hk, mj_up_ne (by decide)]
  have e2 : F 15 0 = .inl b3 := by rw [← hF, mj_up_at]
  have e3 : ∀ k, k ≠ 7 → F 29 k = FR 29 k := fun k hk => by rw [← hF, mj_up_ne (by decide), mj_up_k hk]
  have e4 : F 29 7 = .inl b2 := by rw [← hF, mj_up_ne (by decide), mj_up_at]
  obtain ⟨t0, t1, t2, t3, t4, hC1, ⟨c0, c1, c2, c3, c4, c5, c6⟩, ⟨r0, r1, r2, r3, r4, r5, r6, r7, r8, r9, r10, r11, r12⟩, hW, hN1, hN2, hN3, hb⟩ := h
  refine ⟨t0, by rw [e0 0 (by decide) (by decide)]; exact t1, by rw [e0 0 (by decide) (by decide)]; exact t2, by rw [e0 0 (by decide) (by decide)]; exact t3, by rw [e0 0 (by decide) (by decide)]; exact t4, ?_, ⟨c0, e2, by rw [e1 4 (by decide)]; exact c2, by rw [e1 5 (by decide)]; exact c3, by rw [e1 6 (by decide)]; exact c4, by rw [e1 7 (by decide)]; exact c5, c6⟩, ⟨r0, by rw [e3 3 (by decide)]; exact r1, by rw [e3 4 (by decide)]; exact r2, by rw [e3 5 (by decide)]; exact r3, by rw [e3 6 (by decide)]; exact r4, e4, r6, r7, r8, r9, by rw [e0 (29 + 4) (by decide) (by decide)]; exact r10, by rw [e0 (29 + 4) (by decide) (by decide)]; exact r11, r12⟩, ?_, isNet_FR hN1 (fun k => by rw [e0 b1 (by omega) (by omega)]), isNet_FR hN3 (fun k => by rw [e0 b3 (by omega) (by omega)]), isNet_FR hN2 (fun k => by rw [e0 b2 (by omega) (by omega)]), by omega⟩
  · unfold isC at hC1 ⊢
    rw [e0 1 (by decide) (by decide)]
    exact hC1
  · unfold isW at hW ⊢
    rw [e0 45 (by decide) (by decide)]
    exact hW
theorem rd_md {IA : mj_FI} {len : Nat} (t2 : IA 29 0 = (len : Int)) (t3 : IA 52 2 = (len : Int)) (t4 : ∀ j, j < len → IA 53 j = IA 30 j) : md_by IA = rd_by IA 29 := funext fun i => by
  show (if (i : Int) < IA 52 2 then IA 53 i % 256 else -1) = (if (i : Int) < IA 29 0 then IA 30 i % 256 else -1)
  rw [t2, t3]
  by_cases e : (i : Int) < (len : Int)
  · rw [if_pos e, if_pos e, t4 i (by omega)]
  · rw [if_neg e, if_neg e]
theorem lw_of {IA : mj_FI} {LA : mj_LA} {x c b m I O G : Nat} {od ld : List Nat} (h : cS IA LA c b m I O G od ld) {s w : Nat} (hs : nS I G s) (hw : w < C_W I) (hT : M_rw LA x (rN I s) w = C_rw LA c s w) (lit : Int) : M_lw LA I x (rN I s) lit w = C_lw LA c s lit w := by
  unfold M_lw C_lw
  rw [hT]
  by_cases e : lit % 2 = 0
  · rw [if_pos e, if_pos e, BitVec.xor_zero]
  · rw [if_neg e, if_neg e, h.2.2.1]
    exact bv_inv (h.in s hs w hw)
/-- the circuit that is not loaded -/
theorem cp_ot {IA J : mj_FI} {LA K : mj_LA} {x c b m I O G : Nat} {od ld : List Nat} {c' b3 : Nat} (h : cp IA LA x c b m I O G od ld) (hcc : (c = 1 ∧ c' = 15) ∨ (c = 15 ∧ c' = 1)) (hb : b = 2 ∨ b = 16 ∨ b = 36) (hb3 : b3 = 2 ∨ b3 = 16 ∨ b3 = 36) (hne : b ≠ b3) (hC : ∀ q, q < 52 → (q < 29 ∨ 35 < q) → (q < b3 ∨ b3 + 8 < q) → q ≠ c' → q ≠ c' + 12 → q ≠ c' + 13 → J q = IA q) (hL : ∀ q, q ≠ c' → q ≠ c' + 10 → q ≠ c' + 11 → q ≠ 69 → q ≠ 77 → K q = LA q) (e59 : J 59 x = IA 59 x) (e60 : J 60 x = IA 60 x)
    (hm : ∀ q j, mcl x q j → q ≠ 59 → q ≠ 60 → J q j = IA q j) (hl : ∀ j, 80640 * x ≤ j → j < 80640 * x + 80640 → K 69 j = LA 69 j) : cp J K x c b m I O G od ld := by
  have c0 : J c = IA c := hC c (by omega) (by omega) (by omega) (by omega) (by omega) (by omega)
  have b0 : J b = IA b := hC b (by omega) (by omega) (by omega) (by omega) (by omega) (by omega)
  refine cp_mv h (fun k _ => by rw [b0]) (fun k h1 h2 => hC _ (by omega) (by omega) (by omega) (by omega) (by omega) (by omega)) ?_ ?_ (by rw [c0]) (by rw [c0]) (hC _ (by omega) (by omega) (by omega) (by omega) (by omega) (by omega)) (hC _ (by omega) (by omega) (by omega) (by omega) (by omega) (by omega)) (by rw [hL c (by omega) (by omega) (by omega) (by omega) (by omega)]) (hL _ (by omega) (by omega) (by omega) (by omega) (by omega)) (hL _ (by omega) (by omega) (by omega) (by omega) (by omega)) hm hl
  · rw [c0, e59]
    exact h.2.2.2.2.2.2.1
  · rw [c0, e60]
    exact h.2.2.2.2.2.2.2
/-- the reference's side where the text was wrong -/
theorem ml_bad {IA1 J2 : mj_FI} {n : Nat} (hd : md_d (mj_up IA1 52 0 0) J2) (hr : md_rr J2) (e p : Int) : (∀ q, q < 52 → ml_s J2 n e p q = IA1 q) ∧ ml_s J2 n e p 53 = IA1 53 ∧ ml_s J2 n e p 54 = IA1 54 ∧ ml_s J2 n e p 52 2 = 0 ∧ ml_s J2 n e p 52 4 = IA1 52 4 ∧ ml_s J2 n e p 52 0 = 0 ∧ M_rr (ml_s J2 n e p) ∧ ml_s J2 n e p 66 2002 = IA1 66 2002 ∧ (∀ y q j, y < 2 → mcl y q j → q ≠ 59 → q ≠ 60 → ml_s J2 n e p q j = IA1 q j) ∧ ml_s J2 n e p 59 n = e ∧ ml_s J2 n e p 60 n = p ∧ (∀ y, y ≠ n → ml_s J2 n e p 59 y = IA1 59 y ∧ ml_s J2 n e p 60 y = IA1 60 y) := by
  have row : ∀ q, q ≠ 52 → q ≠ 70 → q ≠ 71 → (∀ j, ¬ dC q j) → J2 q = IA1 q := fun q h1 h2 h3 h4 => funext fun j => by rw [hd.1 q j h1 h2 h3 (h4 j), mj_up_ne h1]
  refine ⟨fun q hq => ?_, ?_, ?_, ?_, ?_, ?_, fun j hj => ?_, ?_, fun y q j hy hq h1 h2 => ?_, ?_, ?_, fun y hy => ⟨?_, ?_⟩⟩
  · rw [ml_s_o (by omega) (by omega) (by omega), row q (by omega) (by omega) (by omega) (fun j => by unfold dC; omega)]
  · rw [ml_s_o (by decide) (by decide) (by decide), row 53 (by decide) (by decide) (by decide) (fun j => by unfold dC; omega)]
  · rw [ml_s_o (by decide) (by decide) (by decide), row 54 (by decide) (by decide) (by decide) (fun j => by unfold dC; omega)]
  · unfold ml_s
    rw [mj_up_ne (by decide), mj_up_ne (by decide), mj_up_at]
  · rw [ml_s_52 (by decide), hd.2 4 (by decide) (by decide) (by decide), mj_up_k (by decide)]
  · rw [ml_s_52 (by decide), hd.2 0 (by decide) (by decide) (by decide), mj_up_at]
  · rw [ml_s_o (by decide) (by decide) (by decide)]
    exact hr j hj
  · rw [ml_s_o (by decide) (by decide) (by decide), hd.1 66 2002 (by decide) (by decide) (by decide) (by unfold dC; omega), mj_up_ne (by decide)]
  · have hq2 : q ≠ 52 ∧ q ≠ 70 ∧ q ≠ 71 ∧ ¬ dC q j := by
      unfold mcl at hq
      unfold dC
      omega
    rw [ml_s_o hq2.1 h1 h2, hd.1 q j hq2.1 hq2.2.1 hq2.2.2.1 hq2.2.2.2, mj_up_ne hq2.1]
  · unfold ml_s
    rw [mj_up_ne (by decide), mj_up_at]
  · unfold ml_s
    rw [mj_up_at]
  · unfold ml_s
    rw [mj_up_ne (by decide), mj_up_k hy, mj_up_ne (by decide), row 59 (by decide) (by decide) (by decide) (fun j => by unfold dC; omega)]
  · unfold ml_s
    rw [mj_up_k hy, mj_up_ne (by decide), mj_up_ne (by decide), row 60 (by decide) (by decide) (by decide) (fun j => by unfold dC; omega)]
/-- where it was right -/
theorem ml_good {IA1 J2 J : mj_FI} {n : Nat} (hn : n < 2) (hd : md_d (mj_up IA1 52 0 0) J2) (hr : md_rr J2) (ht : tk (ml_s J2 n 0 0) J n 14 16 300 1001 315) : (∀ q, q < 52 → J q = IA1 q) ∧ J 53 = IA1 53 ∧ J 54 = IA1 54 ∧ J 52 2 = 0 ∧ J 52 4 = IA1 52 4 ∧ J 52 0 = 0 ∧ M_rr J ∧ J 66 2002 = IA1 66 2002 ∧ (∀ y q j, y < 2 → y ≠ n → mcl y q j → q ≠ 59 → q ≠ 60 → J q j = IA1 q j) ∧ J 59 n = 0 ∧ J 60 n = 0 ∧ (∀ y, y ≠ n → J 59 y = IA1 59 y ∧ J 60 y = IA1 60 y) := by
  obtain ⟨b1, b2, b3, b4, b5, b6, b7, b8, b9, b10, b11, b12⟩ := ml_bad (n := n) hd hr 0 0
  obtain ⟨t1, t2, t3, t4, t5, t6, t7, t8, t9, t10⟩ := ht
  refine ⟨fun q hq => ?_, ?_, ?_, ?_, ?_, ?_, fun j hj => ?_, ?_, fun y q j hy hyn hq h1 h2 => ?_, ?_, ?_, fun y hy => ⟨?_, ?_⟩⟩
  · rw [t1 q (by omega), b1 q hq]
  · rw [t1 53 (by omega), b2]
  · rw [t1 54 (by omega), b3]
  · rw [t1 52 (by omega), b4]
  · rw [t1 52 (by omega), b5]
  · rw [t1 52 (by omega), b6]
  · rw [t9]
    unfold cpr
    split
    · exact b7 _ (by omega)
    · exact b7 j hj
  · rw [t9, cpr_o (by omega), b8]
  · rw [← b9 y q j hy hq h1 h2]
    unfold mcl at hq
    rcases hq with ⟨q1, q2, q3⟩ | ⟨q1, q2, q3⟩ | ⟨q1, q2, q3⟩ | ⟨q1, q2, q3⟩ | ⟨q1, q2, q3⟩ | ⟨q1, q2, q3⟩
    · rw [t2 q q1 (by omega), mj_u_ne (by omega)]
    · rw [q1, t3, cpr_o (by omega)]
    · rcases q1 with q1 | q1 | q1 | q1
      · rw [q1, t5, cpr_o (by omega)]
      · rw [q1, t6, cpr_o (by omega)]
      · rw [q1, t7, cpr_o (by omega)]
      · rw [q1, t8, cpr_o (by omega)]
    · rw [q1, t4, cpr_o (by omega)]
    · rw [q1, t9, cpr_o (by omega)]
    · rw [q1, t10, cpr_o (by omega)]
  · rw [t1 59 (by omega), b10]
  · rw [t1 60 (by omega), b11]
  · rw [t1 59 (by omega), (b12 y hy).1]
  · rw [t1 60 (by omega), (b12 y hy).2]
