/-! THE REFERENCE: put, putNumber, putStep, out, feed, look -/
/-- the text so far -/
def mw_T (IA J : mj_FI) (tx : List Int) : Prop := (∀ q, q ≠ 52 → q ≠ 54 → J q = IA q) ∧ (∀ k, k ≠ 4 → J 52 k = IA 52 k) ∧ J 52 4 = (tx.length : Int) ∧ ∀ i x, tx[i]? = some x → J 54 i = mj_b x
theorem mw_T.up {IA J : mj_FI} {tx : List Int} (h : mw_T IA J tx) {q k : Nat} {x : Int} (h1 : q ≠ 52) (h2 : q ≠ 54) : mw_T (mj_up IA q k x) (mj_up J q k x) tx := by
  obtain ⟨t1, t2, t3, t4⟩ := h
  refine ⟨fun a a1 a2 => ?_, fun k hk => ?_, ?_, fun i x hx => ?_⟩
  · by_cases e : a = q
    · subst e
      rw [mj_up_row, mj_up_row, t1 a a1 a2]
    · rw [mj_up_ne e, mj_up_ne e, t1 a a1 a2]
  · rw [mj_up_ne (Ne.symm h1), mj_up_ne (Ne.symm h1), t2 k hk]
  · rw [mj_up_ne (Ne.symm h1)]; exact t3
  · rw [mj_up_ne (Ne.symm h2)]; exact t4 i x hx
section MM
variable {sh : mj_Sh} {FR : mj_FR} {IA : mj_FI} {LA : mj_LA} {n : Nat}
theorem ct_M_put (h : isM sh FR n) {J : mj_FI} {x : Int} {tx : List Int} (hT : mw_T IA J tx) (hl : tx.length < 8192) : mj_Ct m_M_put [.inr (.inr (.inl 52)), .inl x] sh FR J LA n (mj_po (fun o J' => o = .inl none ∧ mw_T IA J' (tx ++ [x])) sh FR LA n) := by
  obtain ⟨t1, t2, t3, t4⟩ := hT
  refine mj_Ct_of (by decide +kernel) (by decide) (Nat.le_of_ble_eq_true rfl) ?_
  refine mj_go z_M_put [] 60 ?_
  refine And.intro h.o (Exists.intro _ (And.intro h.r3 ?_))
  refine And.intro h.o ?_
  rw [t3]
  refine Exists.intro _ (And.intro rfl ?_)
  refine Exists.intro _ (Exists.intro (tx.length) (And.intro h.a3 (And.intro (by first | (rw [mj_w_id (by omega) (by omega)]; done) | (rw [mj_w_id (by omega) (by omega)]; omega) | (unfold mj_w; omega)) (And.intro (by omega) ?_))))
  refine And.intro (by decide) ?_
  refine And.intro h.o ?_
  rw [mj_up_ne (show (52 : Nat) ≠ 54 by decide), t3]
  refine Exists.intro (((tx.length + 1 : Nat) : Int)) (And.intro (by first | (rw [mj_w_id (by omega) (by omega)]; done) | (rw [mj_w_id (by omega) (by omega)]; omega) | (unfold mj_w; omega)) ?_)
  refine And.intro h.o ?_
  refine ⟨⟨rfl, rfl, rfl, rfl, rfl, fun q h1 h2 => by rw [mj_up_ne h1, mj_up_ne h2]; exact t1 q h1 h2, fun k hk => by rw [mj_up_k hk, mj_up_ne (by decide)]; exact t2 k hk, by rw [mj_up_at, List.length_append, List.length_singleton], fun i y hy => ?_⟩, Nat.le_of_ble_eq_true rfl, Nat.le_of_ble_eq_true rfl⟩
  rw [mj_up_ne (by decide), mj_up_row]
  by_cases e : i < tx.length
  · rw [List.getElem?_append_left e] at hy
    rw [mj_u_ne (by omega)]
    exact t4 i y hy
  · rw [List.getElem?_append_right (by omega)] at hy
    have e2 : i = tx.length := by
      by_cases z : i - tx.length = 0
      · omega
      · rw [List.getElem?_eq_none (by simp; omega)] at hy
        cases hy
    subst e2
    rw [Nat.sub_self] at hy
    cases hy
    rw [mj_u_at, mj_b_b]
set_option maxHeartbeats 1000000 in
theorem ct_M_putNumber (h : isM sh FR n) {J : mj_FI} {v : Nat} {fol : Int} {tx : List Int} (hT : mw_T IA J tx) (hl : tx.length + 4 ≤ 8192) (hv : v < 1000) : mj_Ct m_M_putNumber [.inr (.inr (.inl 52)), .inl v, .inl fol] sh FR J LA n (mj_po (fun o J' => o = .inl none ∧ mw_T IA J' (tx ++ (wr_n v ++ [fol]))) sh FR LA n) := by
  generalize hQ : mj_po (fun o J' => o = .inl none ∧ mw_T IA J' (tx ++ (wr_n v ++ [fol]))) sh FR LA n = Q
  have s0 : ∀ (J : mj_FI) (ty : List Int), mw_T IA J ty → ty.length + 1 ≤ 8192 → ty ++ [fol] = tx ++ (wr_n v ++ [fol]) → mj_G m_M_putNumber Q 4 [some (.inr (.inr (.inl 52))), some (.inl v), some (.inl fol), some (.inl 0)] [] sh FR J LA n 0 0 := by
    intro J ty hT hl he
    refine mj_go z_M_putNumber [] 60 ?_
    refine And.intro (fun d => ?_) (fun d => ?_)
    · clear d
      refine And.intro h.o (And.intro (Nat.le_of_ble_eq_true rfl) (And.intro (Nat.le_of_ble_eq_true rfl) (And.intro (Nat.le_of_ble_eq_true rfl) (Exists.intro _ (And.intro (ct_M_put h hT (by omega)) ?_)))))
      rintro o1 sh9 FR9 J1 LA9 n9 ⟨z1, z2, z3, z4, hp1⟩
      replace z1 := z1.symm
      subst z1
      replace z2 := z2.symm
      subst z2
      replace z3 := z3.symm
      subst z3
      replace z4 := z4.symm
      subst z4
      obtain ⟨ho, hT1⟩ := hp1
      subst ho
      refine And.intro (Or.inl rfl) ?_
      rw [he] at hT1
      subst hQ
      exact ⟨⟨rfl, rfl, rfl, rfl, rfl, hT1⟩, Nat.le_of_ble_eq_true rfl, Nat.le_of_ble_eq_true rfl⟩
    · exact absurd (by decide) d
  have s1 : ∀ (J : mj_FI) (ty : List Int), mw_T IA J ty → ty.length + 2 ≤ 8192 → ty ++ [48 + ((v % 10 : Nat) : Int)] ++ [fol] = tx ++ (wr_n v ++ [fol]) → mj_G m_M_putNumber Q 4 [some (.inr (.inr (.inl 52))), some (.inl v), some (.inl fol), some (.inl 1)] [] sh FR J LA n 0 0 := by
    intro J ty hT hl he
    have key : mj_G m_M_putNumber Q 18 [some (.inr (.inr (.inl 52))), some (.inl v), some (.inl fol), some (.inl 1)] [] sh FR J LA n 0 0 := by
      refine mj_go z_M_putNumber [4] 60 ?_
      refine And.intro (by decide) ?_
      refine Exists.intro (((v : Nat) : Int)) (And.intro ((nu_div (by omega) (by omega) (by omega) (by omega)).trans (by omega)) ?_)
      refine And.intro (by decide) ?_
      refine Exists.intro (((v % 10 : Nat) : Int)) (And.intro ((nu_rem (by omega) (by omega) (by omega) (by omega)).trans (by omega)) ?_)
      refine Exists.intro ((48 + ((v % 10 : Nat) : Int))) (And.intro (by first | (rw [mj_w_id (by omega) (by omega)]; done) | (rw [mj_w_id (by omega) (by omega)]; omega) | (unfold mj_w; omega)) ?_)
      refine And.intro h.o (And.intro (Nat.le_of_ble_eq_true rfl) (And.intro (Nat.le_of_ble_eq_true rfl) (And.intro (Nat.le_of_ble_eq_true rfl) (Exists.intro _ (And.intro (ct_M_put h hT (by omega)) ?_)))))
      rintro o1 sh9 FR9 J1 LA9 n9 ⟨z1, z2, z3, z4, hp1⟩
      replace z1 := z1.symm
      subst z1
      replace z2 := z2.symm
      subst z2
      replace z3 := z3.symm
      subst z3
      replace z4 := z4.symm
      subst z4
      obtain ⟨ho, hT1⟩ := hp1
      subst ho
      refine And.intro (Or.inl rfl) ?_
      refine And.intro (by decide) ?_
      refine Exists.intro (0) (And.intro (nu_div (by omega) (by omega) (by omega) (by omega)) ?_)
      exact s0 J1 _ hT1 (by rw [List.length_append, List.length_singleton]; omega) he
    refine mj_go z_M_putNumber [18] 60 ?_
    refine And.intro (fun d => ?_) (fun d => ?_)
    · exact absurd d (by decide)
    · clear d
      refine And.intro (fun d => ?_) (fun d => ?_)
      · exact key
      · clear d
        refine And.intro (fun d => ?_) (fun d => ?_)
        · exact absurd rfl d
        · exact key
  have s10 : ∀ (J : mj_FI) (ty : List Int), mw_T IA J ty → ty.length + 3 ≤ 8192 → ty ++ ((if 10 ≤ v then [48 + ((v / 10 % 10 : Nat) : Int)] else []) ++ [48 + ((v % 10 : Nat) : Int)]) ++ [fol] = tx ++ (wr_n v ++ [fol]) → mj_G m_M_putNumber Q 4 [some (.inr (.inr (.inl 52))), some (.inl v), some (.inl fol), some (.inl 10)] [] sh FR J LA n 0 0 := by
    intro J ty hT hl he
    by_cases hc : 10 ≤ v
    · rw [if_pos hc] at he
      refine mj_go z_M_putNumber [4] 60 ?_
      refine And.intro (fun d => ?_) (fun d => ?_)
      · exact absurd d (by decide)
      clear d
      refine And.intro (fun d => ?_) (fun d => ?_)
      · clear d
        refine And.intro (by decide) ?_
        refine Exists.intro (((v / 10 : Nat) : Int)) (And.intro ((nu_div (by omega) (by omega) (by omega) (by omega)).trans (by omega)) ?_)
        refine And.intro (by decide) ?_
        refine Exists.intro (((v / 10 % 10 : Nat) : Int)) (And.intro ((nu_rem (by omega) (by omega) (by omega) (by omega)).trans (by omega)) ?_)
        refine Exists.intro ((48 + ((v / 10 % 10 : Nat) : Int))) (And.intro (by first | (rw [mj_w_id (by omega) (by omega)]; done) | (rw [mj_w_id (by omega) (by omega)]; omega) | (unfold mj_w; omega)) ?_)
        refine And.intro h.o (And.intro (Nat.le_of_ble_eq_true rfl) (And.intro (Nat.le_of_ble_eq_true rfl) (And.intro (Nat.le_of_ble_eq_true rfl) (Exists.intro _ (And.intro (ct_M_put h hT (by omega)) ?_)))))
        rintro o1 sh9 FR9 J1 LA9 n9 ⟨z1, z2, z3, z4, hp1⟩
        replace z1 := z1.symm
        subst z1
        replace z2 := z2.symm
        subst z2
        replace z3 := z3.symm
        subst z3
        replace z4 := z4.symm
        subst z4
        obtain ⟨ho, hT1⟩ := hp1
        subst ho
        refine And.intro (Or.inl rfl) ?_
        refine And.intro (by decide) ?_
        refine Exists.intro (1) (And.intro (nu_div (by omega) (by omega) (by omega) (by omega)) ?_)
        exact s1 J1 _ hT1 (by rw [List.length_append, List.length_singleton]; omega) (by rw [← he]; simp)
      · simp (disch := (clear d; omega)) only [mj_w_id] at d
        omega
    · rw [if_neg hc] at he
      refine mj_go z_M_putNumber [4] 60 ?_
      refine And.intro (fun d => ?_) (fun d => ?_)
      · exact absurd d (by decide)
      clear d
      refine And.intro (fun d => ?_) (fun d => ?_)
      · simp (disch := (clear d; omega)) only [mj_w_id] at d
        omega
      · clear d
        refine And.intro (fun d => ?_) (fun d => ?_)
        · clear d
          refine And.intro (by decide) ?_
          refine Exists.intro (1) (And.intro (nu_div (by omega) (by omega) (by omega) (by omega)) ?_)
          exact s1 J ty hT (by omega) (by rw [← he]; simp)
        · exact absurd (show ¬ mj_w 10 = mj_w 1 by decide) d
  have s100 : ∀ (J : mj_FI) (ty : List Int), mw_T IA J ty → ty.length + 4 ≤ 8192 → ty ++ (wr_n v) ++ [fol] = tx ++ (wr_n v ++ [fol]) → mj_G m_M_putNumber Q 4 [some (.inr (.inr (.inl 52))), some (.inl v), some (.inl fol), some (.inl 100)] [] sh FR J LA n 0 0 := by
    intro J ty hT hl he
    by_cases hc : 100 ≤ v
    · refine mj_go z_M_putNumber [4] 60 ?_
      refine And.intro (fun d => ?_) (fun d => ?_)
      · exact absurd d (by decide)
      clear d
      refine And.intro (fun d => ?_) (fun d => ?_)
      · clear d
        refine And.intro (by decide) ?_
        refine Exists.intro (((v / 100 : Nat) : Int)) (And.intro ((nu_div (by omega) (by omega) (by omega) (by omega)).trans (by omega)) ?_)
        refine And.intro (by decide) ?_
        refine Exists.intro (((v / 100 : Nat) : Int)) (And.intro ((nu_rem (by omega) (by omega) (by omega) (by omega)).trans (by omega)) ?_)
        refine Exists.intro ((48 + ((v / 100 : Nat) : Int))) (And.intro (by first | (rw [mj_w_id (by omega) (by omega)]; done) | (rw [mj_w_id (by omega) (by omega)]; omega) | (unfold mj_w; omega)) ?_)
        refine And.intro h.o (And.intro (Nat.le_of_ble_eq_true rfl) (And.intro (Nat.le_of_ble_eq_true rfl) (And.intro (Nat.le_of_ble_eq_true rfl) (Exists.intro _ (And.intro (ct_M_put h hT (by omega)) ?_)))))
        rintro o1 sh9 FR9 J1 LA9 n9 ⟨z1, z2, z3, z4, hp1⟩
        replace z1 := z1.symm
        subst z1
        replace z2 := z2.symm
        subst z2
        replace z3 := z3.symm
        subst z3
        replace z4 := z4.symm
        subst z4
        obtain ⟨ho, hT1⟩ := hp1
        subst ho
        refine And.intro (Or.inl rfl) ?_
        refine And.intro (by decide) ?_
        refine Exists.intro (10) (And.intro (nu_div (by omega) (by omega) (by omega) (by omega)) ?_)
        exact s10 J1 _ hT1 (by rw [List.length_append, List.length_singleton]; omega) (by rw [← he]; unfold wr_n; rw [if_pos hc]; simp)
      · simp (disch := (clear d; omega)) only [mj_w_id] at d
        omega
    · refine mj_go z_M_putNumber [4] 60 ?_
      refine And.intro (fun d => ?_) (fun d => ?_)
      · exact absurd d (by decide)
      clear d
      refine And.intro (fun d => ?_) (fun d => ?_)
      · simp (disch := (clear d; omega)) only [mj_w_id] at d
        omega
      · clear d
        refine And.intro (fun d => ?_) (fun d => ?_)
        · clear d
          refine And.intro (by decide) ?_
          refine Exists.intro (10) (And.intro (nu_div (by omega) (by omega) (by omega) (by omega)) ?_)
          exact s10 J ty hT (by omega) (by rw [← he]; unfold wr_n; rw [if_neg hc]; simp)
        · exact absurd (show ¬ mj_w 100 = mj_w 1 by decide) d
  have s1000 : mj_G m_M_putNumber Q 4 [some (.inr (.inr (.inl 52))), some (.inl v), some (.inl fol), some (.inl 1000)] [] sh FR J LA n 0 0 := by
    refine mj_go z_M_putNumber [4] 60 ?_
    refine And.intro (fun d => ?_) (fun d => ?_)
    · exact absurd d (by decide)
    clear d
    refine And.intro (fun d => ?_) (fun d => ?_)
    · simp (disch := (clear d; omega)) only [mj_w_id] at d
      omega
    · clear d
      refine And.intro (fun d => ?_) (fun d => ?_)
      · clear d
        refine And.intro (by decide) ?_
        refine Exists.intro (100) (And.intro (nu_div (by omega) (by omega) (by omega) (by omega)) ?_)
        exact s100 J tx hT hl (by simp)
      · exact absurd (show ¬ mj_w 1000 = mj_w 1 by decide) d
  refine mj_Ct_of (by decide +kernel) (by decide) (Nat.le_of_ble_eq_true rfl) ?_
  refine mj_go z_M_putNumber [4] 60 ?_
  exact s1000
theorem ct_M_putStep (h : isM sh FR n) {J : mj_FI} {v : Nat} {tx : List Int} (hT : mw_T IA J tx) (hl : tx.length + 2 ≤ 8192) (hv : v < 16384) : mj_Ct m_M_putStep [.inr (.inr (.inl 52)), .inl v] sh FR J LA n (mj_po (fun o J' => o = .inl none ∧ mw_T IA J' (tx ++ wr_s v)) sh FR LA n) := by
  refine mj_Ct_of (by decide +kernel) (by decide) (Nat.le_of_ble_eq_true rfl) ?_
  refine mj_go z_M_putStep [] 60 ?_
  refine And.intro (fun d => ?_) (fun d => ?_)
  · simp (disch := (clear d; omega)) only [mj_w_id] at d
    refine And.intro (by decide) ?_
    refine Exists.intro (((v % 128 : Nat) : Int)) (And.intro ((nu_rem (by omega) (by omega) (by omega) (by omega)).trans (by omega)) ?_)
    refine Exists.intro (((v % 128 + 128 : Nat) : Int)) (And.intro (by first | (rw [mj_w_id (by omega) (by omega)]; done) | (rw [mj_w_id (by omega) (by omega)]; omega) | (unfold mj_w; omega)) ?_)
    refine And.intro h.o (And.intro (Nat.le_of_ble_eq_true rfl) (And.intro (Nat.le_of_ble_eq_true rfl) (And.intro (Nat.le_of_ble_eq_true rfl) (Exists.intro _ (And.intro (ct_M_put h hT (by omega)) ?_)))))
    rintro o1 sh9 FR9 J1 LA9 n9 ⟨z1, z2, z3, z4, hp1⟩
    replace z1 := z1.symm
    subst z1
    replace z2 := z2.symm
    subst z2
    replace z3 := z3.symm
    subst z3
    replace z4 := z4.symm
    subst z4
    obtain ⟨ho, hT1⟩ := hp1
    subst ho
    refine And.intro (Or.inl rfl) ?_
    refine And.intro (by decide) ?_
    refine Exists.intro (((v / 128 : Nat) : Int)) (And.intro ((nu_div (by omega) (by omega) (by omega) (by omega)).trans (by omega)) ?_)
    refine And.intro h.o (And.intro (Nat.le_of_ble_eq_true rfl) (And.intro (Nat.le_of_ble_eq_true rfl) (And.intro (Nat.le_of_ble_eq_true rfl) (Exists.intro _ (And.intro (ct_M_put h hT1 (by rw [List.length_append, List.length_singleton]; omega)) ?_)))))
    rintro o2 sh9 FR9 J2 LA9 n9 ⟨z1, z2, z3, z4, hp2⟩
    replace z1 := z1.symm
    subst z1
    replace z2 := z2.symm
    subst z2
    replace z3 := z3.symm
    subst z3
    replace z4 := z4.symm
    subst z4
    obtain ⟨ho, hT2⟩ := hp2
    subst ho
    refine And.intro (Or.inl rfl) ?_
    have e : tx ++ [((v % 128 + 128 : Nat) : Int)] ++ [((v / 128 : Nat) : Int)] = tx ++ wr_s v := by unfold wr_s; rw [if_neg (by omega)]; simp
    rw [e] at hT2
    exact ⟨⟨rfl, rfl, rfl, rfl, rfl, hT2⟩, Nat.le_of_ble_eq_true rfl, Nat.le_of_ble_eq_true rfl⟩
  · simp (disch := (clear d; omega)) only [mj_w_id] at d
    refine And.intro h.o (And.intro (Nat.le_of_ble_eq_true rfl) (And.intro (Nat.le_of_ble_eq_true rfl) (And.intro (Nat.le_of_ble_eq_true rfl) (Exists.intro _ (And.intro (ct_M_put h hT (by omega)) ?_)))))
    rintro o1 sh9 FR9 J1 LA9 n9 ⟨z1, z2, z3, z4, hp1⟩
    replace z1 := z1.symm
    subst z1
    replace z2 := z2.symm
    subst z2
    replace z3 := z3.symm
    subst z3
    replace z4 := z4.symm
    subst z4
    obtain ⟨ho, hT1⟩ := hp1
    subst ho
    refine And.intro (Or.inl rfl) ?_
    have e : tx ++ [(v : Int)] = tx ++ wr_s v := by unfold wr_s; rw [if_pos (by omega)]
    rw [e] at hT1
    exact ⟨⟨rfl, rfl, rfl, rfl, rfl, hT1⟩, Nat.le_of_ble_eq_true rfl, Nat.le_of_ble_eq_true rfl⟩
end MM
theorem tw_o_s {f : Nat → Int} : ∀ (t k : Nat), tw_o f k (t + 1) = (tw_o f (k + 1) t <<< 8) ||| BitVec.ofInt 64 (f k)
  | 0, k => by
    simp only [tw_o, Nat.mul_zero, Nat.add_zero]
    simp
  | t + 1, k => by
    rw [tw_o, tw_o_s t k, tw_o, BitVec.shiftLeft_or_distrib, ← BitVec.shiftLeft_add, show k + (t + 1) = k + 1 + t by omega, show 8 * (t + 1) = 8 * t + 8 by omega, BitVec.or_assoc, BitVec.or_assoc, BitVec.or_comm (BitVec.ofInt 64 (f k))]
section MM
variable {sh : mj_Sh} {FR : mj_FR} {IA : mj_FI} {LA : mj_LA} {n : Nat}
set_option maxHeartbeats 1000000 in
theorem ct_M_out (h : isM sh FR n) {k : Int} {len : Nat} (ik : mj_i k) (hl : IA 52 4 = (len : Int)) (hl2 : len ≤ 8192) :
    mj_Ct m_M_out [.inr (.inr (.inl 52)), .inl k] sh FR IA LA n (mj_pu (.inl (some (.inr (.inl (if 0 ≤ k ∧ k < (len : Int) then tw_o (fun i => if i < len then IA 54 i % 256 else 0) k.toNat 8 else 0#64))))) sh FR (mj_up IA 52 0 (if 0 ≤ k ∧ k < (len : Int) then 0 else 1)) LA n) := by
  obtain ⟨i1, i2⟩ := ik
  by_cases hk : 0 ≤ k ∧ k < (len : Int)
  · rw [if_pos hk, if_pos hk]
    obtain ⟨q, hq⟩ : ∃ q : Nat, k = (q : Int) := ⟨k.toNat, by omega⟩
    subst hq
    rw [show ((q : Int)).toNat = q from rfl]
    generalize hf : (fun i => if i < len then IA 54 i % 256 else 0) = f
    have hf2 : ∀ i, (if i < len then IA 54 i % 256 else 0) = f i := fun i => by rw [← hf]
    have hf3 : ∀ i, 0 ≤ f i ∧ f i < 256 := fun i => by
      rw [← hf2]
      split <;> omega
    have l4 : (mj_up IA 52 0 0) 52 4 = (len : Int) := by rw [mj_up_k (by decide)]; exact hl
    have l54 : (mj_up IA 52 0 0) 54 = IA 54 := mj_up_ne (by decide)
    have loop : ∀ (t i : Nat), i + t = 8 → mj_G m_M_out (mj_pu (.inl (some (.inr (.inl (tw_o f q 8))))) sh FR (mj_up IA 52 0 0) LA n) 33 [some (.inr (.inr (.inl 52))), some (.inl (q : Int)), some (.inr (.inl (tw_o f (q + t) i))), none, some (.inl ((t : Int) - 1))] [] sh FR (mj_up IA 52 0 0) LA n 0 0 := by
      intro t
      induction t with
      | zero =>
        intro i hi
        have hi : i = 8 := by omega
        subst hi
        refine mj_go z_M_out [33] 60 ?_
        refine And.intro (fun d => ?_) (fun d => ?_)
        · exact ⟨⟨rfl, rfl, rfl, rfl, rfl, rfl⟩, Nat.le_of_ble_eq_true rfl, Nat.le_of_ble_eq_true rfl⟩
        · exact absurd (by decide) d
      | succ t ih =>
        intro i hi
        have hfi := hf3 (q + t)
        have fin : ∀ x : Int, x = f (q + t) → mj_G m_M_out (mj_pu (.inl (some (.inr (.inl (tw_o f q 8))))) sh FR (mj_up IA 52 0 0) LA n) 70 [some (.inr (.inr (.inl 52))), some (.inl (q : Int)), some (.inr (.inl (tw_o f (q + (t + 1)) i))), none, some (.inl (((t + 1 : Nat) : Int) - 1))] [.inl x, .inr (.inl (tw_o f (q + (t + 1)) i <<< 8))] sh FR (mj_up IA 52 0 0) LA n 0 0 := by
          intro x hx
          have key := ih (i + 1) (by omega)
          rw [tw_o_s i (q + t), ← hx] at key
          rw [← mj_w_id (z := x) (by omega) (by omega)] at key
          refine mj_go z_M_out [33] 60 ?_
          refine Exists.intro (((t : Int) - 1)) (And.intro (by first | (rw [mj_w_id (by omega) (by omega)]; done) | (rw [mj_w_id (by omega) (by omega)]; omega) | (unfold mj_w; omega)) ?_)
          exact key
        refine mj_go z_M_out [33, 70] 60 ?_
        refine And.intro (fun d => ?_) (fun d => ?_)
        · simp (disch := (clear d; omega)) only [mj_w_id] at d
          omega
        · clear d
          refine Exists.intro (tw_o f (q + (t + 1)) i <<< 8) (And.intro (nu_lshl (k := 8) _ (by omega)) ?_)
          refine Exists.intro (((q + t : Nat) : Int)) (And.intro (by first | (rw [mj_w_id (by omega) (by omega)]; done) | (rw [mj_w_id (by omega) (by omega)]; omega) | (unfold mj_w; omega)) ?_)
          refine And.intro h.o ?_
          rw [l4]
          refine And.intro (fun d => ?_) (fun d => ?_)
          · simp (disch := (clear d; omega)) only [mj_w_id] at d
            exact fin 0 (by rw [← hf2, if_neg (by omega)])
          · simp (disch := (clear d; omega)) only [mj_w_id] at d
            refine And.intro h.o (Exists.intro _ (And.intro h.r3 ?_))
            refine Exists.intro (((q + t : Nat) : Int)) (And.intro (by first | (rw [mj_w_id (by omega) (by omega)]; done) | (rw [mj_w_id (by omega) (by omega)]; omega) | (unfold mj_w; omega)) ?_)
            refine Exists.intro _ (Exists.intro (q + t) (And.intro h.a3 (And.intro (by first | (rw [mj_w_id (by omega) (by omega)]; done) | (rw [mj_w_id (by omega) (by omega)]; omega) | (unfold mj_w; omega)) (And.intro (by omega) ?_))))
            rw [l54]
            refine Exists.intro (IA 54 (q + t) % 256) (And.intro (nu_and255 _) ?_)
            exact fin _ (by rw [← hf2, if_pos (by omega)])
    refine mj_Ct_of (by decide +kernel) (by decide) (Nat.le_of_ble_eq_true rfl) ?_
    refine mj_go z_M_out [33] 60 ?_
    refine And.intro (fun d => ?_) (fun d => ?_)
    · simp (disch := (clear d; omega)) only [mj_w_id] at d
      omega
    · clear d
      refine And.intro h.o ?_
      rw [hl]
      refine And.intro (fun d => ?_) (fun d => ?_)
      · clear d
        refine And.intro h.o (And.intro (Nat.le_of_ble_eq_true rfl) (And.intro (Nat.le_of_ble_eq_true rfl) (And.intro (Nat.le_of_ble_eq_true rfl) (Exists.intro _ (And.intro (ct_thr00 h) ?_)))))
        rintro r9 sh9 FR9 IA9 LA9 n9 ⟨z0, z1, z2, z3, z4, z5⟩
        subst z0
        replace z1 := z1.symm
        subst z1
        replace z2 := z2.symm
        subst z2
        replace z3 := z3.symm
        subst z3
        replace z4 := z4.symm
        subst z4
        replace z5 := z5.symm
        subst z5
        refine And.intro (Or.inl rfl) ?_
        refine And.intro (fun d => ?_) (fun d => ?_)
        · clear d
          exact loop 8 0 (by omega)
        · exact absurd (show mj_w 0 = 0 by decide) d
      · simp (disch := (clear d; omega)) only [mj_w_id] at d
        omega
  · rw [if_neg hk, if_neg hk]
    refine mj_Ct_of (by decide +kernel) (by decide) (Nat.le_of_ble_eq_true rfl) ?_
    refine mj_go z_M_out [] 60 ?_
    refine And.intro (fun d => ?_) (fun d => ?_)
    · clear d
      refine And.intro h.o (And.intro (Nat.le_of_ble_eq_true rfl) (And.intro (Nat.le_of_ble_eq_true rfl) (And.intro (Nat.le_of_ble_eq_true rfl) (Exists.intro _ (And.intro (ct_thr10 h) ?_)))))
      rintro r9 sh9 FR9 IA9 LA9 n9 ⟨z0, z1, z2, z3, z4, z5⟩
      subst z0
      replace z1 := z1.symm
      subst z1
      replace z2 := z2.symm
      subst z2
      replace z3 := z3.symm
      subst z3
      replace z4 := z4.symm
      subst z4
      replace z5 := z5.symm
      subst z5
      refine And.intro (Or.inl rfl) ?_
      refine And.intro (fun d => ?_) (fun d => ?_)
      · exact absurd d (by decide)
      · exact ⟨⟨rfl, rfl, rfl, rfl, rfl, rfl⟩, Nat.le_of_ble_eq_true rfl, Nat.le_of_ble_eq_true rfl⟩
    · simp (disch := (clear d; omega)) only [mj_w_id] at d
      refine And.intro h.o ?_
      rw [hl]
      refine And.intro (fun e => ?_) (fun e => ?_)
      · simp (disch := (clear e; omega)) only [mj_w_id] at e
        omega
      · clear e
        refine And.intro h.o (And.intro (Nat.le_of_ble_eq_true rfl) (And.intro (Nat.le_of_ble_eq_true rfl) (And.intro (Nat.le_of_ble_eq_true rfl) (Exists.intro _ (And.intro (ct_thr10 h) ?_)))))
        rintro r9 sh9 FR9 IA9 LA9 n9 ⟨z0, z1, z2, z3, z4, z5⟩
        subst z0
        replace z1 := z1.symm
        subst z1
        replace z2 := z2.symm
        subst z2
        replace z3 := z3.symm
        subst z3
        replace z4 := z4.symm
        subst z4
        replace z5 := z5.symm
        subst z5
        refine And.intro (Or.inl rfl) ?_
        refine And.intro (fun d => ?_) (fun d => ?_)
        · exact absurd d (by decide)
        · exact ⟨⟨rfl, rfl, rfl, rfl, rfl, rfl⟩, Nat.le_of_ble_eq_true rfl, Nat.le_of_ble_eq_true rfl⟩
end MM
/-- byte i, by the other shift -/
theorem nu_lsshr (x : BitVec 64) {k : Nat} (hk : k < 64) : (Int64.ofBitVec x >>> ((Int32.ofInt (k : Int)).toInt64 &&& 63)).toBitVec = x.sshiftRight k := by
  have h := nu_s63 ⟨k, hk⟩
  show x.sshiftRight (((Int32.ofInt (k : Int)).toInt64 &&& 63).toBitVec.smod 64).toNat = _
  rw [h]
theorem tw_by_s (v : BitVec 64) {i : Nat} (hi : i < 8) : mj_b (mj_w (v.sshiftRight (8 * i)).toInt) = tw_by v i := by
  unfold tw_by
  have h1 := nu_l2i (v.sshiftRight (8 * i))
  have h2 := nu_l2i (v >>> (8 * i))
  have h3 : (v.sshiftRight (8 * i)).toNat % 256 = (v >>> (8 * i)).toNat % 256 := by
    have e : (v.sshiftRight (8 * i)).setWidth 8 = (v >>> (8 * i)).setWidth 8 := by
      apply BitVec.eq_of_getLsbD_eq
      intro j hj
      rw [BitVec.getLsbD_setWidth, BitVec.getLsbD_setWidth, BitVec.getLsbD_sshiftRight, BitVec.getLsbD_ushiftRight, if_pos (by omega)]
      have : ¬ 64 ≤ j := by omega
      simp [this]
    have e2 := congrArg BitVec.toNat e
    rw [BitVec.toNat_setWidth, BitVec.toNat_setWidth] at e2
    exact e2
  unfold mj_b
  omega
