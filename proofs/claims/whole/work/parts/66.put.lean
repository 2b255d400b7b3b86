/-! WRITER: byteAt, putByte, putNumber, putStep -/
def isW (sh : mj_Sh) (FR : mj_FR) (n w : Nat) : Prop := mj_is sh n w 9 0 ∧ FR w 1 = .inl (w + 1) ∧ FR w 2 = .inl (w + 2) ∧ FR w 3 = .inl (w + 3) ∧ FR w 4 = .inl (w + 4) ∧ FR w 5 = .inl (w + 5) ∧ FR w 6 = .inl (w + 6) ∧
  mj_is sh n (w + 1) 1 4096 ∧ mj_is sh n (w + 2) 0 315 ∧ mj_is sh n (w + 3) 2 315 ∧ mj_is sh n (w + 4) 0 315 ∧ mj_is sh n (w + 5) 0 315 ∧ mj_is sh n (w + 6) 0 302
/-- the text tx has been written; nothing else changes -/
def wr_T (IA J : mj_FI) (w : Nat) (tx : List Int) : Prop := (∀ q, q ≠ w → q ≠ w + 1 → J q = IA q) ∧ (∀ k, k ≠ 0 → J w k = IA w k) ∧ J w 0 = (tx.length : Int) ∧ ∀ i x, tx[i]? = some x → J (w + 1) i = mj_b x
/-- a number's digits, below 1000 -/
def wr_n (v : Nat) : List Int := (if 100 ≤ v then [48 + ((v / 100 : Nat) : Int)] else []) ++ ((if 10 ≤ v then [48 + ((v / 10 % 10 : Nat) : Int)] else []) ++ [48 + ((v % 10 : Nat) : Int)])
def wr_s (v : Nat) : List Int := if v < 128 then [(v : Int)] else [((v % 128 + 128 : Nat) : Int), ((v / 128 : Nat) : Int)]
theorem mj_b_b {x : Int} : mj_b (mj_b x) = mj_b x := by
  unfold mj_b
  omega
theorem wr_n_len {v : Nat} : (wr_n v).length ≤ 3 := by
  unfold wr_n
  split <;> split <;> simp
theorem wr_s_len {v : Nat} : (wr_s v).length ≤ 2 := by
  unfold wr_s
  split <;> simp
section WW
variable {sh : mj_Sh} {FR : mj_FR} {IA : mj_FI} {LA : mj_LA} {n w : Nat}
theorem ct_W_byteAt (h : isW sh FR n w) {i len : Nat} (hi : i ≤ 10000) (hl : IA w 0 = (len : Int)) (hl2 : len ≤ 4096) : mj_Ct m_W_byteAt [.inr (.inr (.inl w)), .inl i] sh FR IA LA n (mj_pu (.inl (some (.inl (if i < len then IA (w + 1) i % 256 else 0)))) sh FR IA LA n) := by
  obtain ⟨h0, r1, r2, r3, r4, r5, r6, a1, a2, a3, a4, a5, a6⟩ := h
  refine mj_Ct_of (by decide +kernel) (by decide) (Nat.le_of_ble_eq_true rfl) ?_
  refine mj_go z_W_byteAt [] 60 ?_
  refine And.intro (fun d => ?_) (fun d => ?_)
  · simp (disch := (clear d; omega)) only [mj_w_id] at d
    omega
  · clear d
    refine And.intro h0 ?_
    rw [hl]
    refine And.intro (fun d => ?_) (fun d => ?_)
    · simp (disch := (clear d; omega)) only [mj_w_id] at d
      rw [if_neg (by omega)]
      exact ⟨⟨rfl, rfl, rfl, rfl, rfl, rfl⟩, Nat.le_of_ble_eq_true rfl, Nat.le_of_ble_eq_true rfl⟩
    · simp (disch := (clear d; omega)) only [mj_w_id] at d
      rw [if_pos (by omega)]
      refine And.intro h0 (Exists.intro _ (And.intro r1 ?_))
      refine Exists.intro _ (Exists.intro (i) (And.intro a1 (And.intro (by first | (rw [mj_w_id (by omega) (by omega)]; done) | (rw [mj_w_id (by omega) (by omega)]; omega) | (unfold mj_w; omega)) (And.intro (by omega) ?_))))
      refine Exists.intro (IA (w + 1) i % 256) (And.intro (nu_and255 _) ?_)
      exact ⟨⟨rfl, rfl, rfl, rfl, rfl, rfl⟩, Nat.le_of_ble_eq_true rfl, Nat.le_of_ble_eq_true rfl⟩
theorem ct_W_putByte (h : isW sh FR n w) {J : mj_FI} {x : Int} {tx : List Int} (hT : wr_T IA J w tx) (hl : tx.length < 4096) : mj_Ct m_W_putByte [.inr (.inr (.inl w)), .inl x] sh FR J LA n (mj_po (fun o J' => o = .inl none ∧ wr_T IA J' w (tx ++ [x])) sh FR LA n) := by
  obtain ⟨h0, r1, r2, r3, r4, r5, r6, a1, a2, a3, a4, a5, a6⟩ := h
  obtain ⟨t1, t2, t3, t4⟩ := hT
  refine mj_Ct_of (by decide +kernel) (by decide) (Nat.le_of_ble_eq_true rfl) ?_
  refine mj_go z_W_putByte [] 60 ?_
  refine And.intro h0 ?_
  rw [t3]
  refine And.intro (fun d => ?_) (fun d => ?_)
  · simp (disch := (clear d; omega)) only [mj_w_id] at d
    omega
  · clear d
    refine And.intro h0 (Exists.intro _ (And.intro r1 ?_))
    refine And.intro h0 ?_
    rw [t3]
    refine Exists.intro _ (And.intro rfl ?_)
    refine Exists.intro _ (Exists.intro (tx.length) (And.intro a1 (And.intro (by first | (rw [mj_w_id (by omega) (by omega)]; done) | (rw [mj_w_id (by omega) (by omega)]; omega) | (unfold mj_w; omega)) (And.intro (by omega) ?_))))
    refine And.intro rfl ?_
    refine And.intro h0 ?_
    rw [mj_up_ne (show w ≠ w + 1 by omega), t3]
    refine Exists.intro (((tx.length + 1 : Nat) : Int)) (And.intro (by first | (rw [mj_w_id (by omega) (by omega)]; done) | (rw [mj_w_id (by omega) (by omega)]; omega) | (unfold mj_w; omega)) ?_)
    refine And.intro h0 ?_
    refine ⟨⟨rfl, rfl, rfl, rfl, rfl, fun q h1 h2 => by rw [mj_up_ne h1, mj_up_ne h2]; exact t1 q h1 h2, fun k hk => by rw [mj_up_k hk, mj_up_ne (by omega)]; exact t2 k hk, by rw [mj_up_at, List.length_append, List.length_singleton], fun i y hy => ?_⟩, Nat.le_of_ble_eq_true rfl, Nat.le_of_ble_eq_true rfl⟩
    rw [mj_up_ne (by omega), mj_up_row]
    by_cases e : i < tx.length
    · rw [List.getElem?_append_left e] at hy
      rw [mj_u_ne (by omega)]
      exact t4 i y hy
    · rw [List.getElem?_append_right (by omega)] at hy
      have e2 : i = tx.length := by
        by_cases z : i - tx.length = 0
        · omega
        · rw [List.getElem?_eq_none (by simp; omega)] at hy
          cases hy
      subst e2
      rw [Nat.sub_self] at hy
      cases hy
      rw [mj_u_at, mj_b_b]
theorem ct_W_putNumber (h : isW sh FR n w) {J : mj_FI} {v : Nat} {fol : Int} {tx : List Int} (hT : wr_T IA J w tx) (hl : tx.length + 4 ≤ 4096) (hv : v < 1000) : mj_Ct m_W_putNumber [.inr (.inr (.inl w)), .inl v, .inl fol] sh FR J LA n (mj_po (fun o J' => o = .inl none ∧ wr_T IA J' w (tx ++ (wr_n v ++ [fol]))) sh FR LA n) := by
  have hW := h
  obtain ⟨h0, r1, r2, r3, r4, r5, r6, a1, a2, a3, a4, a5, a6⟩ := h
  have s37 : ∀ (J : mj_FI) (ty : List Int), wr_T IA J w ty → ty.length + 2 ≤ 4096 → ty ++ [48 + ((v % 10 : Nat) : Int)] ++ [fol] = tx ++ (wr_n v ++ [fol]) → mj_G m_W_putNumber (mj_po (fun o J' => o = .inl none ∧ wr_T IA J' w (tx ++ (wr_n v ++ [fol]))) sh FR LA n) 37 [some (.inr (.inr (.inl w))), some (.inl v), some (.inl fol)] [] sh FR J LA n 0 0 := by
    intro J ty hT hl he
    refine mj_go z_W_putNumber [] 60 ?_
    refine And.intro (by decide) ?_
    refine Exists.intro (((v % 10 : Nat) : Int)) (And.intro ((nu_rem (by omega) (by omega) (by omega) (by omega)).trans (by omega)) ?_)
    refine Exists.intro ((48 + ((v % 10 : Nat) : Int))) (And.intro (by first | (rw [mj_w_id (by omega) (by omega)]; done) | (rw [mj_w_id (by omega) (by omega)]; omega) | (unfold mj_w; omega)) ?_)
    refine And.intro h0 (And.intro (Nat.le_of_ble_eq_true rfl) (And.intro (Nat.le_of_ble_eq_true rfl) (And.intro (Nat.le_of_ble_eq_true rfl) (Exists.intro _ (And.intro (ct_W_putByte hW hT (by omega)) ?_)))))
    rintro o1 sh9 FR9 J1 LA9 n9 ⟨z1, z2, z3, z4, hp1⟩
    replace z1 := z1.symm
    subst z1
    replace z2 := z2.symm
    subst z2
    replace z3 := z3.symm
    subst z3
    replace z4 := z4.symm
    subst z4
    obtain ⟨ho, hT1⟩ := hp1
    subst ho
    refine And.intro (Or.inl rfl) ?_
    refine And.intro h0 (And.intro (Nat.le_of_ble_eq_true rfl) (And.intro (Nat.le_of_ble_eq_true rfl) (And.intro (Nat.le_of_ble_eq_true rfl) (Exists.intro _ (And.intro (ct_W_putByte hW hT1 (by rw [List.length_append, List.length_singleton]; omega)) ?_)))))
    rintro o2 sh9 FR9 J2 LA9 n9 ⟨z1, z2, z3, z4, hp2⟩
    replace z1 := z1.symm
    subst z1
    replace z2 := z2.symm
    subst z2
    replace z3 := z3.symm
    subst z3
    replace z4 := z4.symm
    subst z4
    obtain ⟨ho, hT2⟩ := hp2
    subst ho
    refine And.intro (Or.inl rfl) ?_
    rw [he] at hT2
    exact ⟨⟨rfl, rfl, rfl, rfl, rfl, hT2⟩, Nat.le_of_ble_eq_true rfl, Nat.le_of_ble_eq_true rfl⟩
  have s17 : ∀ (J : mj_FI) (ty : List Int), wr_T IA J w ty → ty.length + 3 ≤ 4096 → ty ++ ((if 10 ≤ v then [48 + ((v / 10 % 10 : Nat) : Int)] else []) ++ [48 + ((v % 10 : Nat) : Int)]) ++ [fol] = tx ++ (wr_n v ++ [fol]) → mj_G m_W_putNumber (mj_po (fun o J' => o = .inl none ∧ wr_T IA J' w (tx ++ (wr_n v ++ [fol]))) sh FR LA n) 17 [some (.inr (.inr (.inl w))), some (.inl v), some (.inl fol)] [] sh FR J LA n 0 0 := by
    intro J ty hT hl he
    by_cases hc : 10 ≤ v
    · rw [if_pos hc] at he
      refine mj_go z_W_putNumber [37] 60 ?_
      refine And.intro (fun d => ?_) (fun d => ?_)
      · simp (disch := (clear d; omega)) only [mj_w_id] at d
        omega
      · clear d
        refine And.intro (by decide) ?_
        refine Exists.intro (((v / 10 : Nat) : Int)) (And.intro ((nu_div (by omega) (by omega) (by omega) (by omega)).trans (by omega)) ?_)
        refine And.intro (by decide) ?_
        refine Exists.intro (((v / 10 % 10 : Nat) : Int)) (And.intro ((nu_rem (by omega) (by omega) (by omega) (by omega)).trans (by omega)) ?_)
        refine Exists.intro ((48 + ((v / 10 % 10 : Nat) : Int))) (And.intro (by first | (rw [mj_w_id (by omega) (by omega)]; done) | (rw [mj_w_id (by omega) (by omega)]; omega) | (unfold mj_w; omega)) ?_)
        refine And.intro h0 (And.intro (Nat.le_of_ble_eq_true rfl) (And.intro (Nat.le_of_ble_eq_true rfl) (And.intro (Nat.le_of_ble_eq_true rfl) (Exists.intro _ (And.intro (ct_W_putByte hW hT (by omega)) ?_)))))
        rintro o1 sh9 FR9 J1 LA9 n9 ⟨z1, z2, z3, z4, hp1⟩
        replace z1 := z1.symm
        subst z1
        replace z2 := z2.symm
        subst z2
        replace z3 := z3.symm
        subst z3
        replace z4 := z4.symm
        subst z4
        obtain ⟨ho, hT1⟩ := hp1
        subst ho
        refine And.intro (Or.inl rfl) ?_
        exact s37 J1 _ hT1 (by rw [List.length_append, List.length_singleton]; omega) (by rw [← he]; simp)
    · rw [if_neg hc] at he
      refine mj_go z_W_putNumber [37] 60 ?_
      refine And.intro (fun d => ?_) (fun d => ?_)
      · exact s37 J ty hT (by omega) (by rw [← he]; simp)
      · simp (disch := (clear d; omega)) only [mj_w_id] at d
        omega
  refine mj_Ct_of (by decide +kernel) (by decide) (Nat.le_of_ble_eq_true rfl) ?_
  refine mj_go z_W_putNumber [17] 60 ?_
  by_cases hc : 100 ≤ v
  · refine And.intro (fun d => ?_) (fun d => ?_)
    · simp (disch := (clear d; omega)) only [mj_w_id] at d
      omega
    · clear d
      refine And.intro (by decide) ?_
      refine Exists.intro (((v / 100 : Nat) : Int)) (And.intro ((nu_div (by omega) (by omega) (by omega) (by omega)).trans (by omega)) ?_)
      refine Exists.intro ((48 + ((v / 100 : Nat) : Int))) (And.intro (by first | (rw [mj_w_id (by omega) (by omega)]; done) | (rw [mj_w_id (by omega) (by omega)]; omega) | (unfold mj_w; omega)) ?_)
      refine And.intro h0 (And.intro (Nat.le_of_ble_eq_true rfl) (And.intro (Nat.le_of_ble_eq_true rfl) (And.intro (Nat.le_of_ble_eq_true rfl) (Exists.intro _ (And.intro (ct_W_putByte hW hT (by omega)) ?_)))))
      rintro o1 sh9 FR9 J1 LA9 n9 ⟨z1, z2, z3, z4, hp1⟩
      replace z1 := z1.symm
      subst z1
      replace z2 := z2.symm
      subst z2
      replace z3 := z3.symm
      subst z3
      replace z4 := z4.symm
      subst z4
      obtain ⟨ho, hT1⟩ := hp1
      subst ho
      refine And.intro (Or.inl rfl) ?_
      exact s17 J1 _ hT1 (by rw [List.length_append, List.length_singleton]; omega) (by unfold wr_n; rw [if_pos hc]; simp)
  · refine And.intro (fun d => ?_) (fun d => ?_)
    · exact s17 J tx hT (by omega) (by unfold wr_n; rw [if_neg hc]; simp)
    · simp (disch := (clear d; omega)) only [mj_w_id] at d
      omega
theorem ct_W_putStep (h : isW sh FR n w) {J : mj_FI} {v : Nat} {tx : List Int} (hT : wr_T IA J w tx) (hl : tx.length + 2 ≤ 4096) (hv : v < 16384) : mj_Ct m_W_putStep [.inr (.inr (.inl w)), .inl v] sh FR J LA n (mj_po (fun o J' => o = .inl none ∧ wr_T IA J' w (tx ++ wr_s v)) sh FR LA n) := by
  have hW := h
  obtain ⟨h0, r1, r2, r3, r4, r5, r6, a1, a2, a3, a4, a5, a6⟩ := h
  refine mj_Ct_of (by decide +kernel) (by decide) (Nat.le_of_ble_eq_true rfl) ?_
  refine mj_go z_W_putStep [] 60 ?_
  by_cases hc : v < 128
  · have e : wr_s v = [(v : Int)] := if_pos hc
    rw [e]
    refine And.intro (fun d => ?_) (fun d => ?_)
    · simp (disch := (clear d; omega)) only [mj_w_id] at d
      omega
    · clear d
      refine And.intro h0 (And.intro (Nat.le_of_ble_eq_true rfl) (And.intro (Nat.le_of_ble_eq_true rfl) (And.intro (Nat.le_of_ble_eq_true rfl) (Exists.intro _ (And.intro (ct_W_putByte hW hT (by omega)) ?_)))))
      rintro o1 sh9 FR9 J1 LA9 n9 ⟨z1, z2, z3, z4, hp1⟩
      replace z1 := z1.symm
      subst z1
      replace z2 := z2.symm
      subst z2
      replace z3 := z3.symm
      subst z3
      replace z4 := z4.symm
      subst z4
      obtain ⟨ho, hT1⟩ := hp1
      subst ho
      refine And.intro (Or.inl rfl) ?_
      exact ⟨⟨rfl, rfl, rfl, rfl, rfl, hT1⟩, Nat.le_of_ble_eq_true rfl, Nat.le_of_ble_eq_true rfl⟩
  · have e : wr_s v = [((v % 128 + 128 : Nat) : Int), ((v / 128 : Nat) : Int)] := if_neg hc
    refine And.intro (fun d => ?_) (fun d => ?_)
    · clear d
      refine And.intro (by decide) ?_
      refine Exists.intro (((v % 128 : Nat) : Int)) (And.intro ((nu_rem (by omega) (by omega) (by omega) (by omega)).trans (by omega)) ?_)
      refine Exists.intro (((v % 128 + 128 : Nat) : Int)) (And.intro (by first | (rw [mj_w_id (by omega) (by omega)]; done) | (rw [mj_w_id (by omega) (by omega)]; omega) | (unfold mj_w; omega)) ?_)
      refine And.intro h0 (And.intro (Nat.le_of_ble_eq_true rfl) (And.intro (Nat.le_of_ble_eq_true rfl) (And.intro (Nat.le_of_ble_eq_true rfl) (Exists.intro _ (And.intro (ct_W_putByte hW hT (by omega)) ?_)))))
      rintro o1 sh9 FR9 J1 LA9 n9 ⟨z1, z2, z3, z4, hp1⟩
      replace z1 := z1.symm
      subst z1
      replace z2 := z2.symm
      subst z2
      replace z3 := z3.symm
      subst z3
      replace z4 := z4.symm
      subst z4
      obtain ⟨ho, hT1⟩ := hp1
      subst ho
      refine And.intro (Or.inl rfl) ?_
      refine And.intro (by decide) ?_
      refine Exists.intro (((v / 128 : Nat) : Int)) (And.intro ((nu_div (by omega) (by omega) (by omega) (by omega)).trans (by omega)) ?_)
      refine And.intro h0 (And.intro (Nat.le_of_ble_eq_true rfl) (And.intro (Nat.le_of_ble_eq_true rfl) (And.intro (Nat.le_of_ble_eq_true rfl) (Exists.intro _ (And.intro (ct_W_putByte hW hT1 (by rw [List.length_append, List.length_singleton]; omega)) ?_)))))
      rintro o2 sh9 FR9 J2 LA9 n9 ⟨z1, z2, z3, z4, hp2⟩
      replace z1 := z1.symm
      subst z1
      replace z2 := z2.symm
      subst z2
      replace z3 := z3.symm
      subst z3
      replace z4 := z4.symm
      subst z4
      obtain ⟨ho, hT2⟩ := hp2
      subst ho
      refine And.intro (Or.inl rfl) ?_
      rw [List.append_assoc] at hT2
      rw [e]
      exact ⟨⟨rfl, rfl, rfl, rfl, rfl, hT2⟩, Nat.le_of_ble_eq_true rfl, Nat.le_of_ble_eq_true rfl⟩
    · simp (disch := (clear d; omega)) only [mj_w_id] at d
      omega
end WW
