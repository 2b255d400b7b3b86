/-! THE REFERENCE: feed, look -/
/-- the tape with i bytes more -/
def md_ad (IA J : mj_FI) (v : BitVec 64) (len i : Nat) : Prop := (∀ q, q ≠ 52 → q ≠ 53 → J q = IA q) ∧ (∀ k, k ≠ 2 → J 52 k = IA 52 k) ∧ J 52 2 = ((len + i : Nat) : Int) ∧ (∀ j, j < i → J 53 (len + j) = tw_by v j) ∧ (∀ j, j < len ∨ len + i ≤ j → J 53 j = IA 53 j)
section MM
variable {sh : mj_Sh} {FR : mj_FR} {IA : mj_FI} {LA : mj_LA} {n : Nat}
set_option maxHeartbeats 1000000 in
theorem ct_M_feed (h : isM sh FR n) {x : Int} {v : BitVec 64} {len : Nat} (ix : mj_i x) (hl : IA 52 2 = (len : Int)) (hl2 : len ≤ 8192) :
    mj_Ct m_M_feed [.inr (.inr (.inl 52)), .inl x, .inr (.inl v)] sh FR IA LA n (mj_po (fun o J => (¬ (1 ≤ x ∧ x ≤ 8) ∧ o = .inl (some (.inl 0)) ∧ J = mj_up IA 52 0 1) ∨ ((1 ≤ x ∧ x ≤ 8) ∧ 8192 < (len : Int) + x ∧ o = .inl (some (.inl 0)) ∧ J = mj_up IA 52 0 2) ∨ ((1 ≤ x ∧ x ≤ 8) ∧ (len : Int) + x ≤ 8192 ∧ o = .inl (some (.inl ((len : Int) + x))) ∧ md_ad (mj_up IA 52 0 0) J v len x.toNat)) sh FR LA n) := by
  generalize hQ : mj_po (fun o J => (¬ (1 ≤ x ∧ x ≤ 8) ∧ o = .inl (some (.inl 0)) ∧ J = mj_up IA 52 0 1) ∨ ((1 ≤ x ∧ x ≤ 8) ∧ 8192 < (len : Int) + x ∧ o = .inl (some (.inl 0)) ∧ J = mj_up IA 52 0 2) ∨ ((1 ≤ x ∧ x ≤ 8) ∧ (len : Int) + x ≤ 8192 ∧ o = .inl (some (.inl ((len : Int) + x))) ∧ md_ad (mj_up IA 52 0 0) J v len x.toNat)) sh FR LA n = Q
  obtain ⟨i1, i2⟩ := ix
  have bad : ∀ y5 : Option mj_V, ¬ (1 ≤ x ∧ x ≤ 8) → mj_G m_M_feed Q 18 [some (.inr (.inr (.inl 52))), some (.inl x), some (.inr (.inl v)), none, some (.inl 1), y5] [] sh FR IA LA n 0 0 := by
    intro y5 hx
    subst hQ
    refine mj_go z_M_feed [] 60 ?_
    refine And.intro (fun d => ?_) (fun d => ?_)
    · clear d
      refine And.intro h.o (And.intro (Nat.le_of_ble_eq_true rfl) (And.intro (Nat.le_of_ble_eq_true rfl) (And.intro (Nat.le_of_ble_eq_true rfl) (Exists.intro _ (And.intro (ct_thr10 h) ?_)))))
      rintro r9 sh9 FR9 IA9 LA9 n9 ⟨z0, z1, z2, z3, z4, z5⟩
      subst z0
      replace z1 := z1.symm
      subst z1
      replace z2 := z2.symm
      subst z2
      replace z3 := z3.symm
      subst z3
      replace z4 := z4.symm
      subst z4
      replace z5 := z5.symm
      subst z5
      refine And.intro (Or.inl rfl) ?_
      refine And.intro (fun d => ?_) (fun d => ?_)
      · exact absurd d (by decide)
      · exact ⟨⟨rfl, rfl, rfl, rfl, Or.inl ⟨hx, rfl, rfl⟩⟩, Nat.le_of_ble_eq_true rfl, Nat.le_of_ble_eq_true rfl⟩
    · exact absurd (show ¬ mj_w 1 = 0 by decide) d
  have good : ∀ y5 : Option mj_V, 1 ≤ x ∧ x ≤ 8 → mj_G m_M_feed Q 18 [some (.inr (.inr (.inl 52))), some (.inl x), some (.inr (.inl v)), none, some (.inl 0), y5] [] sh FR IA LA n 0 0 := by
    intro y5 hx
    by_cases hf : (len : Int) + x ≤ 8192
    · obtain ⟨m, hm⟩ : ∃ m : Nat, x = (m : Int) := ⟨x.toNat, by omega⟩
      subst hm
      have loop : ∀ (t i : Nat) (J : mj_FI), i + t = m → md_ad (mj_up IA 52 0 0) J v len i → mj_G m_M_feed Q 54 [some (.inr (.inr (.inl 52))), some (.inl (m : Int)), some (.inr (.inl v)), none, some (.inl 0), some (.inl i)] [] sh FR J LA n 0 0 := by
        intro t
        induction t with
        | zero =>
          intro i J hi hJ
          have e : i = m := by omega
          subst e
          refine mj_go z_M_feed [] 60 ?_
          refine And.intro (fun d => ?_) (fun d => ?_)
          · clear d
            refine And.intro h.o ?_
            subst hQ
            have e2 := hJ.2.2.1
            rw [e2, Int.natCast_add]
            exact ⟨⟨rfl, rfl, rfl, rfl, Or.inr (Or.inr ⟨hx, hf, rfl, hJ⟩)⟩, Nat.le_of_ble_eq_true rfl, Nat.le_of_ble_eq_true rfl⟩
          · simp (disch := (clear d; omega)) only [mj_w_id] at d
            omega
        | succ t ih =>
          intro i J hi hJ
          obtain ⟨j1, j2, j3, j4, j5⟩ := hJ
          refine mj_go z_M_feed [54] 60 ?_
          refine And.intro (fun d => ?_) (fun d => ?_)
          · simp (disch := (clear d; omega)) only [mj_w_id] at d
            omega
          · clear d
            refine And.intro h.o (Exists.intro _ (And.intro h.r1 ?_))
            refine And.intro h.o ?_
            rw [j3]
            refine Exists.intro (((8 * i : Nat) : Int)) (And.intro (by first | (rw [mj_w_id (by omega) (by omega)]; done) | (rw [mj_w_id (by omega) (by omega)]; omega) | (unfold mj_w; omega)) ?_)
            refine Exists.intro (v.sshiftRight (8 * i)) (And.intro (nu_lsshr _ (by omega)) ?_)
            refine Exists.intro (mj_w (v.sshiftRight (8 * i)).toInt) (And.intro (rfl) ?_)
            refine Exists.intro (tw_by v i) (And.intro (tw_by_s v (by omega)) ?_)
            refine Exists.intro _ (Exists.intro (len + i) (And.intro h.a1 (And.intro (by first | (rw [mj_w_id (by omega) (by omega)]; done) | (rw [mj_w_id (by omega) (by omega)]; omega) | (unfold mj_w; omega)) (And.intro (by omega) ?_))))
            refine And.intro (by decide) ?_
            refine And.intro h.o ?_
            rw [mj_up_ne (show (52 : Nat) ≠ 53 by decide), j3]
            refine Exists.intro (((len + i + 1 : Nat) : Int)) (And.intro (by first | (rw [mj_w_id (by omega) (by omega)]; done) | (rw [mj_w_id (by omega) (by omega)]; omega) | (unfold mj_w; omega)) ?_)
            refine And.intro h.o ?_
            refine Exists.intro (((i + 1 : Nat) : Int)) (And.intro (by first | (rw [mj_w_id (by omega) (by omega)]; done) | (rw [mj_w_id (by omega) (by omega)]; omega) | (unfold mj_w; omega)) ?_)
            refine ih (i + 1) _ (by omega) ⟨fun q q1 q2 => by rw [mj_up_ne q1, mj_up_ne q2]; exact j1 q q1 q2, fun k hk => by rw [mj_up_k hk, mj_up_ne (by decide)]; exact j2 k hk, mj_up_at, fun j hj => ?_, fun j hj => ?_⟩
            · rw [mj_up_ne (by decide), mj_up_row]
              by_cases e : j = i
              · subst e
                rw [mj_u_at]
                unfold tw_by
                rw [mj_b_b]
              · rw [mj_u_ne (by omega)]
                exact j4 j (by omega)
            · rw [mj_up_ne (by decide), mj_up_row, mj_u_ne (by omega)]
              exact j5 j (by omega)
      refine mj_go z_M_feed [54] 60 ?_
      refine And.intro (fun d => ?_) (fun d => ?_)
      · exact absurd (show mj_w 0 = 0 by decide) d
      · clear d
        refine And.intro h.o ?_
        rw [hl]
        refine Exists.intro (((len : Int) + m)) (And.intro (by first | (rw [mj_w_id (by omega) (by omega)]; done) | (rw [mj_w_id (by omega) (by omega)]; omega) | (unfold mj_w; omega)) ?_)
        refine And.intro (fun d => ?_) (fun d => ?_)
        · clear d
          refine And.intro h.o (And.intro (Nat.le_of_ble_eq_true rfl) (And.intro (Nat.le_of_ble_eq_true rfl) (And.intro (Nat.le_of_ble_eq_true rfl) (Exists.intro _ (And.intro (ct_thr00 h) ?_)))))
          rintro r9 sh9 FR9 IA9 LA9 n9 ⟨z0, z1, z2, z3, z4, z5⟩
          subst z0
          replace z1 := z1.symm
          subst z1
          replace z2 := z2.symm
          subst z2
          replace z3 := z3.symm
          subst z3
          replace z4 := z4.symm
          subst z4
          replace z5 := z5.symm
          subst z5
          refine And.intro (Or.inl rfl) ?_
          refine And.intro (fun d => ?_) (fun d => ?_)
          · clear d
            refine loop m 0 _ (by omega) ⟨fun _ _ _ => rfl, fun _ _ => rfl, by rw [mj_up_k (by decide)]; exact hl, fun j hj => by omega, fun _ _ => rfl⟩
          · exact absurd (show mj_w 0 = 0 by decide) d
        · simp (disch := (clear d; omega)) only [mj_w_id] at d
          omega
    · subst hQ
      refine mj_go z_M_feed [] 60 ?_
      refine And.intro (fun d => ?_) (fun d => ?_)
      · exact absurd (show mj_w 0 = 0 by decide) d
      · clear d
        refine And.intro h.o ?_
        rw [hl]
        refine Exists.intro ((len : Int) + x) (And.intro (by first | (rw [mj_w_id (by omega) (by omega)]; done) | (rw [mj_w_id (by omega) (by omega)]; omega) | (unfold mj_w; omega)) ?_)
        refine And.intro (fun d => ?_) (fun d => ?_)
        · simp (disch := (clear d; omega)) only [mj_w_id] at d
          omega
        · clear d
          refine And.intro h.o (And.intro (Nat.le_of_ble_eq_true rfl) (And.intro (Nat.le_of_ble_eq_true rfl) (And.intro (Nat.le_of_ble_eq_true rfl) (Exists.intro _ (And.intro (ct_thr01 h) ?_)))))
          rintro r9 sh9 FR9 IA9 LA9 n9 ⟨z0, z1, z2, z3, z4, z5⟩
          subst z0
          replace z1 := z1.symm
          subst z1
          replace z2 := z2.symm
          subst z2
          replace z3 := z3.symm
          subst z3
          replace z4 := z4.symm
          subst z4
          replace z5 := z5.symm
          subst z5
          refine And.intro (Or.inl rfl) ?_
          refine And.intro (fun d => ?_) (fun d => ?_)
          · exact absurd d (by decide)
          · exact ⟨⟨rfl, rfl, rfl, rfl, Or.inr (Or.inl ⟨hx, by omega, rfl, rfl⟩)⟩, Nat.le_of_ble_eq_true rfl, Nat.le_of_ble_eq_true rfl⟩
  refine mj_Ct_of (by decide +kernel) (by decide) (Nat.le_of_ble_eq_true rfl) ?_
  refine mj_go z_M_feed [18] 60 ?_
  refine And.intro (fun d => ?_) (fun d => ?_)
  · simp (disch := (clear d; omega)) only [mj_w_id] at d
    exact bad _ (by omega)
  · simp (disch := (clear d; omega)) only [mj_w_id] at d
    refine And.intro (fun e => ?_) (fun e => ?_)
    · simp (disch := (clear e; omega)) only [mj_w_id] at e
      exact good _ (by omega)
    · simp (disch := (clear e; omega)) only [mj_w_id] at e
      exact bad _ (by omega)
/-- the greatest depth of the outputs -/
def M_od (IA : mj_FI) (c : Nat) : Nat → Int
  | 0 => 0
  | k + 1 => max (M_od IA c k) (IA 67 (315 * c + M_ro IA c (IA 65 (16 * c + k))))
def M_lk (IA : mj_FI) (c O : Nat) (w : Int) : Int := if w = 0 then IA 55 c else if w = 1 then IA 56 c else if w = 2 then IA 57 c else if w = 3 then IA 58 c else if w = 4 then IA 59 c else if w = 5 then IA 60 c else if w = 6 then M_od IA c O else if w = 7 then IA 52 2 else IA 52 4
theorem M_od_b {IA : mj_FI} {c O : Nat} (hc : c < 2) (hr : M_rr IA) (hD : M_dr IA c) (ho : M_os IA c O) : ∀ k, k ≤ O → 0 ≤ M_od IA c k ∧ M_od IA c k ≤ 1000
  | 0, _ => ⟨by simp [M_od], by simp [M_od]⟩
  | k + 1, hk => by
    have ih := M_od_b hc hr hD ho k (by omega)
    have := hD _ ((ho k (by omega)).row hr (by omega)).2
    simp only [M_od]
    omega
set_option maxHeartbeats 1000000 in
theorem ct_M_look (h : isM sh FR n) {c O : Nat} {w : Int} (hc : c < 2) (hO : IA 57 c = (O : Int)) (hO2 : O ≤ 16) (hr : M_rr IA) (hD : M_dr IA c) (ho : M_os IA c O) (iw : mj_i w) :
    mj_Ct m_M_look [.inr (.inr (.inl 52)), .inl c, .inl w] sh FR IA LA n (mj_po (M_an IA (0 ≤ w ∧ w ≤ 8) (fun o => o = .inl (some (.inl (M_lk IA c O w))))) sh FR LA n) := by
  generalize hQ : mj_po (M_an IA (0 ≤ w ∧ w ≤ 8) (fun o => o = .inl (some (.inl (M_lk IA c O w))))) sh FR LA n = Q
  obtain ⟨i1, i2⟩ := iw
  have bad : ¬ (0 ≤ w ∧ w ≤ 8) → mj_G m_M_look Q 18 [some (.inr (.inr (.inl 52))), some (.inl c), some (.inl w), none, none, none, none] [.inr (.inr (.inl 52))] sh FR IA LA n 0 0 := by
    intro hw
    subst hQ
    refine mj_go z_M_look [] 60 ?_
    refine And.intro h.o (And.intro (Nat.le_of_ble_eq_true rfl) (And.intro (Nat.le_of_ble_eq_true rfl) (And.intro (Nat.le_of_ble_eq_true rfl) (Exists.intro _ (And.intro (ct_thr10 h) ?_)))))
    rintro r9 sh9 FR9 IA9 LA9 n9 ⟨z0, z1, z2, z3, z4, z5⟩
    subst z0
    replace z1 := z1.symm
    subst z1
    replace z2 := z2.symm
    subst z2
    replace z3 := z3.symm
    subst z3
    replace z4 := z4.symm
    subst z4
    replace z5 := z5.symm
    subst z5
    refine And.intro (Or.inl rfl) ?_
    refine And.intro (fun d => ?_) (fun d => ?_)
    · exact absurd d (by decide)
    · exact ⟨⟨rfl, rfl, rfl, rfl, Or.inr ⟨hw, rfl, rfl⟩⟩, Nat.le_of_ble_eq_true rfl, Nat.le_of_ble_eq_true rfl⟩
  by_cases hw : 0 ≤ w ∧ w ≤ 8
  · have e57 : (mj_up IA 52 0 0) 57 = IA 57 := mj_up_ne (by decide)
    have e65 : (mj_up IA 52 0 0) 65 = IA 65 := mj_up_ne (by decide)
    have e66 : (mj_up IA 52 0 0) 66 = IA 66 := mj_up_ne (by decide)
    have e67 : (mj_up IA 52 0 0) 67 = IA 67 := mj_up_ne (by decide)
    have fin : ∀ y6 : Option mj_V, mj_G m_M_look Q 103 [some (.inr (.inr (.inl 52))), some (.inl c), some (.inl w), some (.inl c), some (.inl (M_od IA c O)), some (.inl O), y6] [] sh FR (mj_up IA 52 0 0) LA n 0 0 := by
      intro y6
      subst hQ
      refine mj_go z_M_look [] 60 ?_
      refine And.intro (fun i t ht hz => ?_) (fun hd => ?_)
      · rw [mj_w_id i1 i2] at hz
        subst hz
        have hi : i < 8 := by
          by_cases z : i < 8
          · exact z
          · rw [List.getElem?_eq_none (by simp; omega)] at ht
            cases ht
        rcases (show i = 0 ∨ i = 1 ∨ i = 2 ∨ i = 3 ∨ i = 4 ∨ i = 5 ∨ i = 6 ∨ i = 7 by omega) with e | e | e | e | e | e | e | e
        · subst e
          cases ht
          refine And.intro h.o (Exists.intro _ (And.intro h.r5 ?_))
          refine Exists.intro _ (Exists.intro (c) (And.intro h.a5 (And.intro (by first | (rw [mj_w_id (by omega) (by omega)]; done) | (rw [mj_w_id (by omega) (by omega)]; omega) | (unfold mj_w; omega)) (And.intro (by omega) ?_))))
          rw [mj_up_ne (show (55 : Nat) ≠ 52 by decide)]
          exact ⟨⟨rfl, rfl, rfl, rfl, Or.inl ⟨hw, rfl, rfl⟩⟩, Nat.le_of_ble_eq_true rfl, Nat.le_of_ble_eq_true rfl⟩
        · subst e
          cases ht
          refine And.intro h.o (Exists.intro _ (And.intro h.r6 ?_))
          refine Exists.intro _ (Exists.intro (c) (And.intro h.a6 (And.intro (by first | (rw [mj_w_id (by omega) (by omega)]; done) | (rw [mj_w_id (by omega) (by omega)]; omega) | (unfold mj_w; omega)) (And.intro (by omega) ?_))))
          rw [mj_up_ne (show (56 : Nat) ≠ 52 by decide)]
          exact ⟨⟨rfl, rfl, rfl, rfl, Or.inl ⟨hw, rfl, rfl⟩⟩, Nat.le_of_ble_eq_true rfl, Nat.le_of_ble_eq_true rfl⟩
        · subst e
          cases ht
          refine And.intro h.o (Exists.intro _ (And.intro h.r7 ?_))
          refine Exists.intro _ (Exists.intro (c) (And.intro h.a7 (And.intro (by first | (rw [mj_w_id (by omega) (by omega)]; done) | (rw [mj_w_id (by omega) (by omega)]; omega) | (unfold mj_w; omega)) (And.intro (by omega) ?_))))
          rw [mj_up_ne (show (57 : Nat) ≠ 52 by decide)]
          exact ⟨⟨rfl, rfl, rfl, rfl, Or.inl ⟨hw, rfl, rfl⟩⟩, Nat.le_of_ble_eq_true rfl, Nat.le_of_ble_eq_true rfl⟩
        · subst e
          cases ht
          refine And.intro h.o (Exists.intro _ (And.intro h.r8 ?_))
          refine Exists.intro _ (Exists.intro (c) (And.intro h.a8 (And.intro (by first | (rw [mj_w_id (by omega) (by omega)]; done) | (rw [mj_w_id (by omega) (by omega)]; omega) | (unfold mj_w; omega)) (And.intro (by omega) ?_))))
          rw [mj_up_ne (show (58 : Nat) ≠ 52 by decide)]
          exact ⟨⟨rfl, rfl, rfl, rfl, Or.inl ⟨hw, rfl, rfl⟩⟩, Nat.le_of_ble_eq_true rfl, Nat.le_of_ble_eq_true rfl⟩
        · subst e
          cases ht
          refine And.intro h.o (Exists.intro _ (And.intro h.r9 ?_))
          refine Exists.intro _ (Exists.intro (c) (And.intro h.a9 (And.intro (by first | (rw [mj_w_id (by omega) (by omega)]; done) | (rw [mj_w_id (by omega) (by omega)]; omega) | (unfold mj_w; omega)) (And.intro (by omega) ?_))))
          rw [mj_up_ne (show (59 : Nat) ≠ 52 by decide)]
          exact ⟨⟨rfl, rfl, rfl, rfl, Or.inl ⟨hw, rfl, rfl⟩⟩, Nat.le_of_ble_eq_true rfl, Nat.le_of_ble_eq_true rfl⟩
        · subst e
          cases ht
          refine And.intro h.o (Exists.intro _ (And.intro h.r10 ?_))
          refine Exists.intro _ (Exists.intro (c) (And.intro h.a10 (And.intro (by first | (rw [mj_w_id (by omega) (by omega)]; done) | (rw [mj_w_id (by omega) (by omega)]; omega) | (unfold mj_w; omega)) (And.intro (by omega) ?_))))
          rw [mj_up_ne (show (60 : Nat) ≠ 52 by decide)]
          exact ⟨⟨rfl, rfl, rfl, rfl, Or.inl ⟨hw, rfl, rfl⟩⟩, Nat.le_of_ble_eq_true rfl, Nat.le_of_ble_eq_true rfl⟩
        · subst e
          cases ht
          exact ⟨⟨rfl, rfl, rfl, rfl, Or.inl ⟨hw, rfl, rfl⟩⟩, Nat.le_of_ble_eq_true rfl, Nat.le_of_ble_eq_true rfl⟩
        · subst e
          cases ht
          refine And.intro h.o ?_
          rw [mj_up_k (show (2 : Nat) ≠ 0 by decide)]
          exact ⟨⟨rfl, rfl, rfl, rfl, Or.inl ⟨hw, rfl, rfl⟩⟩, Nat.le_of_ble_eq_true rfl, Nat.le_of_ble_eq_true rfl⟩
      · rw [mj_w_id i1 i2] at hd
        have hd : w < 0 ∨ 8 ≤ w := hd
        have e : w = 8 := by omega
        subst e
        refine And.intro h.o ?_
        rw [mj_up_k (show (4 : Nat) ≠ 0 by decide)]
        exact ⟨⟨rfl, rfl, rfl, rfl, Or.inl ⟨hw, rfl, rfl⟩⟩, Nat.le_of_ble_eq_true rfl, Nat.le_of_ble_eq_true rfl⟩
    have loop : ∀ (t k : Nat) (y6 : Option mj_V), k + t = O → mj_G m_M_look Q 40 [some (.inr (.inr (.inl 52))), some (.inl c), some (.inl w), some (.inl c), some (.inl (M_od IA c k)), some (.inl k), y6] [] sh FR (mj_up IA 52 0 0) LA n 0 0 := by
      intro t
      induction t with
      | zero =>
        intro k y6 hk
        have e : k = O := by omega
        subst e
        refine mj_go z_M_look [40, 103] 60 ?_
        refine And.intro h.o (Exists.intro _ (And.intro h.r7 ?_))
        refine Exists.intro _ (Exists.intro (c) (And.intro h.a7 (And.intro (by first | (rw [mj_w_id (by omega) (by omega)]; done) | (rw [mj_w_id (by omega) (by omega)]; omega) | (unfold mj_w; omega)) (And.intro (by omega) ?_))))
        rw [e57, hO]
        refine And.intro (fun d => ?_) (fun d => ?_)
        · exact fin y6
        · simp (disch := (clear d; omega)) only [mj_w_id] at d
          omega
      | succ t ih =>
        intro k y6 hk
        have st := ho k (by omega)
        obtain ⟨q1, q2⟩ := st.row hr (by omega)
        have hd := hD _ q2
        have hb := M_od_b hc hr hD ho k (by omega)
        have nx : ∀ (z : Int) (y6 : Option mj_V), z = M_od IA c (k + 1) → mj_G m_M_look Q 95 [some (.inr (.inr (.inl 52))), some (.inl c), some (.inl w), some (.inl c), some (.inl (M_od IA c k)), some (.inl k), y6] [.inl z] sh FR (mj_up IA 52 0 0) LA n 0 0 := by
          intro z y6 hz
          subst hz
          clear q1
          refine mj_go z_M_look [40] 60 ?_
          refine Exists.intro (((k + 1 : Nat) : Int)) (And.intro (by first | (rw [mj_w_id (by omega) (by omega)]; done) | (rw [mj_w_id (by omega) (by omega)]; omega) | (unfold mj_w; omega)) ?_)
          exact ih (k + 1) y6 (by omega)
        have hs : M_od IA c (k + 1) = max (M_od IA c k) (IA 67 (315 * c + M_ro IA c (IA 65 (16 * c + k)))) := rfl
        refine mj_go z_M_look [40, 95] 60 ?_
        refine And.intro h.o (Exists.intro _ (And.intro h.r7 ?_))
        refine Exists.intro _ (Exists.intro (c) (And.intro h.a7 (And.intro (by first | (rw [mj_w_id (by omega) (by omega)]; done) | (rw [mj_w_id (by omega) (by omega)]; omega) | (unfold mj_w; omega)) (And.intro (by omega) ?_))))
        rw [e57, hO]
        refine And.intro (fun d => ?_) (fun d => ?_)
        · clear q1
          simp (disch := (clear d; omega)) only [mj_w_id] at d
          omega
        · clear d
          refine And.intro h.o (Exists.intro _ (And.intro h.r17 ?_))
          refine Exists.intro (((315 * c : Nat) : Int)) (And.intro (by first | (rw [mj_w_id (by omega) (by omega)]; done) | (rw [mj_w_id (by omega) (by omega)]; omega) | (unfold mj_w; omega)) ?_)
          refine And.intro h.o (Exists.intro _ (And.intro h.r15 ?_))
          refine Exists.intro (((16 * c : Nat) : Int)) (And.intro (by first | (rw [mj_w_id (by omega) (by omega)]; done) | (rw [mj_w_id (by omega) (by omega)]; omega) | (unfold mj_w; omega)) ?_)
          refine Exists.intro (((16 * c + k : Nat) : Int)) (And.intro (by first | (rw [mj_w_id (by omega) (by omega)]; done) | (rw [mj_w_id (by omega) (by omega)]; omega) | (unfold mj_w; omega)) ?_)
          refine Exists.intro _ (Exists.intro (16 * c + k) (And.intro h.a15 (And.intro (by first | (rw [mj_w_id (by omega) (by omega)]; done) | (rw [mj_w_id (by omega) (by omega)]; omega) | (unfold mj_w; omega)) (And.intro (by omega) ?_))))
          rw [e65]
          refine And.intro h.o (And.intro (Nat.le_of_ble_eq_true rfl) (And.intro (Nat.le_of_ble_eq_true rfl) (And.intro (Nat.le_of_ble_eq_true rfl) (Exists.intro _ (And.intro (ct_M_rowAt h (by omega) st.1 st.2.1) ?_)))))
          rintro r9 sh9 FR9 IA9 LA9 n9 ⟨z0, z1, z2, z3, z4, z5⟩
          subst z0
          replace z1 := z1.symm
          subst z1
          replace z2 := z2.symm
          subst z2
          replace z3 := z3.symm
          subst z3
          replace z4 := z4.symm
          subst z4
          replace z5 := z5.symm
          subst z5
          refine And.intro (Or.inl rfl) ?_
          rw [e66, q1]
          clear q1
          refine Exists.intro (((315 * c + M_ro IA c (IA 65 (16 * c + k)) : Nat) : Int)) (And.intro (by first | (rw [mj_w_id (by omega) (by omega)]; done) | (rw [mj_w_id (by omega) (by omega)]; omega) | (unfold mj_w; omega)) ?_)
          refine Exists.intro _ (Exists.intro (315 * c + M_ro IA c (IA 65 (16 * c + k))) (And.intro h.a17 (And.intro (by first | (rw [mj_w_id (by omega) (by omega)]; done) | (rw [mj_w_id (by omega) (by omega)]; omega) | (unfold mj_w; omega)) (And.intro (by omega) ?_))))
          rw [e67]
          refine And.intro (fun d => ?_) (fun d => ?_)
          · simp (disch := (clear d; omega)) only [mj_w_id] at d
            exact nx _ _ (by omega)
          · simp (disch := (clear d; omega)) only [mj_w_id] at d
            exact nx _ _ (by omega)
    refine mj_Ct_of (by decide +kernel) (by decide) (Nat.le_of_ble_eq_true rfl) ?_
    refine mj_go z_M_look [40] 60 ?_
    refine And.intro (by trivial) (And.intro (Nat.le_of_ble_eq_true rfl) (And.intro (Nat.le_of_ble_eq_true rfl) (And.intro (Nat.le_of_ble_eq_true rfl) (Exists.intro _ (And.intro (ct_isC1 hc) ?_)))))
    rintro r9 sh9 FR9 IA9 LA9 n9 ⟨z0, z1, z2, z3, z4, z5⟩
    subst z0
    replace z1 := z1.symm
    subst z1
    replace z2 := z2.symm
    subst z2
    replace z3 := z3.symm
    subst z3
    replace z4 := z4.symm
    subst z4
    replace z5 := z5.symm
    subst z5
    refine And.intro (Or.inl rfl) ?_
    refine And.intro (fun d => ?_) (fun d => ?_)
    · exact absurd d (by decide)
    clear d
    refine And.intro (fun d => ?_) (fun d => ?_)
    · simp (disch := (clear d; omega)) only [mj_w_id] at d
      omega
    · clear d
      refine And.intro (fun d => ?_) (fun d => ?_)
      · clear d
        refine And.intro h.o (And.intro (Nat.le_of_ble_eq_true rfl) (And.intro (Nat.le_of_ble_eq_true rfl) (And.intro (Nat.le_of_ble_eq_true rfl) (Exists.intro _ (And.intro (ct_thr00 h) ?_)))))
        rintro r9 sh9 FR9 IA9 LA9 n9 ⟨z0, z1, z2, z3, z4, z5⟩
        subst z0
        replace z1 := z1.symm
        subst z1
        replace z2 := z2.symm
        subst z2
        replace z3 := z3.symm
        subst z3
        replace z4 := z4.symm
        subst z4
        replace z5 := z5.symm
        subst z5
        refine And.intro (Or.inl rfl) ?_
        refine And.intro (fun d => ?_) (fun d => ?_)
        · exact loop O 0 _ (by omega)
        · exact absurd (show mj_w 0 = 0 by decide) d
      · simp (disch := (clear d; omega)) only [mj_w_id] at d
        omega
  · refine mj_Ct_of (by decide +kernel) (by decide) (Nat.le_of_ble_eq_true rfl) ?_
    refine mj_go z_M_look [18] 60 ?_
    refine And.intro (by trivial) (And.intro (Nat.le_of_ble_eq_true rfl) (And.intro (Nat.le_of_ble_eq_true rfl) (And.intro (Nat.le_of_ble_eq_true rfl) (Exists.intro _ (And.intro (ct_isC1 hc) ?_)))))
    rintro r9 sh9 FR9 IA9 LA9 n9 ⟨z0, z1, z2, z3, z4, z5⟩
    subst z0
    replace z1 := z1.symm
    subst z1
    replace z2 := z2.symm
    subst z2
    replace z3 := z3.symm
    subst z3
    replace z4 := z4.symm
    subst z4
    replace z5 := z5.symm
    subst z5
    refine And.intro (Or.inl rfl) ?_
    refine And.intro (fun d => ?_) (fun d => ?_)
    · exact absurd d (by decide)
    clear d
    refine And.intro (fun d => ?_) (fun d => ?_)
    · exact bad hw
    · simp (disch := (clear d; omega)) only [mj_w_id] at d
      refine And.intro (fun e => ?_) (fun e => ?_)
      · simp (disch := (clear e; omega)) only [mj_w_id] at e
        omega
      · exact bad hw
end MM
