/-! THE REFERENCE: take -/
/-- a row with i cells from b on copied to a -/
def cpr (f : Nat → Int) (a b i : Nat) : Nat → Int := fun j => if a ≤ j ∧ j < a + i then f (b + (j - a)) else f j
theorem cpr_0 {f : Nat → Int} {a b : Nat} : cpr f a b 0 = f := by
  funext j
  unfold cpr
  rw [if_neg (by omega)]
theorem cpr_s {f : Nat → Int} {a b i : Nat} : mj_u (cpr f a b i) (a + i) (f (b + i)) = cpr f a b (i + 1) := by
  funext j
  unfold mj_u cpr
  by_cases e : j = a + i
  · rw [if_pos e, if_pos (by omega), e, show a + i - a = i by omega]
  · rw [if_neg e]
    by_cases e2 : a ≤ j ∧ j < a + i
    · rw [if_pos e2, if_pos (by omega)]
    · rw [if_neg e2, if_neg (by omega)]
theorem cpr_r {f : Nat → Int} {a b i k : Nat} (h : a + i ≤ b) : cpr f a b i (b + k) = f (b + k) := by
  unfold cpr
  rw [if_neg (by omega)]
theorem cpr_at {f : Nat → Int} {a b i k : Nat} (h : k < i) : cpr f a b i (a + k) = f (b + k) := by
  unfold cpr
  rw [if_pos (by omega), show a + k - a = k by omega]
theorem cpr_o {f : Nat → Int} {a b i j : Nat} (h : j < a ∨ a + i ≤ j) : cpr f a b i j = f j := by
  unfold cpr
  rw [if_neg (by omega)]
/-- take, so far: k1.. cells copied -/
def tk (IA J : mj_FI) (c k1 k2 k3 k4 k5 : Nat) : Prop := (∀ q, (q < 55 ∨ 68 < q ∨ q = 59 ∨ q = 60) → J q = IA q) ∧ (∀ q, 55 ≤ q → q ≤ 58 → J q = mj_u (IA q) c (IA q 2)) ∧ J 61 = cpr (IA 61) (14 * c) 28 k1 ∧ J 65 = cpr (IA 65) (16 * c) 32 k2 ∧ J 62 = cpr (IA 62) (300 * c) 600 k3 ∧ J 63 = cpr (IA 63) (300 * c) 600 k3 ∧ J 64 = cpr (IA 64) (300 * c) 600 k3 ∧ J 68 = cpr (IA 68) (300 * c) 600 k3 ∧ J 66 = cpr (IA 66) (1001 * c) 2002 k4 ∧ J 67 = cpr (IA 67) (315 * c) 630 k5
section MM
variable {sh : mj_Sh} {FR : mj_FR} {IA : mj_FI} {LA : mj_LA} {n : Nat}
set_option maxHeartbeats 4000000 in
theorem ct_M_take (h : isM sh FR n) {c I G : Nat} {X Y : Nat → Nat} {od : List Nat} (hc : c < 2) (hI : IA 55 2 = (I : Int)) (hI2 : I ≤ 14) (hG : IA 56 2 = (G : Int)) (hG2 : G ≤ 300) (hod : od.length = G) (hol : ∀ i s : Nat, od[i]? = some s → IA 68 (600 + i) = (s : Int)) (hlt : ∀ k ∈ od, k < G) (hall : ∀ k, k < G → k ∈ od) (hX : mX IA G X Y) (htop : ∀ xs k ys, od = xs ++ k :: ys → ∀ j ∈ k :: ys, X k ≠ 15 + j ∧ Y k ≠ 15 + j) (hnd : od.Nodup) :
    mj_Ct m_M_take [.inr (.inr (.inl 52)), .inl c] sh FR IA LA n (mj_pl (fun o J K => tk IA J c 14 16 300 1001 315 ∧ mf_q J LA c I G X Y o J K) sh FR n) := by
  generalize hQ : mj_pl (fun o J K => tk IA J c 14 16 300 1001 315 ∧ mf_q J LA c I G X Y o J K) sh FR n = Q
  have l5 : ∀ (t k : Nat) (J : mj_FI), k + t = 315 → tk IA J c 14 16 300 1001 k → mj_G m_M_take Q 258 [some (.inr (.inr (.inl 52))), some (.inl c), some (.inl k)] [] sh FR J LA n 0 0 := by
    intro t
    induction t with
    | zero =>
      intro k J hk hJ
      have e : k = 315 := by omega
      subst e
      obtain ⟨t1, t2, t3, t4, t5, t6, t7, t8, t9, t10⟩ := id hJ
      have i1 : J 55 c = (I : Int) := by rw [t2 55 (by omega) (by omega), mj_u_at]; exact hI
      have g1 : J 56 c = (G : Int) := by rw [t2 56 (by omega) (by omega), mj_u_at]; exact hG
      have o1 : ∀ i s : Nat, od[i]? = some s → J 68 (300 * c + i) = (s : Int) := by
        intro i s hi
        have hil := (List.getElem?_eq_some_iff.mp hi).1
        rw [t8, cpr_at (by omega)]
        exact hol i s hi
      have x1 : mXc J c G X Y := by
        intro k hk
        have q := hX k hk
        rw [t6, t7, t9, cpr_at (by omega), cpr_at (by omega)]
        rw [cpr_at (by omega), cpr_at (by omega)]
        exact q
      subst hQ
      clear hol hX
      refine mj_go z_M_take [258] 60 ?_
      refine And.intro (fun d => ?_) (fun d => ?_)
      · refine And.intro h.o (And.intro (Nat.le_of_ble_eq_true rfl) (And.intro (Nat.le_of_ble_eq_true rfl) (And.intro (Nat.le_of_ble_eq_true rfl) (Exists.intro _ (And.intro (ct_M_fillTables h hc i1 hI2 g1 hG2 hod o1 hlt hall x1 htop hnd) ?_)))))
        rintro o1 sh9 FR9 J1 K1 n9 ⟨z1, z2, z3, hp1⟩
        replace z1 := z1.symm
        subst z1
        replace z2 := z2.symm
        subst z2
        replace z3 := z3.symm
        subst z3
        have hp2 := hp1.2.1
        have ho := hp1.1
        subst ho
        subst hp2
        refine And.intro (Or.inl rfl) ?_
        exact ⟨⟨rfl, rfl, rfl, ⟨hJ, hp1⟩⟩, Nat.le_of_ble_eq_true rfl, Nat.le_of_ble_eq_true rfl⟩
      · exact absurd d (by decide)
    | succ t ih =>
      intro k J hk hJ
      obtain ⟨t1, t2, t3, t4, t5, t6, t7, t8, t9, t10⟩ := hJ
      have nx := ih (k + 1) (mj_up J 67 (315 * c + k) (IA 67 (630 + k))) (by omega) ⟨fun q hq => by rw [mj_up_ne (by omega)]; exact t1 q hq, fun q q1 q2 => by rw [mj_up_ne (by omega)]; exact t2 q q1 q2, by rw [mj_up_ne (by omega)]; exact t3, by rw [mj_up_ne (by omega)]; exact t4, by rw [mj_up_ne (by omega)]; exact t5, by rw [mj_up_ne (by omega)]; exact t6, by rw [mj_up_ne (by omega)]; exact t7, by rw [mj_up_ne (by omega)]; exact t8, by rw [mj_up_ne (by omega)]; exact t9, by rw [mj_up_row, t10, cpr_s]⟩
      have rd : J 67 (630 + k) = IA 67 (630 + k) := by rw [t10, cpr_r (by omega)]
      clear ih hol htop hX
      refine mj_go z_M_take [258] 60 ?_
      refine And.intro (fun d => ?_) (fun d => ?_)
      · simp (disch := (clear d; omega)) only [mj_w_id] at d
        omega
      · clear d
        refine And.intro h.o (Exists.intro _ (And.intro h.r17 ?_))
        refine Exists.intro (((315 * c : Nat) : Int)) (And.intro (by first | (rw [mj_w_id (by omega) (by omega)]; done) | (rw [mj_w_id (by omega) (by omega)]; omega) | (unfold mj_w; omega)) ?_)
        refine Exists.intro (((315 * c + k : Nat) : Int)) (And.intro (by first | (rw [mj_w_id (by omega) (by omega)]; done) | (rw [mj_w_id (by omega) (by omega)]; omega) | (unfold mj_w; omega)) ?_)
        refine And.intro h.o (Exists.intro _ (And.intro h.r17 ?_))
        refine Exists.intro (((630 + k : Nat) : Int)) (And.intro (by first | (rw [mj_w_id (by omega) (by omega)]; done) | (rw [mj_w_id (by omega) (by omega)]; omega) | (unfold mj_w; omega)) ?_)
        refine Exists.intro _ (Exists.intro (630 + k) (And.intro h.a17 (And.intro (by first | (rw [mj_w_id (by omega) (by omega)]; done) | (rw [mj_w_id (by omega) (by omega)]; omega) | (unfold mj_w; omega)) (And.intro (by omega) ?_))))
        rw [rd]
        refine Exists.intro _ (Exists.intro (315 * c + k) (And.intro h.a17 (And.intro (by first | (rw [mj_w_id (by omega) (by omega)]; done) | (rw [mj_w_id (by omega) (by omega)]; omega) | (unfold mj_w; omega)) (And.intro (by omega) ?_))))
        refine Exists.intro (((k + 1 : Nat) : Int)) (And.intro (by first | (rw [mj_w_id (by omega) (by omega)]; done) | (rw [mj_w_id (by omega) (by omega)]; omega) | (unfold mj_w; omega)) ?_)
        exact nx
  have l4 : ∀ (t k : Nat) (J : mj_FI), k + t = 1001 → tk IA J c 14 16 300 k 0 → mj_G m_M_take Q 221 [some (.inr (.inr (.inl 52))), some (.inl c), some (.inl k)] [] sh FR J LA n 0 0 := by
    intro t
    induction t with
    | zero =>
      intro k J hk hJ
      have e : k = 1001 := by omega
      subst e
      refine mj_go z_M_take [221, 258] 60 ?_
      refine And.intro (fun d => ?_) (fun d => ?_)
      · exact l5 315 0 J (by omega) hJ
      · exact absurd d (by decide)
    | succ t ih =>
      intro k J hk hJ
      obtain ⟨t1, t2, t3, t4, t5, t6, t7, t8, t9, t10⟩ := hJ
      have nx := ih (k + 1) (mj_up J 66 (1001 * c + k) (IA 66 (2002 + k))) (by omega) ⟨fun q hq => by rw [mj_up_ne (by omega)]; exact t1 q hq, fun q q1 q2 => by rw [mj_up_ne (by omega)]; exact t2 q q1 q2, by rw [mj_up_ne (by omega)]; exact t3, by rw [mj_up_ne (by omega)]; exact t4, by rw [mj_up_ne (by omega)]; exact t5, by rw [mj_up_ne (by omega)]; exact t6, by rw [mj_up_ne (by omega)]; exact t7, by rw [mj_up_ne (by omega)]; exact t8, by rw [mj_up_row, t9, cpr_s], by rw [mj_up_ne (by omega)]; exact t10⟩
      have rd : J 66 (2002 + k) = IA 66 (2002 + k) := by rw [t9, cpr_r (by omega)]
      clear ih hol htop hX l5
      refine mj_go z_M_take [221] 60 ?_
      refine And.intro (fun d => ?_) (fun d => ?_)
      · simp (disch := (clear d; omega)) only [mj_w_id] at d
        omega
      · clear d
        refine And.intro h.o (Exists.intro _ (And.intro h.r16 ?_))
        refine Exists.intro (((1001 * c : Nat) : Int)) (And.intro (by first | (rw [mj_w_id (by omega) (by omega)]; done) | (rw [mj_w_id (by omega) (by omega)]; omega) | (unfold mj_w; omega)) ?_)
        refine Exists.intro (((1001 * c + k : Nat) : Int)) (And.intro (by first | (rw [mj_w_id (by omega) (by omega)]; done) | (rw [mj_w_id (by omega) (by omega)]; omega) | (unfold mj_w; omega)) ?_)
        refine And.intro h.o (Exists.intro _ (And.intro h.r16 ?_))
        refine Exists.intro (((2002 + k : Nat) : Int)) (And.intro (by first | (rw [mj_w_id (by omega) (by omega)]; done) | (rw [mj_w_id (by omega) (by omega)]; omega) | (unfold mj_w; omega)) ?_)
        refine Exists.intro _ (Exists.intro (2002 + k) (And.intro h.a16 (And.intro (by first | (rw [mj_w_id (by omega) (by omega)]; done) | (rw [mj_w_id (by omega) (by omega)]; omega) | (unfold mj_w; omega)) (And.intro (by omega) ?_))))
        rw [rd]
        refine Exists.intro _ (Exists.intro (1001 * c + k) (And.intro h.a16 (And.intro (by first | (rw [mj_w_id (by omega) (by omega)]; done) | (rw [mj_w_id (by omega) (by omega)]; omega) | (unfold mj_w; omega)) (And.intro (by omega) ?_))))
        refine Exists.intro (((k + 1 : Nat) : Int)) (And.intro (by first | (rw [mj_w_id (by omega) (by omega)]; done) | (rw [mj_w_id (by omega) (by omega)]; omega) | (unfold mj_w; omega)) ?_)
        exact nx
  have l3 : ∀ (t k : Nat) (J : mj_FI), k + t = 300 → tk IA J c 14 16 k 0 0 → mj_G m_M_take Q 118 [some (.inr (.inr (.inl 52))), some (.inl c), some (.inl k)] [] sh FR J LA n 0 0 := by
    intro t
    induction t with
    | zero =>
      intro k J hk hJ
      have e : k = 300 := by omega
      subst e
      refine mj_go z_M_take [118, 221] 60 ?_
      refine And.intro (fun d => ?_) (fun d => ?_)
      · exact l4 1001 0 J (by omega) hJ
      · exact absurd d (by decide)
    | succ t ih =>
      intro k J hk hJ
      obtain ⟨t1, t2, t3, t4, t5, t6, t7, t8, t9, t10⟩ := hJ
      have nx := ih (k + 1) (mj_up (mj_up (mj_up (mj_up J 62 (300 * c + k) (IA 62 (600 + k))) 63 (300 * c + k) (IA 63 (600 + k))) 64 (300 * c + k) (IA 64 (600 + k))) 68 (300 * c + k) (IA 68 (600 + k))) (by omega) ⟨fun q hq => by rw [mj_up_ne (by omega), mj_up_ne (by omega), mj_up_ne (by omega), mj_up_ne (by omega)]; exact t1 q hq, fun q q1 q2 => by rw [mj_up_ne (by omega), mj_up_ne (by omega), mj_up_ne (by omega), mj_up_ne (by omega)]; exact t2 q q1 q2, by rw [mj_up_ne (by omega), mj_up_ne (by omega), mj_up_ne (by omega), mj_up_ne (by omega)]; exact t3, by rw [mj_up_ne (by omega), mj_up_ne (by omega), mj_up_ne (by omega), mj_up_ne (by omega)]; exact t4, by rw [mj_up_ne (by omega), mj_up_ne (by omega), mj_up_ne (by omega), mj_up_row, t5, cpr_s], by rw [mj_up_ne (by omega), mj_up_ne (by omega), mj_up_row, mj_up_ne (by omega), t6, cpr_s], by rw [mj_up_ne (by omega), mj_up_row, mj_up_ne (by omega), mj_up_ne (by omega), t7, cpr_s], by rw [mj_up_row, mj_up_ne (by omega), mj_up_ne (by omega), mj_up_ne (by omega), t8, cpr_s], by rw [mj_up_ne (by omega), mj_up_ne (by omega), mj_up_ne (by omega), mj_up_ne (by omega)]; exact t9, by rw [mj_up_ne (by omega), mj_up_ne (by omega), mj_up_ne (by omega), mj_up_ne (by omega)]; exact t10⟩
      have r2 : J 62 (600 + k) = IA 62 (600 + k) := by rw [t5, cpr_r (by omega)]
      have r3 : J 63 (600 + k) = IA 63 (600 + k) := by rw [t6, cpr_r (by omega)]
      have r4 : J 64 (600 + k) = IA 64 (600 + k) := by rw [t7, cpr_r (by omega)]
      have r8 : J 68 (600 + k) = IA 68 (600 + k) := by rw [t8, cpr_r (by omega)]
      clear ih hol htop hX l5 l4
      refine mj_go z_M_take [118] 120 ?_
      refine And.intro (fun d => ?_) (fun d => ?_)
      · simp (disch := (clear d; omega)) only [mj_w_id] at d
        omega
      · clear d
        refine And.intro h.o (Exists.intro _ (And.intro h.r12 ?_))
        refine Exists.intro (((300 * c : Nat) : Int)) (And.intro (by first | (rw [mj_w_id (by omega) (by omega)]; done) | (rw [mj_w_id (by omega) (by omega)]; omega) | (unfold mj_w; omega)) ?_)
        refine Exists.intro (((300 * c + k : Nat) : Int)) (And.intro (by first | (rw [mj_w_id (by omega) (by omega)]; done) | (rw [mj_w_id (by omega) (by omega)]; omega) | (unfold mj_w; omega)) ?_)
        refine And.intro h.o (Exists.intro _ (And.intro h.r12 ?_))
        refine Exists.intro (((600 + k : Nat) : Int)) (And.intro (by first | (rw [mj_w_id (by omega) (by omega)]; done) | (rw [mj_w_id (by omega) (by omega)]; omega) | (unfold mj_w; omega)) ?_)
        refine Exists.intro _ (Exists.intro (600 + k) (And.intro h.a12 (And.intro (by first | (rw [mj_w_id (by omega) (by omega)]; done) | (rw [mj_w_id (by omega) (by omega)]; omega) | (unfold mj_w; omega)) (And.intro (by omega) ?_))))
        rw [r2]
        refine Exists.intro _ (Exists.intro (300 * c + k) (And.intro h.a12 (And.intro (by first | (rw [mj_w_id (by omega) (by omega)]; done) | (rw [mj_w_id (by omega) (by omega)]; omega) | (unfold mj_w; omega)) (And.intro (by omega) ?_))))
        refine And.intro h.o (Exists.intro _ (And.intro h.r13 ?_))
        refine Exists.intro (((300 * c : Nat) : Int)) (And.intro (by first | (rw [mj_w_id (by omega) (by omega)]; done) | (rw [mj_w_id (by omega) (by omega)]; omega) | (unfold mj_w; omega)) ?_)
        refine Exists.intro (((300 * c + k : Nat) : Int)) (And.intro (by first | (rw [mj_w_id (by omega) (by omega)]; done) | (rw [mj_w_id (by omega) (by omega)]; omega) | (unfold mj_w; omega)) ?_)
        refine And.intro h.o (Exists.intro _ (And.intro h.r13 ?_))
        refine Exists.intro (((600 + k : Nat) : Int)) (And.intro (by first | (rw [mj_w_id (by omega) (by omega)]; done) | (rw [mj_w_id (by omega) (by omega)]; omega) | (unfold mj_w; omega)) ?_)
        refine Exists.intro _ (Exists.intro (600 + k) (And.intro h.a13 (And.intro (by first | (rw [mj_w_id (by omega) (by omega)]; done) | (rw [mj_w_id (by omega) (by omega)]; omega) | (unfold mj_w; omega)) (And.intro (by omega) ?_))))
        rw [mj_up_ne (show (63 : Nat) ≠ 62 by decide), r3]
        refine Exists.intro _ (Exists.intro (300 * c + k) (And.intro h.a13 (And.intro (by first | (rw [mj_w_id (by omega) (by omega)]; done) | (rw [mj_w_id (by omega) (by omega)]; omega) | (unfold mj_w; omega)) (And.intro (by omega) ?_))))
        refine And.intro h.o (Exists.intro _ (And.intro h.r14 ?_))
        refine Exists.intro (((300 * c : Nat) : Int)) (And.intro (by first | (rw [mj_w_id (by omega) (by omega)]; done) | (rw [mj_w_id (by omega) (by omega)]; omega) | (unfold mj_w; omega)) ?_)
        refine Exists.intro (((300 * c + k : Nat) : Int)) (And.intro (by first | (rw [mj_w_id (by omega) (by omega)]; done) | (rw [mj_w_id (by omega) (by omega)]; omega) | (unfold mj_w; omega)) ?_)
        refine And.intro h.o (Exists.intro _ (And.intro h.r14 ?_))
        refine Exists.intro (((600 + k : Nat) : Int)) (And.intro (by first | (rw [mj_w_id (by omega) (by omega)]; done) | (rw [mj_w_id (by omega) (by omega)]; omega) | (unfold mj_w; omega)) ?_)
        refine Exists.intro _ (Exists.intro (600 + k) (And.intro h.a14 (And.intro (by first | (rw [mj_w_id (by omega) (by omega)]; done) | (rw [mj_w_id (by omega) (by omega)]; omega) | (unfold mj_w; omega)) (And.intro (by omega) ?_))))
        rw [mj_up_ne (show (64 : Nat) ≠ 63 by decide), mj_up_ne (show (64 : Nat) ≠ 62 by decide), r4]
        refine Exists.intro _ (Exists.intro (300 * c + k) (And.intro h.a14 (And.intro (by first | (rw [mj_w_id (by omega) (by omega)]; done) | (rw [mj_w_id (by omega) (by omega)]; omega) | (unfold mj_w; omega)) (And.intro (by omega) ?_))))
        refine And.intro h.o (Exists.intro _ (And.intro h.r18 ?_))
        refine Exists.intro (((300 * c : Nat) : Int)) (And.intro (by first | (rw [mj_w_id (by omega) (by omega)]; done) | (rw [mj_w_id (by omega) (by omega)]; omega) | (unfold mj_w; omega)) ?_)
        refine Exists.intro (((300 * c + k : Nat) : Int)) (And.intro (by first | (rw [mj_w_id (by omega) (by omega)]; done) | (rw [mj_w_id (by omega) (by omega)]; omega) | (unfold mj_w; omega)) ?_)
        refine And.intro h.o (Exists.intro _ (And.intro h.r18 ?_))
        refine Exists.intro (((600 + k : Nat) : Int)) (And.intro (by first | (rw [mj_w_id (by omega) (by omega)]; done) | (rw [mj_w_id (by omega) (by omega)]; omega) | (unfold mj_w; omega)) ?_)
        refine Exists.intro _ (Exists.intro (600 + k) (And.intro h.a18 (And.intro (by first | (rw [mj_w_id (by omega) (by omega)]; done) | (rw [mj_w_id (by omega) (by omega)]; omega) | (unfold mj_w; omega)) (And.intro (by omega) ?_))))
        rw [mj_up_ne (show (68 : Nat) ≠ 64 by decide), mj_up_ne (show (68 : Nat) ≠ 63 by decide), mj_up_ne (show (68 : Nat) ≠ 62 by decide), r8]
        refine Exists.intro _ (Exists.intro (300 * c + k) (And.intro h.a18 (And.intro (by first | (rw [mj_w_id (by omega) (by omega)]; done) | (rw [mj_w_id (by omega) (by omega)]; omega) | (unfold mj_w; omega)) (And.intro (by omega) ?_))))
        refine Exists.intro (((k + 1 : Nat) : Int)) (And.intro (by first | (rw [mj_w_id (by omega) (by omega)]; done) | (rw [mj_w_id (by omega) (by omega)]; omega) | (unfold mj_w; omega)) ?_)
        exact nx
  have l2 : ∀ (t k : Nat) (J : mj_FI), k + t = 16 → tk IA J c 14 k 0 0 0 → mj_G m_M_take Q 84 [some (.inr (.inr (.inl 52))), some (.inl c), some (.inl k)] [] sh FR J LA n 0 0 := by
    intro t
    induction t with
    | zero =>
      intro k J hk hJ
      have e : k = 16 := by omega
      subst e
      refine mj_go z_M_take [84, 118] 60 ?_
      refine And.intro (fun d => ?_) (fun d => ?_)
      · exact l3 300 0 J (by omega) hJ
      · exact absurd d (by decide)
    | succ t ih =>
      intro k J hk hJ
      obtain ⟨t1, t2, t3, t4, t5, t6, t7, t8, t9, t10⟩ := hJ
      have nx := ih (k + 1) (mj_up J 65 (16 * c + k) (IA 65 (32 + k))) (by omega) ⟨fun q hq => by rw [mj_up_ne (by omega)]; exact t1 q hq, fun q q1 q2 => by rw [mj_up_ne (by omega)]; exact t2 q q1 q2, by rw [mj_up_ne (by omega)]; exact t3, by rw [mj_up_row, t4, cpr_s], by rw [mj_up_ne (by omega)]; exact t5, by rw [mj_up_ne (by omega)]; exact t6, by rw [mj_up_ne (by omega)]; exact t7, by rw [mj_up_ne (by omega)]; exact t8, by rw [mj_up_ne (by omega)]; exact t9, by rw [mj_up_ne (by omega)]; exact t10⟩
      have rd : J 65 (32 + k) = IA 65 (32 + k) := by rw [t4, cpr_r (by omega)]
      clear ih hol htop hX l5 l4 l3
      refine mj_go z_M_take [84] 60 ?_
      refine And.intro (fun d => ?_) (fun d => ?_)
      · simp (disch := (clear d; omega)) only [mj_w_id] at d
        omega
      · clear d
        refine And.intro h.o (Exists.intro _ (And.intro h.r15 ?_))
        refine Exists.intro (((16 * c : Nat) : Int)) (And.intro (by first | (rw [mj_w_id (by omega) (by omega)]; done) | (rw [mj_w_id (by omega) (by omega)]; omega) | (unfold mj_w; omega)) ?_)
        refine Exists.intro (((16 * c + k : Nat) : Int)) (And.intro (by first | (rw [mj_w_id (by omega) (by omega)]; done) | (rw [mj_w_id (by omega) (by omega)]; omega) | (unfold mj_w; omega)) ?_)
        refine And.intro h.o (Exists.intro _ (And.intro h.r15 ?_))
        refine Exists.intro (((32 + k : Nat) : Int)) (And.intro (by first | (rw [mj_w_id (by omega) (by omega)]; done) | (rw [mj_w_id (by omega) (by omega)]; omega) | (unfold mj_w; omega)) ?_)
        refine Exists.intro _ (Exists.intro (32 + k) (And.intro h.a15 (And.intro (by first | (rw [mj_w_id (by omega) (by omega)]; done) | (rw [mj_w_id (by omega) (by omega)]; omega) | (unfold mj_w; omega)) (And.intro (by omega) ?_))))
        rw [rd]
        refine Exists.intro _ (Exists.intro (16 * c + k) (And.intro h.a15 (And.intro (by first | (rw [mj_w_id (by omega) (by omega)]; done) | (rw [mj_w_id (by omega) (by omega)]; omega) | (unfold mj_w; omega)) (And.intro (by omega) ?_))))
        refine Exists.intro (((k + 1 : Nat) : Int)) (And.intro (by first | (rw [mj_w_id (by omega) (by omega)]; done) | (rw [mj_w_id (by omega) (by omega)]; omega) | (unfold mj_w; omega)) ?_)
        exact nx
  have l1 : ∀ (t k : Nat) (J : mj_FI), k + t = 14 → tk IA J c k 0 0 0 0 → mj_G m_M_take Q 50 [some (.inr (.inr (.inl 52))), some (.inl c), some (.inl k)] [] sh FR J LA n 0 0 := by
    intro t
    induction t with
    | zero =>
      intro k J hk hJ
      have e : k = 14 := by omega
      subst e
      refine mj_go z_M_take [50, 84] 60 ?_
      refine And.intro (fun d => ?_) (fun d => ?_)
      · exact l2 16 0 J (by omega) hJ
      · exact absurd d (by decide)
    | succ t ih =>
      intro k J hk hJ
      obtain ⟨t1, t2, t3, t4, t5, t6, t7, t8, t9, t10⟩ := hJ
      have nx := ih (k + 1) (mj_up J 61 (14 * c + k) (IA 61 (28 + k))) (by omega) ⟨fun q hq => by rw [mj_up_ne (by omega)]; exact t1 q hq, fun q q1 q2 => by rw [mj_up_ne (by omega)]; exact t2 q q1 q2, by rw [mj_up_row, t3, cpr_s], by rw [mj_up_ne (by omega)]; exact t4, by rw [mj_up_ne (by omega)]; exact t5, by rw [mj_up_ne (by omega)]; exact t6, by rw [mj_up_ne (by omega)]; exact t7, by rw [mj_up_ne (by omega)]; exact t8, by rw [mj_up_ne (by omega)]; exact t9, by rw [mj_up_ne (by omega)]; exact t10⟩
      have rd : J 61 (28 + k) = IA 61 (28 + k) := by rw [t3, cpr_r (by omega)]
      clear ih hol htop hX l5 l4 l3 l2
      refine mj_go z_M_take [50] 60 ?_
      refine And.intro (fun d => ?_) (fun d => ?_)
      · simp (disch := (clear d; omega)) only [mj_w_id] at d
        omega
      · clear d
        refine And.intro h.o (Exists.intro _ (And.intro h.r11 ?_))
        refine Exists.intro (((14 * c : Nat) : Int)) (And.intro (by first | (rw [mj_w_id (by omega) (by omega)]; done) | (rw [mj_w_id (by omega) (by omega)]; omega) | (unfold mj_w; omega)) ?_)
        refine Exists.intro (((14 * c + k : Nat) : Int)) (And.intro (by first | (rw [mj_w_id (by omega) (by omega)]; done) | (rw [mj_w_id (by omega) (by omega)]; omega) | (unfold mj_w; omega)) ?_)
        refine And.intro h.o (Exists.intro _ (And.intro h.r11 ?_))
        refine Exists.intro (((28 + k : Nat) : Int)) (And.intro (by first | (rw [mj_w_id (by omega) (by omega)]; done) | (rw [mj_w_id (by omega) (by omega)]; omega) | (unfold mj_w; omega)) ?_)
        refine Exists.intro _ (Exists.intro (28 + k) (And.intro h.a11 (And.intro (by first | (rw [mj_w_id (by omega) (by omega)]; done) | (rw [mj_w_id (by omega) (by omega)]; omega) | (unfold mj_w; omega)) (And.intro (by omega) ?_))))
        rw [rd]
        refine Exists.intro _ (Exists.intro (14 * c + k) (And.intro h.a11 (And.intro (by first | (rw [mj_w_id (by omega) (by omega)]; done) | (rw [mj_w_id (by omega) (by omega)]; omega) | (unfold mj_w; omega)) (And.intro (by omega) ?_))))
        refine Exists.intro (((k + 1 : Nat) : Int)) (And.intro (by first | (rw [mj_w_id (by omega) (by omega)]; done) | (rw [mj_w_id (by omega) (by omega)]; omega) | (unfold mj_w; omega)) ?_)
        exact nx
  have l0 := l1 14 0 (mj_up (mj_up (mj_up (mj_up IA 55 c (IA 55 2)) 56 c (IA 56 2)) 57 c (IA 57 2)) 58 c (IA 58 2)) (by omega) ⟨fun q hq => by rw [mj_up_ne (by omega), mj_up_ne (by omega), mj_up_ne (by omega), mj_up_ne (by omega)], fun q q1 q2 => by
      rcases (by omega : q = 55 ∨ q = 56 ∨ q = 57 ∨ q = 58) with z | z | z | z
      · subst z; rw [mj_up_ne (by omega), mj_up_ne (by omega), mj_up_ne (by omega), mj_up_row]
      · subst z; rw [mj_up_ne (by omega), mj_up_ne (by omega), mj_up_row, mj_up_ne (by omega)]
      · subst z; rw [mj_up_ne (by omega), mj_up_row, mj_up_ne (by omega), mj_up_ne (by omega)]
      · subst z; rw [mj_up_row, mj_up_ne (by omega), mj_up_ne (by omega), mj_up_ne (by omega)], by rw [mj_up_ne (by omega), mj_up_ne (by omega), mj_up_ne (by omega), mj_up_ne (by omega), cpr_0], by rw [mj_up_ne (by omega), mj_up_ne (by omega), mj_up_ne (by omega), mj_up_ne (by omega), cpr_0], by rw [mj_up_ne (by omega), mj_up_ne (by omega), mj_up_ne (by omega), mj_up_ne (by omega), cpr_0], by rw [mj_up_ne (by omega), mj_up_ne (by omega), mj_up_ne (by omega), mj_up_ne (by omega), cpr_0], by rw [mj_up_ne (by omega), mj_up_ne (by omega), mj_up_ne (by omega), mj_up_ne (by omega), cpr_0], by rw [mj_up_ne (by omega), mj_up_ne (by omega), mj_up_ne (by omega), mj_up_ne (by omega), cpr_0], by rw [mj_up_ne (by omega), mj_up_ne (by omega), mj_up_ne (by omega), mj_up_ne (by omega), cpr_0], by rw [mj_up_ne (by omega), mj_up_ne (by omega), mj_up_ne (by omega), mj_up_ne (by omega), cpr_0]⟩
  clear l1 l2 l3 l4 l5 hol htop hX
  refine mj_Ct_of (by decide +kernel) (by decide) (Nat.le_of_ble_eq_true rfl) ?_
  refine mj_go z_M_take [50] 60 ?_
  refine And.intro h.o (Exists.intro _ (And.intro h.r5 ?_))
  refine And.intro h.o (Exists.intro _ (And.intro h.r5 ?_))
  refine Exists.intro _ (Exists.intro (2) (And.intro h.a5 (And.intro (by first | (rw [mj_w_id (by omega) (by omega)]; done) | (rw [mj_w_id (by omega) (by omega)]; omega) | (unfold mj_w; omega)) (And.intro (by omega) ?_))))
  refine Exists.intro _ (Exists.intro (c) (And.intro h.a5 (And.intro (by first | (rw [mj_w_id (by omega) (by omega)]; done) | (rw [mj_w_id (by omega) (by omega)]; omega) | (unfold mj_w; omega)) (And.intro (by omega) ?_))))
  refine And.intro h.o (Exists.intro _ (And.intro h.r6 ?_))
  refine And.intro h.o (Exists.intro _ (And.intro h.r6 ?_))
  refine Exists.intro _ (Exists.intro (2) (And.intro h.a6 (And.intro (by first | (rw [mj_w_id (by omega) (by omega)]; done) | (rw [mj_w_id (by omega) (by omega)]; omega) | (unfold mj_w; omega)) (And.intro (by omega) ?_))))
  refine Exists.intro _ (Exists.intro (c) (And.intro h.a6 (And.intro (by first | (rw [mj_w_id (by omega) (by omega)]; done) | (rw [mj_w_id (by omega) (by omega)]; omega) | (unfold mj_w; omega)) (And.intro (by omega) ?_))))
  rw [mj_up_ne (show (56 : Nat) ≠ 55 by decide)]
  refine And.intro h.o (Exists.intro _ (And.intro h.r7 ?_))
  refine And.intro h.o (Exists.intro _ (And.intro h.r7 ?_))
  refine Exists.intro _ (Exists.intro (2) (And.intro h.a7 (And.intro (by first | (rw [mj_w_id (by omega) (by omega)]; done) | (rw [mj_w_id (by omega) (by omega)]; omega) | (unfold mj_w; omega)) (And.intro (by omega) ?_))))
  refine Exists.intro _ (Exists.intro (c) (And.intro h.a7 (And.intro (by first | (rw [mj_w_id (by omega) (by omega)]; done) | (rw [mj_w_id (by omega) (by omega)]; omega) | (unfold mj_w; omega)) (And.intro (by omega) ?_))))
  rw [mj_up_ne (show (57 : Nat) ≠ 56 by decide), mj_up_ne (show (57 : Nat) ≠ 55 by decide)]
  refine And.intro h.o (Exists.intro _ (And.intro h.r8 ?_))
  refine And.intro h.o (Exists.intro _ (And.intro h.r8 ?_))
  refine Exists.intro _ (Exists.intro (2) (And.intro h.a8 (And.intro (by first | (rw [mj_w_id (by omega) (by omega)]; done) | (rw [mj_w_id (by omega) (by omega)]; omega) | (unfold mj_w; omega)) (And.intro (by omega) ?_))))
  refine Exists.intro _ (Exists.intro (c) (And.intro h.a8 (And.intro (by first | (rw [mj_w_id (by omega) (by omega)]; done) | (rw [mj_w_id (by omega) (by omega)]; omega) | (unfold mj_w; omega)) (And.intro (by omega) ?_))))
  rw [mj_up_ne (show (58 : Nat) ≠ 57 by decide), mj_up_ne (show (58 : Nat) ≠ 56 by decide), mj_up_ne (show (58 : Nat) ≠ 55 by decide)]
  exact l0
end MM
