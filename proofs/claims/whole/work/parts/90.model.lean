/-! THE REFERENCE: its object at place 52 -/
def isM (sh : mj_Sh) (FR : mj_FR) (n : Nat) : Prop := mj_is sh n 52 10 0 ∧ (FR 52 1 = .inl 53 ∧ FR 52 3 = .inl 54 ∧ FR 52 5 = .inl 55 ∧ FR 52 6 = .inl 56 ∧ FR 52 7 = .inl 57 ∧ FR 52 8 = .inl 58 ∧ FR 52 9 = .inl 59 ∧ FR 52 10 = .inl 60 ∧ FR 52 11 = .inl 61 ∧ FR 52 12 = .inl 62 ∧ FR 52 13 = .inl 63 ∧ FR 52 14 = .inl 64 ∧ FR 52 15 = .inl 65 ∧ FR 52 16 = .inl 66 ∧ FR 52 17 = .inl 67 ∧ FR 52 18 = .inl 68 ∧ FR 52 19 = .inl 69 ∧ FR 52 23 = .inl 70 ∧ FR 52 24 = .inl 71 ∧ FR 52 25 = .inl 72 ∧ FR 52 26 = .inl 73 ∧ FR 52 27 = .inl 74 ∧ FR 52 28 = .inl 75 ∧ FR 52 29 = .inl 76) ∧ mj_is sh n 53 1 8192 ∧ mj_is sh n 54 1 8192 ∧ mj_is sh n 55 0 3 ∧ mj_is sh n 56 0 3 ∧ mj_is sh n 57 0 3 ∧ mj_is sh n 58 0 3 ∧ mj_is sh n 59 0 3 ∧ mj_is sh n 60 0 3 ∧ mj_is sh n 61 0 42 ∧ mj_is sh n 62 0 900 ∧ mj_is sh n 63 0 900 ∧ mj_is sh n 64 0 900 ∧ mj_is sh n 65 0 48 ∧ mj_is sh n 66 0 3003 ∧ mj_is sh n 67 0 945 ∧ mj_is sh n 68 0 900 ∧ mj_is sh n 69 3 161280 ∧ mj_is sh n 70 0 5 ∧ mj_is sh n 71 0 5 ∧ mj_is sh n 72 2 315 ∧ mj_is sh n 73 0 315 ∧ mj_is sh n 74 0 315 ∧ mj_is sh n 75 0 315 ∧ mj_is sh n 76 2 315
section MM
variable {sh : mj_Sh} {FR : mj_FR} {IA : mj_FI} {LA : mj_LA} {n : Nat}
theorem isM.o (h : isM sh FR n) : mj_is sh n 52 10 0 := h.1
theorem isM.r1 (h : isM sh FR n) : FR 52 1 = .inl 53 := h.2.1.1
theorem isM.a1 (h : isM sh FR n) : mj_is sh n 53 1 8192 := h.2.2.1
theorem isM.r3 (h : isM sh FR n) : FR 52 3 = .inl 54 := h.2.1.2.1
theorem isM.a3 (h : isM sh FR n) : mj_is sh n 54 1 8192 := h.2.2.2.1
theorem isM.r5 (h : isM sh FR n) : FR 52 5 = .inl 55 := h.2.1.2.2.1
theorem isM.a5 (h : isM sh FR n) : mj_is sh n 55 0 3 := h.2.2.2.2.1
theorem isM.r6 (h : isM sh FR n) : FR 52 6 = .inl 56 := h.2.1.2.2.2.1
theorem isM.a6 (h : isM sh FR n) : mj_is sh n 56 0 3 := h.2.2.2.2.2.1
theorem isM.r7 (h : isM sh FR n) : FR 52 7 = .inl 57 := h.2.1.2.2.2.2.1
theorem isM.a7 (h : isM sh FR n) : mj_is sh n 57 0 3 := h.2.2.2.2.2.2.1
theorem isM.r8 (h : isM sh FR n) : FR 52 8 = .inl 58 := h.2.1.2.2.2.2.2.1
theorem isM.a8 (h : isM sh FR n) : mj_is sh n 58 0 3 := h.2.2.2.2.2.2.2.1
theorem isM.r9 (h : isM sh FR n) : FR 52 9 = .inl 59 := h.2.1.2.2.2.2.2.2.1
theorem isM.a9 (h : isM sh FR n) : mj_is sh n 59 0 3 := h.2.2.2.2.2.2.2.2.1
theorem isM.r10 (h : isM sh FR n) : FR 52 10 = .inl 60 := h.2.1.2.2.2.2.2.2.2.1
theorem isM.a10 (h : isM sh FR n) : mj_is sh n 60 0 3 := h.2.2.2.2.2.2.2.2.2.1
theorem isM.r11 (h : isM sh FR n) : FR 52 11 = .inl 61 := h.2.1.2.2.2.2.2.2.2.2.1
theorem isM.a11 (h : isM sh FR n) : mj_is sh n 61 0 42 := h.2.2.2.2.2.2.2.2.2.2.1
theorem isM.r12 (h : isM sh FR n) : FR 52 12 = .inl 62 := h.2.1.2.2.2.2.2.2.2.2.2.1
theorem isM.a12 (h : isM sh FR n) : mj_is sh n 62 0 900 := h.2.2.2.2.2.2.2.2.2.2.2.1
theorem isM.r13 (h : isM sh FR n) : FR 52 13 = .inl 63 := h.2.1.2.2.2.2.2.2.2.2.2.2.1
theorem isM.a13 (h : isM sh FR n) : mj_is sh n 63 0 900 := h.2.2.2.2.2.2.2.2.2.2.2.2.1
theorem isM.r14 (h : isM sh FR n) : FR 52 14 = .inl 64 := h.2.1.2.2.2.2.2.2.2.2.2.2.2.1
theorem isM.a14 (h : isM sh FR n) : mj_is sh n 64 0 900 := h.2.2.2.2.2.2.2.2.2.2.2.2.2.1
theorem isM.r15 (h : isM sh FR n) : FR 52 15 = .inl 65 := h.2.1.2.2.2.2.2.2.2.2.2.2.2.2.1
theorem isM.a15 (h : isM sh FR n) : mj_is sh n 65 0 48 := h.2.2.2.2.2.2.2.2.2.2.2.2.2.2.1
theorem isM.r16 (h : isM sh FR n) : FR 52 16 = .inl 66 := h.2.1.2.2.2.2.2.2.2.2.2.2.2.2.2.1
theorem isM.a16 (h : isM sh FR n) : mj_is sh n 66 0 3003 := h.2.2.2.2.2.2.2.2.2.2.2.2.2.2.2.1
theorem isM.r17 (h : isM sh FR n) : FR 52 17 = .inl 67 := h.2.1.2.2.2.2.2.2.2.2.2.2.2.2.2.2.1
theorem isM.a17 (h : isM sh FR n) : mj_is sh n 67 0 945 := h.2.2.2.2.2.2.2.2.2.2.2.2.2.2.2.2.1
theorem isM.r18 (h : isM sh FR n) : FR 52 18 = .inl 68 := h.2.1.2.2.2.2.2.2.2.2.2.2.2.2.2.2.2.1
theorem isM.a18 (h : isM sh FR n) : mj_is sh n 68 0 900 := h.2.2.2.2.2.2.2.2.2.2.2.2.2.2.2.2.2.1
theorem isM.r19 (h : isM sh FR n) : FR 52 19 = .inl 69 := h.2.1.2.2.2.2.2.2.2.2.2.2.2.2.2.2.2.2.1
theorem isM.a19 (h : isM sh FR n) : mj_is sh n 69 3 161280 := h.2.2.2.2.2.2.2.2.2.2.2.2.2.2.2.2.2.2.1
theorem isM.r23 (h : isM sh FR n) : FR 52 23 = .inl 70 := h.2.1.2.2.2.2.2.2.2.2.2.2.2.2.2.2.2.2.2.1
theorem isM.a23 (h : isM sh FR n) : mj_is sh n 70 0 5 := h.2.2.2.2.2.2.2.2.2.2.2.2.2.2.2.2.2.2.2.1
theorem isM.r24 (h : isM sh FR n) : FR 52 24 = .inl 71 := h.2.1.2.2.2.2.2.2.2.2.2.2.2.2.2.2.2.2.2.2.1
theorem isM.a24 (h : isM sh FR n) : mj_is sh n 71 0 5 := h.2.2.2.2.2.2.2.2.2.2.2.2.2.2.2.2.2.2.2.2.1
theorem isM.r25 (h : isM sh FR n) : FR 52 25 = .inl 72 := h.2.1.2.2.2.2.2.2.2.2.2.2.2.2.2.2.2.2.2.2.2.1
theorem isM.a25 (h : isM sh FR n) : mj_is sh n 72 2 315 := h.2.2.2.2.2.2.2.2.2.2.2.2.2.2.2.2.2.2.2.2.2.1
theorem isM.r26 (h : isM sh FR n) : FR 52 26 = .inl 73 := h.2.1.2.2.2.2.2.2.2.2.2.2.2.2.2.2.2.2.2.2.2.2.1
theorem isM.a26 (h : isM sh FR n) : mj_is sh n 73 0 315 := h.2.2.2.2.2.2.2.2.2.2.2.2.2.2.2.2.2.2.2.2.2.2.1
theorem isM.r27 (h : isM sh FR n) : FR 52 27 = .inl 74 := h.2.1.2.2.2.2.2.2.2.2.2.2.2.2.2.2.2.2.2.2.2.2.2.1
theorem isM.a27 (h : isM sh FR n) : mj_is sh n 74 0 315 := h.2.2.2.2.2.2.2.2.2.2.2.2.2.2.2.2.2.2.2.2.2.2.2.1
theorem isM.r28 (h : isM sh FR n) : FR 52 28 = .inl 75 := h.2.1.2.2.2.2.2.2.2.2.2.2.2.2.2.2.2.2.2.2.2.2.2.2.1
theorem isM.a28 (h : isM sh FR n) : mj_is sh n 75 0 315 := h.2.2.2.2.2.2.2.2.2.2.2.2.2.2.2.2.2.2.2.2.2.2.2.2.1
theorem isM.r29 (h : isM sh FR n) : FR 52 29 = .inl 76 := h.2.1.2.2.2.2.2.2.2.2.2.2.2.2.2.2.2.2.2.2.2.2.2.2.2
theorem isM.a29 (h : isM sh FR n) : mj_is sh n 76 2 315 := h.2.2.2.2.2.2.2.2.2.2.2.2.2.2.2.2.2.2.2.2.2.2.2.2.2
theorem ct_M_thrown (h : isM sh FR n) : mj_Ct m_M_thrown [.inr (.inr (.inl 52))] sh FR IA LA n (mj_pu (.inl (some (.inl (IA 52 0)))) sh FR IA LA n) := by
  refine mj_Ct_of (by decide +kernel) (by decide) (Nat.le_of_ble_eq_true rfl) ?_
  refine mj_go z_M_thrown [] 60 ?_
  refine And.intro h.o ?_
  exact ⟨⟨rfl, rfl, rfl, rfl, rfl, rfl⟩, Nat.le_of_ble_eq_true rfl, Nat.le_of_ble_eq_true rfl⟩
/-- what throwing notes -/
def md_th (a b : Bool) : Int := if a = true then 1 else if b = true then 2 else 0
theorem ct_M_throwing (h : isM sh FR n) {a b : Bool} : mj_Ct m_M_throwing [.inr (.inr (.inl 52)), .inl (if a = true then 1 else 0), .inl (if b = true then 1 else 0)] sh FR IA LA n (mj_pu (.inl (some (.inl (if (a || b) = true then 1 else 0)))) sh FR (mj_up IA 52 0 (md_th a b)) LA n) := by
  have fin : ∀ x : Int, (x = 0 ∨ x = 1 ∨ x = 2) → mj_G m_M_throwing (mj_pu (.inl (some (.inl (if x = 0 then 0 else 1)))) sh FR (mj_up IA 52 0 x) LA n) 18 [some (.inr (.inr (.inl 52))), some (.inl (if a = true then 1 else 0)), some (.inl (if b = true then 1 else 0))] [.inl x, .inr (.inr (.inl 52))] sh FR IA LA n 0 0 := by
    intro x hx
    refine mj_go z_M_throwing [] 60 ?_
    refine And.intro h.o ?_
    refine And.intro h.o ?_
    rw [mj_up_at]
    refine And.intro (fun d => ?_) (fun d => ?_)
    · simp (disch := (clear d; omega)) only [mj_w_id] at d
      rw [if_pos (by omega)]
      exact ⟨Or.inl rfl, ⟨rfl, rfl, rfl, rfl, rfl, rfl⟩, Nat.le_of_ble_eq_true rfl, Nat.le_of_ble_eq_true rfl⟩
    · simp (disch := (clear d; omega)) only [mj_w_id] at d
      rw [if_neg (by omega)]
      exact ⟨Or.inr rfl, ⟨rfl, rfl, rfl, rfl, rfl, rfl⟩, Nat.le_of_ble_eq_true rfl, Nat.le_of_ble_eq_true rfl⟩
  refine mj_Ct_of (by decide +kernel) (by decide) (Nat.le_of_ble_eq_true rfl) ?_
  refine mj_go z_M_throwing [18] 60 ?_
  cases a with
  | true =>
    refine And.intro (fun d => ?_) (fun d => ?_)
    · exact absurd d (by decide)
    · exact fin 1 (by decide)
  | false =>
    refine And.intro (fun d => ?_) (fun d => ?_)
    · cases b with
      | true =>
        refine And.intro (fun e => ?_) (fun e => ?_)
        · exact absurd e (by decide)
        · exact fin 2 (by decide)
      | false =>
        refine And.intro (fun e => ?_) (fun e => ?_)
        · exact fin 0 (by decide)
        · exact absurd (show mj_w 0 = 0 by decide) e
    · exact absurd (show mj_w 0 = 0 by decide) d
theorem ct_M_isCircuit {x : Int} (ix : mj_i x) : mj_Ct m_M_isCircuit [.inl x] sh FR IA LA n (mj_pu (.inl (some (.inl (if x = 0 ∨ x = 1 then 1 else 0)))) sh FR IA LA n) := by
  obtain ⟨i1, i2⟩ := ix
  refine mj_Ct_of (by decide +kernel) (by decide) (Nat.le_of_ble_eq_true rfl) ?_
  refine mj_go z_M_isCircuit [] 60 ?_
  refine And.intro (fun d => ?_) (fun d => ?_)
  · simp (disch := (clear d; omega)) only [mj_w_id] at d
    rw [if_pos (by omega)]
    exact ⟨Or.inr rfl, ⟨rfl, rfl, rfl, rfl, rfl, rfl⟩, Nat.le_of_ble_eq_true rfl, Nat.le_of_ble_eq_true rfl⟩
  · simp (disch := (clear d; omega)) only [mj_w_id] at d
    refine And.intro (fun e => ?_) (fun e => ?_)
    · simp (disch := (clear e; omega)) only [mj_w_id] at e
      rw [if_neg (by omega)]
      exact ⟨Or.inl rfl, ⟨rfl, rfl, rfl, rfl, rfl, rfl⟩, Nat.le_of_ble_eq_true rfl, Nat.le_of_ble_eq_true rfl⟩
    · replace e := Classical.not_not.mp e
      simp (disch := (clear e; omega)) only [mj_w_id] at e
      rw [if_pos (by omega)]
      exact ⟨Or.inr rfl, ⟨rfl, rfl, rfl, rfl, rfl, rfl⟩, Nat.le_of_ble_eq_true rfl, Nat.le_of_ble_eq_true rfl⟩
theorem ct_M_fail (h : isM sh FR n) {x y : Int} : mj_Ct m_M_fail [.inr (.inr (.inl 52)), .inl x, .inl y] sh FR IA LA n (mj_pu (.inl none) sh FR (mj_up (mj_up IA 52 21 x) 52 22 y) LA n) := by
  refine mj_Ct_of (by decide +kernel) (by decide) (Nat.le_of_ble_eq_true rfl) ?_
  refine mj_go z_M_fail [] 60 ?_
  refine And.intro h.o ?_
  refine And.intro h.o ?_
  exact ⟨⟨rfl, rfl, rfl, rfl, rfl, rfl⟩, Nat.le_of_ble_eq_true rfl, Nat.le_of_ble_eq_true rfl⟩
/-- the byte at a place of the tape -/
def md_by (IA : mj_FI) (i : Nat) : Int := if (i : Int) < IA 52 2 then IA 53 i % 256 else -1
theorem md_by_in (IA : mj_FI) (i : Nat) : -1 ≤ md_by IA i ∧ md_by IA i < 256 := by
  unfold md_by
  split <;> omega
theorem ct_M_here (h : isM sh FR n) {p : Nat} (hp : IA 52 20 = (p : Int)) (hp2 : p ≤ 100000) (h1 : 0 ≤ IA 52 2) (h2 : IA 52 2 ≤ 8192) : mj_Ct m_M_here [.inr (.inr (.inl 52))] sh FR IA LA n (mj_pu (.inl (some (.inl (md_by IA p)))) sh FR IA LA n) := by
  refine mj_Ct_of (by decide +kernel) (by decide) (Nat.le_of_ble_eq_true rfl) ?_
  refine mj_go z_M_here [] 60 ?_
  refine And.intro h.o ?_
  refine And.intro h.o ?_
  rw [hp]
  refine And.intro (fun d => ?_) (fun d => ?_)
  · simp (disch := (clear d; omega)) only [mj_w_id] at d
    rw [show md_by IA p = -1 from if_neg (by omega)]
    exact ⟨⟨rfl, rfl, rfl, rfl, rfl, rfl⟩, Nat.le_of_ble_eq_true rfl, Nat.le_of_ble_eq_true rfl⟩
  · simp (disch := (clear d; omega)) only [mj_w_id] at d
    rw [show md_by IA p = IA 53 p % 256 from if_pos (by omega)]
    refine And.intro h.o (Exists.intro _ (And.intro h.r1 ?_))
    refine And.intro h.o ?_
    rw [hp]
    refine Exists.intro _ (Exists.intro (p) (And.intro h.a1 (And.intro (by first | (rw [mj_w_id (by omega) (by omega)]; done) | (rw [mj_w_id (by omega) (by omega)]; omega) | (unfold mj_w; omega)) (And.intro (by omega) ?_))))
    refine Exists.intro (IA 53 p % 256) (And.intro (nu_and255 _) ?_)
    exact ⟨⟨rfl, rfl, rfl, rfl, rfl, rfl⟩, Nat.le_of_ble_eq_true rfl, Nat.le_of_ble_eq_true rfl⟩
theorem ct_M_isDigit {x : Int} (ix : mj_i x) : mj_Ct m_M_isDigit [.inl x] sh FR IA LA n (mj_pu (.inl (some (.inl (if 48 ≤ x ∧ x ≤ 57 then 1 else 0)))) sh FR IA LA n) := by
  obtain ⟨i1, i2⟩ := ix
  refine mj_Ct_of (by decide +kernel) (by decide) (Nat.le_of_ble_eq_true rfl) ?_
  refine mj_go z_M_isDigit [] 60 ?_
  refine And.intro (fun d => ?_) (fun d => ?_)
  · simp (disch := (clear d; omega)) only [mj_w_id] at d
    rw [if_neg (by omega)]
    exact ⟨Or.inl rfl, ⟨rfl, rfl, rfl, rfl, rfl, rfl⟩, Nat.le_of_ble_eq_true rfl, Nat.le_of_ble_eq_true rfl⟩
  · simp (disch := (clear d; omega)) only [mj_w_id] at d
    refine And.intro (fun e => ?_) (fun e => ?_)
    · simp (disch := (clear e; omega)) only [mj_w_id] at e
      rw [if_neg (by omega)]
      exact ⟨Or.inl rfl, ⟨rfl, rfl, rfl, rfl, rfl, rfl⟩, Nat.le_of_ble_eq_true rfl, Nat.le_of_ble_eq_true rfl⟩
    · simp (disch := (clear e; omega)) only [mj_w_id] at e
      rw [if_pos (by omega)]
      exact ⟨Or.inr rfl, ⟨rfl, rfl, rfl, rfl, rfl, rfl⟩, Nat.le_of_ble_eq_true rfl, Nat.le_of_ble_eq_true rfl⟩
end MM
