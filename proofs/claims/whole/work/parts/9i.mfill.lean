/-! THE REFERENCE: fillTables -/
theorem iw_bits : ∀ k : Fin 6, ∀ i : Fin 64, (mj_iw k.val).getLsbD i.val = decide (i.val / 2 ^ k.val % 2 = 1) := by decide +kernel
theorem iv_word {v : BitVec 64} {k w I : Nat} (hk : k < I) (h : ∀ i, i < 64 → v.getLsbD i = decide ((64 * w + i) / 2 ^ k % 2 = 1)) : v &&& C_mk I = C_iw k w (C_mk I) := by
  unfold C_iw
  by_cases e : k < 6
  · rw [if_pos e]
    have : v = mj_iw k := by
      apply BitVec.eq_of_getLsbD_eq
      intro i hi
      rw [h i hi]
      have q := iw_bits ⟨k, e⟩ ⟨i, hi⟩
      simp only [] at q
      rw [q]
      have e2 : (64 * w + i) / 2 ^ k % 2 = i / 2 ^ k % 2 := by
        rcases (by omega : k = 0 ∨ k = 1 ∨ k = 2 ∨ k = 3 ∨ k = 4 ∨ k = 5) with z | z | z | z | z | z <;> subst z <;> simp only [Nat.reducePow] <;> omega
      rw [e2]
    rw [this]
  · rw [if_neg e]
    have e3 : C_mk I = 0xFFFFFFFFFFFFFFFF#64 := if_neg (by omega)
    have e4 : ∀ i, i < 64 → (64 * w + i) / 2 ^ k = w / 2 ^ (k - 6) := by
      intro i hi
      have : 2 ^ k = 64 * 2 ^ (k - 6) := by
        rw [show (64 : Nat) = 2 ^ 6 by decide, ← Nat.pow_add, show 6 + (k - 6) = k by omega]
      rw [this, ← Nat.div_div_eq_div_mul, show (64 * w + i) / 64 = w by omega]
    rw [e3]
    apply BitVec.eq_of_getLsbD_eq
    intro i hi
    rw [BitVec.getLsbD_and, h i hi, e4 i hi]
    have a1 : (0xFFFFFFFFFFFFFFFF#64).getLsbD i = true := by
      have : ∀ i : Fin 64, (0xFFFFFFFFFFFFFFFF#64).getLsbD i.val = true := by decide +kernel
      exact this ⟨i, hi⟩
    rw [a1, Bool.and_true]
    by_cases z : w / 2 ^ (k - 6) % 2 = 0
    · rw [if_pos z]
      simp
      omega
    · rw [if_neg z, a1]
      simp
      omega
/-- the first b bits are there -/
def iv_b (k w b : Nat) (v : BitVec 64) : Prop := ∀ i, i < 64 → v.getLsbD i = (decide (i < b) && decide ((64 * w + i) / 2 ^ k % 2 = 1))
theorem iv_0 {k w : Nat} : iv_b k w 0 0#64 := fun i _ => by simp
theorem iv_s {k w b : Nat} {v : BitVec 64} (h : iv_b k w b v) (hb : b < 64) : iv_b k w (b + 1) (v ||| (BitVec.ofInt 64 (mj_w (((64 * w + b) / 2 ^ k % 2 : Nat) : Int))) <<< b) := by
  intro i hi
  rw [BitVec.getLsbD_or, h i hi, BitVec.getLsbD_shiftLeft]
  have hz : (64 * w + b) / 2 ^ k % 2 = 0 ∨ (64 * w + b) / 2 ^ k % 2 = 1 := by omega
  by_cases e : i = b
  · subst e
    rw [Nat.sub_self]
    rcases hz with z | z
    · rw [z, show BitVec.ofInt 64 (mj_w ((0 : Nat) : Int)) = 0#64 by decide]
      simp
    · rw [z]
      have : (BitVec.ofInt 64 (mj_w ((1 : Nat) : Int))).getLsbD 0 = true := by decide
      rw [this]
      simp [hi]
  · by_cases e2 : i < b
    · have e3 : i < b + 1 := by omega
      simp [e2, e3]
    · have e3 : ¬ i < b + 1 := by omega
      have e4 : (BitVec.ofInt 64 (mj_w (((64 * w + b) / 2 ^ k % 2 : Nat) : Int))).getLsbD (i - b) = false := by
        rcases hz with z | z
        · rw [z, show BitVec.ofInt 64 (mj_w ((0 : Nat) : Int)) = 0#64 by decide]
          simp
        · rw [z, show BitVec.ofInt 64 (mj_w ((1 : Nat) : Int)) = 1#64 by decide, BitVec.getLsbD_one]
          have : ¬ i - b = 0 := by omega
          simp [this]
      rw [e4]
      simp [e2, e3]
abbrev mXc (IA : mj_FI) (c G : Nat) (X Y : Nat → Nat) : Prop := ∀ k, k < G → (0 ≤ IA 63 (300 * c + k) ∧ IA 63 (300 * c + k) ≤ 2001 ∧ IA 66 (1001 * c + (IA 63 (300 * c + k) / 2).toNat) = (X k : Int) ∧ X k < 315) ∧ 0 ≤ IA 64 (300 * c + k) ∧ IA 64 (300 * c + k) ≤ 2001 ∧ IA 66 (1001 * c + (IA 64 (300 * c + k) / 2).toNat) = (Y k : Int) ∧ Y k < 315
/-- what fillTables may change -/
def mf_f (LA K : mj_LA) (c : Nat) : Prop := (∀ q, q ≠ 69 → K q = LA q) ∧ ∀ j, ¬ (256 * (315 * c + 1) ≤ j ∧ j < 256 * (315 * c + 315)) → K 69 j = LA 69 j
theorem mf_f.refl {LA : mj_LA} {c : Nat} : mf_f LA LA c := ⟨fun _ _ => rfl, fun _ _ => rfl⟩
theorem mf_f_st {LA K : mj_LA} {c r w : Nat} {f : Nat → BitVec 64} (h : mf_f LA K c) (h1 : 1 ≤ r) (h2 : r < 315) (hw : w ≤ 256) : mf_f LA (C_st K 59 (315 * c + r) f w) c := by
  refine ⟨fun q hq => by rw [C_st_o hq]; exact h.1 q hq, fun j hj => ?_⟩
  unfold C_st
  rw [if_neg (by omega)]
  exact h.2 j hj
def mf_i (K : mj_LA) (c I k : Nat) : Prop := ∀ i, i < k → ∀ w, w < C_W I → M_rw K c (1 + i) w = C_iw i w (C_mk I)
def mf_g (IA : mj_FI) (K : mj_LA) (c I : Nat) (X Y : Nat → Nat) (k : Nat) : Prop := ∀ w, w < C_W I → M_rw K c (15 + k) w = M_lw K I c (X k) (IA 63 (300 * c + k)) w &&& M_lw K I c (Y k) (IA 64 (300 * c + k)) w
theorem M_rw_st {K : mj_LA} {c r t x w : Nat} {f : Nat → BitVec 64} (hx : x < 256) (hw : w ≤ 256) (h : t ≠ r) : M_rw (C_st K 59 (315 * c + r) f w) c t x = M_rw K c t x := C_st_rw hx hw (by omega)
theorem M_lw_st {K : mj_LA} {I c r t x w : Nat} {lit : Int} {f : Nat → BitVec 64} (hx : x < 256) (hw : w ≤ 256) (h : t ≠ r) : M_lw (C_st K 59 (315 * c + r) f w) I c t lit x = M_lw K I c t lit x := by
  unfold M_lw
  rw [M_rw_st hx hw h]
section MM
variable {sh : mj_Sh} {FR : mj_FR} {IA : mj_FI} {LA : mj_LA} {n : Nat}
def mf_q (IA : mj_FI) (LA : mj_LA) (c I G : Nat) (X Y : Nat → Nat) (o : mj_O) (J : mj_FI) (K : mj_LA) : Prop := o = .inl none ∧ J = IA ∧ mf_f LA K c ∧ mf_i K c I I ∧ ∀ k, k < G → mf_g IA K c I X Y k
set_option maxHeartbeats 2000000 in
theorem mf_gates (h : isM sh FR n) {c I G : Nat} {X Y : Nat → Nat} {od : List Nat} (hc : c < 2) (hI : IA 55 c = (I : Int)) (hI2 : I ≤ 14) (hG : IA 56 c = (G : Int)) (hG2 : G ≤ 300) (hod : od.length = G) (hol : ∀ i s : Nat, od[i]? = some s → IA 68 (300 * c + i) = (s : Int)) (hlt : ∀ k ∈ od, k < G) (hall : ∀ k, k < G → k ∈ od) (hX : mXc IA c G X Y) (htop : ∀ xs k ys, od = xs ++ k :: ys → ∀ j ∈ k :: ys, X k ≠ 15 + j ∧ Y k ≠ 15 + j) (hnd : od.Nodup) :
    ∀ (ys xs : List Nat) (K : mj_LA) (y3 y4 y5 y6 : Option mj_V), od = xs ++ ys → mf_f LA K c → mf_i K c I I → (∀ k ∈ xs, mf_g IA K c I X Y k) → mj_G m_M_fillTables (mj_pl (mf_q IA LA c I G X Y) sh FR n) 104 [some (.inr (.inr (.inl 52))), some (.inl c), some (.inl xs.length), y3, y4, y5, y6] [] sh FR IA K n 0 0 := by
  have hW := (C_W_le hI2).2
  intro ys
  induction ys with
  | nil =>
    intro xs K y3 y4 y5 y6 he hf hi hg
    have hl : xs.length = G := by rw [he, List.append_nil] at hod; exact hod
    refine mj_go z_M_fillTables [104] 60 ?_
    refine And.intro h.o (Exists.intro _ (And.intro h.r6 ?_))
    refine Exists.intro _ (Exists.intro (c) (And.intro h.a6 (And.intro (by first | (rw [mj_w_id (by omega) (by omega)]; done) | (rw [mj_w_id (by omega) (by omega)]; omega) | (unfold mj_w; omega)) (And.intro (by omega) ?_))))
    rw [hG]
    refine And.intro (fun d => ?_) (fun d => ?_)
    · exact ⟨⟨rfl, rfl, rfl, ⟨rfl, rfl, hf, hi, fun k hk => hg k (by have := hall k hk; rw [he, List.append_nil] at this; exact this)⟩⟩, Nat.le_of_ble_eq_true rfl, Nat.le_of_ble_eq_true rfl⟩
    · simp (disch := (clear d; omega)) only [mj_w_id] at d
      omega
  | cons k ys ih =>
    intro xs K y3 y4 y5 y6 he hf hi hg
    have hl : xs.length + (ys.length + 1) = G := by rw [he, List.length_append, List.length_cons] at hod; exact hod
    have hk : k < G := hlt k (by rw [he]; simp)
    have ho : IA 68 (300 * c + xs.length) = (k : Int) := hol _ _ (by rw [he]; simp)
    obtain ⟨⟨a1, a2, a3, a4⟩, b1, b2, b3, b4⟩ := hX k hk
    have ht := htop xs k ys he k (by simp)
    have loop : ∀ (t w : Nat), w + t = C_W I → mj_G m_M_fillTables (mj_pl (mf_q IA LA c I G X Y) sh FR n) 130 [some (.inr (.inr (.inl 52))), some (.inl c), some (.inl xs.length), some (.inl k), some (.inl w), y5, y6] [] sh FR IA (C_st K 59 (315 * c + (15 + k)) (fun w => M_lw K I c (X k) (IA 63 (300 * c + k)) w &&& M_lw K I c (Y k) (IA 64 (300 * c + k)) w) w) n 0 0 := by
      intro t
      induction t with
      | zero =>
        intro w hw
        have hw : w = C_W I := by omega
        subst hw
        have nx := ih (xs ++ [k]) (C_st K 59 (315 * c + (15 + k)) (fun w => M_lw K I c (X k) (IA 63 (300 * c + k)) w &&& M_lw K I c (Y k) (IA 64 (300 * c + k)) w) (C_W I)) (some (.inl k)) (some (.inl (C_W I))) y5 y6 (by rw [he]; simp) (mf_f_st hf (by omega) (by omega) hW) (fun i hi' w hw => by rw [M_rw_st (by omega) hW (by omega)]; exact hi i hi' w hw) (by
          intro k' hk' w hw
          rcases List.mem_append.mp hk' with z | z
          · have ne : k' ≠ k := by
              intro e
              subst e
              rw [he, List.nodup_append] at hnd
              exact hnd.2.2 k' z k' (by simp) rfl
            have ht' : X k' ≠ 15 + k ∧ Y k' ≠ 15 + k := by
              obtain ⟨u, v, e⟩ := List.append_of_mem z
              refine htop u k' (v ++ k :: ys) (by rw [he, e]; simp) k (by simp)
            rw [M_rw_st (by omega) hW (by omega), M_lw_st (by omega) hW ht'.1, M_lw_st (by omega) hW ht'.2]
            exact hg k' z w hw
          · have e : k' = k := by simpa using z
            subst e
            rw [M_lw_st (by omega) hW ht.1, M_lw_st (by omega) hW ht.2]
            exact C_st_at hw)
        rw [List.length_append, List.length_singleton] at nx
        clear ih ho hol htop he a3 b3
        refine mj_go z_M_fillTables [104, 130] 60 ?_
        refine And.intro h.o (And.intro (Nat.le_of_ble_eq_true rfl) (And.intro (Nat.le_of_ble_eq_true rfl) (And.intro (Nat.le_of_ble_eq_true rfl) (Exists.intro _ (And.intro (ct_M_words h (by omega) hI hI2) ?_)))))
        rintro r9 sh9 FR9 IA9 LA9 n9 ⟨z0, z1, z2, z3, z4, z5⟩
        subst z0
        replace z1 := z1.symm
        subst z1
        replace z2 := z2.symm
        subst z2
        replace z3 := z3.symm
        subst z3
        replace z4 := z4.symm
        subst z4
        replace z5 := z5.symm
        subst z5
        refine And.intro (Or.inl rfl) ?_
        refine And.intro (fun d => ?_) (fun d => ?_)
        · refine Exists.intro (((xs.length + 1 : Nat) : Int)) (And.intro (by first | (rw [mj_w_id (by omega) (by omega)]; done) | (rw [mj_w_id (by omega) (by omega)]; omega) | (unfold mj_w; omega)) ?_)
          exact nx
        · simp (disch := (clear d; omega)) only [mj_w_id] at d
          omega
      | succ t ihw =>
        intro w hw
        have nx := ihw (w + 1) (by omega)
        rw [← C_st_s] at nx
        have m1 := M_lw_st (K := K) (I := I) (c := c) (r := 15 + k) (t := X k) (x := w) (w := w) (lit := IA 63 (300 * c + k)) (f := fun w => M_lw K I c (X k) (IA 63 (300 * c + k)) w &&& M_lw K I c (Y k) (IA 64 (300 * c + k)) w) (by omega) (by omega) ht.1
        have m2 := M_lw_st (K := K) (I := I) (c := c) (r := 15 + k) (t := Y k) (x := w) (w := w) (lit := IA 64 (300 * c + k)) (f := fun w => M_lw K I c (X k) (IA 63 (300 * c + k)) w &&& M_lw K I c (Y k) (IA 64 (300 * c + k)) w) (by omega) (by omega) ht.2
        clear ih ihw ho hol htop he
        refine mj_go z_M_fillTables [130] 60 ?_
        refine And.intro h.o (And.intro (Nat.le_of_ble_eq_true rfl) (And.intro (Nat.le_of_ble_eq_true rfl) (And.intro (Nat.le_of_ble_eq_true rfl) (Exists.intro _ (And.intro (ct_M_words h (by omega) hI hI2) ?_)))))
        rintro r9 sh9 FR9 IA9 LA9 n9 ⟨z0, z1, z2, z3, z4, z5⟩
        subst z0
        replace z1 := z1.symm
        subst z1
        replace z2 := z2.symm
        subst z2
        replace z3 := z3.symm
        subst z3
        replace z4 := z4.symm
        subst z4
        replace z5 := z5.symm
        subst z5
        refine And.intro (Or.inl rfl) ?_
        refine And.intro (fun d => ?_) (fun d => ?_)
        · clear a3 b3
          simp (disch := (clear d; omega)) only [mj_w_id] at d
          omega
        · clear d
          refine And.intro h.o (Exists.intro _ (And.intro h.r19 ?_))
          refine Exists.intro (((315 * c : Nat) : Int)) (And.intro (by first | (rw [mj_w_id (by omega) (by omega)]; done) | (rw [mj_w_id (by omega) (by omega)]; omega) | (unfold mj_w; omega)) ?_)
          refine Exists.intro (((315 * c + 15 : Nat) : Int)) (And.intro (by first | (rw [mj_w_id (by omega) (by omega)]; done) | (rw [mj_w_id (by omega) (by omega)]; omega) | (unfold mj_w; omega)) ?_)
          refine Exists.intro (((315 * c + 15 + k : Nat) : Int)) (And.intro (by first | (rw [mj_w_id (by omega) (by omega)]; done) | (rw [mj_w_id (by omega) (by omega)]; omega) | (unfold mj_w; omega)) ?_)
          refine Exists.intro (((256 * (315 * c + 15 + k) : Nat) : Int)) (And.intro (by first | (rw [mj_w_id (by omega) (by omega)]; done) | (rw [mj_w_id (by omega) (by omega)]; omega) | (unfold mj_w; omega)) ?_)
          refine Exists.intro (((256 * (315 * c + 15 + k) + w : Nat) : Int)) (And.intro (by first | (rw [mj_w_id (by omega) (by omega)]; done) | (rw [mj_w_id (by omega) (by omega)]; omega) | (unfold mj_w; omega)) ?_)
          refine And.intro h.o (Exists.intro _ (And.intro h.r13 ?_))
          refine Exists.intro (((300 * c : Nat) : Int)) (And.intro (by first | (rw [mj_w_id (by omega) (by omega)]; done) | (rw [mj_w_id (by omega) (by omega)]; omega) | (unfold mj_w; omega)) ?_)
          refine Exists.intro (((300 * c + k : Nat) : Int)) (And.intro (by first | (rw [mj_w_id (by omega) (by omega)]; done) | (rw [mj_w_id (by omega) (by omega)]; omega) | (unfold mj_w; omega)) ?_)
          refine Exists.intro _ (Exists.intro (300 * c + k) (And.intro h.a13 (And.intro (by first | (rw [mj_w_id (by omega) (by omega)]; done) | (rw [mj_w_id (by omega) (by omega)]; omega) | (unfold mj_w; omega)) (And.intro (by omega) ?_))))
          refine And.intro h.o (And.intro (Nat.le_of_ble_eq_true rfl) (And.intro (Nat.le_of_ble_eq_true rfl) (And.intro (Nat.le_of_ble_eq_true rfl) (Exists.intro _ (And.intro (ct_M_word (c := c) (w := w) h hc hI hI2 a1 a2 a3 a4 (by omega)) ?_)))))
          rintro r9 sh9 FR9 IA9 LA9 n9 ⟨z0, z1, z2, z3, z4, z5⟩
          subst z0
          replace z1 := z1.symm
          subst z1
          replace z2 := z2.symm
          subst z2
          replace z3 := z3.symm
          subst z3
          replace z4 := z4.symm
          subst z4
          replace z5 := z5.symm
          subst z5
          refine And.intro (Or.inl rfl) ?_
          refine And.intro h.o (Exists.intro _ (And.intro h.r14 ?_))
          refine Exists.intro (((300 * c : Nat) : Int)) (And.intro (by first | (rw [mj_w_id (by omega) (by omega)]; done) | (rw [mj_w_id (by omega) (by omega)]; omega) | (unfold mj_w; omega)) ?_)
          refine Exists.intro (((300 * c + k : Nat) : Int)) (And.intro (by first | (rw [mj_w_id (by omega) (by omega)]; done) | (rw [mj_w_id (by omega) (by omega)]; omega) | (unfold mj_w; omega)) ?_)
          refine Exists.intro _ (Exists.intro (300 * c + k) (And.intro h.a14 (And.intro (by first | (rw [mj_w_id (by omega) (by omega)]; done) | (rw [mj_w_id (by omega) (by omega)]; omega) | (unfold mj_w; omega)) (And.intro (by omega) ?_))))
          refine And.intro h.o (And.intro (Nat.le_of_ble_eq_true rfl) (And.intro (Nat.le_of_ble_eq_true rfl) (And.intro (Nat.le_of_ble_eq_true rfl) (Exists.intro _ (And.intro (ct_M_word (c := c) (w := w) h hc hI hI2 b1 b2 b3 b4 (by omega)) ?_)))))
          rintro r9 sh9 FR9 IA9 LA9 n9 ⟨z0, z1, z2, z3, z4, z5⟩
          subst z0
          replace z1 := z1.symm
          subst z1
          replace z2 := z2.symm
          subst z2
          replace z3 := z3.symm
          subst z3
          replace z4 := z4.symm
          subst z4
          replace z5 := z5.symm
          subst z5
          refine And.intro (Or.inl rfl) ?_
          rw [m1, m2]
          clear a3 b3 m1 m2
          refine Exists.intro _ (Exists.intro ((315 * c + (15 + k)) * 256 + w) (And.intro h.a19 (And.intro (by first | (rw [mj_w_id (by omega) (by omega)]; done) | (rw [mj_w_id (by omega) (by omega)]; omega) | (unfold mj_w; omega)) (And.intro (by omega) ?_))))
          refine Exists.intro (((w + 1 : Nat) : Int)) (And.intro (by first | (rw [mj_w_id (by omega) (by omega)]; done) | (rw [mj_w_id (by omega) (by omega)]; omega) | (unfold mj_w; omega)) ?_)
          exact nx
    have l0 := loop (C_W I) 0 (by omega)
    rw [C_st_0] at l0
    clear loop ih hol htop he
    refine mj_go z_M_fillTables [130] 60 ?_
    refine And.intro h.o (Exists.intro _ (And.intro h.r6 ?_))
    refine Exists.intro _ (Exists.intro (c) (And.intro h.a6 (And.intro (by first | (rw [mj_w_id (by omega) (by omega)]; done) | (rw [mj_w_id (by omega) (by omega)]; omega) | (unfold mj_w; omega)) (And.intro (by omega) ?_))))
    rw [hG]
    refine And.intro (fun d => ?_) (fun d => ?_)
    · clear ho a3 b3
      simp (disch := (clear d; omega)) only [mj_w_id] at d
      omega
    · clear d
      refine And.intro h.o (Exists.intro _ (And.intro h.r18 ?_))
      refine Exists.intro (((300 * c : Nat) : Int)) (And.intro (by first | (rw [mj_w_id (by omega) (by omega)]; done) | (rw [mj_w_id (by omega) (by omega)]; omega) | (unfold mj_w; omega)) ?_)
      refine Exists.intro (((300 * c + xs.length : Nat) : Int)) (And.intro (by first | (rw [mj_w_id (by omega) (by omega)]; done) | (rw [mj_w_id (by omega) (by omega)]; omega) | (unfold mj_w; omega)) ?_)
      refine Exists.intro _ (Exists.intro (300 * c + xs.length) (And.intro h.a18 (And.intro (by first | (rw [mj_w_id (by omega) (by omega)]; done) | (rw [mj_w_id (by omega) (by omega)]; omega) | (unfold mj_w; omega)) (And.intro (by omega) ?_))))
      rw [ho]
      exact l0
set_option maxHeartbeats 2000000 in
theorem ct_M_fillTables (h : isM sh FR n) {c I G : Nat} {X Y : Nat → Nat} {od : List Nat} (hc : c < 2) (hI : IA 55 c = (I : Int)) (hI2 : I ≤ 14) (hG : IA 56 c = (G : Int)) (hG2 : G ≤ 300) (hod : od.length = G) (hol : ∀ i s : Nat, od[i]? = some s → IA 68 (300 * c + i) = (s : Int)) (hlt : ∀ k ∈ od, k < G) (hall : ∀ k, k < G → k ∈ od) (hX : mXc IA c G X Y) (htop : ∀ xs k ys, od = xs ++ k :: ys → ∀ j ∈ k :: ys, X k ≠ 15 + j ∧ Y k ≠ 15 + j) (hnd : od.Nodup) :
    mj_Ct m_M_fillTables [.inr (.inr (.inl 52)), .inl c] sh FR IA LA n (mj_pl (mf_q IA LA c I G X Y) sh FR n) := by
  have hW := (C_W_le hI2).2
  have ins : ∀ (t k : Nat) (K : mj_LA) (y3 y4 y5 y6 : Option mj_V), k + t = I → mf_f LA K c → mf_i K c I k → mj_G m_M_fillTables (mj_pl (mf_q IA LA c I G X Y) sh FR n) 2 [some (.inr (.inr (.inl 52))), some (.inl c), some (.inl k), y3, y4, y5, y6] [] sh FR IA K n 0 0 := by
    intro t
    induction t with
    | zero =>
      intro k K y3 y4 y5 y6 hk hf hi
      have e : k = I := by omega
      subst e
      have nx := mf_gates (LA := LA) h hc hI hI2 hG hG2 hod hol hlt hall hX htop hnd od [] K y3 y4 y5 y6 rfl hf hi (fun k hk => by simp at hk)
      refine mj_go z_M_fillTables [2, 104] 60 ?_
      refine And.intro h.o (Exists.intro _ (And.intro h.r5 ?_))
      refine Exists.intro _ (Exists.intro (c) (And.intro h.a5 (And.intro (by first | (rw [mj_w_id (by omega) (by omega)]; done) | (rw [mj_w_id (by omega) (by omega)]; omega) | (unfold mj_w; omega)) (And.intro (by omega) ?_))))
      rw [hI]
      refine And.intro (fun d => ?_) (fun d => ?_)
      · exact nx
      · simp (disch := (clear d; omega)) only [mj_w_id] at d
        omega
    | succ t ih =>
      intro k K y3 y4 y5 y6 hk hf hi
      have loop : ∀ (t w : Nat) (y4 y5 y6 : Option mj_V), w + t = C_W I → mj_G m_M_fillTables (mj_pl (mf_q IA LA c I G X Y) sh FR n) 14 [some (.inr (.inr (.inl 52))), some (.inl c), some (.inl k), some (.inl w), y4, y5, y6] [] sh FR IA (C_st K 59 (315 * c + (1 + k)) (fun w => C_iw k w (C_mk I)) w) n 0 0 := by
        intro t
        induction t with
        | zero =>
          intro w y4 y5 y6 hw
          have hw : w = C_W I := by omega
          subst hw
          have nx := ih (k + 1) (C_st K 59 (315 * c + (1 + k)) (fun w => C_iw k w (C_mk I)) (C_W I)) (some (.inl (C_W I))) y4 y5 y6 (by omega) (mf_f_st hf (by omega) (by omega) hW) (fun i hi' w hw => by
            by_cases e : i = k
            · subst e
              exact C_st_at hw
            · rw [M_rw_st (by omega) hW (by omega)]
              exact hi i (by omega) w hw)
          clear ih hol htop
          refine mj_go z_M_fillTables [2, 14] 60 ?_
          refine And.intro h.o (And.intro (Nat.le_of_ble_eq_true rfl) (And.intro (Nat.le_of_ble_eq_true rfl) (And.intro (Nat.le_of_ble_eq_true rfl) (Exists.intro _ (And.intro (ct_M_words h (by omega) hI hI2) ?_)))))
          rintro r9 sh9 FR9 IA9 LA9 n9 ⟨z0, z1, z2, z3, z4, z5⟩
          subst z0
          replace z1 := z1.symm
          subst z1
          replace z2 := z2.symm
          subst z2
          replace z3 := z3.symm
          subst z3
          replace z4 := z4.symm
          subst z4
          replace z5 := z5.symm
          subst z5
          refine And.intro (Or.inl rfl) ?_
          refine And.intro (fun d => ?_) (fun d => ?_)
          · refine Exists.intro (((k + 1 : Nat) : Int)) (And.intro (by first | (rw [mj_w_id (by omega) (by omega)]; done) | (rw [mj_w_id (by omega) (by omega)]; omega) | (unfold mj_w; omega)) ?_)
            exact nx
          · simp (disch := (clear d; omega)) only [mj_w_id] at d
            omega
        | succ t ihw =>
          intro w y4 y5 y6 hw
          have nx := fun y4 y5 y6 => ihw (w + 1) y4 y5 y6 (by omega)
          rw [← C_st_s] at nx
          have bits : ∀ (u b : Nat) (v : BitVec 64), b + u = 64 → iv_b k w b v → mj_G m_M_fillTables (mj_pl (mf_q IA LA c I G X Y) sh FR n) 29 [some (.inr (.inr (.inl 52))), some (.inl c), some (.inl k), some (.inl w), some (.inr (.inl v)), none, some (.inl b)] [] sh FR IA (C_st K 59 (315 * c + (1 + k)) (fun w => C_iw k w (C_mk I)) w) n 0 0 := by
            intro u
            induction u with
            | zero =>
              intro b v hb hv
              have e : b = 64 := by omega
              subst e
              have hvw : v &&& C_mk I = C_iw k w (C_mk I) := iv_word (by omega) (fun i hi => by rw [hv i hi]; simp [hi])
              clear ih ihw hol htop
              refine mj_go z_M_fillTables [14, 29] 60 ?_
              refine And.intro (fun d => ?_) (fun d => ?_)
              · refine And.intro h.o (Exists.intro _ (And.intro h.r19 ?_))
                refine Exists.intro (((315 * c : Nat) : Int)) (And.intro (by first | (rw [mj_w_id (by omega) (by omega)]; done) | (rw [mj_w_id (by omega) (by omega)]; omega) | (unfold mj_w; omega)) ?_)
                refine Exists.intro (((315 * c + 1 : Nat) : Int)) (And.intro (by first | (rw [mj_w_id (by omega) (by omega)]; done) | (rw [mj_w_id (by omega) (by omega)]; omega) | (unfold mj_w; omega)) ?_)
                refine Exists.intro (((315 * c + 1 + k : Nat) : Int)) (And.intro (by first | (rw [mj_w_id (by omega) (by omega)]; done) | (rw [mj_w_id (by omega) (by omega)]; omega) | (unfold mj_w; omega)) ?_)
                refine Exists.intro (((256 * (315 * c + 1 + k) : Nat) : Int)) (And.intro (by first | (rw [mj_w_id (by omega) (by omega)]; done) | (rw [mj_w_id (by omega) (by omega)]; omega) | (unfold mj_w; omega)) ?_)
                refine Exists.intro (((256 * (315 * c + 1 + k) + w : Nat) : Int)) (And.intro (by first | (rw [mj_w_id (by omega) (by omega)]; done) | (rw [mj_w_id (by omega) (by omega)]; omega) | (unfold mj_w; omega)) ?_)
                refine And.intro h.o (And.intro (Nat.le_of_ble_eq_true rfl) (And.intro (Nat.le_of_ble_eq_true rfl) (And.intro (Nat.le_of_ble_eq_true rfl) (Exists.intro _ (And.intro (ct_M_mask h (by omega) hI hI2) ?_)))))
                rintro r9 sh9 FR9 IA9 LA9 n9 ⟨z0, z1, z2, z3, z4, z5⟩
                subst z0
                replace z1 := z1.symm
                subst z1
                replace z2 := z2.symm
                subst z2
                replace z3 := z3.symm
                subst z3
                replace z4 := z4.symm
                subst z4
                replace z5 := z5.symm
                subst z5
                refine And.intro (Or.inl rfl) ?_
                refine Exists.intro _ (Exists.intro ((315 * c + (1 + k)) * 256 + w) (And.intro h.a19 (And.intro (by first | (rw [mj_w_id (by omega) (by omega)]; done) | (rw [mj_w_id (by omega) (by omega)]; omega) | (unfold mj_w; omega)) (And.intro (by omega) ?_))))
                refine Exists.intro (((w + 1 : Nat) : Int)) (And.intro (by first | (rw [mj_w_id (by omega) (by omega)]; done) | (rw [mj_w_id (by omega) (by omega)]; omega) | (unfold mj_w; omega)) ?_)
                rw [hvw]
                exact nx _ _ _
              · exact absurd d (by decide)
            | succ u ihu =>
              intro b v hb hv
              have hs := iv_s hv (by omega)
              have nb := ihu (b + 1) _ (by omega) hs
              have e1 : ((64 * w + b : Nat) : Int) / ((2 ^ k : Nat) : Int) = (((64 * w + b) / 2 ^ k : Nat) : Int) := by rw [Int.natCast_ediv]
              have e2 := fun z : Nat => (nu_and1 (z : Int)).trans (by omega : ((z : Int) % 2) = ((z % 2 : Nat) : Int))
              clear ih ihw ihu hol htop nx hv hs
              refine mj_go z_M_fillTables [29] 60 ?_
              refine And.intro (fun d => ?_) (fun d => ?_)
              · simp (disch := (clear d; omega)) only [mj_w_id] at d
                omega
              · clear d
                refine Exists.intro (((64 * w : Nat) : Int)) (And.intro (by first | (rw [mj_w_id (by omega) (by omega)]; done) | (rw [mj_w_id (by omega) (by omega)]; omega) | (unfold mj_w; omega)) ?_)
                refine Exists.intro (((64 * w + b : Nat) : Int)) (And.intro (by first | (rw [mj_w_id (by omega) (by omega)]; done) | (rw [mj_w_id (by omega) (by omega)]; omega) | (unfold mj_w; omega)) ?_)
                refine Exists.intro ((((64 * w + b) / 2 ^ k : Nat) : Int)) (And.intro ((nu_shr (by omega) (by omega) (by omega)).trans e1) ?_)
                refine Exists.intro ((((64 * w + b) / 2 ^ k % 2 : Nat) : Int)) (And.intro (e2 _) ?_)
                refine Exists.intro ((BitVec.ofInt 64 (mj_w (((64 * w + b) / 2 ^ k % 2 : Nat) : Int))) <<< b) (And.intro (nu_lshl _ (by omega)) ?_)
                refine Exists.intro (((b + 1 : Nat) : Int)) (And.intro (by first | (rw [mj_w_id (by omega) (by omega)]; done) | (rw [mj_w_id (by omega) (by omega)]; omega) | (unfold mj_w; omega)) ?_)
                exact nb
          have b0 := bits 64 0 0#64 (by omega) iv_0
          clear ih ihw hol htop bits nx
          refine mj_go z_M_fillTables [29] 60 ?_
          refine And.intro h.o (And.intro (Nat.le_of_ble_eq_true rfl) (And.intro (Nat.le_of_ble_eq_true rfl) (And.intro (Nat.le_of_ble_eq_true rfl) (Exists.intro _ (And.intro (ct_M_words h (by omega) hI hI2) ?_)))))
          rintro r9 sh9 FR9 IA9 LA9 n9 ⟨z0, z1, z2, z3, z4, z5⟩
          subst z0
          replace z1 := z1.symm
          subst z1
          replace z2 := z2.symm
          subst z2
          replace z3 := z3.symm
          subst z3
          replace z4 := z4.symm
          subst z4
          replace z5 := z5.symm
          subst z5
          refine And.intro (Or.inl rfl) ?_
          refine And.intro (fun d => ?_) (fun d => ?_)
          · simp (disch := (clear d; omega)) only [mj_w_id] at d
            omega
          · exact b0
      have l0 := loop (C_W I) 0 y4 y5 y6 (by omega)
      rw [C_st_0] at l0
      clear ih hol htop loop
      refine mj_go z_M_fillTables [14] 60 ?_
      refine And.intro h.o (Exists.intro _ (And.intro h.r5 ?_))
      refine Exists.intro _ (Exists.intro (c) (And.intro h.a5 (And.intro (by first | (rw [mj_w_id (by omega) (by omega)]; done) | (rw [mj_w_id (by omega) (by omega)]; omega) | (unfold mj_w; omega)) (And.intro (by omega) ?_))))
      rw [hI]
      refine And.intro (fun d => ?_) (fun d => ?_)
      · simp (disch := (clear d; omega)) only [mj_w_id] at d
        omega
      · exact l0
  refine mj_Ct_of (by decide +kernel) (by decide) (Nat.le_of_ble_eq_true rfl) ?_
  refine mj_go z_M_fillTables [2] 60 ?_
  exact ins I 0 LA _ _ _ _ (by omega) mf_f.refl (fun i hi => by omega)
end MM
