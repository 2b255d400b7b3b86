/-! THE TWO SIDES COUPLED: depends, rises -/
theorem mk_pair : ∀ I : Fin 6, ∀ k : Fin 6, ∀ i : Fin 64, k.val < I.val → i.val / 2 ^ k.val % 2 = 0 → ((1#64 <<< (2 ^ I.val)) - 1#64).getLsbD i.val = ((1#64 <<< (2 ^ I.val)) - 1#64).getLsbD (i.val + 2 ^ k.val) := by decide +kernel
theorem ones_bit {i : Nat} (hi : i < 64) : (0xFFFFFFFFFFFFFFFF#64).getLsbD i = true := by
  have : ∀ i : Fin 64, (0xFFFFFFFFFFFFFFFF#64).getLsbD i.val = true := by decide +kernel
  exact this ⟨i, hi⟩
theorem k6_lt {i k : Nat} (hk : k < 6) (hi : i < 64) (h : i / 2 ^ k % 2 = 0) : i + 2 ^ k < 64 := by
  rcases (by omega : k = 0 ∨ k = 1 ∨ k = 2 ∨ k = 3 ∨ k = 4 ∨ k = 5) with z | z | z | z | z | z <;> subst z <;> simp only [Nat.reducePow] at * <;> omega
theorem k6_md {w i k : Nat} (hk : k < 6) : (64 * w + i) / 2 ^ k % 2 = i / 2 ^ k % 2 := by
  rcases (by omega : k = 0 ∨ k = 1 ∨ k = 2 ∨ k = 3 ∨ k = 4 ∨ k = 5) with z | z | z | z | z | z <;> subst z <;> simp only [Nat.reducePow] <;> omega
theorem k6_dv {w i k : Nat} (hk : ¬ k < 6) (hi : i < 64) : (64 * w + i) / 2 ^ k = w / 2 ^ (k - 6) ∧ 2 ^ k = 64 * 2 ^ (k - 6) := by
  have : 2 ^ k = 64 * 2 ^ (k - 6) := by
    rw [show (64 : Nat) = 2 ^ 6 by decide, ← Nat.pow_add, show 6 + (k - 6) = k by omega]
  refine ⟨?_, this⟩
  rw [this, ← Nat.div_div_eq_div_mul, show (64 * w + i) / 64 = w by omega]
/-- what the two words of a move are, bit by bit -/
def mv_B (f : Nat → Bool) (k W : Nat) (P Q : Nat → BitVec 64) : Prop := ∀ w i, w < W → i < 64 →
  ((64 * w + i) / 2 ^ k % 2 = 0 → 64 * w + i + 2 ^ k < 64 * W ∧ (P w).getLsbD i = f (64 * w + i + 2 ^ k) ∧ (Q w).getLsbD i = f (64 * w + i)) ∧
  (¬ (64 * w + i) / 2 ^ k % 2 = 0 → (P w).getLsbD i = (Q w).getLsbD i ∨ (2 ^ k ≤ 64 * w + i ∧ (64 * w + i - 2 ^ k) / 2 ^ k % 2 = 0 ∧ (P w).getLsbD i = f (64 * w + i) ∧ (Q w).getLsbD i = f (64 * w + i - 2 ^ k)))
theorem mv_core {f : Nat → Bool} {N k W : Nat} {P Q : Nat → BitVec 64} (hb : mv_B f k W P Q) (hN : N ≤ 64 * W) (h0 : ∀ v, N ≤ v → v < 64 * W → f v = false) :
    ((∀ w, w < W → P w &&& (Q w ^^^ 0xFFFFFFFFFFFFFFFF#64) = 0#64) ↔ ∀ v, v < N → v / 2 ^ k % 2 = 0 → f (v + 2 ^ k) = true → f v = true) ∧
    ((∀ w, w < W → Q w &&& (P w ^^^ 0xFFFFFFFFFFFFFFFF#64) = 0#64) ↔ ∀ v, v < N → v / 2 ^ k % 2 = 0 → f v = true → f (v + 2 ^ k) = true) := by
  have hz : ∀ (A B : BitVec 64), A &&& (B ^^^ 0xFFFFFFFFFFFFFFFF#64) = 0#64 ↔ ∀ i, i < 64 → A.getLsbD i = true → B.getLsbD i = true := by
    intro A B
    constructor
    · intro h i hi ha
      have h2 : (A &&& (B ^^^ 0xFFFFFFFFFFFFFFFF#64)).getLsbD i = false := by rw [h]; simp
      rw [BitVec.getLsbD_and, BitVec.getLsbD_xor, ones_bit hi, ha] at h2
      revert h2
      cases B.getLsbD i <;> simp
    · intro h
      refine BitVec.eq_of_getLsbD_eq fun i hi => ?_
      rw [BitVec.getLsbD_and, BitVec.getLsbD_xor, ones_bit hi, BitVec.getLsbD_zero]
      have := h i hi
      revert this
      cases A.getLsbD i <;> cases B.getLsbD i <;> simp
  simp only [hz]
  have hp := Nat.two_pow_pos k
  have sp : ∀ v : Nat, 64 * (v / 64) + v % 64 = v := fun v => by omega
  refine ⟨⟨fun h v hv z ht => ?_, fun h w hw i hi ha => ?_⟩, ⟨fun h v hv z ht => ?_, fun h w hw i hi ha => ?_⟩⟩
  · have h1 := (hb (v / 64) (v % 64) (by omega) (by omega)).1
    rw [sp v] at h1
    have h1 := h1 z
    rw [← h1.2.2]
    exact h _ (by omega) _ (by omega) (by rw [h1.2.1]; exact ht)
  · by_cases z : (64 * w + i) / 2 ^ k % 2 = 0
    · have h1 := (hb w i hw hi).1 z
      rw [h1.2.1] at ha
      rw [h1.2.2]
      by_cases q : 64 * w + i < N
      · exact h _ q z ha
      · rw [h0 _ (by omega) h1.1] at ha
        cases ha
    · rcases (hb w i hw hi).2 z with h1 | ⟨h1, h2, h3, h4⟩
      · rw [← h1]
        exact ha
      · rw [h3] at ha
        rw [h4]
        by_cases q : 64 * w + i - 2 ^ k < N
        · exact h _ q h2 (by rw [show 64 * w + i - 2 ^ k + 2 ^ k = 64 * w + i by omega]; exact ha)
        · rw [h0 _ (by omega) (by omega)] at ha
          cases ha
  · have h1 := (hb (v / 64) (v % 64) (by omega) (by omega)).1
    rw [sp v] at h1
    have h1 := h1 z
    rw [← h1.2.1]
    exact h _ (by omega) _ (by omega) (by rw [h1.2.2]; exact ht)
  · by_cases z : (64 * w + i) / 2 ^ k % 2 = 0
    · have h1 := (hb w i hw hi).1 z
      rw [h1.2.2] at ha
      rw [h1.2.1]
      by_cases q : 64 * w + i < N
      · exact h _ q z ha
      · rw [h0 _ (by omega) (by omega)] at ha
        cases ha
    · rcases (hb w i hw hi).2 z with h1 | ⟨h1, h2, h3, h4⟩
      · rw [h1]
        exact ha
      · rw [h4] at ha
        rw [h3]
        by_cases q : 64 * w + i - 2 ^ k < N
        · have := h _ q h2 ha
          rw [show 64 * w + i - 2 ^ k + 2 ^ k = 64 * w + i by omega] at this
          exact this
        · rw [h0 _ (by omega) (by omega)] at ha
          cases ha
section PP
variable {IA : mj_FI} {LA : mj_LA} {x c b m I O G : Nat} {od ld : List Nat}
theorem mv_bits (h : cS IA LA c b m I O G od ld) {s k : Nat} (hk : k < I) (lit : Int) : mv_B (C_bt LA c s lit) k (C_W I) (fun w => C_hi LA c s k w ^^^ (if lit % 2 = 0 then 0#64 else LA c 9)) (fun w => C_lo LA c s k w ^^^ (if lit % 2 = 0 then 0#64 else LA c 9)) := by
  intro w i hw hi
  have hb : ∀ w' i', i' < 64 → C_bt LA c s lit (64 * w' + i') = ((C_rw LA c s w').getLsbD i' ^^ (if lit % 2 = 0 then 0#64 else LA c 9).getLsbD i') := fun w' i' h' => by
    rw [C_bt_w h']
    unfold C_lw
    rw [BitVec.getLsbD_xor]
  have h9 := h.2.2.1
  by_cases e : k < 6
  · have hlo : (C_lo LA c s k w).getLsbD i = ((C_rw LA c s w).getLsbD i && !decide (i / 2 ^ k % 2 = 1)) := by
      have q := iw_bits ⟨k, e⟩ ⟨i, hi⟩
      simp only [] at q
      unfold C_lo
      rw [if_pos e, BitVec.getLsbD_and, BitVec.getLsbD_xor, q, ones_bit hi, Bool.xor_true]
    have hhi : (C_hi LA c s k w).getLsbD i = ((C_rw LA c s w).getLsbD (i + 2 ^ k) && (mj_iw k).getLsbD (i + 2 ^ k)) := by
      unfold C_hi
      rw [if_pos e, BitVec.getLsbD_ushiftRight, BitVec.getLsbD_and, Nat.add_comm]
    have hd : (i + 2 ^ k) / 2 ^ k = i / 2 ^ k + 1 := Nat.add_div_right i (Nat.two_pow_pos k)
    refine ⟨fun z => ?_, fun z => ?_⟩
    · rw [k6_md e] at z
      have lt := k6_lt e hi z
      have iw1 : (mj_iw k).getLsbD (i + 2 ^ k) = true := by
        have q := iw_bits ⟨k, e⟩ ⟨i + 2 ^ k, lt⟩
        simp only [] at q
        rw [q, hd]
        exact decide_eq_true (by omega)
      have hfl : (if lit % 2 = 0 then 0#64 else LA c 9).getLsbD i = (if lit % 2 = 0 then 0#64 else LA c 9).getLsbD (i + 2 ^ k) := by
        by_cases q : lit % 2 = 0
        · rw [if_pos q, BitVec.getLsbD_zero, BitVec.getLsbD_zero]
        · rw [if_neg q, h9]
          by_cases e6 : I < 6
          · rw [show C_mk I = (1#64 <<< (2 ^ I)) - 1#64 from if_pos e6]
            exact mk_pair ⟨I, e6⟩ ⟨k, e⟩ ⟨i, hi⟩ hk z
          · rw [show C_mk I = 0xFFFFFFFFFFFFFFFF#64 from if_neg e6, ones_bit hi, ones_bit lt]
      refine ⟨by omega, ?_, ?_⟩
      · show (C_hi LA c s k w ^^^ _).getLsbD i = _
        rw [show 64 * w + i + 2 ^ k = 64 * w + (i + 2 ^ k) by omega, hb w (i + 2 ^ k) lt, BitVec.getLsbD_xor, hhi, iw1, Bool.and_true, hfl]
      · show (C_lo LA c s k w ^^^ _).getLsbD i = _
        rw [hb w i hi, BitVec.getLsbD_xor, hlo, decide_eq_false (by omega), Bool.not_false, Bool.and_true]
    · rw [k6_md e] at z
      refine Or.inl ?_
      show (C_hi LA c s k w ^^^ _).getLsbD i = (C_lo LA c s k w ^^^ _).getLsbD i
      have iw0 : (mj_iw k).getLsbD (i + 2 ^ k) = false := by
        by_cases lt : i + 2 ^ k < 64
        · have q := iw_bits ⟨k, e⟩ ⟨i + 2 ^ k, lt⟩
          simp only [] at q
          rw [q, hd]
          exact decide_eq_false (by omega)
        · exact BitVec.getLsbD_of_ge _ _ (by omega)
      rw [BitVec.getLsbD_xor, BitVec.getLsbD_xor, hhi, hlo, iw0, decide_eq_true (by omega : i / 2 ^ k % 2 = 1), Bool.and_false, Bool.not_true, Bool.and_false]
  · obtain ⟨e4, p⟩ := k6_dv (w := w) e hi
    have hCW : C_W I = 2 ^ (I - 6) := by unfold C_W; rw [if_neg (by omega)]
    refine ⟨fun z => ?_, fun z => ?_⟩
    · rw [e4] at z
      have hlt : w + 2 ^ (k - 6) < C_W I := by
        rw [hCW] at hw ⊢
        have := M_fl_lt (x := w) (k := k - 6) (I := I - 6) hw (by omega)
        unfold M_fl at this
        rw [if_pos z] at this
        exact this
      refine ⟨by omega, ?_, ?_⟩
      · show (C_hi LA c s k w ^^^ _).getLsbD i = _
        rw [show 64 * w + i + 2 ^ k = 64 * (w + 2 ^ (k - 6)) + i by omega, hb _ i hi, BitVec.getLsbD_xor]
        unfold C_hi C_set
        rw [if_neg e, if_pos z]
      · show (C_lo LA c s k w ^^^ _).getLsbD i = _
        rw [hb w i hi, BitVec.getLsbD_xor]
        unfold C_lo C_clr
        rw [if_neg e, if_pos z]
    · rw [e4] at z
      have hge : 2 ^ (k - 6) ≤ w := by
        apply Classical.byContradiction
        intro q
        rw [Nat.div_eq_of_lt (by omega)] at z
        omega
      have hdv : w / 2 ^ (k - 6) = (w - 2 ^ (k - 6)) / 2 ^ (k - 6) + 1 := by
        have := Nat.add_div_right (w - 2 ^ (k - 6)) (Nat.two_pow_pos (k - 6))
        rw [show w - 2 ^ (k - 6) + 2 ^ (k - 6) = w by omega] at this
        exact this
      have e5 : 64 * w + i - 2 ^ k = 64 * (w - 2 ^ (k - 6)) + i := by omega
      refine Or.inr ⟨by omega, ?_, ?_, ?_⟩
      · rw [e5, (k6_dv e hi).1]
        omega
      · show (C_hi LA c s k w ^^^ _).getLsbD i = _
        rw [hb w i hi, BitVec.getLsbD_xor]
        unfold C_hi C_set
        rw [if_neg e, if_neg z]
      · show (C_lo LA c s k w ^^^ _).getLsbD i = _
        rw [e5, hb _ i hi, BitVec.getLsbD_xor]
        unfold C_lo C_clr
        rw [if_neg e, if_neg z]
theorem M_ri_u {f : Nat → Bool} {N k : Nat} {z z' : Int} (h : M_ri f N k z) (h' : M_ri f N k z') : z = z' := by
  obtain ⟨a, d, ha, hd, e⟩ := h
  obtain ⟨a', d', ha', hd', e'⟩ := h'
  have e1 : a = a' := by
    rcases ha with ⟨q, r⟩ | ⟨q, r⟩
    · rcases ha' with ⟨q', r'⟩ | ⟨q', r'⟩
      · rw [q, q']
      · exact absurd r r'
    · rcases ha' with ⟨q', r'⟩ | ⟨q', r'⟩
      · exact absurd r' r
      · rw [q, q']
  have e2 : d = d' := by
    rcases hd with ⟨q, r⟩ | ⟨q, r⟩
    · rcases hd' with ⟨q', r'⟩ | ⟨q', r'⟩
      · rw [q, q']
      · exact absurd r r'
    · rcases hd' with ⟨q', r'⟩ | ⟨q', r'⟩
      · exact absurd r' r
      · rw [q, q']
  rw [e, e', e1, e2]
theorem q_mv (h : cp IA LA x c b m I O G od ld) {lit z : Int} {k : Nat} (hl : tw_sd IA b lit) (hk : k < I) (hz : C_mv LA c (wr_sl IA b lit) k (if lit % 2 = 0 then 0#64 else LA c 9) (C_W I) z) :
    M_ri (M_bt LA I x (M_ro IA x lit) lit) (2 ^ I) k (if z = 0 then 2 else if z = 1 then 1 else if z = 2 then -1 else 0) ∧ (z = 0 ↔ ∀ v, v < 2 ^ I → M_bt LA I x (M_ro IA x lit) lit v = M_bt LA I x (M_ro IA x lit) lit (M_fl v k)) := by
  have hs := h.sl hl
  rw [h.ro hl]
  generalize hf : M_bt LA I x (rN I (wr_sl IA b lit)) lit = f
  have hN := h.1.N
  have hp := Nat.two_pow_pos k
  have hB : mv_B f k (C_W I) (fun w => C_hi LA c (wr_sl IA b lit) k w ^^^ (if lit % 2 = 0 then 0#64 else LA c 9)) (fun w => C_lo LA c (wr_sl IA b lit) k w ^^^ (if lit % 2 = 0 then 0#64 else LA c 9)) := by
    intro w i hw hi
    have q := mv_bits (s := wr_sl IA b lit) h.1 hk lit w i hw hi
    rw [← hf]
    refine ⟨fun z => ?_, fun z => ?_⟩
    · have q := q.1 z
      rw [h.bt hs q.1, h.bt hs (by omega)]
      exact q
    · rcases q.2 z with q | ⟨q1, q2, q3, q4⟩
      · exact Or.inl q
      · rw [h.bt hs (by omega), h.bt hs (by omega)]
        exact Or.inr ⟨q1, q2, q3, q4⟩
  obtain ⟨hU, hD⟩ := mv_core hB hN (fun v v1 v2 => by rw [← hf, h.bt hs v2]; exact h.1.b0 hs v2 v1 lit)
  have eU : (∀ w, w < C_W I → C_U LA c (wr_sl IA b lit) k (if lit % 2 = 0 then 0#64 else LA c 9) w = 0#64) ↔ _ := hU
  have eD : (∀ w, w < C_W I → C_D LA c (wr_sl IA b lit) k (if lit % 2 = 0 then 0#64 else LA c 9) w = 0#64) ↔ _ := hD
  clear hU hD
  have zU : (∃ w, w < C_W I ∧ ¬ C_U LA c (wr_sl IA b lit) k (if lit % 2 = 0 then 0#64 else LA c 9) w = 0#64) → ¬ ∀ v, v < 2 ^ I → v / 2 ^ k % 2 = 0 → f (v + 2 ^ k) = true → f v = true := fun ⟨w, q1, q2⟩ q3 => q2 (eU.mpr q3 w q1)
  have zD : (∃ w, w < C_W I ∧ ¬ C_D LA c (wr_sl IA b lit) k (if lit % 2 = 0 then 0#64 else LA c 9) w = 0#64) → ¬ ∀ v, v < 2 ^ I → v / 2 ^ k % 2 = 0 → f v = true → f (v + 2 ^ k) = true := fun ⟨w, q1, q2⟩ q3 => q2 (eD.mpr q3 w q1)
  have dep : (∀ v, v < 2 ^ I → f v = f (M_fl v k)) ↔ (∀ v, v < 2 ^ I → v / 2 ^ k % 2 = 0 → f (v + 2 ^ k) = true → f v = true) ∧ (∀ v, v < 2 ^ I → v / 2 ^ k % 2 = 0 → f v = true → f (v + 2 ^ k) = true) := by
    constructor
    · intro q
      have q2 : ∀ v, v < 2 ^ I → v / 2 ^ k % 2 = 0 → f v = f (v + 2 ^ k) := fun v v1 v2 => by
        have := q v v1
        unfold M_fl at this
        rw [if_pos v2] at this
        exact this
      exact ⟨fun v v1 v2 v3 => by rw [q2 v v1 v2]; exact v3, fun v v1 v2 v3 => by rw [← q2 v v1 v2]; exact v3⟩
    · rintro ⟨q1, q2⟩ v hv
      have key : ∀ u, u < 2 ^ I → u / 2 ^ k % 2 = 0 → f u = f (u + 2 ^ k) := fun u u1 u2 => by
        have a1 := q1 u u1 u2
        have a2 := q2 u u1 u2
        revert a1 a2
        cases f u <;> cases f (u + 2 ^ k) <;> simp
      unfold M_fl
      by_cases e : v / 2 ^ k % 2 = 0
      · rw [if_pos e]
        exact key v hv e
      · rw [if_neg e]
        have hge : 2 ^ k ≤ v := by
          apply Classical.byContradiction
          intro q
          rw [Nat.div_eq_of_lt (by omega)] at e
          omega
        have hdv : v / 2 ^ k = (v - 2 ^ k) / 2 ^ k + 1 := by
          have := Nat.add_div_right (v - 2 ^ k) (Nat.two_pow_pos k)
          rw [show v - 2 ^ k + 2 ^ k = v by omega] at this
          exact this
        have := key (v - 2 ^ k) (by omega) (by omega)
        rw [show v - 2 ^ k + 2 ^ k = v by omega] at this
        exact this.symm
  rw [dep]
  obtain ⟨a, d, e, ha, hd⟩ := hz
  rcases ha with ⟨a1, a2⟩ | ⟨a1, a2⟩
  · have a3 := eU.mp a2
    rcases hd with ⟨d1, d2⟩ | ⟨d1, d2⟩
    · have d3 := eD.mp d2
      have ez : z = 0 := by omega
      subst ez
      exact ⟨⟨1, 1, Or.inl ⟨rfl, d3⟩, Or.inl ⟨rfl, a3⟩, rfl⟩, ⟨fun _ => ⟨a3, d3⟩, fun _ => rfl⟩⟩
    · have d3 := zD d2
      have ez : z = 2 := by omega
      subst ez
      exact ⟨⟨0, 1, Or.inr ⟨rfl, d3⟩, Or.inl ⟨rfl, a3⟩, rfl⟩, ⟨fun q => absurd q (by decide), fun q => absurd q.2 d3⟩⟩
  · have a3 := zU a2
    rcases hd with ⟨d1, d2⟩ | ⟨d1, d2⟩
    · have d3 := eD.mp d2
      have ez : z = 1 := by omega
      subst ez
      exact ⟨⟨1, 0, Or.inl ⟨rfl, d3⟩, Or.inr ⟨rfl, a3⟩, rfl⟩, ⟨fun q => absurd q (by decide), fun q => absurd q.1 a3⟩⟩
    · have d3 := zD d2
      have ez : z = 3 := by omega
      subst ez
      exact ⟨⟨0, 0, Or.inr ⟨rfl, d3⟩, Or.inr ⟨rfl, a3⟩, rfl⟩, ⟨fun q => absurd q (by decide), fun q => absurd q.1 a3⟩⟩
end PP
