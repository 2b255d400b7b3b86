/-! THE TWO SIDES COUPLED: queries by bits -/
theorem C_fst_u {f : Nat → Bool} {x N : Nat} {z z' : Int} (h : C_fst f x N z) (h' : C_fst f x N z') : z = z' := by
  rcases h with ⟨y, e, a, b, c, d⟩ | ⟨e, d⟩
  · rcases h' with ⟨y', e', a', b', c', d'⟩ | ⟨e', d'⟩
    · rcases Nat.lt_trichotomy y y' with q | q | q
      · rw [d' y a q] at c
        cases c
      · omega
      · rw [d y' a' q] at c'
        cases c'
    · rw [d' y a b] at c
      cases c
  · rcases h' with ⟨y', e', a', b', c', d'⟩ | ⟨e', d'⟩
    · rw [d y' a' b'] at c'
      cases c'
    · omega
theorem C_fst_c {f g : Nat → Bool} {x M N : Nat} {z : Int} (hM : M ≤ N) (h0 : ∀ i, M ≤ i → i < N → f i = false) (hg : ∀ i, i < M → f i = g i) (h : C_fst f x N z) : C_fst g x M z := by
  rcases h with ⟨y, e, a, b, c, d⟩ | ⟨e, d⟩
  · have hy : y < M := by
      apply Classical.byContradiction
      intro q
      rw [h0 y (by omega) b] at c
      cases c
    exact Or.inl ⟨y, e, a, hy, by rw [← hg y hy]; exact c, fun i i1 i2 => by rw [← hg i (by omega)]; exact d i i1 i2⟩
  · exact Or.inr ⟨e, fun i i1 i2 => by rw [← hg i i2]; exact d i i1 (by omega)⟩
theorem C_lst_u {f : Nat → Bool} {N : Nat} {z z' : Int} (h : C_lst f N z) (h' : C_lst f N z') : z = z' := by
  rcases h with ⟨y, e, b, c, d⟩ | ⟨e, d⟩
  · rcases h' with ⟨y', e', b', c', d'⟩ | ⟨e', d'⟩
    · rcases Nat.lt_trichotomy y y' with q | q | q
      · rw [d y' q b'] at c'
        cases c'
      · omega
      · rw [d' y q b] at c
        cases c
    · rw [d' y b] at c
      cases c
  · rcases h' with ⟨y', e', b', c', d'⟩ | ⟨e', d'⟩
    · rw [d y' b'] at c'
      cases c'
    · omega
theorem C_lst_c {f g : Nat → Bool} {M N : Nat} {z : Int} (hM : M ≤ N) (h0 : ∀ i, M ≤ i → i < N → f i = false) (hg : ∀ i, i < M → f i = g i) (h : C_lst f N z) : C_lst g M z := by
  rcases h with ⟨y, e, b, c, d⟩ | ⟨e, d⟩
  · have hy : y < M := by
      apply Classical.byContradiction
      intro q
      rw [h0 y (by omega) b] at c
      cases c
    exact Or.inl ⟨y, e, hy, by rw [← hg y hy]; exact c, fun i i1 i2 => by rw [← hg i i2]; exact d i i1 (by omega)⟩
  · exact Or.inr ⟨e, fun i i2 => by rw [← hg i i2]; exact d i (by omega)⟩
/-! words and their inverses -/
theorem bv_x2 (B k : BitVec 64) : B ^^^ k ^^^ k = B := by rw [BitVec.xor_assoc, BitVec.xor_self, BitVec.xor_zero]
theorem bv_x1 {A B k : BitVec 64} : A ^^^ k = B ^^^ k ↔ A = B := ⟨fun h => by rw [← bv_x2 A k, h, bv_x2], fun h => by rw [h]⟩
theorem bv_x3 {A B k : BitVec 64} : A ^^^ k = B ↔ A = B ^^^ k := ⟨fun h => by rw [← h, bv_x2], fun h => by rw [h, bv_x2]⟩
theorem C_mk0 (I : Nat) : (C_mk I).getLsbD 0 = true := by
  by_cases e : I < 6
  · rw [show C_mk I = (1#64 <<< (2 ^ I)) - 1#64 from if_pos e]
    have := mk_bit ⟨I, e⟩ ⟨0, by decide⟩
    simp only [] at this
    rw [this]
    exact decide_eq_true (Nat.two_pow_pos I)
  · rw [show C_mk I = 0xFFFFFFFFFFFFFFFF#64 from if_neg e]
    decide
theorem C_sb_bit (x : BitVec 64) : C_sb x = if x.getLsbD 0 = true then 1 else 0 := by
  unfold C_sb
  have : x.getLsbD 0 = decide (x.toNat % 2 = 1) := by
    unfold BitVec.getLsbD
    rw [Nat.testBit_zero]
  rw [this]
  by_cases e : x.toNat % 2 = 1
  · rw [e, if_pos (decide_eq_true rfl)]
    rfl
  · rw [if_neg (by simp [e]), show x.toNat % 2 = 0 by omega]
    rfl
section PP
variable {IA : mj_FI} {LA : mj_LA} {x c b m I O G : Nat} {od ld : List Nat}
theorem si_iff {d s t W : Nat} (hm : LA c 9 = C_mk I) (hW : 1 ≤ W) : C_si LA c s d t W ↔ (∀ w, w < W → C_rw LA c s w = C_rw LA d t w) ∨ (∀ w, w < W → C_rw LA c s w = C_rw LA d t w ^^^ C_mk I) := by
  unfold C_si
  rw [hm]
  constructor
  · intro h
    by_cases e : C_sb (C_rw LA c s 0) = C_sb (C_rw LA d t 0)
    · refine Or.inl fun w hw => ?_
      have := h w hw
      rw [if_pos e, bv_x3, BitVec.zero_xor] at this
      exact this
    · refine Or.inr fun w hw => ?_
      have := h w hw
      rw [if_neg e, bv_x3] at this
      rw [this, BitVec.xor_comm]
  · rintro (h | h)
    · intro w hw
      rw [h w hw, h 0 (by omega), if_pos rfl, BitVec.xor_self]
    · intro w hw
      have e : ¬ C_sb (C_rw LA c s 0) = C_sb (C_rw LA d t 0) := by
        rw [h 0 (by omega), C_sb_bit, C_sb_bit, BitVec.getLsbD_xor, C_mk0]
        cases (C_rw LA d t 0).getLsbD 0 <;> simp
      rw [if_neg e, h w hw, BitVec.xor_comm, ← BitVec.xor_assoc, BitVec.xor_self, BitVec.zero_xor]
theorem si_lw {d s t W : Nat} (hm : LA c 9 = C_mk I) (hd : LA d 9 = C_mk I) (hW : 1 ≤ W) (a e : Int) : C_si LA c s d t W ↔ (∀ w, w < W → C_lw LA c s a w = C_lw LA d t e w) ∨ (∀ w, w < W → C_lw LA c s a w = C_lw LA d t e w ^^^ C_mk I) := by
  rw [si_iff hm hW]
  unfold C_lw
  rw [hm, hd]
  by_cases h1 : a % 2 = 0
  · by_cases h2 : e % 2 = 0
    · simp only [if_pos h1, if_pos h2, BitVec.xor_zero]
    · simp only [if_pos h1, if_neg h2, BitVec.xor_zero, bv_x2]
      exact or_comm
  · by_cases h2 : e % 2 = 0
    · simp only [if_neg h1, if_pos h2, BitVec.xor_zero, bv_x1]
      simp only [bv_x3]
      exact or_comm
    · simp only [if_neg h1, if_neg h2, bv_x1]
/-- not both the same and the inverse -/
theorem lw_ne {d s t W : Nat} {a e : Int} (hW : 1 ≤ W) (h1 : ∀ w, w < W → C_lw LA c s a w = C_lw LA d t e w) (h2 : ∀ w, w < W → C_lw LA c s a w = C_lw LA d t e w ^^^ C_mk I) : False := by
  have h3 := h2 0 (by omega)
  rw [h1 0 (by omega)] at h3
  have h4 : (C_lw LA d t e 0).getLsbD 0 = (C_lw LA d t e 0 ^^^ C_mk I).getLsbD 0 := by rw [← h3]
  rw [BitVec.getLsbD_xor, C_mk0] at h4
  revert h4
  cases (C_lw LA d t e 0).getLsbD 0 <;> simp
theorem lw_x1 {s w : Nat} (hm : LA c 9 = C_mk I) {a e : Int} (h : ¬ a % 2 = e % 2) : C_lw LA c s a w = C_lw LA c s e w ^^^ C_mk I := by
  unfold C_lw
  rw [hm]
  by_cases h1 : a % 2 = 0
  · rw [if_pos h1, if_neg (by omega), bv_x2, BitVec.xor_zero]
  · rw [if_neg h1, if_pos (by omega), BitVec.xor_zero]
theorem cp.eq (h : cp IA LA x c b m I O G od ld) {y d b2 m2 O2 G2 : Nat} {od2 ld2 : List Nat} (h2 : cp IA LA y d b2 m2 I O2 G2 od2 ld2) {s t : Nat} (hs : nS I G s) (ht : nS I G2 t) {a e : Int} : M_eq LA I x (rN I s) a y (rN I t) e ↔ ∀ w, w < C_W I → C_lw LA c s a w = C_lw LA d t e w := by
  unfold M_eq
  constructor
  · intro q w hw
    have := q w hw
    rw [h.lw hs hw, h2.lw ht hw] at this
    exact this
  · intro q w hw
    rw [h.lw hs hw, h2.lw ht hw]
    exact q w hw
theorem q_fst (h : cp IA LA x c b m I O G od ld) {lit : Int} (hl : tw_sd IA b lit) {v : Nat} {z : Int} (hz : C_fst (C_bt LA c (wr_sl IA b lit) lit) v (64 * C_W I) z) : C_fst (M_bt LA I x (M_ro IA x lit) lit) v (2 ^ I) z :=
  C_fst_c h.1.N (fun i a b => h.1.b0 (h.sl hl) b a lit) (fun i hi => by rw [h.ro hl, h.bt (h.sl hl) (by have := h.1.N; omega) lit]) hz
theorem q_lst (h : cp IA LA x c b m I O G od ld) {lit : Int} (hl : tw_sd IA b lit) {z : Int} (hz : C_lst (C_bt LA c (wr_sl IA b lit) lit) (64 * C_W I) z) : C_lst (M_bt LA I x (M_ro IA x lit) lit) (2 ^ I) z :=
  C_lst_c h.1.N (fun i a b => h.1.b0 (h.sl hl) b a lit) (fun i hi => by rw [h.ro hl, h.bt (h.sl hl) (by have := h.1.N; omega) lit]) hz
theorem q_imp (h : cp IA LA x c b m I O G od ld) {lit oth : Int} (hl : tw_sd IA b lit) (ho : tw_sd IA b oth) {w : Nat} (hw : w < C_W I) : C_lw LA c (wr_sl IA b lit) lit w &&& C_lw LA c (wr_sl IA b oth) (oth + 1) w = M_lw LA I x (M_ro IA x lit) lit w &&& (M_lw LA I x (M_ro IA x oth) oth w ^^^ 0xFFFFFFFFFFFFFFFF#64) := by
  rw [h.ro hl, h.ro ho, h.lw (h.sl hl) hw, h.lw (h.sl ho) hw, lw_x1 (a := oth + 1) (e := oth) h.1.2.2.1 (by omega), ← bv_inv (h.1.lin (h.sl ho) hw oth), BitVec.and_comm (_ ^^^ _) (C_mk I), ← BitVec.and_assoc, h.1.lin (h.sl hl) hw lit]
end PP
section P2
variable {IA : mj_FI} {LA : mj_LA} {b1 b2 m1 m2 I O1 O2 G1 G2 : Nat} {od1 od2 ld1 ld2 : List Nat}
theorem cp.o65 {x c b m I O G : Nat} {od ld : List Nat} (h : cp IA LA x c b m I O G od ld) {k : Nat} (hk : k < O) : IA 65 (16 * x + k) = IA (b + 5) k := h.2.1.2.2.2.2.2.2.2 k hk
theorem q_df (h0 : cp IA LA 0 1 b1 m1 I O1 G1 od1 ld1) (h1 : cp IA LA 1 15 b2 m2 I O2 G2 od2 ld2) {k : Nat} {z : Int} (k1 : k < O1) (k2 : k < O2) (hz : tw_df IA LA b1 b2 (C_W I) k z) : C_fst (fun v => M_bt LA I 0 (M_ro IA 0 (IA 65 (16 * 0 + k))) (IA 65 (16 * 0 + k)) v ^^ M_bt LA I 1 (M_ro IA 1 (IA 65 (16 * 1 + k))) (IA 65 (16 * 1 + k)) v) 0 (2 ^ I) z := by
  have l0 := h0.1.1.out k1
  have l1 := h1.1.1.out k2
  rw [h0.o65 k1, h1.o65 k2, h0.ro l0, h1.ro l1]
  refine C_fst_c h0.1.N (fun i a b => ?_) (fun i hi => ?_) hz
  · simp only [h0.1.b0 (h0.sl l0) b a, h1.1.b0 (h1.sl l1) b a]
    rfl
  · have := h0.1.N
    simp only [h0.bt (h0.sl l0) (show i < 64 * C_W I by omega), h1.bt (h1.sl l1) (show i < 64 * C_W I by omega)]
theorem q_oe (h0 : cp IA LA 0 1 b1 m1 I O1 G1 od1 ld1) (h1 : cp IA LA 1 15 b2 m2 I O2 G2 od2 ld2) {k : Nat} {z : Int} (k1 : k < O1) (k2 : k < O2) (hz : tw_df IA LA b1 b2 (C_W I) k z) : (z = -1 ∧ M_oe IA LA I k) ∨ (0 ≤ z ∧ ¬ M_oe IA LA I k) := by
  have l0 := h0.1.1.out k1
  have l1 := h1.1.1.out k2
  have key : M_oe IA LA I k ↔ ∀ w, w < C_W I → C_lw LA 1 (wr_sl IA b1 (IA (b1 + 5) k)) (IA (b1 + 5) k) w = C_lw LA 15 (wr_sl IA b2 (IA (b2 + 5) k)) (IA (b2 + 5) k) w := by
    unfold M_oe
    rw [h0.o65 k1, h1.o65 k2, h0.ro l0, h1.ro l1]
    exact h0.eq h1 (h0.sl l0) (h1.sl l1)
  rw [key]
  rcases hz with ⟨y, e, _, hy, ht, _⟩ | ⟨e, hf⟩
  · refine Or.inr ⟨by omega, fun q => ?_⟩
    have h3 := q (y / 64) (by omega)
    simp only [] at ht
    revert ht
    unfold C_bt
    rw [h3]
    simp
  · refine Or.inl ⟨e, fun w hw => BitVec.eq_of_getLsbD_eq fun i hi => ?_⟩
    have h3 := hf (64 * w + i) (by omega) (by omega)
    simp only [] at h3
    rw [C_bt_w hi, C_bt_w hi] at h3
    revert h3
    cases (C_lw LA 1 (wr_sl IA b1 (IA (b1 + 5) k)) (IA (b1 + 5) k) w).getLsbD i <;> cases (C_lw LA 15 (wr_sl IA b2 (IA (b2 + 5) k)) (IA (b2 + 5) k) w).getLsbD i <;> simp
theorem q_same (h0 : cp IA LA 0 1 b1 m1 I O1 G1 od1 ld1) (h1 : cp IA LA 1 15 b2 m2 I O2 G2 od2 ld2) {a e z : Int} (la : tw_sd IA b1 a) (le : tw_sd IA b2 e) (hz : tw_sm IA LA b1 b2 (C_W I) a e z) :
    (M_eq LA I 0 (M_ro IA 0 a) a 1 (M_ro IA 1 e) e ∧ z = 1) ∨ (¬ M_eq LA I 0 (M_ro IA 0 a) a 1 (M_ro IA 1 e) e ∧ M_eq LA I 0 (M_ro IA 0 a) a 1 (M_ro IA 1 e) (M_x1 e) ∧ z = -1) ∨ (¬ M_eq LA I 0 (M_ro IA 0 a) a 1 (M_ro IA 1 e) e ∧ ¬ M_eq LA I 0 (M_ro IA 0 a) a 1 (M_ro IA 1 e) (M_x1 e) ∧ z = 0) := by
  have hW := (C_W_le h0.W.2.1).1
  have hx : ¬ M_x1 e % 2 = e % 2 := by
    unfold M_x1
    split <;> omega
  rw [h0.ro la, h1.ro le, h0.eq h1 (h0.sl la) (h1.sl le), h0.eq h1 (h0.sl la) (h1.sl le)]
  simp only [lw_x1 h1.1.2.2.1 hx]
  have hs := si_lw (s := wr_sl IA b1 a) (t := wr_sl IA b2 e) h0.1.2.2.1 h1.1.2.2.1 hW a e
  unfold tw_sm at hz
  rw [hs] at hz
  rcases hz with ⟨e0, hz⟩ | ⟨hz, e0⟩
  · exact Or.inr (Or.inr ⟨fun q => hz (Or.inl q), fun q => hz (Or.inr q), e0⟩)
  · have hb : ∀ v : Nat, C_bt LA 1 (wr_sl IA b1 a) a 0 = (C_lw LA 1 (wr_sl IA b1 a) a 0).getLsbD 0 ∧ C_bt LA 15 (wr_sl IA b2 e) e 0 = (C_lw LA 15 (wr_sl IA b2 e) e 0).getLsbD 0 := fun _ => ⟨rfl, rfl⟩
    rw [(hb 0).1, (hb 0).2] at e0
    rcases hz with q | q
    · rw [q 0 (by omega), if_pos rfl] at e0
      exact Or.inl ⟨q, e0⟩
    · have e1 : ¬ (C_lw LA 1 (wr_sl IA b1 a) a 0).getLsbD 0 = (C_lw LA 15 (wr_sl IA b2 e) e 0).getLsbD 0 := by
        rw [q 0 (by omega), BitVec.getLsbD_xor, C_mk0]
        cases (C_lw LA 15 (wr_sl IA b2 e) e 0).getLsbD 0 <;> simp
      rw [if_neg e1] at e0
      exact Or.inr (Or.inl ⟨fun q2 => lw_ne hW q2 q, q, e0⟩)
end P2
