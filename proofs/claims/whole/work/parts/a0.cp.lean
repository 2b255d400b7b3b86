/-! THE TWO SIDES COUPLED: slots and rows -/
/-- the reference's row of a slot of the class -/
def rN (I s : Nat) : Nat := if s ≤ I then s else 15 + (s - I - 1)
theorem rho_N {I s : Nat} : rho I (s : Int) = (rN I s : Int) := by
  unfold rho rN
  rw [if_neg (by omega)]
  by_cases h : s ≤ I
  · rw [if_pos (by omega), if_pos h]
  · rw [if_neg (by omega), if_neg h]
    omega
theorem rN_is {I G s : Nat} (h : nS I G s) : M_is I G (rN I s) := by
  unfold rN
  rcases h with h | h
  · rw [if_pos h]
    exact Or.inl h
  · unfold lf_g at h
    rw [if_neg (by omega)]
    exact Or.inr ⟨by omega, by omega⟩
theorem rN_lt {I G s : Nat} (hI : I ≤ 14) (hG : G ≤ 300) (h : nS I G s) : rN I s < 315 := by
  rcases rN_is h with h | h
  · omega
  · omega
theorem rN_inj {I G s t : Nat} (hI : I ≤ 14) (hs : nS I G s) (ht : nS I G t) (h : rN I s = rN I t) : s = t := by
  unfold nS lf_g at hs ht
  unfold rN at h
  split at h
  · split at h
    · exact h
    · omega
  · split at h
    · omega
    · omega
/-- the slot of a row -/
def rI (I r : Nat) : Nat := if r ≤ I then r else r - 15 + I + 1
theorem rI_N {I G r : Nat} (h : M_is I G r) : nS I G (rI I r) ∧ rN I (rI I r) = r := by
  unfold rI
  by_cases e : r ≤ I
  · rw [if_pos e]
    exact ⟨Or.inl e, by unfold rN; rw [if_pos e]⟩
  · rw [if_neg e]
    rcases h with h | h
    · exact absurd h e
    · refine ⟨Or.inr ⟨by omega, by omega⟩, ?_⟩
      unfold rN
      rw [if_neg (by omega)]
      omega
theorem rI_rN {I G s : Nat} (hI : I ≤ 14) (h : nS I G s) : rI I (rN I s) = s := by
  have := rI_N (rN_is h)
  exact rN_inj hI this.1 h this.2
theorem rN_g {I k : Nat} : rN I (I + 1 + k) = 15 + k := by
  unfold rN
  rw [if_neg (by omega)]
  omega
theorem rN_i {I k : Nat} (h : k ≤ I) : rN I k = k := by
  unfold rN
  rw [if_pos h]
section PP
variable {IA : mj_FI} {LA : mj_LA} {x c b m I O G : Nat} {od ld : List Nat}
theorem nS_of (hW : nW IA b m I O G) {j s : Nat} (hj : j < 1001) (e : IA (b + 1) j = (s : Int)) : nS I G s := by
  obtain ⟨w1, w2, w3, w4, w5, w6, w7, w8, w9, V, wg, wo⟩ := hW
  rcases Nat.eq_zero_or_pos j with z | z
  · subst z
    rw [V.1] at e
    exact Or.inl (by omega)
  · rcases V.2.1 j z hj with q | ⟨q1, q2, _⟩
    · omega
    · unfold nS lf_g
      omega
theorem nA.nSL (h : nA IA b m I O G od) {s : Nat} (hs : lf_g I G s) : nS I G (nF (IA (b + 1)) (IA (b + 3)) s) ∧ nS I G (nF (IA (b + 1)) (IA (b + 4)) s) := by
  obtain ⟨⟨a1, a2, a3, a4⟩, b1, b2, b3, b4⟩ := h.1.fan h.2.1 hs
  exact ⟨nS_of h.1 (by omega) a3, nS_of h.1 (by omega) b3⟩
theorem nA.dp (h : nA IA b m I O G od) {s : Nat} (hs : nS I G s) : 0 ≤ IA (b + 6) s ∧ IA (b + 6) s ≤ 300 ∧ (s ≤ I → IA (b + 6) s = 0) ∧ (lf_g I G s → 1 ≤ IA (b + 6) s ∧ IA (b + 6) s = 1 + max (IA (b + 6) (nF (IA (b + 1)) (IA (b + 3)) s)) (IA (b + 6) (nF (IA (b + 1)) (IA (b + 4)) s))) := by
  have hT := h.2.2.1
  have hG := nt_wl_G h.1
  have hI := h.1.2.1
  have hG2 := h.1.2.2.2.1
  rcases hs with e | e
  · have e2 : ¬ s ∈ nt_wl IA b m := fun z => by
      have := (nt_wl_g h.1).mp z
      unfold lf_g at this
      omega
    have := hT.2.1 s (by omega) e2
    refine ⟨by omega, by omega, fun _ => this, fun z => ?_⟩
    unfold lf_g at z
    omega
  · have := hT.1 s ((nt_wl_g h.1).mpr e)
    rw [hG.2] at this
    refine ⟨by omega, by omega, fun z => ?_, fun _ => ⟨this.2.1, this.2.2.2⟩⟩
    unfold lf_g at e
    omega
theorem nA.ind (h : nA IA b m I O G od) {P : Nat → Prop} (h0 : ∀ s, s ≤ I → P s) (h1 : ∀ s, lf_g I G s → nS I G (nF (IA (b + 1)) (IA (b + 3)) s) → nS I G (nF (IA (b + 1)) (IA (b + 4)) s) → P (nF (IA (b + 1)) (IA (b + 3)) s) → P (nF (IA (b + 1)) (IA (b + 4)) s) → P s) : ∀ s, nS I G s → P s := by
  have key : ∀ (n s : Nat), nS I G s → IA (b + 6) s ≤ (n : Int) → P s := by
    intro n
    induction n with
    | zero =>
      intro s hs hd
      rcases hs with e | e
      · exact h0 s e
      · have := ((h.dp (Or.inr e)).2.2.2 e).1
        omega
    | succ n ih =>
      intro s hs hd
      rcases hs with e | e
      · exact h0 s e
      · have h2 := h.nSL e
        have h3 := ((h.dp (Or.inr e)).2.2.2 e).2
        have h4 := Int.le_max_left (IA (b + 6) (nF (IA (b + 1)) (IA (b + 3)) s)) (IA (b + 6) (nF (IA (b + 1)) (IA (b + 4)) s))
        have h5 := Int.le_max_right (IA (b + 6) (nF (IA (b + 1)) (IA (b + 3)) s)) (IA (b + 6) (nF (IA (b + 1)) (IA (b + 4)) s))
        exact h1 s e h2.1 h2.2 (ih _ h2.1 (by omega)) (ih _ h2.2 (by omega))
  intro s hs
  exact key (IA (b + 6) s).toNat s hs (by have := (h.dp hs).1; omega)
/-! masks -/
theorem bv_xm {v k f : BitVec 64} (h : v &&& k = v) (hf : f = 0#64 ∨ f = k) : (v ^^^ f) &&& k = v ^^^ f := by
  rcases hf with e | e
  · subst e
    rw [BitVec.xor_zero]
    exact h
  · subst e
    refine BitVec.eq_of_getLsbD_eq fun i hi => ?_
    have h1 : (v &&& f).getLsbD i = v.getLsbD i := by rw [h]
    rw [BitVec.getLsbD_and] at h1
    rw [BitVec.getLsbD_and, BitVec.getLsbD_xor]
    revert h1
    cases v.getLsbD i <;> cases f.getLsbD i <;> simp
theorem bv_inv {v k : BitVec 64} (h : v &&& k = v) : (v ^^^ 0xFFFFFFFFFFFFFFFF#64) &&& k = v ^^^ k := by
  refine BitVec.eq_of_getLsbD_eq fun i hi => ?_
  have h1 : (v &&& k).getLsbD i = v.getLsbD i := by rw [h]
  rw [BitVec.getLsbD_and] at h1
  have a1 : (0xFFFFFFFFFFFFFFFF#64).getLsbD i = true := by
    have : ∀ i : Fin 64, (0xFFFFFFFFFFFFFFFF#64).getLsbD i.val = true := by decide +kernel
    exact this ⟨i, hi⟩
  rw [BitVec.getLsbD_and, BitVec.getLsbD_xor, BitVec.getLsbD_xor, a1]
  revert h1
  cases v.getLsbD i <;> cases k.getLsbD i <;> simp
theorem C_iw_in {k w : Nat} (hk : k < I) : C_iw k w (C_mk I) &&& C_mk I = C_iw k w (C_mk I) := by
  unfold C_iw
  by_cases e : k < 6
  · rw [if_pos e, BitVec.and_assoc, BitVec.and_self]
  · rw [if_neg e]
    split
    · exact BitVec.zero_and
    · rw [show C_mk I = 0xFFFFFFFFFFFFFFFF#64 from if_neg (by omega), BitVec.and_self]
/-- words lie within the mask -/
theorem cS.in (h : cS IA LA c b m I O G od ld) : ∀ s, nS I G s → ∀ w, w < C_W I → C_rw LA c s w &&& C_mk I = C_rw LA c s w := by
  obtain ⟨hA, h8, h9, hE, hV, hz⟩ := h
  refine hA.ind (fun s hs w hw => ?_) (fun s hs l1 r1 hl hr w hw => ?_)
  · rcases Nat.eq_zero_or_pos s with z | z
    · subst z
      rw [hE.1 w hw]
      exact BitVec.zero_and
    · have e : s = 1 + (s - 1) := by omega
      rw [e, hE.2.1 (s - 1) (by omega) w hw]
      exact C_iw_in (by omega)
  · rw [hE.2.2 s (hA.od.2.2 s |>.mpr hs) w hw]
    unfold C_gw
    rw [h9, BitVec.and_assoc, bv_xm (hr w hw) (by split <;> simp)]
theorem cS.lin (h : cS IA LA c b m I O G od ld) {s w : Nat} (hs : nS I G s) (hw : w < C_W I) (lit : Int) : C_lw LA c s lit w &&& C_mk I = C_lw LA c s lit w := by
  unfold C_lw
  rw [h.2.2.1]
  exact bv_xm (h.in s hs w hw) (by split <;> simp)
/-! the coupling -/
def cpT (LA : mj_LA) (x c I G : Nat) : Prop := ∀ s, nS I G s → ∀ w, w < C_W I → M_rw LA x (rN I s) w = C_rw LA c s w
def cpD (IA : mj_FI) (x b I G : Nat) : Prop := ∀ s, nS I G s → IA 67 (315 * x + rN I s) = IA (b + 6) s
def cpO (IA : mj_FI) (x G : Nat) : Prop := ∃ om : List Nat, (om.length = G ∧ om.Nodup ∧ ∀ k ∈ om, k < G) ∧ (∀ i s : Nat, om[i]? = some s → IA 68 (300 * x + i) = (s : Int)) ∧ om.Pairwise (fun k j => IA 67 (315 * x + (15 + k)) ≤ IA 67 (315 * x + (15 + j)))
/-- circuit x of the reference is the circuit at c, whose net lies at b -/
def cp (IA : mj_FI) (LA : mj_LA) (x c b m I O G : Nat) (od ld : List Nat) : Prop := cS IA LA c b m I O G od ld ∧ mN IA x m I O G (IA (b + 1)) (IA (b + 2)) (IA (b + 3)) (IA (b + 4)) (IA (b + 5)) ∧ cpD IA x b I G ∧ cpO IA x G ∧ cpT LA x c I G ∧ M_dr IA x ∧ IA c 1 = IA 59 x ∧ IA c 2 = IA 60 x
theorem cp.W (h : cp IA LA x c b m I O G od ld) : nW IA b m I O G := h.1.1.1
theorem cp.row (h : cp IA LA x c b m I O G od ld) {j : Nat} (hj : j ≤ 1000) : IA 66 (1001 * x + j) = rho I (IA (b + 1) j) := by
  rcases Nat.eq_zero_or_pos j with z | z
  · subst z
    have e := h.2.1.2.2.2.2.1.1
    have e2 := h.W.2.2.2.2.2.2.2.2.2.1.1
    rw [Nat.add_zero, e, e2]
    rfl
  · exact h.2.1.2.2.2.2.1.2 j z hj
theorem cp.st (h : cp IA LA x c b m I O G od ld) {lit : Int} : M_st IA x lit ↔ tw_sd IA b lit := by
  obtain ⟨w1, w2, w3, w4, w5, w6, w7, w8, w9, V, wg, wo⟩ := h.W
  have hso := h.W.so
  unfold tw_sd
  constructor
  · rintro ⟨h1, h2, h3⟩
    have hj : (lit / 2).toNat ≤ 1000 := by omega
    rw [h.row hj] at h3
    have h4 : ¬ IA (b + 1) (lit / 2).toNat = -1 := fun z => by
      rw [z, show rho I (-1) = -1 from if_pos (by decide)] at h3
      omega
    refine ⟨⟨h1, ?_⟩, h4⟩
    rw [w6]
    rcases Nat.eq_zero_or_pos (lit / 2).toNat with z | z
    · omega
    · rcases V.2.1 _ z (by omega) with q | ⟨_, _, _, q⟩
      · exact absurd q h4
      · omega
  · rintro ⟨⟨h1, h2⟩, h3⟩
    rw [w6] at h2
    have hj : (lit / 2).toNat ≤ 1000 := by omega
    refine ⟨h1, by omega, ?_⟩
    rw [h.row hj]
    have h4 := hso (lit / 2).toNat (by omega)
    obtain ⟨s, hs⟩ : ∃ s : Nat, IA (b + 1) (lit / 2).toNat = (s : Int) := ⟨(IA (b + 1) (lit / 2).toNat).toNat, by omega⟩
    rw [hs, rho_N]
    omega
theorem cp.sl (h : cp IA LA x c b m I O G od ld) {lit : Int} (hl : tw_sd IA b lit) : nS I G (wr_sl IA b lit) := h.W.sl hl
theorem cp.ro (h : cp IA LA x c b m I O G od ld) {lit : Int} (hl : tw_sd IA b lit) : M_ro IA x lit = rN I (wr_sl IA b lit) := by
  have h2 := hl.st h.W
  unfold M_ro
  rw [h.row (by omega), h2.2.2.1, rho_N]
  omega
theorem cp.lw (h : cp IA LA x c b m I O G od ld) {s w : Nat} (hs : nS I G s) (hw : w < C_W I) (lit : Int) : M_lw LA I x (rN I s) lit w = C_lw LA c s lit w := by
  unfold M_lw C_lw
  rw [h.2.2.2.2.1 s hs w hw]
  by_cases e : lit % 2 = 0
  · rw [if_pos e, if_pos e, BitVec.xor_zero]
  · rw [if_neg e, if_neg e, h.1.2.2.1]
    exact bv_inv (h.1.in s hs w hw)
theorem cp.bt (h : cp IA LA x c b m I O G od ld) {s v : Nat} (hs : nS I G s) (hv : v < 64 * C_W I) (lit : Int) : M_bt LA I x (rN I s) lit v = C_bt LA c s lit v := by
  unfold M_bt C_bt
  rw [h.lw hs (by omega) lit]
theorem mk_bit : ∀ k : Fin 6, ∀ i : Fin 64, ((1#64 <<< (2 ^ k.val)) - 1#64).getLsbD i.val = decide (i.val < 2 ^ k.val) := by decide +kernel
theorem C_N {I : Nat} (h : 6 ≤ I) : 64 * C_W I = 2 ^ I := by
  unfold C_W
  rw [if_neg (by omega), show I = (I - 6) + 6 by omega, Nat.pow_add]
  rw [show I - 6 + 6 - 6 = I - 6 by omega]
  omega
/-- beyond the vectors a function is 0 -/
theorem cS.b0 (h : cS IA LA c b m I O G od ld) {s v : Nat} (hs : nS I G s) (hv : v < 64 * C_W I) (hv2 : 2 ^ I ≤ v) (lit : Int) : C_bt LA c s lit v = false := by
  by_cases e : I < 6
  · have hW : C_W I = 1 := by unfold C_W; rw [if_pos e]
    rw [hW] at hv
    have h1 := h.lin (w := v / 64) hs (by omega) lit
    unfold C_bt
    rw [← h1, BitVec.getLsbD_and]
    have h2 : (C_mk I).getLsbD (v % 64) = false := by
      rw [show C_mk I = (1#64 <<< (2 ^ I)) - 1#64 from if_pos e]
      have := mk_bit ⟨I, e⟩ ⟨v % 64, by omega⟩
      rw [this]
      simp only [decide_eq_false_iff_not]
      omega
    rw [h2, Bool.and_false]
  · have := C_N (I := I) (by omega)
    omega
theorem cS.N (h : cS IA LA c b m I O G od ld) : 2 ^ I ≤ 64 * C_W I := h.W.2.2.2
end PP
