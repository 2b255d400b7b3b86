/-! NET -/
/-- a method's answer alone: the state stays -/
def mj_pu (v : mj_O) (sh : mj_Sh) (FR : mj_FR) (IA : mj_FI) (LA : mj_LA) (n : Nat) : mj_Q := fun r sh' FR' IA' LA' n' => r = v ∧ sh' = sh ∧ FR' = FR ∧ IA' = IA ∧ LA' = LA ∧ n' = n
/-- the net whose object lies at the place b: its arrays lie behind it -/
def isNet (sh : mj_Sh) (FR : mj_FR) (n b : Nat) : Prop :=
  mj_is sh n b 7 0 ∧ FR b 0 = .inl (b + 1) ∧ FR b 1 = .inl (b + 2) ∧ FR b 2 = .inl (b + 3) ∧ FR b 3 = .inl (b + 4) ∧ FR b 4 = .inl (b + 5) ∧ FR b 5 = .inl (b + 6) ∧ FR b 6 = .inl (b + 7) ∧ FR b 7 = .inl (b + 8) ∧
  mj_is sh n (b + 1) 0 1001 ∧ mj_is sh n (b + 2) 0 315 ∧ mj_is sh n (b + 3) 0 315 ∧ mj_is sh n (b + 4) 0 315 ∧ mj_is sh n (b + 5) 0 16 ∧ mj_is sh n (b + 6) 0 315 ∧ mj_is sh n (b + 7) 0 300 ∧ mj_is sh n (b + 8) 0 300
section NN
variable {sh : mj_Sh} {FR : mj_FR} {IA : mj_FI} {LA : mj_LA} {n b : Nat}
theorem ct_N_slotFor (hN : isNet sh FR n b) {lit : Int} (h1 : 0 ≤ lit) (h2 : lit ≤ 2001) : mj_Ct m_N_slotFor [.inr (.inr (.inl b)), .inl lit] sh FR IA LA n (mj_pu (.inl (some (.inl (IA (b + 1) (lit / 2).toNat)))) sh FR IA LA n) := by
  obtain ⟨h0, r0, r1, r2, r3, r4, r5, r6, r7, a0, a1, a2, a3, a4, a5, a6, a7⟩ := hN
  refine mj_Ct_of (by decide +kernel) (by decide) (Nat.le_of_ble_eq_true rfl) ?_
  refine mj_go z_N_slotFor [] 20 ?_
  refine And.intro h0 (Exists.intro _ (And.intro r0 ?_))
  refine Exists.intro _ (And.intro (nu_shr1 (by omega) (by omega)) ?_)
  refine Exists.intro _ (Exists.intro (lit / 2).toNat (And.intro a0 (And.intro (by rw [mj_w_id (by omega) (by omega)]; omega) (And.intro (by omega) ?_))))
  exact ⟨⟨rfl, rfl, rfl, rfl, rfl, rfl⟩, by decide, by decide⟩
theorem ct_N_place (hN : isNet sh FR n b) {slot : Nat} {lit : Int} (h1 : 0 ≤ lit) (h2 : lit ≤ 2001) (h3 : slot < 315) : mj_Ct m_N_place [.inr (.inr (.inl b)), .inl slot, .inl lit] sh FR IA LA n (mj_pu (.inl none) sh FR (mj_up (mj_up IA (b + 2) slot lit) (b + 1) (lit / 2).toNat slot) LA n) := by
  obtain ⟨h0, r0, r1, r2, r3, r4, r5, r6, r7, a0, a1, a2, a3, a4, a5, a6, a7⟩ := hN
  refine mj_Ct_of (by decide +kernel) (by decide) (Nat.le_of_ble_eq_true rfl) ?_
  refine mj_go z_N_place [] 20 ?_
  refine And.intro h0 (Exists.intro _ (And.intro r1 ?_))
  refine Exists.intro _ (Exists.intro slot (And.intro a1 (And.intro (by rw [mj_w_id (by omega) (by omega)]) (And.intro (by omega) ?_))))
  refine And.intro h0 (Exists.intro _ (And.intro r0 ?_))
  refine Exists.intro _ (And.intro (nu_shr1 (by omega) (by omega)) ?_)
  refine Exists.intro _ (Exists.intro (lit / 2).toNat (And.intro a0 (And.intro (by rw [mj_w_id (by omega) (by omega)]; omega) (And.intro (by omega) ?_))))
  exact ⟨⟨rfl, rfl, rfl, rfl, rfl, rfl⟩, by decide, by decide⟩
theorem ct_N_exists (hN : isNet sh FR n b) {lit : Int} (h1 : -2147483648 ≤ lit) (h2 : lit < 2147483648) (h3 : 0 ≤ IA b 9) (h4 : IA b 9 ≤ 1000) : mj_Ct m_N_exists [.inr (.inr (.inl b)), .inl lit] sh FR IA LA n (mj_pu (.inl (some (.inl (if 0 ≤ lit ∧ lit ≤ 2 * IA b 9 + 1 then 1 else 0)))) sh FR IA LA n) := by
  obtain ⟨h0, r0, r1, r2, r3, r4, r5, r6, r7, a0, a1, a2, a3, a4, a5, a6, a7⟩ := hN
  refine mj_Ct_of (by decide +kernel) (by decide) (Nat.le_of_ble_eq_true rfl) ?_
  refine mj_go z_N_exists [] 20 ?_
  refine And.intro (fun c1 => ?_) (fun c1 => ?_)
  · rw [mj_w_id (by omega) (by omega)] at c1
    rw [if_neg (by omega)]
    exact ⟨Or.inl rfl, ⟨rfl, rfl, rfl, rfl, rfl, rfl⟩, by decide, by decide⟩
  · rw [mj_w_id (by omega) (by omega)] at c1
    refine And.intro h0 ?_
    refine Exists.intro (2 * IA b 9) (And.intro (by rw [mj_w_id (by omega) (by omega)]) ?_)
    refine Exists.intro (2 * IA b 9 + 1) (And.intro (by rw [mj_w_id (by omega) (by omega)]) ?_)
    refine And.intro (fun c2 => ?_) (fun c2 => ?_)
    · rw [mj_w_id (by omega) (by omega), mj_w_id (by omega) (by omega)] at c2
      rw [if_neg (by omega)]
      exact ⟨Or.inl rfl, ⟨rfl, rfl, rfl, rfl, rfl, rfl⟩, by decide, by decide⟩
    · rw [mj_w_id (by omega) (by omega), mj_w_id (by omega) (by omega)] at c2
      rw [if_pos (by omega)]
      exact ⟨Or.inr rfl, ⟨rfl, rfl, rfl, rfl, rfl, rfl⟩, by decide, by decide⟩
end NN
