/-! READER: exchangeNet -/
section RR
variable {sh : mj_Sh} {FR : mj_FR} {IA : mj_FI} {LA : mj_LA} {n r b u : Nat}
theorem ct_R_exchangeNet (h : isRd sh FR n r b) : mj_Ct m_R_exchangeNet [.inr (.inr (.inl r)), .inr (.inr (.inl u))] sh FR IA LA n (mj_pu (.inl (some (.inr (.inr (.inl b))))) sh (mj_up FR r 7 (.inl u)) IA LA n) := by
  obtain ⟨h0, r3, r4, r5, r6, r7, a1, a2, a3, a4, s0, s1, a5, a6⟩ := h
  refine mj_Ct_of (by decide +kernel) (by decide) (Nat.le_of_ble_eq_true rfl) ?_
  refine mj_go z_R_exchangeNet [] 60 ?_
  refine And.intro h0 (Exists.intro _ (And.intro r7 ?_))
  refine And.intro h0 ?_
  exact ⟨⟨rfl, rfl, rfl, rfl, rfl, rfl⟩, Nat.le_of_ble_eq_true rfl, Nat.le_of_ble_eq_true rfl⟩
end RR
