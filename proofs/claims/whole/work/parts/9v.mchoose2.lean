/-! THE REFERENCE: choose -/
/-- what choose works with, once become is set -/
def ch_H (B : mj_FI) (c O G : Nat) (od : List Nat) : Prop := (B 56 c = (G : Int) ∧ G ≤ 300) ∧ (B 57 c = (O : Int) ∧ O ≤ 16) ∧ M_rr B ∧ (∀ lit, M_st B c lit → M_st B c (B 73 (M_ro B c lit))) ∧ (∀ xs k ys, od = xs ++ k :: ys → ∀ j ∈ k :: ys, ch_X B c k ≠ 15 + j ∧ ch_Y B c k ≠ 15 + j) ∧ (∀ k, k < G → M_st B c (B 63 (300 * c + k)) ∧ M_st B c (B 64 (300 * c + k))) ∧ M_os B c O ∧ (od.length = G ∧ od.Nodup ∧ ∀ k ∈ od, k < G) ∧ (∀ i s : Nat, od[i]? = some s → B 68 (300 * c + i) = (s : Int))
theorem ch_H.tr {B : mj_FI} {c O G : Nat} {od : List Nat} (h : ch_H B c O G od) (hc : c < 2) {lit : Int} (hl : M_st B c lit) : M_tr B c lit < 315 := by
  have s := (M_tu_st (h.2.2.2.1 lit hl)).1
  exact (s.row h.2.2.1 (by omega)).2
theorem M_tr_f {B J : mj_FI} {c : Nat} {lit : Int} (e6 : J 66 = B 66) (e3 : J 73 = B 73) : M_tr J c lit = M_tr B c lit := (M_tu_co e3 e6).2
section MM
variable {sh : mj_Sh} {FR : mj_FR} {IA : mj_FI} {LA : mj_LA} {n : Nat}
set_option maxHeartbeats 2000000 in
/-- the last loop: depths -/
theorem ch_last (h : isM sh FR n) {B J1 : mj_FI} {c O G : Nat} {od : List Nat} {rv : Int} (hc : c < 2) (hH : ch_H B c O G od) (hJ1 : ∀ q, q ≠ 76 → J1 q = B q) (hn1 : ∀ r, r < 315 → (J1 76 r = 0 ∨ J1 76 r = 1)) {P : mj_O → mj_FI → Prop}
    (hP : ∀ J : mj_FI, (∀ q, q ≠ 74 → J q = J1 q) → ch_D (ch_X B c) (ch_Y B c) od (J 74) → P (.inl (some (.inl (wr_ct (fun k => decide (J1 76 (15 + k) = 1)) od : Int)))) J) :
    ∀ (ys xs : List Nat) (J : mj_FI) (y5 y6 y7 : Option mj_V), od = xs ++ ys → (∀ q, q ≠ 74 → J q = J1 q) → ch_D (ch_X B c) (ch_Y B c) xs (J 74) → mj_G m_M_choose (mj_po P sh FR LA n) 233 [some (.inr (.inr (.inl 52))), some (.inl c), some (.inl rv), some (.inl (wr_ct (fun k => decide (J1 76 (15 + k) = 1)) xs)), some (.inl xs.length), y5, y6, y7] [] sh FR J LA n 0 0 := by
  obtain ⟨⟨hG, hG2⟩, ⟨hO, hO2⟩, hr, hb, htop, hfan, hos, ⟨o1, o2, o3⟩, hol⟩ := id hH
  intro ys
  induction ys with
  | nil =>
    intro xs J y5 y6 y7 he hJ hD
    have hl : xs.length = G := by rw [he, List.append_nil] at o1; exact o1
    have e56 : J 56 c = (G : Int) := by rw [hJ 56 (by decide), hJ1 56 (by decide)]; exact hG
    rw [List.append_nil] at he
    subst he
    refine mj_go z_M_choose [] 60 ?_
    refine And.intro h.o (Exists.intro _ (And.intro h.r6 ?_))
    refine Exists.intro _ (Exists.intro (c) (And.intro h.a6 (And.intro (by first | (rw [mj_w_id (by omega) (by omega)]; done) | (rw [mj_w_id (by omega) (by omega)]; omega) | (unfold mj_w; omega)) (And.intro (by omega) ?_))))
    rw [e56]
    refine And.intro (fun d => ?_) (fun d => ?_)
    · exact ⟨⟨rfl, rfl, rfl, rfl, hP J hJ hD⟩, Nat.le_of_ble_eq_true rfl, Nat.le_of_ble_eq_true rfl⟩
    · simp (disch := (clear d; omega)) only [mj_w_id] at d
      omega
  | cons k ys ih =>
    intro xs J y5 y6 y7 he hJ hD
    have hl : xs.length + (ys.length + 1) = G := by rw [he, List.length_append, List.length_cons] at o1; exact o1
    have hk : k < G := o3 k (by rw [he]; simp)
    have e56 : J 56 c = (G : Int) := by rw [hJ 56 (by decide), hJ1 56 (by decide)]; exact hG
    have ho : J 68 (300 * c + xs.length) = (k : Int) := by rw [hJ 68 (by decide), hJ1 68 (by decide)]; exact hol _ _ (by rw [he]; simp)
    have e63 : J 63 = B 63 := by rw [hJ 63 (by decide), hJ1 63 (by decide)]
    have e64 : J 64 = B 64 := by rw [hJ 64 (by decide), hJ1 64 (by decide)]
    have e66 : J 66 = B 66 := by rw [hJ 66 (by decide), hJ1 66 (by decide)]
    have e73 : J 73 = B 73 := by rw [hJ 73 (by decide), hJ1 73 (by decide)]
    have e76 : J 76 = J1 76 := hJ 76 (by decide)
    have nk := hn1 (15 + k) (by omega)
    obtain ⟨s1, s2⟩ := hfan k hk
    have x3 := hH.tr hc s1
    have y3 := hH.tr hc s2
    have hkx : ¬ k ∈ xs := by
      intro z
      rw [he, List.nodup_append] at o2
      exact o2.2.2 k z k (by simp) rfl
    have dX : 0 ≤ J 74 (ch_X B c k) ∧ J 74 (ch_X B c k) ≤ (xs.length : Int) := hD.2.1 _ x3
    have dY : 0 ≤ J 74 (ch_Y B c k) ∧ J 74 (ch_Y B c k) ≤ (xs.length : Int) := hD.2.1 _ y3
    have hne : ∀ j ∈ k :: xs, ch_X B c j ≠ 15 + k ∧ ch_Y B c j ≠ 15 + k := by
      intro j hj
      rcases List.mem_cons.mp hj with z | z
      · rw [z]
        exact htop xs k ys he k (by simp)
      · obtain ⟨u, v, e⟩ := List.append_of_mem z
        exact htop u j (v ++ k :: ys) (by rw [he, e]; simp) k (by simp)
    have hct := wr_ct_le (P := fun k => decide (J1 76 (15 + k) = 1)) (l := xs)
    have nx : ∀ (b : Int) (J' : mj_FI) (y5 y6 y7 : Option mj_V), b = (if J1 76 (15 + k) = 1 then 1 else 0) → J' = mj_up J 74 (15 + k) (1 + max (J 74 (ch_X B c k)) (J 74 (ch_Y B c k))) → mj_G m_M_choose (mj_po P sh FR LA n) 364 [some (.inr (.inr (.inl 52))), some (.inl c), some (.inl rv), some (.inl (wr_ct (fun k => decide (J1 76 (15 + k) = 1)) xs)), some (.inl xs.length), y5, y6, y7] [.inl b, .inl (wr_ct (fun k => decide (J1 76 (15 + k) = 1)) xs)] sh FR J' LA n 0 0 := by
      intro b J' y5 y6 y7 hb0 hJ'
      have key := ih (xs ++ [k]) J' y5 y6 y7 (by rw [he]; simp) (fun q hq => by rw [hJ', mj_up_ne hq]; exact hJ q hq) (by rw [hJ', mj_up_row]; exact hD.step hkx x3 y3 hne)
      rw [List.length_append, List.length_singleton, wr_ct_app, wr_ct_one] at key
      have eb : b = ((if decide (J1 76 (15 + k) = 1) = true then 1 else 0 : Nat) : Int) := by
        rw [hb0]
        by_cases z : J1 76 (15 + k) = 1 <;> simp [z]
      clear htop hol ih he hJ ho
      refine mj_go z_M_choose [233] 60 ?_
      refine Exists.intro (((wr_ct (fun k => decide (J1 76 (15 + k) = 1)) xs + (if decide (J1 76 (15 + k) = 1) = true then 1 else 0) : Nat) : Int)) (And.intro ((by rw [Int.natCast_add, ← eb]; exact mj_w_id (by rw [hb0]; split <;> omega) (by rw [hb0]; split <;> omega))) ?_)
      refine Exists.intro (((xs.length + 1 : Nat) : Int)) (And.intro (by first | (rw [mj_w_id (by omega) (by omega)]; done) | (rw [mj_w_id (by omega) (by omega)]; omega) | (unfold mj_w; omega)) ?_)
      exact key
    have mid : ∀ (z : Int) (y5 y6 y7 : Option mj_V), z = max (J 74 (ch_X B c k)) (J 74 (ch_Y B c k)) → mj_G m_M_choose (mj_po P sh FR LA n) 343 [some (.inr (.inr (.inl 52))), some (.inl c), some (.inl rv), some (.inl (wr_ct (fun k => decide (J1 76 (15 + k) = 1)) xs)), some (.inl xs.length), some (.inl k), y6, y7] [.inl z, .inl 1, .inl ((15 + k : Nat) : Int), .inr (.inr (.inl 74))] sh FR J LA n 0 0 := by
      intro z y5 y6 y7 hz
      have hz2 : 0 ≤ z ∧ z ≤ 300 := by omega
      clear htop hol ih he hJ ho
      refine mj_go z_M_choose [364] 60 ?_
      refine Exists.intro (1 + z) (And.intro (by first | (rw [mj_w_id (by omega) (by omega)]; done) | (rw [mj_w_id (by omega) (by omega)]; omega) | (unfold mj_w; omega)) ?_)
      refine Exists.intro _ (Exists.intro (15 + k) (And.intro h.a27 (And.intro (by first | (rw [mj_w_id (by omega) (by omega)]; done) | (rw [mj_w_id (by omega) (by omega)]; omega) | (unfold mj_w; omega)) (And.intro (by omega) ?_))))
      refine And.intro h.o (Exists.intro _ (And.intro h.r29 ?_))
      refine Exists.intro (((15 + k : Nat) : Int)) (And.intro (by first | (rw [mj_w_id (by omega) (by omega)]; done) | (rw [mj_w_id (by omega) (by omega)]; omega) | (unfold mj_w; omega)) ?_)
      refine Exists.intro _ (Exists.intro (15 + k) (And.intro h.a29 (And.intro (by first | (rw [mj_w_id (by omega) (by omega)]; done) | (rw [mj_w_id (by omega) (by omega)]; omega) | (unfold mj_w; omega)) (And.intro (by omega) ?_))))
      rw [mj_up_ne (show (76 : Nat) ≠ 74 by decide), e76]
      refine And.intro (fun d => ?_) (fun d => ?_)
      · exact nx 0 _ _ _ _ (by rw [if_neg]; intro z2; rw [z2] at d; exact absurd d (by decide)) (by rw [hz])
      · refine nx 1 _ _ _ _ ?_ (by rw [hz])
        rcases nk with z2 | z2
        · rw [z2] at d
          exact absurd (show mj_w 0 = 0 by decide) d
        · rw [if_pos z2]
    clear htop hol ih he hJ
    refine mj_go z_M_choose [343] 90 ?_
    refine And.intro h.o (Exists.intro _ (And.intro h.r6 ?_))
    refine Exists.intro _ (Exists.intro (c) (And.intro h.a6 (And.intro (by first | (rw [mj_w_id (by omega) (by omega)]; done) | (rw [mj_w_id (by omega) (by omega)]; omega) | (unfold mj_w; omega)) (And.intro (by omega) ?_))))
    rw [e56]
    refine And.intro (fun d => ?_) (fun d => ?_)
    · clear ho
      simp (disch := (clear d; omega)) only [mj_w_id] at d
      omega
    · clear d
      refine And.intro h.o (Exists.intro _ (And.intro h.r18 ?_))
      refine Exists.intro (((300 * c : Nat) : Int)) (And.intro (by first | (rw [mj_w_id (by omega) (by omega)]; done) | (rw [mj_w_id (by omega) (by omega)]; omega) | (unfold mj_w; omega)) ?_)
      refine Exists.intro (((300 * c + xs.length : Nat) : Int)) (And.intro (by first | (rw [mj_w_id (by omega) (by omega)]; done) | (rw [mj_w_id (by omega) (by omega)]; omega) | (unfold mj_w; omega)) ?_)
      refine Exists.intro _ (Exists.intro (300 * c + xs.length) (And.intro h.a18 (And.intro (by first | (rw [mj_w_id (by omega) (by omega)]; done) | (rw [mj_w_id (by omega) (by omega)]; omega) | (unfold mj_w; omega)) (And.intro (by omega) ?_))))
      rw [ho]
      clear ho
      refine And.intro h.o (Exists.intro _ (And.intro h.r27 ?_))
      refine And.intro h.o (Exists.intro _ (And.intro h.r13 ?_))
      refine Exists.intro (((300 * c : Nat) : Int)) (And.intro (by first | (rw [mj_w_id (by omega) (by omega)]; done) | (rw [mj_w_id (by omega) (by omega)]; omega) | (unfold mj_w; omega)) ?_)
      refine Exists.intro (((300 * c + k : Nat) : Int)) (And.intro (by first | (rw [mj_w_id (by omega) (by omega)]; done) | (rw [mj_w_id (by omega) (by omega)]; omega) | (unfold mj_w; omega)) ?_)
      refine Exists.intro _ (Exists.intro (300 * c + k) (And.intro h.a13 (And.intro (by first | (rw [mj_w_id (by omega) (by omega)]; done) | (rw [mj_w_id (by omega) (by omega)]; omega) | (unfold mj_w; omega)) (And.intro (by omega) ?_))))
      rw [e63]
      refine And.intro h.o (And.intro (Nat.le_of_ble_eq_true rfl) (And.intro (Nat.le_of_ble_eq_true rfl) (And.intro (Nat.le_of_ble_eq_true rfl) (Exists.intro _ (And.intro (ct_tuB h hc e66 e73 hr s1 (hb _ s1)) ?_)))))
      rintro r9 sh9 FR9 IA9 LA9 n9 ⟨z0, z1, z2, z3, z4, z5⟩
      subst z0
      replace z1 := z1.symm
      subst z1
      replace z2 := z2.symm
      subst z2
      replace z3 := z3.symm
      subst z3
      replace z4 := z4.symm
      subst z4
      replace z5 := z5.symm
      subst z5
      refine And.intro (Or.inl rfl) ?_
      refine And.intro h.o (And.intro (Nat.le_of_ble_eq_true rfl) (And.intro (Nat.le_of_ble_eq_true rfl) (And.intro (Nat.le_of_ble_eq_true rfl) (Exists.intro _ (And.intro (ct_raB h hc e66 e73 hr (hb _ s1)) ?_)))))
      rintro r9 sh9 FR9 IA9 LA9 n9 ⟨z0, z1, z2, z3, z4, z5⟩
      subst z0
      replace z1 := z1.symm
      subst z1
      replace z2 := z2.symm
      subst z2
      replace z3 := z3.symm
      subst z3
      replace z4 := z4.symm
      subst z4
      replace z5 := z5.symm
      subst z5
      refine And.intro (Or.inl rfl) ?_
      refine Exists.intro _ (Exists.intro (ch_X B c k) (And.intro h.a27 (And.intro (by first | (rw [mj_w_id (by omega) (by omega)]; done) | (rw [mj_w_id (by omega) (by omega)]; omega) | (unfold mj_w; omega)) (And.intro (by omega) ?_))))
      refine And.intro h.o (Exists.intro _ (And.intro h.r27 ?_))
      refine And.intro h.o (Exists.intro _ (And.intro h.r14 ?_))
      refine Exists.intro (((300 * c : Nat) : Int)) (And.intro (by first | (rw [mj_w_id (by omega) (by omega)]; done) | (rw [mj_w_id (by omega) (by omega)]; omega) | (unfold mj_w; omega)) ?_)
      refine Exists.intro (((300 * c + k : Nat) : Int)) (And.intro (by first | (rw [mj_w_id (by omega) (by omega)]; done) | (rw [mj_w_id (by omega) (by omega)]; omega) | (unfold mj_w; omega)) ?_)
      refine Exists.intro _ (Exists.intro (300 * c + k) (And.intro h.a14 (And.intro (by first | (rw [mj_w_id (by omega) (by omega)]; done) | (rw [mj_w_id (by omega) (by omega)]; omega) | (unfold mj_w; omega)) (And.intro (by omega) ?_))))
      rw [e64]
      refine And.intro h.o (And.intro (Nat.le_of_ble_eq_true rfl) (And.intro (Nat.le_of_ble_eq_true rfl) (And.intro (Nat.le_of_ble_eq_true rfl) (Exists.intro _ (And.intro (ct_tuB h hc e66 e73 hr s2 (hb _ s2)) ?_)))))
      rintro r9 sh9 FR9 IA9 LA9 n9 ⟨z0, z1, z2, z3, z4, z5⟩
      subst z0
      replace z1 := z1.symm
      subst z1
      replace z2 := z2.symm
      subst z2
      replace z3 := z3.symm
      subst z3
      replace z4 := z4.symm
      subst z4
      replace z5 := z5.symm
      subst z5
      refine And.intro (Or.inl rfl) ?_
      refine And.intro h.o (And.intro (Nat.le_of_ble_eq_true rfl) (And.intro (Nat.le_of_ble_eq_true rfl) (And.intro (Nat.le_of_ble_eq_true rfl) (Exists.intro _ (And.intro (ct_raB h hc e66 e73 hr (hb _ s2)) ?_)))))
      rintro r9 sh9 FR9 IA9 LA9 n9 ⟨z0, z1, z2, z3, z4, z5⟩
      subst z0
      replace z1 := z1.symm
      subst z1
      replace z2 := z2.symm
      subst z2
      replace z3 := z3.symm
      subst z3
      replace z4 := z4.symm
      subst z4
      replace z5 := z5.symm
      subst z5
      refine And.intro (Or.inl rfl) ?_
      refine Exists.intro _ (Exists.intro (ch_Y B c k) (And.intro h.a27 (And.intro (by first | (rw [mj_w_id (by omega) (by omega)]; done) | (rw [mj_w_id (by omega) (by omega)]; omega) | (unfold mj_w; omega)) (And.intro (by omega) ?_))))
      refine And.intro h.o (Exists.intro _ (And.intro h.r27 ?_))
      refine Exists.intro (((15 + k : Nat) : Int)) (And.intro (by first | (rw [mj_w_id (by omega) (by omega)]; done) | (rw [mj_w_id (by omega) (by omega)]; omega) | (unfold mj_w; omega)) ?_)
      refine And.intro (fun d => ?_) (fun d => ?_)
      · simp (disch := (clear d; omega)) only [mj_w_id] at d
        exact mid _ (some (.inl k)) _ _ (by omega)
      · simp (disch := (clear d; omega)) only [mj_w_id] at d
        exact mid _ (some (.inl k)) _ _ (by omega)
end MM
