/-! THE REFERENCE: turned, choose -/
/-- the literal that stands for it -/
def M_tu (J : mj_FI) (c : Nat) (lit : Int) : Int := if lit % 2 = 0 then J 73 (M_ro J c lit) else M_x1 (J 73 (M_ro J c lit))
def M_tr (J : mj_FI) (c : Nat) (lit : Int) : Nat := M_ro J c (M_tu J c lit)
theorem M_tu_st {J : mj_FI} {c : Nat} {lit : Int} (ht : M_st J c (J 73 (M_ro J c lit))) : M_st J c (M_tu J c lit) ∧ M_tr J c lit = M_ro J c (J 73 (M_ro J c lit)) := by
  unfold M_tr M_tu
  by_cases e : lit % 2 = 0
  · rw [if_pos e]
    exact ⟨ht, rfl⟩
  · rw [if_neg e]
    exact M_x1_st ht
theorem M_tu_co {IA J : mj_FI} {c : Nat} {lit : Int} (h3 : J 73 = IA 73) (h6 : J 66 = IA 66) : M_tu J c lit = M_tu IA c lit ∧ M_tr J c lit = M_tr IA c lit := by
  have e : M_tu J c lit = M_tu IA c lit := by
    unfold M_tu
    rw [h3, M_ro_co h6]
  refine ⟨e, ?_⟩
  unfold M_tr
  rw [e, M_ro_co h6]
section MM
variable {sh : mj_Sh} {FR : mj_FR} {IA : mj_FI} {LA : mj_LA} {n : Nat}
theorem ct_M_turned (h : isM sh FR n) {c : Nat} {lit : Int} (hc : c < 2) (hr : M_rr IA) (hl : M_st IA c lit) (ht : M_st IA c (IA 73 (M_ro IA c lit))) : mj_Ct m_M_turned [.inr (.inr (.inl 52)), .inl c, .inl lit] sh FR IA LA n (mj_pu (.inl (some (.inl (M_tu IA c lit)))) sh FR IA LA n) := by
  obtain ⟨q1, q2⟩ := hl.row hr (by omega)
  have l1 := hl.1
  have l2 := hl.2.1
  obtain ⟨t1, t2, _⟩ := ht
  refine mj_Ct_of (by decide +kernel) (by decide) (Nat.le_of_ble_eq_true rfl) ?_
  refine mj_go z_M_turned [] 60 ?_
  refine And.intro h.o (Exists.intro _ (And.intro h.r26 ?_))
  refine And.intro h.o (And.intro (Nat.le_of_ble_eq_true rfl) (And.intro (Nat.le_of_ble_eq_true rfl) (And.intro (Nat.le_of_ble_eq_true rfl) (Exists.intro _ (And.intro (ct_M_rowAt h (by omega) l1 l2) ?_)))))
  rintro r9 sh9 FR9 IA9 LA9 n9 ⟨z0, z1, z2, z3, z4, z5⟩
  subst z0
  replace z1 := z1.symm
  subst z1
  replace z2 := z2.symm
  subst z2
  replace z3 := z3.symm
  subst z3
  replace z4 := z4.symm
  subst z4
  replace z5 := z5.symm
  subst z5
  refine And.intro (Or.inl rfl) ?_
  rw [q1]
  clear q1
  refine Exists.intro _ (Exists.intro (M_ro IA c lit) (And.intro h.a26 (And.intro (by first | (rw [mj_w_id (by omega) (by omega)]; done) | (rw [mj_w_id (by omega) (by omega)]; omega) | (unfold mj_w; omega)) (And.intro (by omega) ?_))))
  refine Exists.intro (lit % 2) (And.intro (nu_and1 _) ?_)
  refine Exists.intro (M_tu IA c lit) (And.intro ((nu_xorb t1 (by omega) (by omega)).trans (by unfold M_tu M_x1; rfl)) ?_)
  exact ⟨⟨rfl, rfl, rfl, rfl, rfl, rfl⟩, Nat.le_of_ble_eq_true rfl, Nat.le_of_ble_eq_true rfl⟩
/-- turned, then its row -/
theorem ct_rowAtT (h : isM sh FR n) {c : Nat} {lit : Int} (hc : c < 2) (ht : M_st IA c (IA 73 (M_ro IA c lit))) (hr : M_rr IA) : mj_Ct m_M_rowAt [.inr (.inr (.inl 52)), .inl c, .inl (M_tu IA c lit)] sh FR IA LA n (mj_pu (.inl (some (.inl (M_tr IA c lit : Int)))) sh FR IA LA n) := by
  have s := (M_tu_st ht).1
  have e := (s.row hr (by omega)).1
  have k := ct_M_rowAt (IA := IA) (LA := LA) h (c := c) (lit := M_tu IA c lit) (by omega) s.1 s.2.1
  rw [e] at k
  exact k
end MM
/-- a settled circuit in the reference -/
def M_S (IA : mj_FI) (c I O G : Nat) (od : List Nat) : Prop := (IA 55 c = (I : Int) ∧ I ≤ 14) ∧ (IA 56 c = (G : Int) ∧ G ≤ 300) ∧ (IA 57 c = (O : Int) ∧ O ≤ 16) ∧ M_rr IA ∧ M_vr IA c I G ∧ M_dr IA c ∧ M_os IA c O ∧ (∀ lit, M_st IA c lit → M_is I G (M_ro IA c lit)) ∧
  (∀ k, k < G → M_st IA c (IA 63 (300 * c + k)) ∧ M_st IA c (IA 64 (300 * c + k))) ∧ (od.length = G ∧ od.Nodup ∧ ∀ k ∈ od, k < G) ∧ (∀ i s : Nat, od[i]? = some s → IA 68 (300 * c + i) = (s : Int)) ∧
  (∀ k, k < G → IA 67 (315 * c + M_ro IA c (IA 63 (300 * c + k))) < IA 67 (315 * c + (15 + k)) ∧ IA 67 (315 * c + M_ro IA c (IA 64 (300 * c + k))) < IA 67 (315 * c + (15 + k))) ∧ od.Pairwise (fun k j => IA 67 (315 * c + (15 + k)) ≤ IA 67 (315 * c + (15 + j)))
/-- what becomes of a row -/
def ch_b (IA : mj_FI) (LA : mj_LA) (I G c : Nat) (rd : Bool) (r : Nat) (z : Int) : Prop := if rd = true then M_be IA LA I G c (2 * M_va IA c r) 630 z else z = 2 * M_va IA c r
theorem ch_b.st {IA : mj_FI} {LA : mj_LA} {c I O G r : Nat} {od : List Nat} {rd : Bool} {z : Int} (hS : M_S IA c I O G od) (hr : M_is I G r) (h : ch_b IA LA I G c rd r z) : M_st IA c z ∧ IA 67 (315 * c + M_ro IA c z) ≤ IA 67 (315 * c + r) := by
  obtain ⟨⟨_, hI⟩, ⟨_, hG⟩, _, hrr, hv, hd, _⟩ := hS
  obtain ⟨v1, v2, v3, v4⟩ := hv.lit (i := 0) hI hG hr (by decide)
  simp only [Int.natCast_zero, Int.add_zero] at v1 v2
  unfold ch_b at h
  split at h
  · refine ⟨h.1, ?_⟩
    have := h.2.2 r 0 (by decide) (by omega) hr (by rw [v2]; intro w _; rw [Int.natCast_zero, Int.add_zero])
    unfold M_dl at this
    omega
  · subst h
    rw [v2]
    exact ⟨v1, Int.le_refl _⟩
/-- after the first loop: become is set, the rest is empty -/
def ch_A (IA : mj_FI) (LA : mj_LA) (I G c : Nat) (rd : Bool) (r : Nat) (J : mj_FI) : Prop := (∀ q, (q < 73 ∨ 76 < q) → J q = IA q) ∧ ∀ s, s < r → J 74 s = 0 ∧ J 75 s = 0 ∧ J 76 s = 0 ∧ (M_is I G s → ch_b IA LA I G c rd s (J 73 s))
theorem M_st_co {IA J : mj_FI} {c : Nat} {lit : Int} (h6 : J 66 = IA 66) : M_st J c lit ↔ M_st IA c lit := by unfold M_st; rw [h6]
/-- the fan-ins that are left come before, in the order -/
theorem ch_top {IA : mj_FI} {LA : mj_LA} {c I O G : Nat} {od : List Nat} {rd : Bool} {J : mj_FI} (hc : c < 2) (hS : M_S IA c I O G od) (hA : ch_A IA LA I G c rd 315 J) : (∀ lit, M_st J c lit → M_st J c (J 73 (M_ro J c lit))) ∧ (∀ xs k ys, od = xs ++ k :: ys → ∀ j ∈ k :: ys, M_tr J c (J 63 (300 * c + k)) ≠ 15 + j ∧ M_tr J c (J 64 (300 * c + k)) ≠ 15 + j) := by
  obtain ⟨⟨_, hI⟩, ⟨_, hG⟩, _, hrr, hv, hd, ho, hsr, hfan, ⟨o1, o2, o3⟩, hol, hdp, hpw⟩ := id hS
  have e6 : J 66 = IA 66 := hA.1 66 (by decide)
  have e63 : J 63 = IA 63 := hA.1 63 (by decide)
  have e64 : J 64 = IA 64 := hA.1 64 (by decide)
  have key : ∀ lit, M_st IA c lit → M_st IA c (J 73 (M_ro IA c lit)) ∧ IA 67 (315 * c + M_ro IA c (J 73 (M_ro IA c lit))) ≤ IA 67 (315 * c + M_ro IA c lit) := by
    intro lit hl
    have hr := hsr lit hl
    exact ch_b.st hS hr ((hA.2 _ (hl.row hrr (by omega)).2).2.2.2 hr)
  have k1 : ∀ lit, M_st J c lit → M_st J c (J 73 (M_ro J c lit)) := by
    intro lit hl
    rw [M_st_co e6] at hl ⊢
    rw [M_ro_co e6]
    exact (key lit hl).1
  refine ⟨k1, fun xs k ys e j hj => ?_⟩
  have hk : k < G := o3 k (by rw [e]; simp)
  have hle : IA 67 (315 * c + (15 + k)) ≤ IA 67 (315 * c + (15 + j)) := by
    rw [e] at hpw
    rcases List.mem_cons.mp hj with z | z
    · rw [z]; exact Int.le_refl _
    · exact (List.pairwise_cons.mp (List.pairwise_append.mp hpw).2.1).1 j z
  have one : ∀ lit, M_st IA c lit → IA 67 (315 * c + M_ro IA c lit) < IA 67 (315 * c + (15 + k)) → M_tr J c lit ≠ 15 + j := by
    intro lit hl hlt z
    have k2 := (key lit hl).2
    have k3 := (M_tu_st (k1 lit ((M_st_co e6).mpr hl))).2
    rw [k3, M_ro_co e6, M_ro_co e6] at z
    rw [z] at k2
    omega
  rw [e63, e64]
  exact ⟨one _ (hfan k hk).1 (hdp k hk).1, one _ (hfan k hk).2 (hdp k hk).2⟩
/-- the new depths -/
def ch_D (X Y : Nat → Nat) (xs : List Nat) (D : Nat → Int) : Prop := (∀ r, r < 315 → (∀ k ∈ xs, r ≠ 15 + k) → D r = 0) ∧ (∀ r, r < 315 → 0 ≤ D r ∧ D r ≤ (xs.length : Int)) ∧ ∀ k ∈ xs, D (15 + k) = 1 + max (D (X k)) (D (Y k))
theorem ch_D.step {X Y : Nat → Nat} {xs : List Nat} {D : Nat → Int} {k : Nat} (h : ch_D X Y xs D) (hk : ¬ k ∈ xs) (hX : X k < 315) (hY : Y k < 315) (h1 : ∀ j ∈ k :: xs, X j ≠ 15 + k ∧ Y j ≠ 15 + k) : ch_D X Y (xs ++ [k]) (mj_u D (15 + k) (1 + max (D (X k)) (D (Y k)))) := by
  obtain ⟨d1, d2, d3⟩ := h
  have a1 := d2 _ hX
  have a2 := d2 _ hY
  refine ⟨fun r hr hn => ?_, fun r hr => ?_, fun j hj => ?_⟩
  · have := hn k (by simp)
    rw [mj_u_ne this]
    exact d1 r hr (fun j hj => hn j (by simp [hj]))
  · rw [List.length_append, List.length_singleton]
    by_cases e : r = 15 + k
    · rw [e, mj_u_at]
      omega
    · rw [mj_u_ne e]
      have := d2 r hr
      omega
  · rcases List.mem_append.mp hj with z | z
    · have ne : j ≠ k := fun e => hk (e ▸ z)
      have := h1 j (List.mem_cons_of_mem _ z)
      rw [mj_u_ne (by omega), mj_u_ne this.1, mj_u_ne this.2]
      exact d3 j z
    · have e : j = k := by simpa using z
      subst e
      have := h1 j (by simp)
      rw [mj_u_at, mj_u_ne this.1, mj_u_ne this.2]
/-- needed -/
def ch_nd (X Y Oo : Nat → Nat) (O G t : Nat) : Prop := ∀ S : Nat → Prop, (∀ k, k < O → S (Oo k)) → (∀ k, k < G → S (15 + k) → S (X k) ∧ S (Y k)) → S t
def ch_N (X Y Oo : Nat → Nat) (O G o : Nat) (ys : List Nat) (N : Nat → Int) : Prop := (∀ r, r < 315 → N r = 0 ∨ (N r = 1 ∧ ch_nd X Y Oo O G r)) ∧ (∀ k, k < o → N (Oo k) = 1) ∧ ∀ k ∈ ys, N (15 + k) = 1 → N (X k) = 1 ∧ N (Y k) = 1
theorem ch_N.out {X Y Oo : Nat → Nat} {O G o : Nat} {N : Nat → Int} (h : ch_N X Y Oo O G o [] N) (ho : o < O) : ch_N X Y Oo O G (o + 1) [] (mj_u N (Oo o) 1) := by
  obtain ⟨n1, n2, n3⟩ := h
  refine ⟨fun r hr => ?_, fun k hk => ?_, fun k hk => absurd hk (by simp)⟩
  · by_cases e : r = Oo o
    · rw [e, mj_u_at]
      exact Or.inr ⟨rfl, fun S a b => a o ho⟩
    · rw [mj_u_ne e]
      exact n1 r hr
  · by_cases e : Oo k = Oo o
    · rw [e, mj_u_at]
    · rw [mj_u_ne e]
      refine n2 k ?_
      by_cases z : k = o
      · rw [z] at e
        exact absurd rfl e
      · omega
theorem ch_N.mark {X Y Oo : Nat → Nat} {O G : Nat} {N : Nat → Int} {k : Nat} {ys : List Nat} (h : ch_N X Y Oo O G O ys N) (hk : k < G) (hk2 : k < 300) (h1 : N (15 + k) = 1) (ht : ∀ j ∈ k :: ys, X k ≠ 15 + j ∧ Y k ≠ 15 + j) : ch_N X Y Oo O G O (k :: ys) (mj_u (mj_u N (X k) 1) (Y k) 1) := by
  obtain ⟨n1, n2, n3⟩ := h
  have nk : ch_nd X Y Oo O G (15 + k) := by
    rcases n1 (15 + k) (by omega) with z | z
    · omega
    · exact z.2
  have mono : ∀ r, N r = 1 → mj_u (mj_u N (X k) 1) (Y k) 1 r = 1 := by
    intro r hr
    by_cases e : r = Y k
    · rw [e, mj_u_at]
    · rw [mj_u_ne e]
      by_cases e2 : r = X k
      · rw [e2, mj_u_at]
      · rw [mj_u_ne e2]; exact hr
  have mX : mj_u (mj_u N (X k) 1) (Y k) 1 (X k) = 1 := by
    by_cases e : X k = Y k
    · rw [e, mj_u_at]
    · rw [mj_u_ne e, mj_u_at]
  refine ⟨fun r hr => ?_, fun j hj => mono _ (n2 j hj), fun j hj h2 => ?_⟩
  · by_cases e : r = Y k
    · rw [e, mj_u_at]
      exact Or.inr ⟨rfl, fun S a b => (b k hk (nk S a b)).2⟩
    · rw [mj_u_ne e]
      by_cases e2 : r = X k
      · rw [e2, mj_u_at]
        exact Or.inr ⟨rfl, fun S a b => (b k hk (nk S a b)).1⟩
      · rw [mj_u_ne e2]; exact n1 r hr
  · have tj := ht j hj
    rcases List.mem_cons.mp hj with z | z
    · subst z
      exact ⟨mX, mj_u_at⟩
    · rw [mj_u_ne (Ne.symm tj.2), mj_u_ne (Ne.symm tj.1)] at h2
      have := n3 j z h2
      exact ⟨mono _ this.1, mono _ this.2⟩
theorem ch_N.skip {X Y Oo : Nat → Nat} {O G : Nat} {N : Nat → Int} {k : Nat} {ys : List Nat} (h : ch_N X Y Oo O G O ys N) (h1 : ¬ N (15 + k) = 1) : ch_N X Y Oo O G O (k :: ys) N := by
  refine ⟨h.1, h.2.1, fun j hj h2 => ?_⟩
  rcases List.mem_cons.mp hj with z | z
  · rw [z] at h2
    exact absurd h2 h1
  · exact h.2.2 j z h2
theorem ch_N.fin {X Y Oo : Nat → Nat} {O G : Nat} {N : Nat → Int} {od : List Nat} (h : ch_N X Y Oo O G O od N) (hall : ∀ k, k < G → k ∈ od) : ∀ r, r < 315 → (N r = 0 ∨ N r = 1) ∧ (N r = 1 ↔ ch_nd X Y Oo O G r) := by
  obtain ⟨n1, n2, n3⟩ := h
  intro r hr
  refine ⟨?_, fun z => ?_, fun z => ?_⟩
  · rcases n1 r hr with z | z
    · exact Or.inl z
    · exact Or.inr z.1
  · rcases n1 r hr with y | y
    · omega
    · exact y.2
  · exact z (fun t => N t = 1) n2 (fun k hk h1 => n3 k (hall k hk) h1)
/-- what choose leaves -/
abbrev ch_X (J : mj_FI) (c k : Nat) : Nat := M_tr J c (J 63 (300 * c + k))
abbrev ch_Y (J : mj_FI) (c k : Nat) : Nat := M_tr J c (J 64 (300 * c + k))
abbrev ch_O (J : mj_FI) (c k : Nat) : Nat := M_tr J c (J 65 (16 * c + k))
def ch_q (IA : mj_FI) (LA : mj_LA) (c I O G : Nat) (od : List Nat) (rd : Bool) (o : mj_O) (J : mj_FI) : Prop := (∀ q, (q < 73 ∨ 76 < q) → J q = IA q) ∧ (∀ r, M_is I G r → ch_b IA LA I G c rd r (J 73 r)) ∧ (∀ r, r < 315 → J 75 r = 0) ∧ (∀ r, r < 315 → (J 76 r = 0 ∨ J 76 r = 1) ∧ (J 76 r = 1 ↔ ch_nd (ch_X J c) (ch_Y J c) (ch_O J c) O G r)) ∧ ch_D (ch_X J c) (ch_Y J c) od (J 74) ∧ o = .inl (some (.inl (wr_ct (fun k => decide (J 76 (15 + k) = 1)) od : Int)))
theorem snoc (xs : List Nat) : xs = [] ∨ ∃ L b, xs = L ++ [b] := by
  induction xs with
  | nil => exact Or.inl rfl
  | cons a l ih =>
    rcases ih with e | ⟨L, b, e⟩
    · exact Or.inr ⟨[], a, by rw [e]; rfl⟩
    · exact Or.inr ⟨a :: L, b, by rw [e]; rfl⟩
section MM
variable {sh : mj_Sh} {FR : mj_FR} {IA : mj_FI} {LA : mj_LA} {n : Nat}
theorem ct_tuB (h : isM sh FR n) {B J : mj_FI} {c : Nat} {lit : Int} (hc : c < 2) (e6 : J 66 = B 66) (e3 : J 73 = B 73) (hr : M_rr B) (hl : M_st B c lit) (ht : M_st B c (B 73 (M_ro B c lit))) : mj_Ct m_M_turned [.inr (.inr (.inl 52)), .inl c, .inl lit] sh FR J LA n (mj_pu (.inl (some (.inl (M_tu B c lit)))) sh FR J LA n) := by
  have k := ct_M_turned (IA := J) (LA := LA) (c := c) (lit := lit) h hc (by unfold M_rr; rw [e6]; exact hr) ((M_st_co e6).mpr hl) (by rw [M_st_co e6, e3, M_ro_co e6]; exact ht)
  rw [(M_tu_co e3 e6).1] at k
  exact k
theorem ct_raB (h : isM sh FR n) {B J : mj_FI} {c : Nat} {lit : Int} (hc : c < 2) (e6 : J 66 = B 66) (e3 : J 73 = B 73) (hr : M_rr B) (ht : M_st B c (B 73 (M_ro B c lit))) : mj_Ct m_M_rowAt [.inr (.inr (.inl 52)), .inl c, .inl (M_tu B c lit)] sh FR J LA n (mj_pu (.inl (some (.inl (M_tr B c lit : Int)))) sh FR J LA n) := by
  have k := ct_rowAtT (IA := J) (LA := LA) (c := c) (lit := lit) h hc (by rw [M_st_co e6, e3, M_ro_co e6]; exact ht) (by unfold M_rr; rw [e6]; exact hr)
  rw [(M_tu_co e3 e6).1, (M_tu_co e3 e6).2] at k
  exact k
end MM
