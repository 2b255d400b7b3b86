/-! WRITER: finalLiteral, finalSlot, measure -/
/-- the literal stands in the net at b -/
def wr_st (IA : mj_FI) (b : Nat) (lit : Int) : Prop := 0 ≤ lit ∧ lit ≤ 2001 ∧ 0 ≤ IA (b + 1) (lit / 2).toNat ∧ IA (b + 1) (lit / 2).toNat < 315
def wr_sl (IA : mj_FI) (b : Nat) (lit : Int) : Nat := (IA (b + 1) (lit / 2).toNat).toNat
/-- the literal that stands for it in the text -/
def wr_F (IA : mj_FI) (c b : Nat) (rd : Bool) (lit : Int) : Int := if rd = true then C_sg (IA (c + 12) (wr_sl IA b lit)) lit else lit
def wr_X (IA : mj_FI) (c b : Nat) (rd : Bool) (lit : Int) : Nat := wr_sl IA b (wr_F IA c b rd lit)
/-- final literals stand too -/
def wr_H (IA : mj_FI) (c b : Nat) (rd : Bool) : Prop := ∀ lit, wr_st IA b lit → wr_st IA b (wr_F IA c b rd lit) ∧ 0 ≤ IA (c + 12) (wr_sl IA b lit) ∧ IA (c + 12) (wr_sl IA b lit) ≤ 3000
/-- the writer's own rows may differ -/
def wr_e (IA J : mj_FI) (w : Nat) : Prop := (∀ q, q < w ∨ w + 6 < q → J q = IA q) ∧ J w 7 = IA w 7
def wr_ap (w c b : Nat) : Prop := (b + 8 < w ∨ w + 6 < b) ∧ (c + 13 < w ∨ w + 6 < c)
theorem wr_e.trans {IA J K : mj_FI} {w : Nat} (h1 : wr_e IA J w) (h2 : wr_e J K w) : wr_e IA K w := ⟨fun q hq => (h2.1 q hq).trans (h1.1 q hq), h2.2.trans h1.2⟩
theorem wr_e_up {J : mj_FI} {w q k : Nat} {x : Int} (h1 : w ≤ q ∧ q ≤ w + 6) (h2 : q ≠ w ∨ k ≠ 7) : wr_e J (mj_up J q k x) w := ⟨fun a ha => mj_up_ne (by omega), by
  by_cases e : q = w
  · subst e
    exact mj_up_k (by omega)
  · rw [mj_up_ne (fun z => e z.symm)]⟩
theorem wr_e.b {IA J : mj_FI} {w c b : Nat} (h : wr_e IA J w) (ha : wr_ap w c b) {k : Nat} (hk : k ≤ 8) : J (b + k) = IA (b + k) := h.1 _ (by unfold wr_ap at ha; omega)
theorem wr_e.c {IA J : mj_FI} {w c b : Nat} (h : wr_e IA J w) (ha : wr_ap w c b) {k : Nat} (hk : k ≤ 13) : J (c + k) = IA (c + k) := h.1 _ (by unfold wr_ap at ha; omega)
section WW
variable {sh : mj_Sh} {FR : mj_FR} {IA : mj_FI} {LA : mj_LA} {n w c b : Nat}
theorem ct_W_finalLiteral (h : isW sh FR n w) (hC : isC sh FR n c b) (hN : isNet sh FR n b) (ha : wr_ap w c b) {J : mj_FI} {rd : Bool} {lit : Int} (he : wr_e IA J w) (hr : IA w 7 = if rd = true then 1 else 0) (hH : wr_H IA c b rd) (hl : wr_st IA b lit) : mj_Ct m_W_finalLiteral [.inr (.inr (.inl w)), .inr (.inr (.inl c)), .inl lit] sh FR J LA n (mj_pu (.inl (some (.inl (wr_F IA c b rd lit)))) sh FR J LA n) := by
  obtain ⟨h0, r1, r2, r3, r4, r5, r6, a1, a2, a3, a4, a5, a6⟩ := h
  have j1 : J (b + 1) = IA (b + 1) := he.b ha (by decide)
  have j12 : J (c + 12) = IA (c + 12) := he.c ha (by decide)
  have j7 : J w 7 = if rd = true then 1 else 0 := he.2.trans hr
  obtain ⟨l1, l2, l3, l4⟩ := id hl
  have hh := hH lit hl
  refine mj_Ct_of (by decide +kernel) (by decide) (Nat.le_of_ble_eq_true rfl) ?_
  refine mj_go z_W_finalLiteral [] 60 ?_
  refine And.intro h0 ?_
  rw [j7]
  cases rd with
  | true =>
    refine And.intro (fun d => ?_) (fun d => ?_)
    · exact absurd d (by decide)
    · clear d
      have e : J (b + 1) (lit / 2).toNat = ((wr_sl IA b lit : Nat) : Int) := by
        rw [j1]
        unfold wr_sl
        omega
      have e2 : wr_sl IA b lit < 315 := by
        unfold wr_sl
        omega
      refine And.intro hC.1 (And.intro (Nat.le_of_ble_eq_true rfl) (And.intro (Nat.le_of_ble_eq_true rfl) (And.intro (Nat.le_of_ble_eq_true rfl) (Exists.intro _ (And.intro (ct_C_leaderOf (IA := J) hC hN l1 l2 e e2 (by rw [j12]; exact hh.2.1) (by rw [j12]; exact hh.2.2)) ?_)))))
      rintro r9 sh9 FR9 IA9 LA9 n9 ⟨z0, z1, z2, z3, z4, z5⟩
      subst z0
      replace z1 := z1.symm
      subst z1
      replace z2 := z2.symm
      subst z2
      replace z3 := z3.symm
      subst z3
      replace z4 := z4.symm
      subst z4
      replace z5 := z5.symm
      subst z5
      refine And.intro (Or.inl rfl) ?_
      rw [j12]
      exact ⟨⟨rfl, rfl, rfl, rfl, rfl, rfl⟩, Nat.le_of_ble_eq_true rfl, Nat.le_of_ble_eq_true rfl⟩
  | false =>
    refine And.intro (fun d => ?_) (fun d => ?_)
    · clear d
      exact ⟨⟨rfl, rfl, rfl, rfl, rfl, rfl⟩, Nat.le_of_ble_eq_true rfl, Nat.le_of_ble_eq_true rfl⟩
    · exact absurd (show mj_w 0 = 0 by decide) d
theorem ct_W_finalSlot (h : isW sh FR n w) (hC : isC sh FR n c b) (hN : isNet sh FR n b) (ha : wr_ap w c b) {J : mj_FI} {rd : Bool} {lit : Int} (he : wr_e IA J w) (hr : IA w 7 = if rd = true then 1 else 0) (hH : wr_H IA c b rd) (hl : wr_st IA b lit) : mj_Ct m_W_finalSlot [.inr (.inr (.inl w)), .inr (.inr (.inl c)), .inl lit] sh FR J LA n (mj_pu (.inl (some (.inl (wr_X IA c b rd lit : Nat)))) sh FR J LA n) := by
  have hW := h
  obtain ⟨h0, r1, r2, r3, r4, r5, r6, a1, a2, a3, a4, a5, a6⟩ := h
  obtain ⟨⟨l1, l2, l3, l4⟩, _⟩ := hH lit hl
  refine mj_Ct_of (by decide +kernel) (by decide) (Nat.le_of_ble_eq_true rfl) ?_
  refine mj_go z_W_finalSlot [] 60 ?_
  refine And.intro hC.1 (Exists.intro _ (And.intro hC.2.1 ?_))
  refine And.intro h0 (And.intro (Nat.le_of_ble_eq_true rfl) (And.intro (Nat.le_of_ble_eq_true rfl) (And.intro (Nat.le_of_ble_eq_true rfl) (Exists.intro _ (And.intro (ct_W_finalLiteral hW hC hN ha he hr hH hl) ?_)))))
  rintro r9 sh9 FR9 IA9 LA9 n9 ⟨z0, z1, z2, z3, z4, z5⟩
  subst z0
  replace z1 := z1.symm
  subst z1
  replace z2 := z2.symm
  subst z2
  replace z3 := z3.symm
  subst z3
  replace z4 := z4.symm
  subst z4
  replace z5 := z5.symm
  subst z5
  refine And.intro (Or.inl rfl) ?_
  refine And.intro hN.1 (And.intro (Nat.le_of_ble_eq_true rfl) (And.intro (Nat.le_of_ble_eq_true rfl) (And.intro (Nat.le_of_ble_eq_true rfl) (Exists.intro _ (And.intro (ct_N_slotFor hN l1 l2) ?_)))))
  rintro r9 sh9 FR9 IA9 LA9 n9 ⟨z0, z1, z2, z3, z4, z5⟩
  subst z0
  replace z1 := z1.symm
  subst z1
  replace z2 := z2.symm
  subst z2
  replace z3 := z3.symm
  subst z3
  replace z4 := z4.symm
  subst z4
  replace z5 := z5.symm
  subst z5
  refine And.intro (Or.inl rfl) ?_
  rw [show J (b + 1) = IA (b + 1) from he.b ha (by decide)]
  have e : IA (b + 1) (wr_F IA c b rd lit / 2).toNat = ((wr_X IA c b rd lit : Nat) : Int) := by
    unfold wr_X wr_sl
    omega
  rw [e]
  exact ⟨⟨rfl, rfl, rfl, rfl, rfl, rfl⟩, Nat.le_of_ble_eq_true rfl, Nat.le_of_ble_eq_true rfl⟩
theorem wr_X_lt {rd : Bool} {lit : Int} (hH : wr_H IA c b rd) (hl : wr_st IA b lit) : wr_X IA c b rd lit < 315 := by
  obtain ⟨⟨l1, l2, l3, l4⟩, _⟩ := hH lit hl
  unfold wr_X wr_sl
  omega
/-- the gates od of the net, whose final fanins come before them -/
def wr_O (IA : mj_FI) (c b G : Nat) (rd : Bool) (od : List Nat) : Prop := IA b 11 = (G : Int) ∧ G ≤ 300 ∧ od.length = G ∧ mj_rl (IA (b + 7)) od ∧ od.Nodup ∧ (∀ s ∈ od, 1 ≤ s ∧ s < 315 ∧ wr_st IA b (IA (b + 3) s) ∧ wr_st IA b (IA (b + 4) s)) ∧
  (∀ xs s ys, od = xs ++ s :: ys → ∀ g ∈ s :: ys, ¬ wr_X IA c b rd (IA (b + 3) s) = g ∧ ¬ wr_X IA c b rd (IA (b + 4) s) = g)
/-- the depths in the text -/
def wr_D (IA : mj_FI) (c b : Nat) (rd : Bool) (od : List Nat) (D : Nat → Int) : Prop := (∀ s, s < 315 → ¬ s ∈ od → D s = 0) ∧ (∀ s, s < 315 → 0 ≤ D s ∧ D s ≤ (od.length : Int)) ∧ ∀ s ∈ od, D s = 1 + max (D (wr_X IA c b rd (IA (b + 3) s))) (D (wr_X IA c b rd (IA (b + 4) s)))
set_option maxHeartbeats 1000000 in
theorem ct_W_measure (h : isW sh FR n w) (hC : isC sh FR n c b) (hN : isNet sh FR n b) (ha : wr_ap w c b) {rd : Bool} {G : Nat} {od : List Nat} (hr : IA w 7 = if rd = true then 1 else 0) (hH : wr_H IA c b rd) (hO : wr_O IA c b G rd od) :
    mj_Ct m_W_measure [.inr (.inr (.inl w)), .inr (.inr (.inl c))] sh FR IA LA n (mj_po (fun o J => o = .inl none ∧ (∀ q, q ≠ w + 2 → J q = IA q) ∧ wr_D IA c b rd od (J (w + 2))) sh FR LA n) := by
  have hW := h
  obtain ⟨h0, r1, r2, r3, r4, r5, r6, a1, a2, a3, a4, a5, a6⟩ := h
  obtain ⟨o1, o2, o3, o4, o5, o6, o7⟩ := hO
  have loop : ∀ (ys xs : List Nat) (J : mj_FI) (x4 : Option mj_V) (x5 x6 : Option mj_V), od = xs ++ ys → (∀ q, q ≠ w + 2 → J q = IA q) → wr_D IA c b rd xs (J (w + 2)) →
      mj_G m_W_measure (mj_po (fun o J => o = .inl none ∧ (∀ q, q ≠ w + 2 → J q = IA q) ∧ wr_D IA c b rd od (J (w + 2))) sh FR LA n) 15 [some (.inr (.inr (.inl w))), some (.inr (.inr (.inl c))), some (.inr (.inr (.inl b))), some (.inl xs.length), x4, x5, x6] [] sh FR J LA n 0 0 := by
    intro ys
    induction ys with
    | nil =>
      intro xs J x4 x5 x6 hod hf hD
      rw [List.append_nil] at hod
      subst hod
      have e11 : J b 11 = (od.length : Int) := by rw [hf b (by unfold wr_ap at ha; omega), o3]; exact o1
      refine mj_go z_W_measure [15] 60 ?_
      refine And.intro hN.1 ?_
      rw [e11]
      refine And.intro (fun d => ?_) (fun d => ?_)
      · exact ⟨⟨rfl, rfl, rfl, rfl, rfl, hf, hD⟩, Nat.le_of_ble_eq_true rfl, Nat.le_of_ble_eq_true rfl⟩
      · simp (disch := (clear d; omega)) only [mj_w_id] at d
        omega
    | cons s ys ih =>
      intro xs J x4 x5 x6 hod hf hD
      have hlen : xs.length + ys.length + 1 = G := by rw [← o3, hod, List.length_append, List.length_cons]; omega
      have hE : wr_e IA J w := ⟨fun q hq => hf q (by omega), by rw [hf w (by omega)]⟩
      have hb : ∀ k, k ≤ 8 → J (b + k) = IA (b + k) := fun k hk => hE.b ha hk
      have e11 : J b 11 = (G : Int) := by rw [show J b = IA b from hb 0 (by decide)]; exact o1
      have es : J (b + 7) xs.length = (s : Int) := by
        rw [hb 7 (by decide)]
        refine o4 xs.length s ?_
        rw [hod, List.getElem?_append_right (Nat.le_refl _), Nat.sub_self]
        rfl
      obtain ⟨p1, p2, p3, p4⟩ := o6 s (by rw [hod]; simp)
      have hsx : ¬ s ∈ xs := by
        intro z
        rw [hod, List.nodup_append] at o5
        exact o5.2.2 s z s List.mem_cons_self rfl
      have xl := wr_X_lt hH p3
      have xr := wr_X_lt hH p4
      have n1 := (o7 xs s ys hod s List.mem_cons_self)
      obtain ⟨d1, d2, d3⟩ := hD
      have bl := d2 _ xl
      have br := d2 _ xr
      have hold : ∀ g ∈ xs, ¬ wr_X IA c b rd (IA (b + 3) g) = s ∧ ¬ wr_X IA c b rd (IA (b + 4) g) = s := by
        intro g hg
        obtain ⟨us, vs, hx⟩ := List.append_of_mem hg
        exact o7 us g (vs ++ s :: ys) (by rw [hod, hx]; simp) s (by simp)
      refine mj_go z_W_measure [15] 60 ?_
      refine And.intro hN.1 ?_
      rw [e11]
      refine And.intro (fun d => ?_) (fun d => ?_)
      · simp (disch := (clear d; omega)) only [mj_w_id] at d
        omega
      · clear d
        refine And.intro hN.1 (Exists.intro _ (And.intro hN.2.2.2.2.2.2.2.1 ?_))
        refine Exists.intro _ (Exists.intro (xs.length) (And.intro hN.2.2.2.2.2.2.2.2.2.2.2.2.2.2.2.1 (And.intro (by first | (rw [mj_w_id (by omega) (by omega)]; done) | (rw [mj_w_id (by omega) (by omega)]; omega) | (unfold mj_w; omega)) (And.intro (by omega) ?_))))
        rw [es]
        refine And.intro h0 (Exists.intro _ (And.intro r2 ?_))
        refine And.intro hN.1 (Exists.intro _ (And.intro hN.2.2.2.1 ?_))
        refine Exists.intro _ (Exists.intro (s) (And.intro hN.2.2.2.2.2.2.2.2.2.2.2.1 (And.intro (by first | (rw [mj_w_id (by omega) (by omega)]; done) | (rw [mj_w_id (by omega) (by omega)]; omega) | (unfold mj_w; omega)) (And.intro (by omega) ?_))))
        rw [hb 3 (by decide)]
        refine And.intro h0 (And.intro (Nat.le_of_ble_eq_true rfl) (And.intro (Nat.le_of_ble_eq_true rfl) (And.intro (Nat.le_of_ble_eq_true rfl) (Exists.intro _ (And.intro (ct_W_finalSlot hW hC hN ha hE hr hH p3) ?_)))))
        rintro r9 sh9 FR9 IA9 LA9 n9 ⟨z0, z1, z2, z3, z4, z5⟩
        subst z0
        replace z1 := z1.symm
        subst z1
        replace z2 := z2.symm
        subst z2
        replace z3 := z3.symm
        subst z3
        replace z4 := z4.symm
        subst z4
        replace z5 := z5.symm
        subst z5
        refine And.intro (Or.inl rfl) ?_
        refine Exists.intro _ (Exists.intro (wr_X IA c b rd (IA (b + 3) s)) (And.intro a2 (And.intro (by first | (rw [mj_w_id (by omega) (by omega)]; done) | (rw [mj_w_id (by omega) (by omega)]; omega) | (unfold mj_w; omega)) (And.intro (by omega) ?_))))
        refine And.intro h0 (Exists.intro _ (And.intro r2 ?_))
        refine And.intro hN.1 (Exists.intro _ (And.intro hN.2.2.2.2.1 ?_))
        refine Exists.intro _ (Exists.intro (s) (And.intro hN.2.2.2.2.2.2.2.2.2.2.2.2.1 (And.intro (by first | (rw [mj_w_id (by omega) (by omega)]; done) | (rw [mj_w_id (by omega) (by omega)]; omega) | (unfold mj_w; omega)) (And.intro (by omega) ?_))))
        rw [hb 4 (by decide)]
        refine And.intro h0 (And.intro (Nat.le_of_ble_eq_true rfl) (And.intro (Nat.le_of_ble_eq_true rfl) (And.intro (Nat.le_of_ble_eq_true rfl) (Exists.intro _ (And.intro (ct_W_finalSlot hW hC hN ha hE hr hH p4) ?_)))))
        rintro r9 sh9 FR9 IA9 LA9 n9 ⟨z0, z1, z2, z3, z4, z5⟩
        subst z0
        replace z1 := z1.symm
        subst z1
        replace z2 := z2.symm
        subst z2
        replace z3 := z3.symm
        subst z3
        replace z4 := z4.symm
        subst z4
        replace z5 := z5.symm
        subst z5
        refine And.intro (Or.inl rfl) ?_
        refine Exists.intro _ (Exists.intro (wr_X IA c b rd (IA (b + 4) s)) (And.intro a2 (And.intro (by first | (rw [mj_w_id (by omega) (by omega)]; done) | (rw [mj_w_id (by omega) (by omega)]; omega) | (unfold mj_w; omega)) (And.intro (by omega) ?_))))
        refine And.intro h0 (Exists.intro _ (And.intro r2 ?_))
        refine And.intro trivial (And.intro (Nat.le_of_ble_eq_true rfl) (And.intro (Nat.le_of_ble_eq_true rfl) (And.intro (Nat.le_of_ble_eq_true rfl) (Exists.intro _ (And.intro (ct_H_max (by omega) (by omega) (by omega) (by omega)) ?_)))))
        rintro r9 sh9 FR9 IA9 LA9 n9 ⟨z0, z1, z2, z3, z4, z5⟩
        subst z0
        replace z1 := z1.symm
        subst z1
        replace z2 := z2.symm
        subst z2
        replace z3 := z3.symm
        subst z3
        replace z4 := z4.symm
        subst z4
        replace z5 := z5.symm
        subst z5
        refine And.intro (Or.inl rfl) ?_
        refine Exists.intro ((1 + max (J (w + 2) (wr_X IA c b rd (IA (b + 3) s))) (J (w + 2) (wr_X IA c b rd (IA (b + 4) s))))) (And.intro (by first | (rw [mj_w_id (by omega) (by omega)]; done) | (rw [mj_w_id (by omega) (by omega)]; omega) | (unfold mj_w; omega)) ?_)
        refine Exists.intro _ (Exists.intro (s) (And.intro a2 (And.intro (by first | (rw [mj_w_id (by omega) (by omega)]; done) | (rw [mj_w_id (by omega) (by omega)]; omega) | (unfold mj_w; omega)) (And.intro (by omega) ?_))))
        refine Exists.intro (((xs.length + 1 : Nat) : Int)) (And.intro (by first | (rw [mj_w_id (by omega) (by omega)]; done) | (rw [mj_w_id (by omega) (by omega)]; omega) | (unfold mj_w; omega)) ?_)
        generalize hv : (1 + max (J (w + 2) (wr_X IA c b rd (IA (b + 3) s))) (J (w + 2) (wr_X IA c b rd (IA (b + 4) s)))) = v
        have ih1 := fun x5 x6 => ih (xs ++ [s]) (mj_up J (w + 2) s v) (some (.inl s)) x5 x6 (by rw [hod]; simp) (fun q hq => by rw [mj_up_ne hq]; exact hf q hq) (by
          rw [mj_up_row]
          refine ⟨fun t t1 t2 => ?_, fun t t1 => ?_, fun t ht => ?_⟩
          · rw [mj_u_ne (fun e => t2 (by rw [e]; simp))]
            exact d1 t t1 (fun z => t2 (List.mem_append_left _ z))
          · rw [List.length_append, List.length_singleton]
            unfold mj_u
            split
            · omega
            · have := d2 t t1
              omega
          · rcases List.mem_append.mp ht with ht2 | ht2
            · rw [mj_u_ne (show t ≠ s by intro e; subst e; exact hsx ht2), mj_u_ne (hold t ht2).1, mj_u_ne (hold t ht2).2]
              exact d3 t ht2
            · have : t = s := by simpa using ht2
              subst this
              rw [mj_u_at, mj_u_ne n1.1, mj_u_ne n1.2]
              exact hv.symm)
        rw [List.length_append, List.length_singleton] at ih1
        exact ih1 _ _
  refine mj_Ct_of (by decide +kernel) (by decide) (Nat.le_of_ble_eq_true rfl) ?_
  refine mj_go z_W_measure [15] 60 ?_
  refine And.intro hC.1 (Exists.intro _ (And.intro hC.2.1 ?_))
  refine And.intro h0 (Exists.intro _ (And.intro r2 ?_))
  refine And.intro trivial (And.intro (Nat.le_of_ble_eq_true rfl) (And.intro (Nat.le_of_ble_eq_true rfl) (And.intro (Nat.le_of_ble_eq_true rfl) (Exists.intro _ (And.intro (ct_A_fill a2 (by decide)) ?_)))))
  rintro r9 sh9 FR9 IA9 LA9 n9 ⟨z0, z1, z2, z3, z4, z5⟩
  subst z0
  replace z1 := z1.symm
  subst z1
  replace z2 := z2.symm
  subst z2
  replace z3 := z3.symm
  subst z3
  replace z4 := z4.symm
  subst z4
  replace z5 := z5.symm
  subst z5
  refine And.intro (Or.inl rfl) ?_
  refine loop od [] _ none none none rfl (fun q hq => ?_) ⟨fun s s1 _ => ?_, fun s s1 => ?_, fun s hs => by simp at hs⟩
  · funext j
    simp [mj_fl, hq]
  · simp [mj_fl, s1]
  · simp [mj_fl, s1]
end WW
