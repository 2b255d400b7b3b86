/-! WRITER: markNeeded -/
/-- an output needs slot t -/
def wr_N (IA : mj_FI) (c b O : Nat) (rd : Bool) (od : List Nat) (t : Nat) : Prop := ∀ S : Nat → Prop, (∀ k, k < O → S (wr_X IA c b rd (IA (b + 5) k))) → (∀ g ∈ od, S g → S (wr_X IA c b rd (IA (b + 3) g)) ∧ S (wr_X IA c b rd (IA (b + 4) g))) → S t
/-- marks: 0 or 1, only what is needed -/
def wr_m (IA : mj_FI) (c b O : Nat) (rd : Bool) (od : List Nat) (N : Nat → Int) : Prop := ∀ t, t < 315 → N t = 0 ∨ (N t = 1 ∧ wr_N IA c b O rd od t)
theorem wr_m_set {IA : mj_FI} {c b O : Nat} {rd : Bool} {od : List Nat} {N : Nat → Int} {t : Nat} (h : wr_m IA c b O rd od N) (ht : wr_N IA c b O rd od t) : wr_m IA c b O rd od (mj_u N t 1) := by
  intro u hu
  unfold mj_u
  by_cases e : u = t
  · rw [if_pos e, e]
    exact Or.inr ⟨rfl, ht⟩
  · rw [if_neg e]
    exact h u hu
theorem mj_u_one {N : Nat → Int} {t u : Nat} (h : N u = 1) : mj_u N t 1 u = 1 := by
  unfold mj_u
  split
  · rfl
  · exact h
section WW
variable {sh : mj_Sh} {FR : mj_FR} {IA : mj_FI} {LA : mj_LA} {n w c b : Nat}
set_option maxHeartbeats 1000000 in
theorem ct_W_markNeeded (h : isW sh FR n w) (hC : isC sh FR n c b) (hN : isNet sh FR n b) (ha : wr_ap w c b) {rd : Bool} {G O : Nat} {od : List Nat} (hr : IA w 7 = if rd = true then 1 else 0) (hH : wr_H IA c b rd) (hO : wr_O IA c b G rd od) (h12 : IA b 12 = (O : Int)) (hO2 : O ≤ 16) (hou : ∀ k, k < O → wr_st IA b (IA (b + 5) k)) :
    mj_Ct m_W_markNeeded [.inr (.inr (.inl w)), .inr (.inr (.inl c))] sh FR IA LA n (mj_po (fun o J => o = .inl none ∧ (∀ q, q ≠ w + 3 → J q = IA q) ∧ ∀ t, t < 315 → (J (w + 3) t = 0 ∨ J (w + 3) t = 1) ∧ (J (w + 3) t = 1 ↔ wr_N IA c b O rd od t)) sh FR LA n) := by
  have hW := h
  obtain ⟨h0, r1, r2, r3, r4, r5, r6, a1, a2, a3, a4, a5, a6⟩ := h
  obtain ⟨o1, o2, o3, o4, o5, o6, o7⟩ := id hO
  have hap := ha
  unfold wr_ap at hap
  generalize hQ : mj_po (fun o J => o = .inl none ∧ (∀ q, q ≠ w + 3 → J q = IA q) ∧ ∀ t, t < 315 → (J (w + 3) t = 0 ∨ J (w + 3) t = 1) ∧ (J (w + 3) t = 1 ↔ wr_N IA c b O rd od t)) sh FR LA n = Q
  have hEx : ∀ J : mj_FI, (∀ q, q ≠ w + 3 → J q = IA q) → wr_e IA J w := fun J hf => ⟨fun q hq => hf q (by omega), by rw [hf w (by omega)]⟩
  have loop3 : ∀ (k : Nat) (xs ys : List Nat) (J : mj_FI) (x4 : Option mj_V), xs.length = k → od = xs ++ ys → (∀ q, q ≠ w + 3 → J q = IA q) → wr_m IA c b O rd od (J (w + 3)) → (∀ k, k < O → J (w + 3) (wr_X IA c b rd (IA (b + 5) k)) = 1) → (∀ g ∈ ys, J (w + 3) g = 1 → J (w + 3) (wr_X IA c b rd (IA (b + 3) g)) = 1 ∧ J (w + 3) (wr_X IA c b rd (IA (b + 4) g)) = 1) →
      mj_G m_W_markNeeded Q 67 [some (.inr (.inr (.inl w))), some (.inr (.inr (.inl c))), some (.inr (.inr (.inl b))), some (.inl ((k : Int) - 1)), x4] [] sh FR J LA n 0 0 := by
    intro k
    induction k with
    | zero =>
      intro xs ys J x4 hk hod hf hm h1 h2
      have e : xs = [] := List.eq_nil_of_length_eq_zero hk
      subst e
      rw [List.nil_append] at hod
      subst hod
      subst hQ
      refine mj_go z_W_markNeeded [67] 60 ?_
      refine And.intro (fun d => ?_) (fun d => ?_)
      · refine ⟨⟨rfl, rfl, rfl, rfl, rfl, hf, fun t ht => ⟨(hm t ht).imp id (fun z => z.1), fun z => ?_, fun z => ?_⟩⟩, Nat.le_of_ble_eq_true rfl, Nat.le_of_ble_eq_true rfl⟩
        · rcases hm t ht with q | q
          · omega
          · exact q.2
        · exact z (fun u => J (w + 3) u = 1) h1 h2
      · exact absurd (show mj_w (((0 : Nat) : Int) - 1) < 0 by decide) d
    | succ k ih =>
      intro xs ys J x4 hk hod hf hm h1 h2
      rcases List.eq_nil_or_concat xs with e | ⟨zs, s, e⟩
      · subst e
        simp at hk
      · rw [List.concat_eq_append] at e
        subst e
        have hz : zs.length = k := by
          rw [List.length_append, List.length_singleton] at hk
          omega
        have hod2 : od = zs ++ s :: ys := by rw [hod]; simp
        have hkG : k < G := by rw [← o3, hod2, List.length_append, List.length_cons]; omega
        rw [show (((k + 1 : Nat) : Int) - 1) = (k : Int) by omega]
        have hE := hEx J hf
        have hb : ∀ k, k ≤ 8 → J (b + k) = IA (b + k) := fun k hk => hE.b ha hk
        have es : J (b + 7) k = (s : Int) := by
          rw [hb 7 (by decide)]
          refine o4 k s ?_
          rw [hod2, ← hz, List.getElem?_append_right (Nat.le_refl _), Nat.sub_self]
          rfl
        have hsm : s ∈ od := by rw [hod2]; simp
        obtain ⟨p1, p2, p3, p4⟩ := o6 s hsm
        have xl := wr_X_lt hH p3
        have xr := wr_X_lt hH p4
        have ne := o7 zs s ys hod2
        refine mj_go z_W_markNeeded [67, 125] 60 ?_
        refine And.intro (fun d => ?_) (fun d => ?_)
        · simp (disch := (clear d; omega)) only [mj_w_id] at d
          omega
        · clear d
          refine And.intro hN.1 (Exists.intro _ (And.intro hN.2.2.2.2.2.2.2.1 ?_))
          refine Exists.intro _ (Exists.intro (k) (And.intro hN.2.2.2.2.2.2.2.2.2.2.2.2.2.2.2.1 (And.intro (by first | (rw [mj_w_id (by omega) (by omega)]; done) | (rw [mj_w_id (by omega) (by omega)]; omega) | (unfold mj_w; omega)) (And.intro (by omega) ?_))))
          rw [es]
          refine And.intro h0 (Exists.intro _ (And.intro r3 ?_))
          refine Exists.intro _ (Exists.intro (s) (And.intro a3 (And.intro (by first | (rw [mj_w_id (by omega) (by omega)]; done) | (rw [mj_w_id (by omega) (by omega)]; omega) | (unfold mj_w; omega)) (And.intro (by omega) ?_))))
          rcases hm s p2 with q | ⟨q1, q2⟩
          · rw [q]
            refine And.intro (fun d => ?_) (fun d => ?_)
            · clear d
              refine mj_go z_W_markNeeded [67] 60 ?_
              refine Exists.intro (((k : Int) - 1)) (And.intro (by first | (rw [mj_w_id (by omega) (by omega)]; done) | (rw [mj_w_id (by omega) (by omega)]; omega) | (unfold mj_w; omega)) ?_)
              refine ih zs (s :: ys) J _ hz hod2 hf hm h1 (fun g hg hg1 => ?_)
              rcases List.mem_cons.mp hg with e | e
              · subst e
                omega
              · exact h2 g e hg1
            · exact absurd (show mj_w 0 = 0 by decide) d
          · rw [q1]
            refine And.intro (fun d => ?_) (fun d => ?_)
            · exact absurd d (by decide)
            · clear d
              have nl : wr_N IA c b O rd od (wr_X IA c b rd (IA (b + 3) s)) := fun S a1 a2 => (a2 s hsm (q2 S a1 a2)).1
              have nr : wr_N IA c b O rd od (wr_X IA c b rd (IA (b + 4) s)) := fun S a1 a2 => (a2 s hsm (q2 S a1 a2)).2
              refine And.intro h0 (Exists.intro _ (And.intro r3 ?_))
              refine And.intro hN.1 (Exists.intro _ (And.intro hN.2.2.2.1 ?_))
              refine Exists.intro _ (Exists.intro (s) (And.intro hN.2.2.2.2.2.2.2.2.2.2.2.1 (And.intro (by first | (rw [mj_w_id (by omega) (by omega)]; done) | (rw [mj_w_id (by omega) (by omega)]; omega) | (unfold mj_w; omega)) (And.intro (by omega) ?_))))
              rw [hb 3 (by decide)]
              refine And.intro h0 (And.intro (Nat.le_of_ble_eq_true rfl) (And.intro (Nat.le_of_ble_eq_true rfl) (And.intro (Nat.le_of_ble_eq_true rfl) (Exists.intro _ (And.intro (ct_W_finalSlot hW hC hN ha hE hr hH p3) ?_)))))
              rintro r9 sh9 FR9 IA9 LA9 n9 ⟨z0, z1, z2, z3, z4, z5⟩
              subst z0
              replace z1 := z1.symm
              subst z1
              replace z2 := z2.symm
              subst z2
              replace z3 := z3.symm
              subst z3
              replace z4 := z4.symm
              subst z4
              replace z5 := z5.symm
              subst z5
              refine And.intro (Or.inl rfl) ?_
              refine Exists.intro _ (Exists.intro (wr_X IA c b rd (IA (b + 3) s)) (And.intro a3 (And.intro (by rw [mj_w_id (by omega) (by omega)]) (And.intro xl (And.intro (Or.inr rfl) ?_)))))
              generalize hJ2 : mj_up J (w + 3) (wr_X IA c b rd (IA (b + 3) s)) 1 = J2
              have f2 : ∀ q, q ≠ w + 3 → J2 q = IA q := fun q hq => by rw [← hJ2, mj_up_ne hq]; exact hf q hq
              have r2' : J2 (w + 3) = mj_u (J (w + 3)) (wr_X IA c b rd (IA (b + 3) s)) 1 := by rw [← hJ2, mj_up_row]
              have hE2 := hEx J2 f2
              refine And.intro h0 (Exists.intro _ (And.intro r3 ?_))
              refine And.intro hN.1 (Exists.intro _ (And.intro hN.2.2.2.2.1 ?_))
              refine Exists.intro _ (Exists.intro (s) (And.intro hN.2.2.2.2.2.2.2.2.2.2.2.2.1 (And.intro (by first | (rw [mj_w_id (by omega) (by omega)]; done) | (rw [mj_w_id (by omega) (by omega)]; omega) | (unfold mj_w; omega)) (And.intro (by omega) ?_))))
              rw [show J2 (b + 4) = IA (b + 4) from hE2.b ha (by decide)]
              refine And.intro h0 (And.intro (Nat.le_of_ble_eq_true rfl) (And.intro (Nat.le_of_ble_eq_true rfl) (And.intro (Nat.le_of_ble_eq_true rfl) (Exists.intro _ (And.intro (ct_W_finalSlot hW hC hN ha hE2 hr hH p4) ?_)))))
              rintro r9 sh9 FR9 IA9 LA9 n9 ⟨z0, z1, z2, z3, z4, z5⟩
              subst z0
              replace z1 := z1.symm
              subst z1
              replace z2 := z2.symm
              subst z2
              replace z3 := z3.symm
              subst z3
              replace z4 := z4.symm
              subst z4
              replace z5 := z5.symm
              subst z5
              refine And.intro (Or.inl rfl) ?_
              refine Exists.intro _ (Exists.intro (wr_X IA c b rd (IA (b + 4) s)) (And.intro a3 (And.intro (by rw [mj_w_id (by omega) (by omega)]) (And.intro xr (And.intro (Or.inr rfl) ?_)))))
              refine mj_go z_W_markNeeded [67] 60 ?_
              refine Exists.intro (((k : Int) - 1)) (And.intro (by first | (rw [mj_w_id (by omega) (by omega)]; done) | (rw [mj_w_id (by omega) (by omega)]; omega) | (unfold mj_w; omega)) ?_)
              have rr : mj_up J2 (w + 3) (wr_X IA c b rd (IA (b + 4) s)) 1 (w + 3) = mj_u (mj_u (J (w + 3)) (wr_X IA c b rd (IA (b + 3) s)) 1) (wr_X IA c b rd (IA (b + 4) s)) 1 := by rw [mj_up_row, r2']
              refine ih zs (s :: ys) _ _ hz hod2 (fun q hq => by rw [mj_up_ne hq]; exact f2 q hq) (by rw [rr]; exact wr_m_set (wr_m_set hm nl) nr) (fun k hk => by rw [rr]; exact mj_u_one (mj_u_one (h1 k hk))) (fun g hg hg1 => ?_)
              rw [rr] at hg1 ⊢
              have ng := ne g hg
              rw [mj_u_ne (fun e => ng.2 e.symm), mj_u_ne (fun e => ng.1 e.symm)] at hg1
              rcases List.mem_cons.mp hg with e | e
              · subst e
                exact ⟨mj_u_one mj_u_at, mj_u_at⟩
              · have := h2 g e hg1
                exact ⟨mj_u_one (mj_u_one this.1), mj_u_one (mj_u_one this.2)⟩
  have loop2 : ∀ (t k : Nat) (J : mj_FI), k + t = O → (∀ q, q ≠ w + 3 → J q = IA q) → wr_m IA c b O rd od (J (w + 3)) → (∀ i, i < k → J (w + 3) (wr_X IA c b rd (IA (b + 5) i)) = 1) → mj_G m_W_markNeeded Q 29 [some (.inr (.inr (.inl w))), some (.inr (.inr (.inl c))), some (.inr (.inr (.inl b))), some (.inl k), none] [] sh FR J LA n 0 0 := by
    intro t
    induction t with
    | zero =>
      intro k J hk hf hm h1
      have hk : k = O := by omega
      subst hk
      have hE := hEx J hf
      have hb0 : J b = IA b := hE.b ha (k := 0) (by decide)
      refine mj_go z_W_markNeeded [29, 67] 60 ?_
      refine And.intro hN.1 ?_
      rw [hb0, h12]
      refine And.intro (fun d => ?_) (fun d => ?_)
      · clear d
        refine And.intro hN.1 ?_
        rw [hb0, o1]
        refine Exists.intro (((G : Int) - 1)) (And.intro (by first | (rw [mj_w_id (by omega) (by omega)]; done) | (rw [mj_w_id (by omega) (by omega)]; omega) | (unfold mj_w; omega)) ?_)
        exact loop3 G od [] J none o3 (by simp) hf hm h1 (fun g hg => by simp at hg)
      · simp (disch := (clear d; omega)) only [mj_w_id] at d
        omega
    | succ t ih =>
      intro k J hk hf hm h1
      have hE := hEx J hf
      have hb0 : J b = IA b := hE.b ha (k := 0) (by decide)
      have p := hou k (by omega)
      have xl := wr_X_lt hH p
      refine mj_go z_W_markNeeded [29, 67] 60 ?_
      refine And.intro hN.1 ?_
      rw [hb0, h12]
      refine And.intro (fun d => ?_) (fun d => ?_)
      · simp (disch := (clear d; omega)) only [mj_w_id] at d
        omega
      · clear d
        refine And.intro h0 (Exists.intro _ (And.intro r3 ?_))
        refine And.intro hN.1 (Exists.intro _ (And.intro hN.2.2.2.2.2.1 ?_))
        refine Exists.intro _ (Exists.intro (k) (And.intro hN.2.2.2.2.2.2.2.2.2.2.2.2.2.1 (And.intro (by first | (rw [mj_w_id (by omega) (by omega)]; done) | (rw [mj_w_id (by omega) (by omega)]; omega) | (unfold mj_w; omega)) (And.intro (by omega) ?_))))
        rw [show J (b + 5) = IA (b + 5) from hE.b ha (by decide)]
        refine And.intro h0 (And.intro (Nat.le_of_ble_eq_true rfl) (And.intro (Nat.le_of_ble_eq_true rfl) (And.intro (Nat.le_of_ble_eq_true rfl) (Exists.intro _ (And.intro (ct_W_finalSlot hW hC hN ha hE hr hH p) ?_)))))
        rintro r9 sh9 FR9 IA9 LA9 n9 ⟨z0, z1, z2, z3, z4, z5⟩
        subst z0
        replace z1 := z1.symm
        subst z1
        replace z2 := z2.symm
        subst z2
        replace z3 := z3.symm
        subst z3
        replace z4 := z4.symm
        subst z4
        replace z5 := z5.symm
        subst z5
        refine And.intro (Or.inl rfl) ?_
        refine Exists.intro _ (Exists.intro (wr_X IA c b rd (IA (b + 5) k)) (And.intro a3 (And.intro (by rw [mj_w_id (by omega) (by omega)]) (And.intro xl (And.intro (Or.inr rfl) ?_)))))
        refine Exists.intro (((k + 1 : Nat) : Int)) (And.intro (by first | (rw [mj_w_id (by omega) (by omega)]; done) | (rw [mj_w_id (by omega) (by omega)]; omega) | (unfold mj_w; omega)) ?_)
        refine ih (k + 1) _ (by omega) (fun q hq => by rw [mj_up_ne hq]; exact hf q hq) (by rw [mj_up_row]; exact wr_m_set hm (fun S q1 _ => q1 k (by omega))) (fun i hi => ?_)
        rw [mj_up_row]
        by_cases e : i = k
        · subst e
          exact mj_u_at
        · exact mj_u_one (h1 i (by omega))
  have loop1 : ∀ (t i : Nat), i + t = 315 → mj_G m_W_markNeeded Q 7 [some (.inr (.inr (.inl w))), some (.inr (.inr (.inl c))), some (.inr (.inr (.inl b))), some (.inl i), none] [] sh FR (mj_fl IA (w + 3) i 0) LA n 0 0 := by
    intro t
    induction t with
    | zero =>
      intro i hi
      have hi : i = 315 := by omega
      subst hi
      refine mj_go z_W_markNeeded [7, 29] 60 ?_
      refine And.intro (fun d => ?_) (fun d => ?_)
      · refine loop2 O 0 _ (by omega) (fun q hq => ?_) (fun t ht => Or.inl ?_) (fun i hi => by omega)
        · funext j
          simp [mj_fl, hq]
        · simp [mj_fl, ht]
      · exact absurd (show mj_w (315 : Int) ≤ mj_w ((315 : Nat) : Int) by decide) d
    | succ t ih =>
      intro i hi
      have ih1 := ih (i + 1) (by omega)
      rw [← mj_fl_s] at ih1
      refine mj_go z_W_markNeeded [7, 29] 60 ?_
      refine And.intro (fun d => ?_) (fun d => ?_)
      · simp (disch := (clear d; omega)) only [mj_w_id] at d
        omega
      · clear d
        refine And.intro h0 (Exists.intro _ (And.intro r3 ?_))
        refine Exists.intro _ (Exists.intro i (And.intro a3 (And.intro (by rw [mj_w_id (by omega) (by omega)]) (And.intro (by omega) (And.intro (Or.inl rfl) ?_)))))
        refine Exists.intro (((i + 1 : Nat) : Int)) (And.intro (by first | (rw [mj_w_id (by omega) (by omega)]; done) | (rw [mj_w_id (by omega) (by omega)]; omega) | (unfold mj_w; omega)) ?_)
        exact ih1
  have h9 := loop1 315 0 (by omega)
  rw [mj_fl_0] at h9
  refine mj_Ct_of (by decide +kernel) (by decide) (Nat.le_of_ble_eq_true rfl) ?_
  refine mj_go z_W_markNeeded [7] 60 ?_
  refine And.intro hC.1 (Exists.intro _ (And.intro hC.2.1 ?_))
  exact h9
end WW
