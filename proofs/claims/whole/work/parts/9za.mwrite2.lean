/-! THE REFERENCE: write, whole -/
/-- what write leaves -/
def mw_q (IA : mj_FI) (LA : mj_LA) (c I O G : Nat) (od wl : List Nat) (rd bin : Bool) (o : mj_O) (J : mj_FI) : Prop := ∃ (B : mj_FI) (tx : List Int) (num : Nat → Int) (sn : Nat → Nat), ch_q (mj_up IA 52 0 0) LA c I O G od rd (.inl (some (.inl (wr_ct (fun k => decide (B 76 (15 + k) = 1)) od : Int)))) B ∧
  (∀ q, (q < 73 ∨ 76 < q) → q ≠ 52 → q ≠ 54 → J q = IA q) ∧ (∀ k, k ≠ 0 → k ≠ 4 → J 52 k = IA 52 k) ∧ J 52 0 = 0 ∧ J 52 4 = (tx.length : Int) ∧ tx.length ≤ 4096 ∧ (∀ i x, tx[i]? = some x → J 54 i = mj_b x) ∧ o = .inl (some (.inl (tx.length : Int))) ∧
  (∀ r, r ≤ I → num r = (r : Int)) ∧ (∀ k, k < G → ng_N B k = 1 → num (15 + k) = ((I + 1 + wr_rk (ng_N B) (ng_D B) (ng_o B c) wl k : Nat) : Int) ∧ sn (wr_rk (ng_N B) (ng_D B) (ng_o B c) wl k) = k) ∧
  tx = wr_h bin I O (wr_ct (fun k => decide (ng_N B k = 1)) wl) ++ ((if bin = true then [] else wr_i I) ++ (wr_o (fun k => M_wl B num c (B 65 (16 * c + k))) O ++ wr_q bin I sn (fun k => M_wl B num c (B 63 (300 * c + k))) (fun k => M_wl B num c (B 64 (300 * c + k))) (wr_ct (fun k => decide (ng_N B k = 1)) wl)))
theorem M_wl_co {B B2 : mj_FI} (h66 : B2 66 = B 66) (h73 : B2 73 = B 73) {num : Nat → Int} {c : Nat} {lit : Int} : M_wl B2 num c lit = M_wl B num c lit := by
  unfold M_wl
  rw [M_tr_f h66 h73, (M_tu_co h73 h66).1]
theorem ch_q.B {IA : mj_FI} {LA : mj_LA} {c I O G : Nat} {od wl : List Nat} {rd : Bool} {o : mj_O} {J : mj_FI} (hc : c < 2) (hS : M_S IA c I O G od) (hw : nb_w IA c G wl) (h : ch_q IA LA c I O G od rd o J) : mw_B J c I O G od wl := by
  obtain ⟨f, hb, h75, h76, hD, ho⟩ := h
  obtain ⟨⟨_, hI⟩, ⟨_, hG⟩, _, hrr, hv, hd, hos, hsr, hfan, ⟨o1, o2, o3⟩, hol, hdp, hpw⟩ := id hS
  have e66 := f 66 (by decide)
  have hall := nodup_all o2 o1 o3
  have eo : ng_o J c = ng_o IA c := by funext k; unfold ng_o; rw [f 62 (by decide)]
  have S1 : M_S J c I O G od := M_S_co (fun q q1 q2 => f q (by omega)) hS
  have key : ∀ lit, M_st J c lit → M_st J c (J 73 (M_ro J c lit)) ∧ M_is I G (M_tr J c lit) := by
    intro lit hl
    have hl2 := (M_st_co e66).mp hl
    have hr := hsr lit hl2
    have a := (ch_b.st hS hr (hb _ hr)).1
    have a2 : M_st J c (J 73 (M_ro J c lit)) := by rw [M_st_co e66, M_ro_co e66]; exact a
    refine ⟨a2, ?_⟩
    have t := (M_tu_st a2).1
    exact (S1.2.2.2.2.2.2.2.1 _ t)
  refine ⟨S1, ?_, key, fun k hk => ⟨(h76 (15 + k) (by omega)).1, ?_⟩, fun k hk hn j hj e => ?_⟩
  · unfold nb_w
    rw [eo]
    exact hw
  · have := hD.2.1 (15 + k) (by omega)
    omega
  · have nk := (h76 (15 + k) (by omega)).2.mp hn
    have hDk := hD.2.2 k (hall k hk)
    refine ⟨(h76 (15 + j) (by omega)).2.mpr ?_, ?_⟩
    · rcases e with e | e
      · rw [← e]
        exact fun S a b => (b k hk (nk S a b)).1
      · rw [← e]
        exact fun S a b => (b k hk (nk S a b)).2
    · rcases e with e | e
      · rw [e] at hDk
        omega
      · rw [e] at hDk
        omega
section MM
variable {sh : mj_Sh} {FR : mj_FR} {IA : mj_FI} {LA : mj_LA} {n : Nat}
set_option maxHeartbeats 2000000 in
/-- the inputs -/
theorem mw_ins (h : isM sh FR n) {B : mj_FI} {c I g : Nat} {bin : Bool} {rv : Int} {tx : List Int} {Q : mj_Q} (hc : c < 2) (hI : B 55 c = (I : Int)) (hI2 : I ≤ 14) (hl : tx.length ≤ 100) (h75 : ∀ r, r < 315 → B 75 r = 0)
    (hQ : ∀ (B2 J : mj_FI) (y7 : Option mj_V), (∀ q, q ≠ 75 → B2 q = B q) → (∀ r, r ≤ I → B2 75 r = (r : Int)) → (∀ r, I < r → r < 315 → B2 75 r = 0) → mw_T B2 J (tx ++ (if bin = true then [] else wr_i I)) → mj_G m_M_write Q 182 [some (.inr (.inr (.inl 52))), some (.inl c), some (.inl (if bin = true then 1 else 0)), some (.inl rv), some (.inl c), some (.inl g), some (.inl 0), y7] [] sh FR J LA n 0 0) :
    ∀ (t k : Nat) (B2 J : mj_FI) (y7 : Option mj_V), k + t = I → (∀ q, q ≠ 75 → B2 q = B q) → (∀ r, r ≤ k → B2 75 r = (r : Int)) → (∀ r, k < r → r < 315 → B2 75 r = 0) → mw_T B2 J (tx ++ (if bin = true then [] else wr_i k)) → mj_G m_M_write Q 132 [some (.inr (.inr (.inl 52))), some (.inl c), some (.inl (if bin = true then 1 else 0)), some (.inl rv), some (.inl c), some (.inl g), some (.inl k), y7] [] sh FR J LA n 0 0 := by
  intro t
  induction t with
  | zero =>
    intro k B2 J y7 hk f p1 p2 hT
    have e : k = I := by omega
    subst e
    have e55 : J 55 c = (k : Int) := by rw [hT.1 55 (by decide) (by decide), f 55 (by decide)]; exact hI
    refine mj_go z_M_write [182] 60 ?_
    refine And.intro h.o (Exists.intro _ (And.intro h.r5 ?_))
    refine Exists.intro _ (Exists.intro (c) (And.intro h.a5 (And.intro (by first | (rw [mj_w_id (by omega) (by omega)]; done) | (rw [mj_w_id (by omega) (by omega)]; omega) | (unfold mj_w; omega)) (And.intro (by omega) ?_))))
    rw [e55]
    refine And.intro (fun d => ?_) (fun d => ?_)
    · exact hQ B2 J y7 f p1 p2 hT
    · simp (disch := (clear d; omega)) only [mj_w_id] at d
      omega
  | succ t ih =>
    intro k B2 J y7 hk f p1 p2 hT
    have e55 : J 55 c = (I : Int) := by rw [hT.1 55 (by decide) (by decide), f 55 (by decide)]; exact hI
    have hT2 := hT.up (q := 75) (k := 1 + k) (x := ((k + 1 : Nat) : Int)) (by decide) (by decide)
    have nx : ∀ (J2 : mj_FI), mw_T (mj_up B2 75 (1 + k) ((k + 1 : Nat) : Int)) J2 (tx ++ (if bin = true then [] else wr_i (k + 1))) → mj_G m_M_write Q 173 [some (.inr (.inr (.inl 52))), some (.inl c), some (.inl (if bin = true then 1 else 0)), some (.inl rv), some (.inl c), some (.inl g), some (.inl k), y7] [] sh FR J2 LA n 0 0 := by
      intro J2 hT3
      have key := ih (k + 1) (mj_up B2 75 (1 + k) ((k + 1 : Nat) : Int)) J2 y7 (by omega) (fun q hq => by rw [mj_up_ne hq]; exact f q hq) (fun r hr => by
        rw [mj_up_row]
        by_cases e : r = 1 + k
        · rw [e, mj_u_at]
          omega
        · rw [mj_u_ne e]
          exact p1 r (by omega)) (fun r a b => by rw [mj_up_row, mj_u_ne (by omega)]; exact p2 r (by omega) b) hT3
      clear ih hQ p1 p2
      refine mj_go z_M_write [132] 60 ?_
      refine Exists.intro (((k + 1 : Nat) : Int)) (And.intro (by first | (rw [mj_w_id (by omega) (by omega)]; done) | (rw [mj_w_id (by omega) (by omega)]; omega) | (unfold mj_w; omega)) ?_)
      exact key
    have i4 := wr_i_len k
    clear ih hQ p1 p2
    cases bin with
    | true =>
      refine mj_go z_M_write [173] 60 ?_
      refine And.intro h.o (Exists.intro _ (And.intro h.r5 ?_))
      refine Exists.intro _ (Exists.intro (c) (And.intro h.a5 (And.intro (by first | (rw [mj_w_id (by omega) (by omega)]; done) | (rw [mj_w_id (by omega) (by omega)]; omega) | (unfold mj_w; omega)) (And.intro (by omega) ?_))))
      rw [e55]
      refine And.intro (fun d => ?_) (fun d => ?_)
      · simp (disch := (clear d; omega)) only [mj_w_id] at d
        omega
      · clear d
        refine And.intro h.o (Exists.intro _ (And.intro h.r28 ?_))
        refine Exists.intro (((1 + k : Nat) : Int)) (And.intro (by first | (rw [mj_w_id (by omega) (by omega)]; done) | (rw [mj_w_id (by omega) (by omega)]; omega) | (unfold mj_w; omega)) ?_)
        refine Exists.intro (((k + 1 : Nat) : Int)) (And.intro (by first | (rw [mj_w_id (by omega) (by omega)]; done) | (rw [mj_w_id (by omega) (by omega)]; omega) | (unfold mj_w; omega)) ?_)
        refine Exists.intro _ (Exists.intro (1 + k) (And.intro h.a28 (And.intro (by first | (rw [mj_w_id (by omega) (by omega)]; done) | (rw [mj_w_id (by omega) (by omega)]; omega) | (unfold mj_w; omega)) (And.intro (by omega) ?_))))
        refine And.intro (fun d => ?_) (fun d => ?_)
        · exact nx _ hT2
        · exact absurd (show ¬ mj_w 1 = 0 by decide) d
    | false =>
      rw [if_neg (by decide)] at hT2
      have lt : (tx ++ wr_i k).length + 4 ≤ 8192 := by rw [List.length_append]; omega
      have nx2 : ∀ (J2 : mj_FI), mw_T (mj_up B2 75 (1 + k) ((k + 1 : Nat) : Int)) J2 (tx ++ wr_i k ++ (wr_n (2 * (k + 1)) ++ [10])) → mj_G m_M_write Q 173 [some (.inr (.inr (.inl 52))), some (.inl c), some (.inl 0), some (.inl rv), some (.inl c), some (.inl g), some (.inl k), y7] [] sh FR J2 LA n 0 0 := fun J2 z => nx J2 (by rw [if_neg (by decide)]; simp only [wr_i]; rw [← List.append_assoc]; exact z)
      refine mj_go z_M_write [173] 60 ?_
      refine And.intro h.o (Exists.intro _ (And.intro h.r5 ?_))
      refine Exists.intro _ (Exists.intro (c) (And.intro h.a5 (And.intro (by first | (rw [mj_w_id (by omega) (by omega)]; done) | (rw [mj_w_id (by omega) (by omega)]; omega) | (unfold mj_w; omega)) (And.intro (by omega) ?_))))
      rw [e55]
      refine And.intro (fun d => ?_) (fun d => ?_)
      · simp (disch := (clear d; omega)) only [mj_w_id] at d
        omega
      · clear d
        refine And.intro h.o (Exists.intro _ (And.intro h.r28 ?_))
        refine Exists.intro (((1 + k : Nat) : Int)) (And.intro (by first | (rw [mj_w_id (by omega) (by omega)]; done) | (rw [mj_w_id (by omega) (by omega)]; omega) | (unfold mj_w; omega)) ?_)
        refine Exists.intro (((k + 1 : Nat) : Int)) (And.intro (by first | (rw [mj_w_id (by omega) (by omega)]; done) | (rw [mj_w_id (by omega) (by omega)]; omega) | (unfold mj_w; omega)) ?_)
        refine Exists.intro _ (Exists.intro (1 + k) (And.intro h.a28 (And.intro (by first | (rw [mj_w_id (by omega) (by omega)]; done) | (rw [mj_w_id (by omega) (by omega)]; omega) | (unfold mj_w; omega)) (And.intro (by omega) ?_))))
        refine And.intro (fun d => ?_) (fun d => ?_)
        · exact absurd (show mj_w 0 = 0 by decide) d
        · clear d
          refine Exists.intro (((2 * k : Nat) : Int)) (And.intro (by first | (rw [mj_w_id (by omega) (by omega)]; done) | (rw [mj_w_id (by omega) (by omega)]; omega) | (unfold mj_w; omega)) ?_)
          refine Exists.intro (((2 * (k + 1) : Nat) : Int)) (And.intro (by first | (rw [mj_w_id (by omega) (by omega)]; done) | (rw [mj_w_id (by omega) (by omega)]; omega) | (unfold mj_w; omega)) ?_)
          refine And.intro h.o (And.intro (Nat.le_of_ble_eq_true rfl) (And.intro (Nat.le_of_ble_eq_true rfl) (And.intro (Nat.le_of_ble_eq_true rfl) (Exists.intro _ (And.intro (ct_M_putNumber h hT2 lt (by omega)) ?_)))))
          rintro o1 sh9 FR9 J2 LA9 n9 ⟨z1, z2, z3, z4, hp1⟩
          replace z1 := z1.symm
          subst z1
          replace z2 := z2.symm
          subst z2
          replace z3 := z3.symm
          subst z3
          replace z4 := z4.symm
          subst z4
          obtain ⟨ho1, hT3⟩ := hp1
          subst ho1
          refine And.intro (Or.inl rfl) ?_
          exact nx2 J2 hT3
set_option maxHeartbeats 2000000 in
/-- the first line -/
theorem mw_head (h : isM sh FR n) {B J : mj_FI} {c I O g : Nat} {bin : Bool} {rv : Int} {Q : mj_Q} {y6 y7 : Option mj_V} (hc : c < 2) (hI : B 55 c = (I : Int)) (hI2 : I ≤ 14) (hO : B 57 c = (O : Int)) (hO2 : O ≤ 16) (hg : g ≤ 300) (hT : mw_T B J [])
    (hQ : ∀ (J : mj_FI), mw_T B J (wr_h bin I O g) → mj_G m_M_write Q 132 [some (.inr (.inr (.inl 52))), some (.inl c), some (.inl (if bin = true then 1 else 0)), some (.inl rv), some (.inl c), some (.inl g), some (.inl 0), y7] [] sh FR J LA n 0 0) :
    mj_G m_M_write Q 39 [some (.inr (.inr (.inl 52))), some (.inl c), some (.inl (if bin = true then 1 else 0)), some (.inl rv), some (.inl c), some (.inl g), y6, y7] [] sh FR J LA n 0 0 := by
  have n1 := @wr_n_len (I + g)
  have n2 := @wr_n_len I
  have n3 := @wr_n_len 0
  have n4 := @wr_n_len O
  have rest : ∀ (J : mj_FI) , mw_T B J ([] ++ [97] ++ [if bin = true then 105 else 97]) → mj_G m_M_write Q 60 [some (.inr (.inr (.inl 52))), some (.inl c), some (.inl (if bin = true then 1 else 0)), some (.inl rv), some (.inl c), some (.inl g), y6, y7] [] sh FR J LA n 0 0 := by
    intro J hT
    refine mj_go z_M_write [132] 90 ?_
    refine And.intro h.o (And.intro (Nat.le_of_ble_eq_true rfl) (And.intro (Nat.le_of_ble_eq_true rfl) (And.intro (Nat.le_of_ble_eq_true rfl) (Exists.intro _ (And.intro (ct_M_put h hT (by simp)) ?_)))))
    rintro o1 sh9 FR9 J1 LA9 n9 ⟨z1, z2, z3, z4, hp1⟩
    replace z1 := z1.symm
    subst z1
    replace z2 := z2.symm
    subst z2
    replace z3 := z3.symm
    subst z3
    replace z4 := z4.symm
    subst z4
    obtain ⟨ho, hT⟩ := hp1
    subst ho
    refine And.intro (Or.inl rfl) ?_
    refine And.intro h.o (And.intro (Nat.le_of_ble_eq_true rfl) (And.intro (Nat.le_of_ble_eq_true rfl) (And.intro (Nat.le_of_ble_eq_true rfl) (Exists.intro _ (And.intro (ct_M_put h hT (by simp)) ?_)))))
    rintro o2 sh9 FR9 J2 LA9 n9 ⟨z1, z2, z3, z4, hp2⟩
    replace z1 := z1.symm
    subst z1
    replace z2 := z2.symm
    subst z2
    replace z3 := z3.symm
    subst z3
    replace z4 := z4.symm
    subst z4
    obtain ⟨ho, hT⟩ := hp2
    subst ho
    refine And.intro (Or.inl rfl) ?_
    refine And.intro h.o (Exists.intro _ (And.intro h.r5 ?_))
    refine Exists.intro _ (Exists.intro (c) (And.intro h.a5 (And.intro (by first | (rw [mj_w_id (by omega) (by omega)]; done) | (rw [mj_w_id (by omega) (by omega)]; omega) | (unfold mj_w; omega)) (And.intro (by omega) ?_))))
    rw [hT.1 55 (by decide) (by decide), hI]
    refine Exists.intro (((I + g : Nat) : Int)) (And.intro (by first | (rw [mj_w_id (by omega) (by omega)]; done) | (rw [mj_w_id (by omega) (by omega)]; omega) | (unfold mj_w; omega)) ?_)
    refine And.intro h.o (And.intro (Nat.le_of_ble_eq_true rfl) (And.intro (Nat.le_of_ble_eq_true rfl) (And.intro (Nat.le_of_ble_eq_true rfl) (Exists.intro _ (And.intro (ct_M_putNumber h hT (by simp) (by omega)) ?_)))))
    rintro o3 sh9 FR9 J3 LA9 n9 ⟨z1, z2, z3, z4, hp3⟩
    replace z1 := z1.symm
    subst z1
    replace z2 := z2.symm
    subst z2
    replace z3 := z3.symm
    subst z3
    replace z4 := z4.symm
    subst z4
    obtain ⟨ho, hT⟩ := hp3
    subst ho
    refine And.intro (Or.inl rfl) ?_
    refine And.intro h.o (Exists.intro _ (And.intro h.r5 ?_))
    refine Exists.intro _ (Exists.intro (c) (And.intro h.a5 (And.intro (by first | (rw [mj_w_id (by omega) (by omega)]; done) | (rw [mj_w_id (by omega) (by omega)]; omega) | (unfold mj_w; omega)) (And.intro (by omega) ?_))))
    rw [hT.1 55 (by decide) (by decide), hI]
    refine And.intro h.o (And.intro (Nat.le_of_ble_eq_true rfl) (And.intro (Nat.le_of_ble_eq_true rfl) (And.intro (Nat.le_of_ble_eq_true rfl) (Exists.intro _ (And.intro (ct_M_putNumber h hT (by simp; omega) (by omega)) ?_)))))
    rintro o4 sh9 FR9 J4 LA9 n9 ⟨z1, z2, z3, z4, hp4⟩
    replace z1 := z1.symm
    subst z1
    replace z2 := z2.symm
    subst z2
    replace z3 := z3.symm
    subst z3
    replace z4 := z4.symm
    subst z4
    obtain ⟨ho, hT⟩ := hp4
    subst ho
    refine And.intro (Or.inl rfl) ?_
    refine And.intro h.o (And.intro (Nat.le_of_ble_eq_true rfl) (And.intro (Nat.le_of_ble_eq_true rfl) (And.intro (Nat.le_of_ble_eq_true rfl) (Exists.intro _ (And.intro (ct_M_putNumber (v := 0) h hT (by simp; omega) (by omega)) ?_)))))
    rintro o5 sh9 FR9 J5 LA9 n9 ⟨z1, z2, z3, z4, hp5⟩
    replace z1 := z1.symm
    subst z1
    replace z2 := z2.symm
    subst z2
    replace z3 := z3.symm
    subst z3
    replace z4 := z4.symm
    subst z4
    obtain ⟨ho, hT⟩ := hp5
    subst ho
    refine And.intro (Or.inl rfl) ?_
    refine And.intro h.o (Exists.intro _ (And.intro h.r7 ?_))
    refine Exists.intro _ (Exists.intro (c) (And.intro h.a7 (And.intro (by first | (rw [mj_w_id (by omega) (by omega)]; done) | (rw [mj_w_id (by omega) (by omega)]; omega) | (unfold mj_w; omega)) (And.intro (by omega) ?_))))
    rw [hT.1 57 (by decide) (by decide), hO]
    refine And.intro h.o (And.intro (Nat.le_of_ble_eq_true rfl) (And.intro (Nat.le_of_ble_eq_true rfl) (And.intro (Nat.le_of_ble_eq_true rfl) (Exists.intro _ (And.intro (ct_M_putNumber h hT (by simp; omega) (by omega)) ?_)))))
    rintro o6 sh9 FR9 J6 LA9 n9 ⟨z1, z2, z3, z4, hp6⟩
    replace z1 := z1.symm
    subst z1
    replace z2 := z2.symm
    subst z2
    replace z3 := z3.symm
    subst z3
    replace z4 := z4.symm
    subst z4
    obtain ⟨ho, hT⟩ := hp6
    subst ho
    refine And.intro (Or.inl rfl) ?_
    refine And.intro h.o (And.intro (Nat.le_of_ble_eq_true rfl) (And.intro (Nat.le_of_ble_eq_true rfl) (And.intro (Nat.le_of_ble_eq_true rfl) (Exists.intro _ (And.intro (ct_M_putNumber h hT (by simp; omega) (by omega)) ?_)))))
    rintro o7 sh9 FR9 J7 LA9 n9 ⟨z1, z2, z3, z4, hp7⟩
    replace z1 := z1.symm
    subst z1
    replace z2 := z2.symm
    subst z2
    replace z3 := z3.symm
    subst z3
    replace z4 := z4.symm
    subst z4
    obtain ⟨ho, hT⟩ := hp7
    subst ho
    refine And.intro (Or.inl rfl) ?_
    refine hQ J7 ?_
    unfold wr_h
    simp only [List.nil_append, List.append_assoc] at hT ⊢
    exact hT
  clear hQ
  refine mj_go z_M_write [60] 60 ?_
  refine And.intro h.o (And.intro (Nat.le_of_ble_eq_true rfl) (And.intro (Nat.le_of_ble_eq_true rfl) (And.intro (Nat.le_of_ble_eq_true rfl) (Exists.intro _ (And.intro (ct_M_put h hT (by simp)) ?_)))))
  rintro o1 sh9 FR9 J1 LA9 n9 ⟨z1, z2, z3, z4, hp1⟩
  replace z1 := z1.symm
  subst z1
  replace z2 := z2.symm
  subst z2
  replace z3 := z3.symm
  subst z3
  replace z4 := z4.symm
  subst z4
  obtain ⟨ho, hT1⟩ := hp1
  subst ho
  refine And.intro (Or.inl rfl) ?_
  cases bin with
  | true =>
    refine And.intro (fun d => ?_) (fun d => ?_)
    · exact absurd d (by decide)
    · clear d
      refine And.intro h.o (And.intro (Nat.le_of_ble_eq_true rfl) (And.intro (Nat.le_of_ble_eq_true rfl) (And.intro (Nat.le_of_ble_eq_true rfl) (Exists.intro _ (And.intro (ct_M_put h hT1 (by simp)) ?_)))))
      rintro o2 sh9 FR9 J2 LA9 n9 ⟨z1, z2, z3, z4, hp2⟩
      replace z1 := z1.symm
      subst z1
      replace z2 := z2.symm
      subst z2
      replace z3 := z3.symm
      subst z3
      replace z4 := z4.symm
      subst z4
      obtain ⟨ho, hT2⟩ := hp2
      subst ho
      refine And.intro (Or.inl rfl) ?_
      exact rest J2 hT2
  | false =>
    refine And.intro (fun d => ?_) (fun d => ?_)
    · clear d
      refine And.intro h.o (And.intro (Nat.le_of_ble_eq_true rfl) (And.intro (Nat.le_of_ble_eq_true rfl) (And.intro (Nat.le_of_ble_eq_true rfl) (Exists.intro _ (And.intro (ct_M_put h hT1 (by simp)) ?_)))))
      rintro o2 sh9 FR9 J2 LA9 n9 ⟨z1, z2, z3, z4, hp2⟩
      replace z1 := z1.symm
      subst z1
      replace z2 := z2.symm
      subst z2
      replace z3 := z3.symm
      subst z3
      replace z4 := z4.symm
      subst z4
      obtain ⟨ho, hT2⟩ := hp2
      subst ho
      refine And.intro (Or.inl rfl) ?_
      exact rest J2 hT2
    · exact absurd (show mj_w 0 = 0 by decide) d
set_option maxHeartbeats 2000000 in
theorem ct_M_write (h : isM sh FR n) {c I O G : Nat} {od wl : List Nat} {rd bin : Bool} (hc : c < 2) (hS : M_S IA c I O G od) (hw : nb_w IA c G wl) :
    mj_Ct m_M_write [.inr (.inr (.inl 52)), .inl c, .inl (if bin = true then 1 else 0), .inl (if rd = true then 1 else 0)] sh FR IA LA n (mj_po (mw_q IA LA c I O G od wl rd bin) sh FR LA n) := by
  have f0 : ∀ q, q ≠ 52 → (mj_up IA 52 0 0) q = IA q := fun q hq => mj_up_ne hq
  have hS1 : M_S (mj_up IA 52 0 0) c I O G od := M_S_co (fun q q1 q2 => f0 q (by omega)) hS
  have hw1 : nb_w (mj_up IA 52 0 0) c G wl := by
    have eo : ng_o (mj_up IA 52 0 0) c = ng_o IA c := by funext k; unfold ng_o; rw [f0 62 (by decide)]
    unfold nb_w
    rw [eo]
    exact hw
  have main : ∀ (B : mj_FI) (y6 y7 : Option mj_V), ch_q (mj_up IA 52 0 0) LA c I O G od rd (.inl (some (.inl (wr_ct (fun k => decide (B 76 (15 + k) = 1)) od : Int)))) B → mj_G m_M_write (mj_po (mw_q IA LA c I O G od wl rd bin) sh FR LA n) 34 [some (.inr (.inr (.inl 52))), some (.inl c), some (.inl (if bin = true then 1 else 0)), some (.inl (if rd = true then 1 else 0)), some (.inl c), some (.inl (wr_ct (fun k => decide (B 76 (15 + k) = 1)) od : Int)), y6, y7] [] sh FR B LA n 0 0 := by
    intro B y6 y7 hq
    have hB := hq.B hc hS1 hw1
    obtain ⟨hSB, hwB, hb3, hb4, hb5⟩ := id hB
    obtain ⟨⟨hI, hI2⟩, ⟨hG, hG2⟩, ⟨hO, hO2⟩, _, _, _, _, _, _, ⟨o1, o2, o3⟩, _⟩ := id hSB
    have hct : wr_ct (fun k => decide (B 76 (15 + k) = 1)) od = wr_ct (fun k => decide (ng_N B k = 1)) wl := wr_ct_eq o2 hwB.1 (fun x => by
      rw [hwB.2.1 x]
      exact ⟨fun z => o3 x z, fun z => nodup_all o2 o1 o3 x z⟩)
    generalize hg : wr_ct (fun k => decide (B 76 (15 + k) = 1)) od = g at hct
    have hgG : g ≤ 300 := by
      rw [← hg]
      have := wr_ct_le (P := fun k => decide (B 76 (15 + k) = 1)) (l := od)
      omega
    obtain ⟨sn, hsn⟩ : ∃ sn : Nat → Nat, ∀ i, i < g → sn i < G ∧ ng_N B (sn i) = 1 ∧ wr_rk (ng_N B) (ng_D B) (ng_o B c) wl (sn i) = i := by
      have : ∀ i, ∃ s, i < g → s < G ∧ ng_N B s = 1 ∧ wr_rk (ng_N B) (ng_D B) (ng_o B c) wl s = i := by
        intro i
        by_cases z : i < g
        · rw [hct] at z
          obtain ⟨s, s1, s2, s3⟩ := wr_rk_sur (D := ng_D B) (ow := ng_o B c) hwB.1 hwB.2.2 z
          exact ⟨s, fun _ => ⟨(hwB.2.1 s).mp s1, s2, s3⟩⟩
        · exact ⟨0, fun z2 => absurd z2 z⟩
      exact Classical.axiomOfChoice this
    have hT0 : mw_T B (mj_up B 52 4 0) [] := ⟨fun q q1 _ => mj_up_ne q1, fun k hk => mj_up_k hk, mj_up_at, fun i x hx => by simp at hx⟩
    have h24 := @wr_h_len bin I O g
    have i4 := wr_i_len I
    have key := mw_head (LA := LA) (Q := mj_po (mw_q IA LA c I O G od wl rd bin) sh FR LA n) (rv := if rd = true then 1 else 0) (bin := bin) (y6 := y6) (y7 := y7) h hc hI hI2 hO hO2 hgG hT0 (fun J1 hT1 => by
      refine mw_ins h hc hI hI2 (tx := wr_h bin I O g) (by omega) hq.2.2.1 (fun B2 J2 y7 f2 p1 p2 hT2 => ?_) I 0 B J1 y7 (by omega) (fun _ _ => rfl) (fun r hr => by rw [show r = 0 by omega]; exact hq.2.2.1 0 (by decide)) (fun r _ hr => hq.2.2.1 r hr) (by
        have e : wr_h bin I O g ++ (if bin = true then [] else wr_i 0) = wr_h bin I O g := by cases bin <;> simp [wr_i]
        rw [e]
        exact hT1)
      have lt2 : (wr_h bin I O g ++ (if bin = true then [] else wr_i I)).length ≤ 100 := by
        rw [List.length_append]
        cases bin <;> simp <;> omega
      refine mw_nums h hc hB hct (fun B3 J3 y7 f3 hp3 hT3 => ?_) g 0 B2 J2 y7 (by omega) f2 ⟨p1, fun r a b => p2 r a (by omega), fun k hk => ⟨fun _ z => by omega, fun _ => p2 (15 + k) (by omega) (by omega)⟩⟩ hT2
      have hB3 : mw_B B3 c I O G od wl := mw_B_co (fun q _ _ q3 => f3 q q3) hB
      have hp3' : nb_P B3 c I G wl g (B3 75) := nb_P_co (f3 74 (by decide)) (f3 76 (by decide)) (f3 62 (by decide)) hp3
      have eN : ng_N B3 = ng_N B := by funext k; unfold ng_N; rw [f3 76 (by decide)]
      have eD : ng_D B3 = ng_D B := by funext k; unfold ng_D; rw [f3 74 (by decide)]
      have eo : ng_o B3 c = ng_o B c := by funext k; unfold ng_o; rw [f3 62 (by decide)]
      have o4 := wr_o_len (f := fun k => M_wl B3 (B3 75) c (B3 65 (16 * c + k))) O
      have lt3 : (wr_h bin I O g ++ (if bin = true then [] else wr_i I) ++ wr_o (fun k => M_wl B3 (B3 75) c (B3 65 (16 * c + k))) O).length ≤ 400 := by
        rw [List.length_append]
        omega
      have q12 := wr_q_len (bin := bin) (I := I) (sn := sn) (l := fun k => M_wl B3 (B3 75) c (B3 63 (300 * c + k))) (r := fun k => M_wl B3 (B3 75) c (B3 64 (300 * c + k))) g
      refine mw_outs (tx := wr_h bin I O g ++ (if bin = true then [] else wr_i I)) h hc hB3 hp3' (by omega) (fun J4 y7 hT4 => ?_) O 0 J3 y7 (by omega) (by
        simp only [wr_o]
        rw [List.append_nil]
        exact hT3)
      refine mw_gates h hc hB3 (by rw [eN]; exact hct) hp3' (sn := sn) (by rw [eN, eD, eo]; exact hsn) lt3 (fun J5 ty hT5 hty => ?_) g 0 J4 y7 (by omega) (by
        simp only [wr_q]
        rw [List.append_nil]
        exact hT4)
      have lty : ty.length ≤ 4096 := by
        rw [hty, List.length_append]
        omega
      refine ⟨B, ty, B3 75, sn, by rw [hg]; rw [← hg]; exact hq, fun q q1 q2 q3 => ?_, fun k k1 k2 => ?_, ?_, hT5.2.2.1, lty, hT5.2.2.2, rfl, hp3.1, fun k hk hN => ⟨(hp3.2.2 k hk).1 hN ?_, ?_⟩, ?_⟩
      · rw [hT5.1 q q2 q3, f3 q (by omega), hq.1 q q1, f0 q q2]
      · rw [hT5.2.1 k k2, f3 52 (by decide), hq.1 52 (by decide), mj_up_k k1]
      · rw [hT5.2.1 0 (by decide), f3 52 (by decide), hq.1 52 (by decide), mj_up_at]
      · rw [hct]
        exact wr_rk_n hwB.1 ((hwB.2.1 k).mpr hk) hN
      · have hlt : wr_rk (ng_N B) (ng_D B) (ng_o B c) wl k < g := by
          rw [hct]
          exact wr_rk_n hwB.1 ((hwB.2.1 k).mpr hk) hN
        obtain ⟨s1, s2, s3⟩ := hsn _ hlt
        exact wr_rk_inj hwB.1 hwB.2.2 ((hwB.2.1 _).mpr s1) ((hwB.2.1 k).mpr hk) s2 hN s3
      · rw [hty, ← hct]
        have e63 := f3 63 (by decide)
        have e64 := f3 64 (by decide)
        have e65 := f3 65 (by decide)
        have e66 := f3 66 (by decide)
        have e73 := f3 73 (by decide)
        simp only [M_wl_co e66 e73, e63, e64, e65, List.append_assoc])
    refine mj_go z_M_write [39] 60 ?_
    refine And.intro h.o ?_
    exact key
  refine mj_Ct_of (by decide +kernel) (by decide) (Nat.le_of_ble_eq_true rfl) ?_
  refine mj_go z_M_write [34] 60 ?_
  refine And.intro (by trivial) (And.intro (Nat.le_of_ble_eq_true rfl) (And.intro (Nat.le_of_ble_eq_true rfl) (And.intro (Nat.le_of_ble_eq_true rfl) (Exists.intro _ (And.intro (ct_isC1 hc) ?_)))))
  rintro r9 sh9 FR9 IA9 LA9 n9 ⟨z0, z1, z2, z3, z4, z5⟩
  subst z0
  replace z1 := z1.symm
  subst z1
  replace z2 := z2.symm
  subst z2
  replace z3 := z3.symm
  subst z3
  replace z4 := z4.symm
  subst z4
  replace z5 := z5.symm
  subst z5
  refine And.intro (Or.inl rfl) ?_
  refine And.intro (fun d => ?_) (fun d => ?_)
  · clear d
    refine And.intro h.o (And.intro (Nat.le_of_ble_eq_true rfl) (And.intro (Nat.le_of_ble_eq_true rfl) (And.intro (Nat.le_of_ble_eq_true rfl) (Exists.intro _ (And.intro (ct_thr00 h) ?_)))))
    rintro r9 sh9 FR9 IA9 LA9 n9 ⟨z0, z1, z2, z3, z4, z5⟩
    subst z0
    replace z1 := z1.symm
    subst z1
    replace z2 := z2.symm
    subst z2
    replace z3 := z3.symm
    subst z3
    replace z4 := z4.symm
    subst z4
    replace z5 := z5.symm
    subst z5
    refine And.intro (Or.inl rfl) ?_
    refine And.intro (fun d => ?_) (fun d => ?_)
    · clear d
      refine And.intro h.o (And.intro (Nat.le_of_ble_eq_true rfl) (And.intro (Nat.le_of_ble_eq_true rfl) (And.intro (Nat.le_of_ble_eq_true rfl) (Exists.intro _ (And.intro (ct_M_choose h hc hS1) ?_)))))
      rintro o1 sh9 FR9 J1 LA9 n9 ⟨z1, z2, z3, z4, hp1⟩
      replace z1 := z1.symm
      subst z1
      replace z2 := z2.symm
      subst z2
      replace z3 := z3.symm
      subst z3
      replace z4 := z4.symm
      subst z4
      have hq := hp1
      obtain ⟨_, _, _, _, _, ho⟩ := hp1
      subst ho
      refine And.intro (Or.inl rfl) ?_
      exact main J1 _ _ hq
    · exact absurd (show mj_w 0 = 0 by decide) d
  · exact absurd d (by decide)
end MM
