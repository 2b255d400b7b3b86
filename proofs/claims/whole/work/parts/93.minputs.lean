/-! THE REFERENCE: header, readInputs -/
/-- the cells of the draft -/
def dC (q j : Nat) : Prop := (55 ≤ q ∧ q ≤ 58 ∧ j = 2) ∨ (q = 61 ∧ 28 ≤ j) ∨ ((q = 62 ∨ q = 63 ∨ q = 64 ∨ q = 68) ∧ 600 ≤ j) ∨ (q = 65 ∧ 32 ≤ j) ∨ (q = 66 ∧ 2003 ≤ j) ∨ (q = 67 ∧ 630 ≤ j) ∨ q = 72
/-- only the draft changes, and the reading fields -/
def md_d (IA J : mj_FI) : Prop := (∀ q j, q ≠ 52 → q ≠ 70 → q ≠ 71 → ¬ dC q j → J q j = IA q j) ∧ (∀ k, k ≠ 20 → k ≠ 21 → k ≠ 22 → J 52 k = IA 52 k)
theorem md_d.refl {IA : mj_FI} : md_d IA IA := ⟨fun _ _ _ _ _ _ => rfl, fun _ _ _ _ => rfl⟩
theorem md_d.trans {IA J K : mj_FI} (h1 : md_d IA J) (h2 : md_d J K) : md_d IA K := ⟨fun q j a b c d => (h2.1 q j a b c d).trans (h1.1 q j a b c d), fun k a b c => (h2.2 k a b c).trans (h1.2 k a b c)⟩
theorem md_f.d {IA J : mj_FI} (h : md_f IA J) : md_d IA J := ⟨fun q j a b c _ => by rw [h.1 q a b c], h.2⟩
theorem md_d_up {J : mj_FI} {q k : Nat} {x : Int} (h : dC q k) (hq : q ≠ 52) : md_d J (mj_up J q k x) := by
  refine ⟨fun a j _ _ _ d => ?_, fun k _ _ _ => by rw [mj_up_ne (Ne.symm hq)]⟩
  unfold mj_up
  by_cases e : a = q
  · by_cases e2 : j = k
    · subst e
      subst e2
      exact absurd h d
    · rw [if_pos e, if_neg e2]
  · rw [if_neg e]
theorem md_d_52 {J : mj_FI} {k : Nat} {x : Int} (h : k = 20 ∨ k = 21 ∨ k = 22) : md_d J (mj_up J 52 k x) := ⟨fun a j h1 _ _ _ => by rw [mj_up_ne h1], fun j h1 h2 h3 => mj_up_k (by omega)⟩
theorem md_d.by {IA J : mj_FI} (h : md_d IA J) : md_by J = md_by IA := md_by_eq (h.2 2 (by decide) (by decide) (by decide)) (funext fun j => h.1 53 j (by decide) (by decide) (by decide) (by unfold dC; omega))
/-- class slots as rows of the reference -/
def rho (I : Nat) (s : Int) : Int := if s < 0 then -1 else if s ≤ (I : Int) then s else 15 + (s - I - 1)
/-- the draft's rows stand for the slots so -/
def md_ro (J : mj_FI) (I : Nat) (so : Nat → Int) : Prop := J 66 2002 = 0 ∧ ∀ j, 1 ≤ j → j ≤ 1000 → J 66 (2002 + j) = rho I (so j)
section MM
variable {sh : mj_Sh} {FR : mj_FR} {IA : mj_FI} {LA : mj_LA} {n : Nat}
/-- how header ends -/
def md_hq (by0 : Nat → Int) (bin : Bool) (p : Nat) (J : mj_FI) : Prop :=
  ((ab_L by0 5 p).1 = false ∧ J 52 21 = 2 ∧ J 52 22 = ((ab_L by0 5 p).2.1 : Int)) ∨ ((ab_L by0 5 p).1 = true ∧ ¬ (ab_L by0 5 p).2.2.1 2 = 0 ∧ J 52 21 = 3 ∧ J 52 22 = 0) ∨
  ((ab_L by0 5 p).1 = true ∧ (ab_L by0 5 p).2.2.1 2 = 0 ∧ ab_bs bin (ab_L by0 5 p).2.2.1 ∧ J 52 21 = 4 ∧ J 52 22 = 0) ∨
  ((ab_L by0 5 p).1 = true ∧ (ab_L by0 5 p).2.2.1 2 = 0 ∧ ¬ ab_bs bin (ab_L by0 5 p).2.2.1 ∧ J 52 21 = 0 ∧ J 52 20 = ((ab_L by0 5 p).2.1 : Int) ∧ J 58 2 = (ab_L by0 5 p).2.2.1 0 ∧ J 55 2 = (ab_L by0 5 p).2.2.1 1 ∧ J 57 2 = (ab_L by0 5 p).2.2.1 3 ∧ J 56 2 = (ab_L by0 5 p).2.2.1 4)
set_option maxHeartbeats 2000000 in
theorem ct_M_header (h : isM sh FR n) {p len : Nat} {bin : Bool} (hlen : IA 52 2 = (len : Int)) (hl2 : len ≤ 8192) (hp : IA 52 20 = (p : Int)) (hp2 : p ≤ len) (hw : IA 52 21 = 0) :
    mj_Ct m_M_header [.inr (.inr (.inl 52)), .inl (if bin = true then 1 else 0)] sh FR IA LA n (mj_po (fun o J => o = .inl none ∧ md_d IA J ∧ (∀ q, q ≠ 52 → q ≠ 55 → q ≠ 56 → q ≠ 57 → q ≠ 58 → q ≠ 70 → q ≠ 71 → J q = IA q) ∧ md_hq (md_by IA) bin p J) sh FR LA n) := by
  generalize hQ : mj_po (fun o J => o = .inl none ∧ md_d IA J ∧ (∀ q, q ≠ 52 → q ≠ 55 → q ≠ 56 → q ≠ 57 → q ≠ 58 → q ≠ 70 → q ≠ 71 → J q = IA q) ∧ md_hq (md_by IA) bin p J) sh FR LA n = Q
  refine mj_Ct_of (by decide +kernel) (by decide) (Nat.le_of_ble_eq_true rfl) ?_
  refine mj_go z_M_header [14] 60 ?_
  refine And.intro h.o (And.intro (Nat.le_of_ble_eq_true rfl) (And.intro (Nat.le_of_ble_eq_true rfl) (And.intro (Nat.le_of_ble_eq_true rfl) (Exists.intro _ (And.intro (ct_M_line (cnt := 5) (code := 2) h (by decide) (Or.inl rfl) hlen hl2 hp hp2 hw) ?_)))))
  rintro o1 sh9 FR9 J1 LA9 n9 ⟨z1, z2, z3, z4, hp1⟩
  replace z1 := z1.symm
  subst z1
  replace z2 := z2.symm
  subst z2
  replace z3 := z3.symm
  subst z3
  replace z4 := z4.symm
  subst z4
  obtain ⟨ho, hf, hq⟩ := hp1
  subst ho
  obtain ⟨_, hq⟩ := hq.lp hf
  refine And.intro (Or.inl rfl) ?_
  refine And.intro h.o ?_
  rcases hq with ⟨l1, l2, l3, l4⟩ | ⟨l1, l2, l3⟩
  · rw [l2]
    refine And.intro (fun d => ?_) (fun d => ?_)
    · have nn := fun j => ab_L_n (j := j) l1
      have n0 := nn 0
      have n1 := nn 1
      have n2 := nn 2
      have n3 := nn 3
      have n4 := nn 4
      have m0 := (l4 0 (by decide)).1
      have m1 := (l4 1 (by decide)).1
      have m2 := (l4 2 (by decide)).1
      have m3 := (l4 3 (by decide)).1
      have m4 := (l4 4 (by decide)).1
      have hqd : ∀ J, md_hq (md_by IA) bin p J ↔ (((ab_L (md_by IA) 5 p).1 = false ∧ J 52 21 = 2 ∧ J 52 22 = ((ab_L (md_by IA) 5 p).2.1 : Int)) ∨ ((ab_L (md_by IA) 5 p).1 = true ∧ ¬ (ab_L (md_by IA) 5 p).2.2.1 2 = 0 ∧ J 52 21 = 3 ∧ J 52 22 = 0) ∨
        ((ab_L (md_by IA) 5 p).1 = true ∧ (ab_L (md_by IA) 5 p).2.2.1 2 = 0 ∧ ab_bs bin (ab_L (md_by IA) 5 p).2.2.1 ∧ J 52 21 = 4 ∧ J 52 22 = 0) ∨
        ((ab_L (md_by IA) 5 p).1 = true ∧ (ab_L (md_by IA) 5 p).2.2.1 2 = 0 ∧ ¬ ab_bs bin (ab_L (md_by IA) 5 p).2.2.1 ∧ J 52 21 = 0 ∧ J 52 20 = ((ab_L (md_by IA) 5 p).2.1 : Int) ∧ J 58 2 = (ab_L (md_by IA) 5 p).2.2.1 0 ∧ J 55 2 = (ab_L (md_by IA) 5 p).2.2.1 1 ∧ J 57 2 = (ab_L (md_by IA) 5 p).2.2.1 3 ∧ J 56 2 = (ab_L (md_by IA) 5 p).2.2.1 4)) := fun J => Iff.rfl
      generalize (ab_L (md_by IA) 5 p).2.2.1 = nu at *
      generalize (ab_L (md_by IA) 5 p).2.1 = p' at *
      generalize (ab_L (md_by IA) 5 p).1 = ok at *
      subst l1
      have fl : ∀ q, q ≠ 52 → q ≠ 55 → q ≠ 56 → q ≠ 57 → q ≠ 58 → q ≠ 70 → q ≠ 71 → J1 q = IA q := fun q h1 _ _ _ _ h6 h7 => hf.1 q h1 h6 h7
      have s110 : nu 2 = 0 → ab_bs bin nu → mj_G m_M_header Q 110 [some (.inr (.inr (.inl 52))), some (.inl (if bin = true then 1 else 0)), some (.inl (nu 0)), some (.inl (nu 1)), some (.inl (nu 3)), some (.inl (nu 4))] [] sh FR J1 LA n 0 0 := by
        intro z1 z2
        subst hQ
        refine mj_go z_M_header [] 60 ?_
        refine And.intro h.o (And.intro (Nat.le_of_ble_eq_true rfl) (And.intro (Nat.le_of_ble_eq_true rfl) (And.intro (Nat.le_of_ble_eq_true rfl) (Exists.intro _ (And.intro (ct_M_fail h) ?_)))))
        rintro r9 sh9 FR9 IA9 LA9 n9 ⟨z0, z1, z2, z3, z4, z5⟩
        subst z0
        replace z1 := z1.symm
        subst z1
        replace z2 := z2.symm
        subst z2
        replace z3 := z3.symm
        subst z3
        replace z4 := z4.symm
        subst z4
        replace z5 := z5.symm
        subst z5
        refine And.intro (Or.inl rfl) ?_
        exact ⟨⟨rfl, rfl, rfl, rfl, rfl, hf.d.trans ((md_d_52 (by decide)).trans (md_d_52 (by decide))), fun q h1 h2 h3 h4 h5 h6 h7 => by rw [mj_up_ne h1, mj_up_ne h1]; exact fl q h1 h2 h3 h4 h5 h6 h7, (hqd _).mpr (Or.inr (Or.inr (Or.inl ⟨rfl, z1, z2, by rw [mj_up_k (by decide), mj_up_at], by rw [mj_up_at]⟩)))⟩, Nat.le_of_ble_eq_true rfl, Nat.le_of_ble_eq_true rfl⟩
      have s119 : nu 2 = 0 → ¬ ab_bs bin nu → mj_G m_M_header Q 119 [some (.inr (.inr (.inl 52))), some (.inl (if bin = true then 1 else 0)), some (.inl (nu 0)), some (.inl (nu 1)), some (.inl (nu 3)), some (.inl (nu 4))] [] sh FR J1 LA n 0 0 := by
        intro z1 z2
        subst hQ
        refine mj_go z_M_header [] 60 ?_
        refine And.intro h.o (Exists.intro _ (And.intro h.r8 ?_))
        refine Exists.intro _ (Exists.intro (2) (And.intro h.a8 (And.intro (by first | (rw [mj_w_id (by omega) (by omega)]; done) | (rw [mj_w_id (by omega) (by omega)]; omega) | (unfold mj_w; omega)) (And.intro (by omega) ?_))))
        refine And.intro h.o (Exists.intro _ (And.intro h.r5 ?_))
        refine Exists.intro _ (Exists.intro (2) (And.intro h.a5 (And.intro (by first | (rw [mj_w_id (by omega) (by omega)]; done) | (rw [mj_w_id (by omega) (by omega)]; omega) | (unfold mj_w; omega)) (And.intro (by omega) ?_))))
        refine And.intro h.o (Exists.intro _ (And.intro h.r7 ?_))
        refine Exists.intro _ (Exists.intro (2) (And.intro h.a7 (And.intro (by first | (rw [mj_w_id (by omega) (by omega)]; done) | (rw [mj_w_id (by omega) (by omega)]; omega) | (unfold mj_w; omega)) (And.intro (by omega) ?_))))
        refine And.intro h.o (Exists.intro _ (And.intro h.r6 ?_))
        refine Exists.intro _ (Exists.intro (2) (And.intro h.a6 (And.intro (by first | (rw [mj_w_id (by omega) (by omega)]; done) | (rw [mj_w_id (by omega) (by omega)]; omega) | (unfold mj_w; omega)) (And.intro (by omega) ?_))))
        exact ⟨⟨rfl, rfl, rfl, rfl, rfl, hf.d.trans ((((md_d_up (by unfold dC; omega) (by decide)).trans (md_d_up (by unfold dC; omega) (by decide))).trans (md_d_up (by unfold dC; omega) (by decide))).trans (md_d_up (by unfold dC; omega) (by decide))), fun q h1 h2 h3 h4 h5 h6 h7 => by rw [mj_up_ne h3, mj_up_ne h4, mj_up_ne h2, mj_up_ne h5]; exact fl q h1 h2 h3 h4 h5 h6 h7, (hqd _).mpr (Or.inr (Or.inr (Or.inr ⟨rfl, z1, z2, by rw [mj_up_ne (by decide), mj_up_ne (by decide), mj_up_ne (by decide), mj_up_ne (by decide)]; exact l2, by rw [mj_up_ne (by decide), mj_up_ne (by decide), mj_up_ne (by decide), mj_up_ne (by decide)]; exact l3, by rw [mj_up_ne (by decide), mj_up_ne (by decide), mj_up_ne (by decide), mj_up_at], by rw [mj_up_ne (by decide), mj_up_ne (by decide), mj_up_at], by rw [mj_up_ne (by decide), mj_up_at], by rw [mj_up_at]⟩)))⟩, Nat.le_of_ble_eq_true rfl, Nat.le_of_ble_eq_true rfl⟩
      refine mj_go z_M_header [110, 119] 60 ?_
      refine And.intro h.o (Exists.intro _ (And.intro h.r23 ?_))
      refine Exists.intro _ (Exists.intro (0) (And.intro h.a23 (And.intro (by first | (rw [mj_w_id (by omega) (by omega)]; done) | (rw [mj_w_id (by omega) (by omega)]; omega) | (unfold mj_w; omega)) (And.intro (by omega) ?_))))
      rw [m0]
      refine And.intro h.o (Exists.intro _ (And.intro h.r23 ?_))
      refine Exists.intro _ (Exists.intro (1) (And.intro h.a23 (And.intro (by first | (rw [mj_w_id (by omega) (by omega)]; done) | (rw [mj_w_id (by omega) (by omega)]; omega) | (unfold mj_w; omega)) (And.intro (by omega) ?_))))
      rw [m1]
      refine And.intro h.o (Exists.intro _ (And.intro h.r23 ?_))
      refine Exists.intro _ (Exists.intro (3) (And.intro h.a23 (And.intro (by first | (rw [mj_w_id (by omega) (by omega)]; done) | (rw [mj_w_id (by omega) (by omega)]; omega) | (unfold mj_w; omega)) (And.intro (by omega) ?_))))
      rw [m3]
      refine And.intro h.o (Exists.intro _ (And.intro h.r23 ?_))
      refine Exists.intro _ (Exists.intro (4) (And.intro h.a23 (And.intro (by first | (rw [mj_w_id (by omega) (by omega)]; done) | (rw [mj_w_id (by omega) (by omega)]; omega) | (unfold mj_w; omega)) (And.intro (by omega) ?_))))
      rw [m4]
      refine And.intro h.o (Exists.intro _ (And.intro h.r23 ?_))
      refine Exists.intro _ (Exists.intro (2) (And.intro h.a23 (And.intro (by first | (rw [mj_w_id (by omega) (by omega)]; done) | (rw [mj_w_id (by omega) (by omega)]; omega) | (unfold mj_w; omega)) (And.intro (by omega) ?_))))
      rw [m2]
      refine And.intro (fun e => ?_) (fun e => ?_)
      · simp (disch := (clear e; omega)) only [mj_w_id] at e
        refine And.intro (fun e1 => ?_) (fun e1 => ?_)
        · simp (disch := (clear e1; omega)) only [mj_w_id] at e1
          exact s110 e (Or.inl (Or.inl e1))
        · simp (disch := (clear e1; omega)) only [mj_w_id] at e1
          refine And.intro (fun e2 => ?_) (fun e2 => ?_)
          · simp (disch := (clear e2; omega)) only [mj_w_id] at e2
            exact s110 e (Or.inl (Or.inr (Or.inl e2)))
          · simp (disch := (clear e2; omega)) only [mj_w_id] at e2
            refine And.intro (fun e3 => ?_) (fun e3 => ?_)
            · simp (disch := (clear e3; omega)) only [mj_w_id] at e3
              exact s110 e (Or.inl (Or.inr (Or.inr (Or.inl e3))))
            · simp (disch := (clear e3; omega)) only [mj_w_id] at e3
              refine And.intro (fun e4 => ?_) (fun e4 => ?_)
              · simp (disch := (clear e4; omega)) only [mj_w_id] at e4
                exact s110 e (Or.inl (Or.inr (Or.inr (Or.inr e4))))
              · simp (disch := (clear e4; omega)) only [mj_w_id] at e4
                refine Exists.intro ((nu 1 + nu 4)) (And.intro (by first | (rw [mj_w_id (by omega) (by omega)]; done) | (rw [mj_w_id (by omega) (by omega)]; omega) | (unfold mj_w; omega)) ?_)
                refine And.intro (fun e5 => ?_) (fun e5 => ?_)
                · simp (disch := (clear e5; omega)) only [mj_w_id] at e5
                  exact s110 e (Or.inr (Or.inl e5))
                · simp (disch := (clear e5; omega)) only [mj_w_id] at e5
                  cases bin with
                  | false =>
                    refine And.intro (fun e6 => ?_) (fun e6 => ?_)
                    · exact s119 e (fun z => z.elim (fun z => by omega) (fun z => z.elim (fun z => by omega) (fun z => absurd z.1 (by decide))))
                    · exact absurd (show mj_w 0 = 0 by decide) e6
                  | true =>
                    refine And.intro (fun e6 => ?_) (fun e6 => ?_)
                    · exact absurd e6 (by decide)
                    · clear e6
                      refine Exists.intro ((nu 1 + nu 4)) (And.intro (by first | (rw [mj_w_id (by omega) (by omega)]; done) | (rw [mj_w_id (by omega) (by omega)]; omega) | (unfold mj_w; omega)) ?_)
                      refine And.intro (fun e7 => ?_) (fun e7 => ?_)
                      · simp (disch := (clear e7; omega)) only [mj_w_id] at e7
                        exact s119 e (fun z => z.elim (fun z => by omega) (fun z => z.elim (fun z => by omega) (fun z => z.2 e7)))
                      · simp (disch := (clear e7; omega)) only [mj_w_id] at e7
                        exact s110 e (Or.inr (Or.inr ⟨rfl, e7⟩))
      · simp (disch := (clear e; omega)) only [mj_w_id] at e
        subst hQ
        refine And.intro h.o (And.intro (Nat.le_of_ble_eq_true rfl) (And.intro (Nat.le_of_ble_eq_true rfl) (And.intro (Nat.le_of_ble_eq_true rfl) (Exists.intro _ (And.intro (ct_M_fail h) ?_)))))
        rintro r9 sh9 FR9 IA9 LA9 n9 ⟨z0, z1, z2, z3, z4, z5⟩
        subst z0
        replace z1 := z1.symm
        subst z1
        replace z2 := z2.symm
        subst z2
        replace z3 := z3.symm
        subst z3
        replace z4 := z4.symm
        subst z4
        replace z5 := z5.symm
        subst z5
        refine And.intro (Or.inl rfl) ?_
        exact ⟨⟨rfl, rfl, rfl, rfl, rfl, hf.d.trans ((md_d_52 (by decide)).trans (md_d_52 (by decide))), fun q h1 h2 h3 h4 h5 h6 h7 => by rw [mj_up_ne h1, mj_up_ne h1]; exact fl q h1 h2 h3 h4 h5 h6 h7, (hqd _).mpr (Or.inr (Or.inl ⟨rfl, e, by rw [mj_up_k (by decide), mj_up_at], by rw [mj_up_at]⟩))⟩, Nat.le_of_ble_eq_true rfl, Nat.le_of_ble_eq_true rfl⟩
    · exact absurd (show mj_w 0 ≤ 0 by decide) d
  · rw [l2]
    subst hQ
    refine And.intro (fun d => ?_) (fun d => ?_)
    · exact absurd d (by decide)
    · exact ⟨⟨rfl, rfl, rfl, rfl, rfl, hf.d, fun q h1 _ _ _ _ h6 h7 => hf.1 q h1 h6 h7, Or.inl ⟨l1, l2, l3⟩⟩, Nat.le_of_ble_eq_true rfl, Nat.le_of_ble_eq_true rfl⟩
end MM
