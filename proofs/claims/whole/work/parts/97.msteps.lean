/-! THE REFERENCE: readSteps -/
section MM
variable {sh : mj_Sh} {FR : mj_FR} {IA : mj_FI} {LA : mj_LA} {n : Nat}
set_option maxHeartbeats 4000000 in
theorem ct_M_readSteps (h : isM sh FR n) {p len m I G : Nat} {so ow le ri : Nat → Int} (hlen : IA 52 2 = (len : Int)) (hl2 : len ≤ 8192) (hp : IA 52 20 = (p : Int)) (hp2 : p ≤ len) (hw : IA 52 21 = 0) (hI : IA 55 2 = (I : Int)) (hI2 : I ≤ 14) (hG : IA 56 2 = (G : Int)) (hG2 : G ≤ 300) (hm : IA 58 2 = (m : Int)) (hm2 : m ≤ 1000) (hro : md_ro IA I so) (hrr : md_rr IA) (hs0 : so 0 = 0) (hsn : ∀ j, j < 1001 → -1 ≤ so j) (hb : I + G ≤ m ∧ ∀ j, I + 1 ≤ j → j < 1001 → so j = -1) :
    mj_Ct m_M_readSteps [.inr (.inr (.inl 52))] sh FR IA LA n (mj_po (fun o J => o = .inl none ∧ md_d IA J ∧ md_gf IA J ∧ md_rr J ∧ md_gq (ab_gs (md_by IA) m true G (I + 1) p so ow le ri) I G J) sh FR LA n) := by
  have hen := md_en hlen
  generalize hR0 : ab_gs (md_by IA) m true G (I + 1) p so ow le ri = R
  generalize hQ : mj_po (fun o J => o = .inl none ∧ md_d IA J ∧ md_gf IA J ∧ md_rr J ∧ md_gq R I G J) sh FR LA n = Q
  have loop : ∀ (t k p : Nat) (J : mj_FI) (so ow le ri : Nat → Int) (y2 y3 y4 y5 y6 : Option mj_V), k + t = G → md_d IA J → md_gf IA J → md_rr J → J 52 21 = 0 → J 52 20 = (p : Int) → p ≤ len → md_ro J I so → so 0 = 0 → (∀ j, j < 1001 → -1 ≤ so j) → (∀ j, I + 1 + k ≤ j → j < 1001 → so j = -1) → md_gt J I k ow le ri → ab_gs (md_by IA) m true t (I + 1 + k) p so ow le ri = R →
      mj_G m_M_readSteps Q 2 [some (.inr (.inr (.inl 52))), some (.inl (k : Int)), y2, y3, y4, y5, y6] [] sh FR J LA n 0 0 := by
    intro t
    induction t with
    | zero =>
      intro k p J so ow le ri y2 y3 y4 y5 y6 hk hd hf hrr hw hp hp2 hro hs0 hsn hbn hin hR
      subst hR
      subst hQ
      have hk : k = G := by omega
      subst hk
      have e56 : J 56 2 = (k : Int) := by rw [hf 56 (by decide) (by decide) (by decide) (by decide) (by decide) (by decide) (by decide)]; exact hG
      refine mj_go z_M_readSteps [2] 60 ?_
      refine And.intro h.o (Exists.intro _ (And.intro h.r6 ?_))
      refine Exists.intro _ (Exists.intro (2) (And.intro h.a6 (And.intro (by first | (rw [mj_w_id (by omega) (by omega)]; done) | (rw [mj_w_id (by omega) (by omega)]; omega) | (unfold mj_w; omega)) (And.intro (by omega) ?_))))
      rw [e56]
      refine And.intro (fun d => ?_) (fun d => ?_)
      · exact ⟨⟨rfl, rfl, rfl, rfl, rfl, hd, hf, hrr, hw, hp, hro, hin⟩, Nat.le_of_ble_eq_true rfl, Nat.le_of_ble_eq_true rfl⟩
      · simp (disch := (clear d; omega)) only [mj_w_id] at d
        omega
    | succ t ih =>
      intro k p J so ow le ri y2 y3 y4 y5 y6 hk hd hf hrr hw hp hp2 hro hs0 hsn hbn hin hR
      have e55 : J 55 2 = (I : Int) := by rw [hf 55 (by decide) (by decide) (by decide) (by decide) (by decide) (by decide) (by decide)]; exact hI
      have e56 : J 56 2 = (G : Int) := by rw [hf 56 (by decide) (by decide) (by decide) (by decide) (by decide) (by decide) (by decide)]; exact hG
      have e58 : J 58 2 = (m : Int) := by rw [hf 58 (by decide) (by decide) (by decide) (by decide) (by decide) (by decide) (by decide)]; exact hm
      have el : J 52 2 = (len : Int) := by rw [hd.2 2 (by decide) (by decide) (by decide)]; exact hlen
      have hby : md_by J = md_by IA := hd.by
      simp only [ab_gs] at hR
      rw [if_pos trivial] at hR
      generalize hs : I + 1 + k = s at hR hbn
      -- the stores and the next round
      have s127 : ∀ (J2 : mj_FI) (is be a c : Int), -1 ≤ a → a < 100000 → -1 ≤ c → c < 100000 → md_d IA J2 → md_gf IA J2 → md_rr J2 → md_gt J2 I k ow le ri → ((J2 52 21 ≠ 0 ∧ mj_i (J2 52 21) ∧ ∃ e : Int × Int, R = .inl e ∧ J2 52 21 = e.1 ∧ J2 52 22 = e.2) ∨ (∃ (p' : Nat) (so' : Nat → Int), J2 52 21 = 0 ∧ J2 52 20 = (p' : Int) ∧ p' ≤ len ∧ md_ro J2 I so' ∧ so' 0 = 0 ∧ (∀ j, j < 1001 → -1 ≤ so' j) ∧ (∀ j, s + 1 ≤ j → j < 1001 → so' j = -1) ∧ ab_gs (md_by IA) m true t (s + 1) p' so' (mj_u ow s (2 * s)) (mj_u le s (2 * s - a)) (mj_u ri s (2 * s - a - c)) = R)) →
          mj_G m_M_readSteps Q 127 [some (.inr (.inr (.inl 52))), some (.inl (k : Int)), some (.inl (2 * (s : Int))), some (.inl is), some (.inl be), some (.inl a), some (.inl c)] [] sh FR J2 LA n 0 0 := by
        intro J2 is be a c ha1 ha2 hc1 hc2 g1 g2 g3 g4 g5
        generalize hK : mj_up (mj_up (mj_up J2 62 (600 + k) (2 * (s : Int))) 63 (600 + k) (2 * (s : Int) - a)) 64 (600 + k) (2 * (s : Int) - a - c) = K
        have u1 : md_d IA K := by
          rw [← hK]
          exact g1.trans (((md_d_up (by unfold dC; omega) (by decide)).trans (md_d_up (by unfold dC; omega) (by decide))).trans (md_d_up (by unfold dC; omega) (by decide)))
        have u0 : ∀ q, q ≠ 62 → q ≠ 63 → q ≠ 64 → K q = J2 q := fun q h1 h2 h3 => by rw [← hK, mj_up_ne h3, mj_up_ne h2, mj_up_ne h1]
        have u2 : md_gf IA K := fun q h1 h2 h3 h4 h5 h6 h7 => by rw [u0 q h2 h3 h4]; exact g2 q h1 h2 h3 h4 h5 h6 h7
        have u52 : K 52 = J2 52 := u0 52 (by decide) (by decide) (by decide)
        have u66 : K 66 = J2 66 := u0 66 (by decide) (by decide) (by decide)
        have u3 : md_rr K := by
          unfold md_rr
          rw [u66]
          exact g3
        have u4 : md_gt K I (k + 1) (mj_u ow s (2 * s)) (mj_u le s (2 * s - a)) (mj_u ri s (2 * s - a - c)) := by
          rw [← hK, ← hs]
          exact md_gt_s g4
        refine mj_go z_M_readSteps [2] 60 ?_
        refine And.intro h.o (Exists.intro _ (And.intro h.r12 ?_))
        refine Exists.intro (((600 + k : Nat) : Int)) (And.intro (by first | (rw [mj_w_id (by omega) (by omega)]; done) | (rw [mj_w_id (by omega) (by omega)]; omega) | (unfold mj_w; omega)) ?_)
        refine Exists.intro _ (Exists.intro (600 + k) (And.intro h.a12 (And.intro (by first | (rw [mj_w_id (by omega) (by omega)]; done) | (rw [mj_w_id (by omega) (by omega)]; omega) | (unfold mj_w; omega)) (And.intro (by omega) ?_))))
        refine And.intro h.o (Exists.intro _ (And.intro h.r13 ?_))
        refine Exists.intro (((600 + k : Nat) : Int)) (And.intro (by first | (rw [mj_w_id (by omega) (by omega)]; done) | (rw [mj_w_id (by omega) (by omega)]; omega) | (unfold mj_w; omega)) ?_)
        refine Exists.intro ((2 * (s : Int) - a)) (And.intro (by first | (rw [mj_w_id (by omega) (by omega)]; done) | (rw [mj_w_id (by omega) (by omega)]; omega) | (unfold mj_w; omega)) ?_)
        refine Exists.intro _ (Exists.intro (600 + k) (And.intro h.a13 (And.intro (by first | (rw [mj_w_id (by omega) (by omega)]; done) | (rw [mj_w_id (by omega) (by omega)]; omega) | (unfold mj_w; omega)) (And.intro (by omega) ?_))))
        refine And.intro h.o (Exists.intro _ (And.intro h.r14 ?_))
        refine Exists.intro (((600 + k : Nat) : Int)) (And.intro (by first | (rw [mj_w_id (by omega) (by omega)]; done) | (rw [mj_w_id (by omega) (by omega)]; omega) | (unfold mj_w; omega)) ?_)
        refine Exists.intro ((2 * (s : Int) - a)) (And.intro (by first | (rw [mj_w_id (by omega) (by omega)]; done) | (rw [mj_w_id (by omega) (by omega)]; omega) | (unfold mj_w; omega)) ?_)
        refine Exists.intro ((2 * (s : Int) - a - c)) (And.intro (by first | (rw [mj_w_id (by omega) (by omega)]; done) | (rw [mj_w_id (by omega) (by omega)]; omega) | (unfold mj_w; omega)) ?_)
        refine Exists.intro _ (Exists.intro (600 + k) (And.intro h.a14 (And.intro (by first | (rw [mj_w_id (by omega) (by omega)]; done) | (rw [mj_w_id (by omega) (by omega)]; omega) | (unfold mj_w; omega)) (And.intro (by omega) ?_))))
        rw [hK]
        refine Exists.intro (((k + 1 : Nat) : Int)) (And.intro (by first | (rw [mj_w_id (by omega) (by omega)]; done) | (rw [mj_w_id (by omega) (by omega)]; omega) | (unfold mj_w; omega)) ?_)
        rcases g5 with ⟨z1, ⟨z2, z3⟩, e, z4, z5, z6⟩ | ⟨p', so', z1, z2, z3, z4, z5, z6, z7, z8⟩
        · subst hQ
          subst z4
          have e56' : K 56 2 = (G : Int) := by rw [u2 56 (by decide) (by decide) (by decide) (by decide) (by decide) (by decide) (by decide)]; exact hG
          refine mj_go z_M_readSteps [] 60 ?_
          refine And.intro h.o (Exists.intro _ (And.intro h.r6 ?_))
          refine Exists.intro _ (Exists.intro (2) (And.intro h.a6 (And.intro (by first | (rw [mj_w_id (by omega) (by omega)]; done) | (rw [mj_w_id (by omega) (by omega)]; omega) | (unfold mj_w; omega)) (And.intro (by omega) ?_))))
          rw [e56']
          refine And.intro (fun d => ?_) (fun d => ?_)
          · exact ⟨⟨rfl, rfl, rfl, rfl, rfl, u1, u2, u3, by rw [u52]; exact z5, by rw [u52]; exact z6⟩, Nat.le_of_ble_eq_true rfl, Nat.le_of_ble_eq_true rfl⟩
          · clear d
            refine And.intro h.o ?_
            rw [u52]
            refine And.intro (fun d => ?_) (fun d => ?_)
            · exact ⟨⟨rfl, rfl, rfl, rfl, rfl, u1, u2, u3, by rw [u52]; exact z5, by rw [u52]; exact z6⟩, Nat.le_of_ble_eq_true rfl, Nat.le_of_ble_eq_true rfl⟩
            · replace d := Classical.not_not.mp d
              simp (disch := (clear d; omega)) only [mj_w_id] at d
              exact absurd d z1
        · refine ih (k + 1) p' K so' _ _ _ _ _ _ _ _ (by omega) u1 u2 u3 (by rw [u52]; exact z1) (by rw [u52]; exact z2) z3 ?_ z5 z6 (fun j h1 h2 => z7 j (by omega) h2) u4 (by rw [show I + 1 + (k + 1) = s + 1 by omega]; exact z8)
          unfold md_ro at z4 ⊢
          rw [u66]
          exact z4
      -- something is wrong already
      have s80 : ∀ (J2 : mj_FI) (is be a : Int) (y : Option mj_V), -1 ≤ a → a < 100000 → md_d IA J2 → md_gf IA J2 → md_rr J2 → md_gt J2 I k ow le ri → (J2 52 21 ≠ 0 ∧ mj_i (J2 52 21) ∧ ∃ e : Int × Int, R = .inl e ∧ J2 52 21 = e.1 ∧ J2 52 22 = e.2) → mj_G m_M_readSteps Q 80 [some (.inr (.inr (.inl 52))), some (.inl (k : Int)), some (.inl (2 * (s : Int))), some (.inl is), some (.inl be), some (.inl a), y] [] sh FR J2 LA n 0 0 := by
        intro J2 is be a y ha1 ha2 g1 g2 g3 g4 g5
        obtain ⟨z1, ⟨z2, z3⟩, z4⟩ := id g5
        refine mj_go z_M_readSteps [2, 127] 60 ?_
        refine And.intro h.o ?_
        refine And.intro h.o ?_
        refine And.intro (fun d => ?_) (fun d => ?_)
        · clear d
          refine And.intro h.o ?_
          refine And.intro (fun d => ?_) (fun d => ?_)
          · exact s127 J2 is _ a 0 ha1 ha2 (by decide) (by decide) g1 g2 g3 g4 (Or.inl g5)
          · replace d := Classical.not_not.mp d
            simp (disch := (clear d; omega)) only [mj_w_id] at d
            exact absurd d z1
        · replace d := Classical.not_not.mp d
          simp (disch := (clear d; omega)) only [mj_w_id] at d
          exact absurd d z1
      have hsn2 : so s = -1 := hbn s (Nat.le_refl _) (by omega)
      have hj2 : (2 * (s : Int) / 2).toNat = s := by omega
      have hz : md_ok J (2 * (s : Int)) := (md_ok_fr (by omega) e58 hm2 hro hs0 hsn).mpr ⟨by omega, by omega, by rw [hj2]; exact hsn2⟩
      generalize hJ1 : mj_up J 66 (2002 + s) ((15 + k : Nat) : Int) = J1
      have f1 : ∀ q, q ≠ 66 → J1 q = J q := fun q hq => by rw [← hJ1, mj_up_ne hq]
      have d1 : md_d IA J1 := by
        rw [← hJ1]
        exact hd.trans (md_d_up (by unfold dC; omega) (by decide))
      have g1 : md_gf IA J1 := fun q h1 h2 h3 h4 h5 h6 h7 => by rw [f1 q h5]; exact hf q h1 h2 h3 h4 h5 h6 h7
      have r1 : md_rr J1 := by
        intro j hj
        rw [← hJ1, mj_up_row]
        unfold mj_u
        split
        · omega
        · exact hrr j hj
      have t1 : md_gt J1 I k ow le ri := fun i hi => by
        rw [f1 62 (by decide), f1 63 (by decide), f1 64 (by decide)]
        exact hin i hi
      have ro1 : md_ro J1 I (mj_u so s s) := by
        rw [← hJ1]
        refine md_ro_up hro (by omega) ?_
        unfold rho
        rw [if_neg (by omega), if_neg (by omega)]
        omega
      have w1 : J1 52 21 = 0 := by rw [f1 52 (by decide)]; exact hw
      have p1 : J1 52 20 = (p : Int) := by rw [f1 52 (by decide)]; exact hp
      have l1 : J1 52 2 = (len : Int) := by rw [f1 52 (by decide)]; exact el
      have by1 : md_by J1 = md_by IA := d1.by
      unfold ab_sg at hR
      -- states that differ from J1 in the reading fields alone
      have st : ∀ J2 : mj_FI, (∀ q, q ≠ 52 → q ≠ 70 → q ≠ 71 → J2 q = J1 q) → md_d J1 J2 → md_d IA J2 ∧ md_gf IA J2 ∧ md_rr J2 ∧ md_gt J2 I k ow le ri ∧ md_ro J2 I (mj_u so s s) := by
        intro J2 e1 e2
        refine ⟨d1.trans e2, fun q h1 h2 h3 h4 h5 h6 h7 => by rw [e1 q h1 h6 h7]; exact g1 q h1 h2 h3 h4 h5 h6 h7, ?_, fun i hi => ?_, ?_⟩
        · unfold md_rr
          rw [e1 66 (by decide) (by decide) (by decide)]
          exact r1
        · rw [e1 62 (by decide) (by decide) (by decide), e1 63 (by decide) (by decide) (by decide), e1 64 (by decide) (by decide) (by decide)]
          exact t1 i hi
        · unfold md_ro
          rw [e1 66 (by decide) (by decide) (by decide)]
          exact ro1
      have son : ∀ j, j < 1001 → -1 ≤ mj_u so s s j := by
        intro j hj
        unfold mj_u
        split
        · omega
        · exact hsn j hj
      refine mj_go z_M_readSteps [2, 72, 80, 127] 60 ?_
      refine And.intro h.o (Exists.intro _ (And.intro h.r6 ?_))
      refine Exists.intro _ (Exists.intro (2) (And.intro h.a6 (And.intro (by first | (rw [mj_w_id (by omega) (by omega)]; done) | (rw [mj_w_id (by omega) (by omega)]; omega) | (unfold mj_w; omega)) (And.intro (by omega) ?_))))
      rw [e56]
      refine And.intro (fun d => ?_) (fun d => ?_)
      · simp (disch := (clear d; omega)) only [mj_w_id] at d
        omega
      · clear d
        refine And.intro h.o ?_
        rw [hw]
        refine And.intro (fun d => ?_) (fun d => ?_)
        · exact absurd rfl d
        · clear d
          refine And.intro h.o (Exists.intro _ (And.intro h.r5 ?_))
          refine Exists.intro _ (Exists.intro (2) (And.intro h.a5 (And.intro (by first | (rw [mj_w_id (by omega) (by omega)]; done) | (rw [mj_w_id (by omega) (by omega)]; omega) | (unfold mj_w; omega)) (And.intro (by omega) ?_))))
          rw [e55]
          refine Exists.intro (((I + 1 : Nat) : Int)) (And.intro (by first | (rw [mj_w_id (by omega) (by omega)]; done) | (rw [mj_w_id (by omega) (by omega)]; omega) | (unfold mj_w; omega)) ?_)
          refine Exists.intro ((s : Int)) (And.intro (by first | (rw [mj_w_id (by omega) (by omega)]; done) | (rw [mj_w_id (by omega) (by omega)]; omega) | (unfold mj_w; omega)) ?_)
          refine Exists.intro ((2 * (s : Int))) (And.intro (by first | (rw [mj_w_id (by omega) (by omega)]; done) | (rw [mj_w_id (by omega) (by omega)]; omega) | (unfold mj_w; omega)) ?_)
          refine Exists.intro (((15 + k : Nat) : Int)) (And.intro (by first | (rw [mj_w_id (by omega) (by omega)]; done) | (rw [mj_w_id (by omega) (by omega)]; omega) | (unfold mj_w; omega)) ?_)
          refine And.intro h.o (And.intro (Nat.le_of_ble_eq_true rfl) (And.intro (Nat.le_of_ble_eq_true rfl) (And.intro (Nat.le_of_ble_eq_true rfl) (Exists.intro _ (And.intro (ct_M_stands (lit := 2 * (s : Int)) h (by omega) (by omega) (by omega) (by omega) hrr) ?_)))))
          rintro r9 sh9 FR9 IA9 LA9 n9 ⟨z0, z1, z2, z3, z4, z5⟩
          subst z0
          replace z1 := z1.symm
          subst z1
          replace z2 := z2.symm
          subst z2
          replace z3 := z3.symm
          subst z3
          replace z4 := z4.symm
          subst z4
          replace z5 := z5.symm
          subst z5
          refine And.intro (Or.inl rfl) ?_
          rw [if_pos hz, if_pos hz, hj2, hJ1]
          refine And.intro h.o ?_
          rw [p1]
          refine And.intro h.o (And.intro (Nat.le_of_ble_eq_true rfl) (And.intro (Nat.le_of_ble_eq_true rfl) (And.intro (Nat.le_of_ble_eq_true rfl) (Exists.intro _ (And.intro (ct_M_step (IA := J1) h l1 hl2 p1 hp2) ?_)))))
          rintro o2 sh9 FR9 J2 LA9 n9 ⟨z1, z2, z3, z4, hp2'⟩
          replace z1 := z1.symm
          subst z1
          replace z2 := z2.symm
          subst z2
          replace z3 := z3.symm
          subst z3
          replace z4 := z4.symm
          subst z4
          rw [by1] at hp2'
          rcases hp2' with ⟨q, x1, x2, x3, x4, x5⟩ | ⟨x, x1, x2, x3, x4, x5⟩
          · rw [x1] at hR
            subst x2
            obtain ⟨a1, a2, a3, a4, a5⟩ := st J2 x5.1 x5.d
            refine And.intro (Or.inl rfl) ?_
            refine And.intro h.o ?_
            rw [x3]
            refine And.intro (fun d => ?_) (fun d => ?_)
            · exact s80 J2 _ _ _ _ (by decide) (by decide) a1 a2 a3 a4 ⟨by rw [x3]; decide, by rw [x3]; unfold mj_i; decide, _, hR.symm, x3, x4⟩
            · exact absurd (show ¬ mj_w 5 = 0 by decide) d
          · rw [x1] at hR
            have xe := ab_stp_e hen x1
            obtain ⟨a, q⟩ := x
            have x4 : 0 ≤ a := x4
            have x5 : a < 100000 := x5
            have xe : q ≤ len := xe
            have x3 : J2 = mj_up J1 52 20 (q : Int) := x3
            subst x2
            have hR : (match (if a = 0 ∨ 2 * (s : Int) < a then .inl (6, (p : Int)) else match ab_stp (md_by IA) q with
              | .inl q => .inl (5, (q : Int))
              | .inr y => if 2 * (s : Int) - a < y.1 then .inl (6, (q : Int)) else .inr (y.2, mj_u so s s, mj_u ow s (2 * s), mj_u le s (2 * s - a), mj_u ri s (2 * s - a - y.1)) : (Int × Int) ⊕ ab_T) with
              | .inl e => .inl e
              | .inr x => ab_gs (md_by IA) m true t (s + 1) x.1 x.2.1 x.2.2.1 x.2.2.2.1 x.2.2.2.2) = R := hR
            obtain ⟨a1, a2, a3, a4, a5⟩ := st J2 (fun q h1 _ _ => by rw [x3, mj_up_ne h1]) (by rw [x3]; exact md_d_52 (by decide))
            have w2 : J2 52 21 = 0 := by rw [x3, mj_up_k (by decide)]; exact w1
            have p2 : J2 52 20 = (q : Int) := by rw [x3, mj_up_at]
            have l2 : J2 52 2 = (len : Int) := by rw [x3, mj_up_k (by decide)]; exact l1
            have by2 : md_by J2 = md_by IA := a1.by
            have six : ∀ (is : Int) (y : Option mj_V), (a = 0 ∨ 2 * (s : Int) < a) → mj_G m_M_readSteps Q 72 [some (.inr (.inr (.inl 52))), some (.inl (k : Int)), some (.inl (2 * (s : Int))), some (.inl is), some (.inl (p : Int)), some (.inl a), y] [] sh FR J2 LA n 0 0 := by
              intro is y hc
              rw [if_pos hc] at hR
              obtain ⟨b1, b2, b3, b4, b5⟩ := st (mj_up (mj_up J2 52 21 6) 52 22 (p : Int)) (fun q h1 _ _ => by rw [mj_up_ne h1, mj_up_ne h1, x3, mj_up_ne h1]) (by rw [x3]; exact ((md_d_52 (by decide)).trans (md_d_52 (by decide))).trans (md_d_52 (by decide)))
              refine mj_go z_M_readSteps [2, 80, 127] 60 ?_
              refine And.intro h.o (And.intro (Nat.le_of_ble_eq_true rfl) (And.intro (Nat.le_of_ble_eq_true rfl) (And.intro (Nat.le_of_ble_eq_true rfl) (Exists.intro _ (And.intro (ct_M_fail h) ?_)))))
              rintro r9 sh9 FR9 IA9 LA9 n9 ⟨z0, z1, z2, z3, z4, z5⟩
              subst z0
              replace z1 := z1.symm
              subst z1
              replace z2 := z2.symm
              subst z2
              replace z3 := z3.symm
              subst z3
              replace z4 := z4.symm
              subst z4
              replace z5 := z5.symm
              subst z5
              refine And.intro (Or.inl rfl) ?_
              exact s80 _ _ _ _ _ (by omega) (by omega) b1 b2 b3 b4 ⟨by rw [mj_up_k (by decide), mj_up_at]; decide, by rw [mj_up_k (by decide), mj_up_at]; unfold mj_i; decide, _, hR.symm, by rw [mj_up_k (by decide), mj_up_at], by rw [mj_up_at]⟩
            have two : ∀ (is : Int) (y : Option mj_V), ¬ (a = 0 ∨ 2 * (s : Int) < a) → mj_G m_M_readSteps Q 80 [some (.inr (.inr (.inl 52))), some (.inl (k : Int)), some (.inl (2 * (s : Int))), some (.inl is), some (.inl (p : Int)), some (.inl a), y] [] sh FR J2 LA n 0 0 := by
              intro is y hc
              rw [if_neg hc] at hR
              refine mj_go z_M_readSteps [2, 127] 60 ?_
              refine And.intro h.o ?_
              rw [p2]
              refine And.intro h.o ?_
              rw [w2]
              refine And.intro (fun d => ?_) (fun d => ?_)
              · exact absurd rfl d
              · clear d
                refine And.intro h.o (And.intro (Nat.le_of_ble_eq_true rfl) (And.intro (Nat.le_of_ble_eq_true rfl) (And.intro (Nat.le_of_ble_eq_true rfl) (Exists.intro _ (And.intro (ct_M_step (IA := J2) h l2 hl2 p2 xe) ?_)))))
                rintro o3 sh9 FR9 J3 LA9 n9 ⟨z1, z2, z3, z4, hp3⟩
                replace z1 := z1.symm
                subst z1
                replace z2 := z2.symm
                subst z2
                replace z3 := z3.symm
                subst z3
                replace z4 := z4.symm
                subst z4
                rw [by2] at hp3
                rcases hp3 with ⟨q3, y1, y2', y3', y4', y5'⟩ | ⟨yy, y1, y2', y3', y4', y5'⟩
                · rw [y1] at hR
                  subst y2'
                  obtain ⟨b1, b2, b3, b4, b5⟩ := st J3 (fun q h1 h2 h3 => by rw [y5'.1 q h1 h2 h3, x3, mj_up_ne h1]) ((show md_d J1 J2 by rw [x3]; exact md_d_52 (by decide)).trans y5'.d)
                  refine And.intro (Or.inl rfl) ?_
                  refine And.intro h.o ?_
                  rw [y3']
                  refine And.intro (fun d => ?_) (fun d => ?_)
                  · exact s127 J3 _ _ _ _ (by omega) (by omega) (by decide) (by decide) b1 b2 b3 b4 (Or.inl ⟨by rw [y3']; decide, by rw [y3']; unfold mj_i; decide, _, hR.symm, y3', y4'⟩)
                  · exact absurd (show ¬ mj_w 5 = 0 by decide) d
                · rw [y1] at hR
                  have ye := ab_stp_e hen y1
                  obtain ⟨c, q4⟩ := yy
                  have y4' : 0 ≤ c := y4'
                  have y5' : c < 100000 := y5'
                  have ye : q4 ≤ len := ye
                  have y3' : J3 = mj_up J2 52 20 (q4 : Int) := y3'
                  subst y2'
                  have hR : (match (if 2 * (s : Int) - a < c then .inl (6, (q : Int)) else .inr (q4, mj_u so s s, mj_u ow s (2 * s), mj_u le s (2 * s - a), mj_u ri s (2 * s - a - c)) : (Int × Int) ⊕ ab_T) with
                    | .inl e => .inl e
                    | .inr x => ab_gs (md_by IA) m true t (s + 1) x.1 x.2.1 x.2.2.1 x.2.2.2.1 x.2.2.2.2) = R := hR
                  have hJ23 : md_d J1 J2 := by
                    rw [x3]
                    exact md_d_52 (by decide)
                  obtain ⟨b1, b2, b3, b4, b5⟩ := st J3 (fun q h1 _ _ => by rw [y3', mj_up_ne h1, x3, mj_up_ne h1]) (hJ23.trans (by rw [y3']; exact md_d_52 (by decide)))
                  have w3 : J3 52 21 = 0 := by rw [y3', mj_up_k (by decide)]; exact w2
                  have p3 : J3 52 20 = (q4 : Int) := by rw [y3', mj_up_at]
                  refine And.intro (Or.inl rfl) ?_
                  refine And.intro h.o ?_
                  rw [w3]
                  refine And.intro (fun d => ?_) (fun d => ?_)
                  · exact absurd rfl d
                  · clear d
                    refine Exists.intro ((2 * (s : Int) - a)) (And.intro (by first | (rw [mj_w_id (by omega) (by omega)]; done) | (rw [mj_w_id (by omega) (by omega)]; omega) | (unfold mj_w; omega)) ?_)
                    refine And.intro (fun d => ?_) (fun d => ?_)
                    · simp (disch := (clear d; omega)) only [mj_w_id] at d
                      rw [if_neg (by omega)] at hR
                      exact s127 J3 _ _ _ _ (by omega) (by omega) (by omega) (by omega) b1 b2 b3 b4 (Or.inr ⟨q4, _, w3, p3, ye, b5, by rw [mj_u_ne (by omega)]; exact hs0, son, fun j h1 h2 => by rw [mj_u_ne (by omega)]; exact hbn j (by omega) h2, hR⟩)
                    · simp (disch := (clear d; omega)) only [mj_w_id] at d
                      rw [if_pos (by omega)] at hR
                      obtain ⟨e1, e2, e3, e4, e5⟩ := st (mj_up (mj_up J3 52 21 6) 52 22 (q : Int)) (fun q h1 _ _ => by rw [mj_up_ne h1, mj_up_ne h1, y3', mj_up_ne h1, x3, mj_up_ne h1]) (hJ23.trans (by rw [y3']; exact ((md_d_52 (by decide)).trans (md_d_52 (by decide))).trans (md_d_52 (by decide))))
                      refine And.intro h.o (And.intro (Nat.le_of_ble_eq_true rfl) (And.intro (Nat.le_of_ble_eq_true rfl) (And.intro (Nat.le_of_ble_eq_true rfl) (Exists.intro _ (And.intro (ct_M_fail h) ?_)))))
                      rintro r9 sh9 FR9 IA9 LA9 n9 ⟨z0, z1, z2, z3, z4, z5⟩
                      subst z0
                      replace z1 := z1.symm
                      subst z1
                      replace z2 := z2.symm
                      subst z2
                      replace z3 := z3.symm
                      subst z3
                      replace z4 := z4.symm
                      subst z4
                      replace z5 := z5.symm
                      subst z5
                      refine And.intro (Or.inl rfl) ?_
                      exact s127 _ _ _ _ _ (by omega) (by omega) (by omega) (by omega) e1 e2 e3 e4 (Or.inl ⟨by rw [mj_up_k (by decide), mj_up_at]; decide, by rw [mj_up_k (by decide), mj_up_at]; unfold mj_i; decide, _, hR.symm, by rw [mj_up_k (by decide), mj_up_at], by rw [mj_up_at]⟩)
            refine And.intro (Or.inl rfl) ?_
            refine And.intro h.o ?_
            rw [w2]
            refine And.intro (fun d => ?_) (fun d => ?_)
            · exact absurd rfl d
            · clear d
              refine And.intro (fun d => ?_) (fun d => ?_)
              · simp (disch := (clear d; omega)) only [mj_w_id] at d
                exact six _ _ (Or.inl d)
              · simp (disch := (clear d; omega)) only [mj_w_id] at d
                refine And.intro (fun e => ?_) (fun e => ?_)
                · simp (disch := (clear e; omega)) only [mj_w_id] at e
                  exact two _ _ (by omega)
                · simp (disch := (clear e; omega)) only [mj_w_id] at e
                  exact six _ _ (Or.inr (by omega))
  refine mj_Ct_of (by decide +kernel) (by decide) (Nat.le_of_ble_eq_true rfl) ?_
  refine mj_go z_M_readSteps [2] 60 ?_
  exact loop G 0 p IA so ow le ri none none none none none (by omega) md_d.refl (fun _ _ _ _ _ _ _ _ => rfl) hrr hw hp hp2 hro hs0 hsn (fun j h1 h2 => hb.2 j (by omega) h2) (fun i hi => by omega) hR0
end MM
