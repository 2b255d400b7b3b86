/-! THE REFERENCE: readGates -/
/-- the gates that have been read -/
def md_gt (J : mj_FI) (I k : Nat) (ow le ri : Nat → Int) : Prop := ∀ i, i < k → J 62 (600 + i) = ow (I + 1 + i) ∧ J 63 (600 + i) = le (I + 1 + i) ∧ J 64 (600 + i) = ri (I + 1 + i)
def md_gq (R : (Int × Int) ⊕ ab_T) (I G : Nat) (J : mj_FI) : Prop := match R with
  | .inl e => J 52 21 = e.1 ∧ J 52 22 = e.2
  | .inr x => J 52 21 = 0 ∧ J 52 20 = (x.1 : Int) ∧ md_ro J I x.2.1 ∧ md_gt J I G x.2.2.1 x.2.2.2.1 x.2.2.2.2
def md_gf (IA J : mj_FI) : Prop := ∀ q, q ≠ 52 → q ≠ 62 → q ≠ 63 → q ≠ 64 → q ≠ 66 → q ≠ 70 → q ≠ 71 → J q = IA q
theorem md_gt_s {J : mj_FI} {I k : Nat} {ow le ri : Nat → Int} {a b c : Int} (h : md_gt J I k ow le ri) : md_gt (mj_up (mj_up (mj_up J 62 (600 + k) a) 63 (600 + k) b) 64 (600 + k) c) I (k + 1) (mj_u ow (I + 1 + k) a) (mj_u le (I + 1 + k) b) (mj_u ri (I + 1 + k) c) := by
  intro i hi
  rw [mj_up_ne (show (62 : Nat) ≠ 64 by decide), mj_up_ne (show (62 : Nat) ≠ 63 by decide), mj_up_row, mj_up_ne (show (63 : Nat) ≠ 64 by decide), mj_up_row, mj_up_ne (show (63 : Nat) ≠ 62 by decide), mj_up_row, mj_up_ne (show (64 : Nat) ≠ 63 by decide), mj_up_ne (show (64 : Nat) ≠ 62 by decide)]
  by_cases e : i = k
  · subst e
    rw [mj_u_at, mj_u_at, mj_u_at, mj_u_at, mj_u_at, mj_u_at]
    exact ⟨rfl, rfl, rfl⟩
  · rw [mj_u_ne (by omega), mj_u_ne (by omega), mj_u_ne (by omega), mj_u_ne (by omega), mj_u_ne (by omega), mj_u_ne (by omega)]
    exact h i (by omega)
section MM
variable {sh : mj_Sh} {FR : mj_FR} {IA : mj_FI} {LA : mj_LA} {n : Nat}
set_option maxHeartbeats 4000000 in
theorem ct_M_readGates (h : isM sh FR n) {p len m I G : Nat} {so ow le ri : Nat → Int} (hlen : IA 52 2 = (len : Int)) (hl2 : len ≤ 8192) (hp : IA 52 20 = (p : Int)) (hp2 : p ≤ len) (hw : IA 52 21 = 0) (hI2 : I ≤ 14) (hG : IA 56 2 = (G : Int)) (hG2 : G ≤ 300) (hm : IA 58 2 = (m : Int)) (hm2 : m ≤ 1000) (hro : md_ro IA I so) (hrr : md_rr IA) (hs0 : so 0 = 0) (hsn : ∀ j, j < 1001 → -1 ≤ so j) :
    mj_Ct m_M_readGates [.inr (.inr (.inl 52))] sh FR IA LA n (mj_po (fun o J => o = .inl none ∧ md_d IA J ∧ md_gf IA J ∧ md_rr J ∧ md_gq (ab_gs (md_by IA) m false G (I + 1) p so ow le ri) I G J) sh FR LA n) := by
  have hen := md_en hlen
  generalize hR0 : ab_gs (md_by IA) m false G (I + 1) p so ow le ri = R
  generalize hQ : mj_po (fun o J => o = .inl none ∧ md_d IA J ∧ md_gf IA J ∧ md_rr J ∧ md_gq R I G J) sh FR LA n = Q
  have loop : ∀ (t k p : Nat) (J : mj_FI) (so ow le ri : Nat → Int) (x : Option mj_V), k + t = G → md_d IA J → md_gf IA J → md_rr J → J 52 21 = 0 → J 52 20 = (p : Int) → p ≤ len → md_ro J I so → so 0 = 0 → (∀ j, j < 1001 → -1 ≤ so j) → md_gt J I k ow le ri → ab_gs (md_by IA) m false t (I + 1 + k) p so ow le ri = R →
      mj_G m_M_readGates Q 2 [some (.inr (.inr (.inl 52))), some (.inl k), x] [] sh FR J LA n 0 0 := by
    intro t
    induction t with
    | zero =>
      intro k p J so ow le ri x hk hd hf hrr hw hp hp2 hro hs0 hsn hin hR
      subst hR
      subst hQ
      have hk : k = G := by omega
      subst hk
      have e56 : J 56 2 = (k : Int) := by rw [hf 56 (by decide) (by decide) (by decide) (by decide) (by decide) (by decide) (by decide)]; exact hG
      refine mj_go z_M_readGates [2] 60 ?_
      refine And.intro h.o (Exists.intro _ (And.intro h.r6 ?_))
      refine Exists.intro _ (Exists.intro (2) (And.intro h.a6 (And.intro (by first | (rw [mj_w_id (by omega) (by omega)]; done) | (rw [mj_w_id (by omega) (by omega)]; omega) | (unfold mj_w; omega)) (And.intro (by omega) ?_))))
      rw [e56]
      refine And.intro (fun d => ?_) (fun d => ?_)
      · exact ⟨⟨rfl, rfl, rfl, rfl, rfl, hd, hf, hrr, hw, hp, hro, hin⟩, Nat.le_of_ble_eq_true rfl, Nat.le_of_ble_eq_true rfl⟩
      · simp (disch := (clear d; omega)) only [mj_w_id] at d
        omega
    | succ t ih =>
      intro k p J so ow le ri x hk hd hf hrr hw hp hp2 hro hs0 hsn hin hR
      have e56 : J 56 2 = (G : Int) := by rw [hf 56 (by decide) (by decide) (by decide) (by decide) (by decide) (by decide) (by decide)]; exact hG
      have el : J 52 2 = (len : Int) := by rw [hd.2 2 (by decide) (by decide) (by decide)]; exact hlen
      have hby : md_by J = md_by IA := hd.by
      simp only [ab_gs] at hR
      rw [if_neg (by decide)] at hR
      -- the stores and the next round
      have s113 : ∀ (J2 : mj_FI) (j : Int), md_d IA J2 → md_gf IA J2 → md_rr J2 → md_gt J2 I k ow le ri → ((J2 52 21 ≠ 0 ∧ mj_i (J2 52 21) ∧ ∃ e : Int × Int, R = .inl e ∧ J2 52 21 = e.1 ∧ J2 52 22 = e.2) ∨ (∃ (p' : Nat) (so' : Nat → Int), J2 52 21 = 0 ∧ J2 52 20 = (p' : Int) ∧ p' ≤ len ∧ md_ro J2 I so' ∧ so' 0 = 0 ∧ (∀ j, j < 1001 → -1 ≤ so' j) ∧ ab_gs (md_by IA) m false t (I + 1 + k + 1) p' so' (mj_u ow (I + 1 + k) (J2 70 0)) (mj_u le (I + 1 + k) (J2 70 1)) (mj_u ri (I + 1 + k) (J2 70 2)) = R)) →
          mj_G m_M_readGates Q 113 [some (.inr (.inr (.inl 52))), some (.inl k), some (.inl j)] [] sh FR J2 LA n 0 0 := by
        intro J2 j g1 g2 g3 g4 g5
        generalize hx0 : J2 70 0 = x0 at g5
        generalize hx1 : J2 70 1 = x1 at g5
        generalize hx2 : J2 70 2 = x2 at g5
        generalize hK : mj_up (mj_up (mj_up J2 62 (600 + k) x0) 63 (600 + k) x1) 64 (600 + k) x2 = K
        have u1 : md_d IA K := by
          rw [← hK]
          exact g1.trans (((md_d_up (by unfold dC; omega) (by decide)).trans (md_d_up (by unfold dC; omega) (by decide))).trans (md_d_up (by unfold dC; omega) (by decide)))
        have u0 : ∀ q, q ≠ 62 → q ≠ 63 → q ≠ 64 → K q = J2 q := fun q h1 h2 h3 => by rw [← hK, mj_up_ne h3, mj_up_ne h2, mj_up_ne h1]
        have u2 : md_gf IA K := fun q h1 h2 h3 h4 h5 h6 h7 => by rw [u0 q h2 h3 h4]; exact g2 q h1 h2 h3 h4 h5 h6 h7
        have u52 : K 52 = J2 52 := u0 52 (by decide) (by decide) (by decide)
        have u66 : K 66 = J2 66 := u0 66 (by decide) (by decide) (by decide)
        have u3 : md_rr K := by
          unfold md_rr
          rw [u66]
          exact g3
        have u4 : md_gt K I (k + 1) (mj_u ow (I + 1 + k) x0) (mj_u le (I + 1 + k) x1) (mj_u ri (I + 1 + k) x2) := by
          rw [← hK]
          exact md_gt_s g4
        refine mj_go z_M_readGates [2] 60 ?_
        refine And.intro h.o (Exists.intro _ (And.intro h.r12 ?_))
        refine Exists.intro (((600 + k : Nat) : Int)) (And.intro (by first | (rw [mj_w_id (by omega) (by omega)]; done) | (rw [mj_w_id (by omega) (by omega)]; omega) | (unfold mj_w; omega)) ?_)
        refine And.intro h.o (Exists.intro _ (And.intro h.r23 ?_))
        refine Exists.intro _ (Exists.intro (0) (And.intro h.a23 (And.intro (by first | (rw [mj_w_id (by omega) (by omega)]; done) | (rw [mj_w_id (by omega) (by omega)]; omega) | (unfold mj_w; omega)) (And.intro (by omega) ?_))))
        rw [hx0]
        refine Exists.intro _ (Exists.intro (600 + k) (And.intro h.a12 (And.intro (by first | (rw [mj_w_id (by omega) (by omega)]; done) | (rw [mj_w_id (by omega) (by omega)]; omega) | (unfold mj_w; omega)) (And.intro (by omega) ?_))))
        refine And.intro h.o (Exists.intro _ (And.intro h.r13 ?_))
        refine Exists.intro (((600 + k : Nat) : Int)) (And.intro (by first | (rw [mj_w_id (by omega) (by omega)]; done) | (rw [mj_w_id (by omega) (by omega)]; omega) | (unfold mj_w; omega)) ?_)
        refine And.intro h.o (Exists.intro _ (And.intro h.r23 ?_))
        refine Exists.intro _ (Exists.intro (1) (And.intro h.a23 (And.intro (by first | (rw [mj_w_id (by omega) (by omega)]; done) | (rw [mj_w_id (by omega) (by omega)]; omega) | (unfold mj_w; omega)) (And.intro (by omega) ?_))))
        rw [mj_up_ne (show (70 : Nat) ≠ 62 by decide), hx1]
        refine Exists.intro _ (Exists.intro (600 + k) (And.intro h.a13 (And.intro (by first | (rw [mj_w_id (by omega) (by omega)]; done) | (rw [mj_w_id (by omega) (by omega)]; omega) | (unfold mj_w; omega)) (And.intro (by omega) ?_))))
        refine And.intro h.o (Exists.intro _ (And.intro h.r14 ?_))
        refine Exists.intro (((600 + k : Nat) : Int)) (And.intro (by first | (rw [mj_w_id (by omega) (by omega)]; done) | (rw [mj_w_id (by omega) (by omega)]; omega) | (unfold mj_w; omega)) ?_)
        refine And.intro h.o (Exists.intro _ (And.intro h.r23 ?_))
        refine Exists.intro _ (Exists.intro (2) (And.intro h.a23 (And.intro (by first | (rw [mj_w_id (by omega) (by omega)]; done) | (rw [mj_w_id (by omega) (by omega)]; omega) | (unfold mj_w; omega)) (And.intro (by omega) ?_))))
        rw [mj_up_ne (show (70 : Nat) ≠ 63 by decide), mj_up_ne (show (70 : Nat) ≠ 62 by decide), hx2]
        refine Exists.intro _ (Exists.intro (600 + k) (And.intro h.a14 (And.intro (by first | (rw [mj_w_id (by omega) (by omega)]; done) | (rw [mj_w_id (by omega) (by omega)]; omega) | (unfold mj_w; omega)) (And.intro (by omega) ?_))))
        rw [hK]
        refine Exists.intro (((k + 1 : Nat) : Int)) (And.intro (by first | (rw [mj_w_id (by omega) (by omega)]; done) | (rw [mj_w_id (by omega) (by omega)]; omega) | (unfold mj_w; omega)) ?_)
        rcases g5 with ⟨z1, ⟨z2, z3⟩, e, z4, z5, z6⟩ | ⟨p', so', z1, z2, z3, z4, z5, z6, z8⟩
        · subst hQ
          subst z4
          have e56' : K 56 2 = (G : Int) := by rw [u2 56 (by decide) (by decide) (by decide) (by decide) (by decide) (by decide) (by decide)]; exact hG
          refine mj_go z_M_readGates [] 60 ?_
          refine And.intro h.o (Exists.intro _ (And.intro h.r6 ?_))
          refine Exists.intro _ (Exists.intro (2) (And.intro h.a6 (And.intro (by first | (rw [mj_w_id (by omega) (by omega)]; done) | (rw [mj_w_id (by omega) (by omega)]; omega) | (unfold mj_w; omega)) (And.intro (by omega) ?_))))
          rw [e56']
          refine And.intro (fun d => ?_) (fun d => ?_)
          · exact ⟨⟨rfl, rfl, rfl, rfl, rfl, u1, u2, u3, by rw [u52]; exact z5, by rw [u52]; exact z6⟩, Nat.le_of_ble_eq_true rfl, Nat.le_of_ble_eq_true rfl⟩
          · clear d
            refine And.intro h.o ?_
            rw [u52]
            refine And.intro (fun d => ?_) (fun d => ?_)
            · exact ⟨⟨rfl, rfl, rfl, rfl, rfl, u1, u2, u3, by rw [u52]; exact z5, by rw [u52]; exact z6⟩, Nat.le_of_ble_eq_true rfl, Nat.le_of_ble_eq_true rfl⟩
            · replace d := Classical.not_not.mp d
              simp (disch := (clear d; omega)) only [mj_w_id] at d
              exact absurd d z1
        · refine ih (k + 1) p' K so' _ _ _ _ (by omega) u1 u2 u3 (by rw [u52]; exact z1) (by rw [u52]; exact z2) z3 ?_ z5 z6 u4 (by rw [show I + 1 + (k + 1) = I + 1 + k + 1 by omega]; exact z8)
          unfold md_ro at z4 ⊢
          rw [u66]
          exact z4
      -- something is wrong: the inner loop ends
      have wrong64 : ∀ (J2 : mj_FI) (j : Nat), j ≤ 3 → md_d IA J2 → md_gf IA J2 → md_rr J2 → md_gt J2 I k ow le ri → (J2 52 21 ≠ 0 ∧ mj_i (J2 52 21) ∧ ∃ e : Int × Int, R = .inl e ∧ J2 52 21 = e.1 ∧ J2 52 22 = e.2) → mj_G m_M_readGates Q 64 [some (.inr (.inr (.inl 52))), some (.inl k), some (.inl (j : Int))] [] sh FR J2 LA n 0 0 := by
        intro J2 j hj g1 g2 g3 g4 g5
        obtain ⟨z1, ⟨z2, z3⟩, z4⟩ := id g5
        refine mj_go z_M_readGates [2, 113] 60 ?_
        refine And.intro (fun d => ?_) (fun d => ?_)
        · exact s113 J2 j g1 g2 g3 g4 (Or.inl g5)
        · clear d
          refine And.intro h.o ?_
          refine And.intro (fun d => ?_) (fun d => ?_)
          · exact s113 J2 j g1 g2 g3 g4 (Or.inl g5)
          · replace d := Classical.not_not.mp d
            simp (disch := (clear d; omega)) only [mj_w_id] at d
            exact absurd d z1
      refine mj_go z_M_readGates [2, 64, 113] 60 ?_
      refine And.intro h.o (Exists.intro _ (And.intro h.r6 ?_))
      refine Exists.intro _ (Exists.intro (2) (And.intro h.a6 (And.intro (by first | (rw [mj_w_id (by omega) (by omega)]; done) | (rw [mj_w_id (by omega) (by omega)]; omega) | (unfold mj_w; omega)) (And.intro (by omega) ?_))))
      rw [e56]
      refine And.intro (fun d => ?_) (fun d => ?_)
      · simp (disch := (clear d; omega)) only [mj_w_id] at d
        omega
      · clear d
        refine And.intro h.o ?_
        rw [hw]
        refine And.intro (fun d => ?_) (fun d => ?_)
        · exact absurd rfl d
        · clear d
          refine And.intro h.o (And.intro (Nat.le_of_ble_eq_true rfl) (And.intro (Nat.le_of_ble_eq_true rfl) (And.intro (Nat.le_of_ble_eq_true rfl) (Exists.intro _ (And.intro (ct_M_line (cnt := 3) (code := 5) h (by decide) (Or.inr rfl) el hl2 hp hp2 hw) ?_)))))
          rintro o1 sh9 FR9 J1 LA9 n9 ⟨z1, z2, z3, z4, hp1⟩
          replace z1 := z1.symm
          subst z1
          replace z2 := z2.symm
          subst z2
          replace z3 := z3.symm
          subst z3
          replace z4 := z4.symm
          subst z4
          obtain ⟨ho, jf, jq⟩ := hp1
          subst ho
          obtain ⟨_, jq⟩ := jq.lp jf
          rw [hby] at jq
          have jd := hd.trans jf.d
          have jg : md_gf IA J1 := fun q h1 h2 h3 h4 h5 h6 h7 => (jf.1 q h1 h6 h7).trans (hf q h1 h2 h3 h4 h5 h6 h7)
          have jr : md_rr J1 := by
            unfold md_rr
            rw [jf.1 66 (by decide) (by decide) (by decide)]
            exact hrr
          have jt : md_gt J1 I k ow le ri := fun i hi => by
            rw [jf.1 62 (by decide) (by decide) (by decide), jf.1 63 (by decide) (by decide) (by decide), jf.1 64 (by decide) (by decide) (by decide)]
            exact hin i hi
          have jro : md_ro J1 I so := by
            unfold md_ro
            rw [jf.1 66 (by decide) (by decide) (by decide)]
            exact hro
          have e58 : J1 58 2 = (m : Int) := by rw [jg 58 (by decide) (by decide) (by decide) (by decide) (by decide) (by decide) (by decide)]; exact hm
          unfold ab_lg at hR
          refine And.intro (Or.inl rfl) ?_
          refine And.intro h.o ?_
          rcases jq with ⟨q1, q2, q3, q4⟩ | ⟨q1, q2, q3⟩
          · rw [if_pos q1] at hR
            have n0 := ab_L_n (j := 0) q1
            have n1 := ab_L_n (j := 1) q1
            have n2 := ab_L_n (j := 2) q1
            have m0 := q4 0 (by decide)
            have m1 := q4 1 (by decide)
            have m2 := q4 2 (by decide)
            rw [ab_L_s (by decide)] at m0
            have hle := ab_L_e (cnt := 3) hen hp2
            clear q4
            generalize (ab_L (md_by IA) 3 p).2.2.1 0 = v0 at *
            generalize (ab_L (md_by IA) 3 p).2.2.1 1 = v1 at *
            generalize (ab_L (md_by IA) 3 p).2.2.1 2 = v2 at *
            generalize (ab_L (md_by IA) 3 p).2.2.2 1 = t1 at *
            generalize (ab_L (md_by IA) 3 p).2.2.2 2 = t2 at *
            generalize (ab_L (md_by IA) 3 p).2.1 = p' at *
            rw [q2]
            refine And.intro (fun d => ?_) (fun d => ?_)
            · clear d
              refine And.intro h.o (Exists.intro _ (And.intro h.r23 ?_))
              refine Exists.intro _ (Exists.intro (0) (And.intro h.a23 (And.intro (by first | (rw [mj_w_id (by omega) (by omega)]; done) | (rw [mj_w_id (by omega) (by omega)]; omega) | (unfold mj_w; omega)) (And.intro (by omega) ?_))))
              rw [m0.1]
              refine Exists.intro (((15 + k : Nat) : Int)) (And.intro (by first | (rw [mj_w_id (by omega) (by omega)]; done) | (rw [mj_w_id (by omega) (by omega)]; omega) | (unfold mj_w; omega)) ?_)
              have hiff := md_ok_fr n0.1 e58 hm2 jro hs0 hsn
              refine And.intro h.o (And.intro (Nat.le_of_ble_eq_true rfl) (And.intro (Nat.le_of_ble_eq_true rfl) (And.intro (Nat.le_of_ble_eq_true rfl) (Exists.intro _ (And.intro (ct_M_stands h n0.1 n0.2 (by omega) (by omega) jr) ?_)))))
              rintro r9 sh9 FR9 IA9 LA9 n9 ⟨z0, z1, z2, z3, z4, z5⟩
              subst z0
              replace z1 := z1.symm
              subst z1
              replace z2 := z2.symm
              subst z2
              replace z3 := z3.symm
              subst z3
              replace z4 := z4.symm
              subst z4
              replace z5 := z5.symm
              subst z5
              refine And.intro (Or.inl rfl) ?_
              by_cases hz : md_ok J1 v0
              · have hfr := hiff.mp hz
                rw [if_pos hfr] at hR
                have a1 := hfr.1
                have hj1 : 1 ≤ (v0 / 2).toNat := by
                  have := hz.1
                  omega
                rw [if_pos hz, if_pos hz]
                generalize hJ2 : mj_up J1 66 (2002 + (v0 / 2).toNat) ((15 + k : Nat) : Int) = J2
                have f2 : ∀ q, q ≠ 66 → J2 q = J1 q := fun q hq => by rw [← hJ2, mj_up_ne hq]
                have d2 : md_d IA J2 := by
                  rw [← hJ2]
                  exact jd.trans (md_d_up (by unfold dC; omega) (by decide))
                have g2 : md_gf IA J2 := fun q h1 h2 h3 h4 h5 h6 h7 => by rw [f2 q h5]; exact jg q h1 h2 h3 h4 h5 h6 h7
                have r2 : md_rr J2 := by
                  intro j hj
                  rw [← hJ2, mj_up_row]
                  unfold mj_u
                  split
                  · omega
                  · exact jr j hj
                have t2' : md_gt J2 I k ow le ri := fun i hi => by
                  rw [f2 62 (by decide), f2 63 (by decide), f2 64 (by decide)]
                  exact jt i hi
                have ro2 : md_ro J2 I (mj_u so (v0 / 2).toNat ((I + 1 + k : Nat) : Int)) := by
                  rw [← hJ2]
                  refine md_ro_up jro hj1 ?_
                  unfold rho
                  rw [if_neg (by omega), if_neg (by omega)]
                  omega
                have so0 : mj_u so (v0 / 2).toNat ((I + 1 + k : Nat) : Int) 0 = 0 := by rw [mj_u_ne (by omega)]; exact hs0
                have son : ∀ j, j < 1001 → -1 ≤ mj_u so (v0 / 2).toNat ((I + 1 + k : Nat) : Int) j := by
                  intro j hj
                  unfold mj_u
                  split
                  · omega
                  · exact hsn j hj
                have w2 : J2 52 21 = 0 := by rw [f2 52 (by decide)]; exact q2
                have p2' : J2 52 20 = (p' : Int) := by rw [f2 52 (by decide)]; exact q3
                have c0 : J2 70 0 = v0 := by rw [f2 70 (by decide)]; exact m0.1
                have c1 : J2 70 1 = v1 := by rw [f2 70 (by decide)]; exact m1.1
                have c2 : J2 70 2 = v2 := by rw [f2 70 (by decide)]; exact m2.1
                have b1 : J2 71 1 = t1 := by rw [f2 71 (by decide)]; exact m1.2
                have b2 : J2 71 2 = t2 := by rw [f2 71 (by decide)]; exact m2.2
                have e58' : J2 58 2 = (m : Int) := by rw [f2 58 (by decide)]; exact e58
                have wr : ∀ (e : Int), R = .inl (6, e) → md_d IA (mj_up (mj_up J2 52 21 6) 52 22 e) ∧ md_gf IA (mj_up (mj_up J2 52 21 6) 52 22 e) ∧ md_rr (mj_up (mj_up J2 52 21 6) 52 22 e) ∧ md_gt (mj_up (mj_up J2 52 21 6) 52 22 e) I k ow le ri ∧ (mj_up (mj_up J2 52 21 6) 52 22 e 52 21 ≠ 0 ∧ mj_i (mj_up (mj_up J2 52 21 6) 52 22 e 52 21) ∧ ∃ x : Int × Int, R = .inl x ∧ mj_up (mj_up J2 52 21 6) 52 22 e 52 21 = x.1 ∧ mj_up (mj_up J2 52 21 6) 52 22 e 52 22 = x.2) := by
                  intro e he
                  refine ⟨d2.trans ((md_d_52 (by decide)).trans (md_d_52 (by decide))), fun q h1 h2 h3 h4 h5 h6 h7 => by rw [mj_up_ne h1, mj_up_ne h1]; exact g2 q h1 h2 h3 h4 h5 h6 h7, ?_, fun i hi => ?_, by rw [mj_up_k (by decide), mj_up_at]; decide, by rw [mj_up_k (by decide), mj_up_at]; unfold mj_i; decide, _, he, by rw [mj_up_k (by decide), mj_up_at], by rw [mj_up_at]⟩
                  · unfold md_rr
                    rw [mj_up_ne (by decide), mj_up_ne (by decide)]
                    exact r2
                  · rw [mj_up_ne (show (62 : Nat) ≠ 52 by decide), mj_up_ne (show (62 : Nat) ≠ 52 by decide), mj_up_ne (show (63 : Nat) ≠ 52 by decide), mj_up_ne (show (63 : Nat) ≠ 52 by decide), mj_up_ne (show (64 : Nat) ≠ 52 by decide), mj_up_ne (show (64 : Nat) ≠ 52 by decide)]
                    exact t2' i hi
                have at3 : v1 ≤ 2 * (m : Int) + 1 → v2 ≤ 2 * (m : Int) + 1 → mj_G m_M_readGates Q 64 [some (.inr (.inr (.inl 52))), some (.inl k), some (.inl ((3 : Nat) : Int))] [] sh FR J2 LA n 0 0 := by
                  intro y1 y2
                  rw [if_pos y1, if_pos y2] at hR
                  refine mj_go z_M_readGates [2, 113] 60 ?_
                  refine And.intro (fun f => ?_) (fun f => ?_)
                  · exact s113 J2 ((3 : Nat) : Int) d2 g2 r2 t2' (Or.inr ⟨p', _, w2, p2', hle, ro2, so0, son, by rw [c0, c1, c2]; exact hR⟩)
                  · exact absurd (show mj_w 3 ≤ mj_w ((3 : Nat) : Int) by decide) f
                have at2 : v1 ≤ 2 * (m : Int) + 1 → mj_G m_M_readGates Q 64 [some (.inr (.inr (.inl 52))), some (.inl k), some (.inl ((2 : Nat) : Int))] [] sh FR J2 LA n 0 0 := by
                  intro y1
                  refine mj_go z_M_readGates [2, 64, 113] 60 ?_
                  refine And.intro (fun e => ?_) (fun e => ?_)
                  · exact absurd e (by decide)
                  · clear e
                    refine And.intro h.o ?_
                    rw [w2]
                    refine And.intro (fun e => ?_) (fun e => ?_)
                    · exact absurd rfl e
                    · clear e
                      refine And.intro h.o (Exists.intro _ (And.intro h.r23 ?_))
                      refine Exists.intro _ (Exists.intro (2) (And.intro h.a23 (And.intro (by first | (rw [mj_w_id (by omega) (by omega)]; done) | (rw [mj_w_id (by omega) (by omega)]; omega) | (unfold mj_w; omega)) (And.intro (by omega) ?_))))
                      rw [c2]
                      refine And.intro h.o (Exists.intro _ (And.intro h.r8 ?_))
                      refine Exists.intro _ (Exists.intro (2) (And.intro h.a8 (And.intro (by first | (rw [mj_w_id (by omega) (by omega)]; done) | (rw [mj_w_id (by omega) (by omega)]; omega) | (unfold mj_w; omega)) (And.intro (by omega) ?_))))
                      rw [e58']
                      refine Exists.intro ((2 * (m : Int))) (And.intro (by first | (rw [mj_w_id (by omega) (by omega)]; done) | (rw [mj_w_id (by omega) (by omega)]; omega) | (unfold mj_w; omega)) ?_)
                      refine Exists.intro ((2 * (m : Int) + 1)) (And.intro (by first | (rw [mj_w_id (by omega) (by omega)]; done) | (rw [mj_w_id (by omega) (by omega)]; omega) | (unfold mj_w; omega)) ?_)
                      refine And.intro (fun e => ?_) (fun e => ?_)
                      · simp (disch := (clear e; omega)) only [mj_w_id] at e
                        refine Exists.intro (((3 : Nat) : Int)) (And.intro (by first | (rw [mj_w_id (by omega) (by omega)]; done) | (rw [mj_w_id (by omega) (by omega)]; omega) | (unfold mj_w; omega)) ?_)
                        exact at3 y1 e
                      · simp (disch := (clear e; omega)) only [mj_w_id] at e
                        rw [if_pos y1, if_neg e] at hR
                        obtain ⟨x1, x2, x3, x4, x5⟩ := wr t2 hR.symm
                        refine And.intro h.o (Exists.intro _ (And.intro h.r24 ?_))
                        refine Exists.intro _ (Exists.intro (2) (And.intro h.a24 (And.intro (by first | (rw [mj_w_id (by omega) (by omega)]; done) | (rw [mj_w_id (by omega) (by omega)]; omega) | (unfold mj_w; omega)) (And.intro (by omega) ?_))))
                        rw [b2]
                        refine And.intro h.o (And.intro (Nat.le_of_ble_eq_true rfl) (And.intro (Nat.le_of_ble_eq_true rfl) (And.intro (Nat.le_of_ble_eq_true rfl) (Exists.intro _ (And.intro (ct_M_fail h) ?_)))))
                        rintro r9 sh9 FR9 IA9 LA9 n9 ⟨z0, z1, z2, z3, z4, z5⟩
                        subst z0
                        replace z1 := z1.symm
                        subst z1
                        replace z2 := z2.symm
                        subst z2
                        replace z3 := z3.symm
                        subst z3
                        replace z4 := z4.symm
                        subst z4
                        replace z5 := z5.symm
                        subst z5
                        refine And.intro (Or.inl rfl) ?_
                        refine Exists.intro (((3 : Nat) : Int)) (And.intro (by first | (rw [mj_w_id (by omega) (by omega)]; done) | (rw [mj_w_id (by omega) (by omega)]; omega) | (unfold mj_w; omega)) ?_)
                        exact wrong64 _ 3 (by decide) x1 x2 x3 x4 x5
                have at1 : mj_G m_M_readGates Q 64 [some (.inr (.inr (.inl 52))), some (.inl k), some (.inl ((1 : Nat) : Int))] [] sh FR J2 LA n 0 0 := by
                  refine mj_go z_M_readGates [2, 64, 113] 60 ?_
                  refine And.intro (fun e => ?_) (fun e => ?_)
                  · exact absurd e (by decide)
                  · clear e
                    refine And.intro h.o ?_
                    rw [w2]
                    refine And.intro (fun e => ?_) (fun e => ?_)
                    · exact absurd rfl e
                    · clear e
                      refine And.intro h.o (Exists.intro _ (And.intro h.r23 ?_))
                      refine Exists.intro _ (Exists.intro (1) (And.intro h.a23 (And.intro (by first | (rw [mj_w_id (by omega) (by omega)]; done) | (rw [mj_w_id (by omega) (by omega)]; omega) | (unfold mj_w; omega)) (And.intro (by omega) ?_))))
                      rw [c1]
                      refine And.intro h.o (Exists.intro _ (And.intro h.r8 ?_))
                      refine Exists.intro _ (Exists.intro (2) (And.intro h.a8 (And.intro (by first | (rw [mj_w_id (by omega) (by omega)]; done) | (rw [mj_w_id (by omega) (by omega)]; omega) | (unfold mj_w; omega)) (And.intro (by omega) ?_))))
                      rw [e58']
                      refine Exists.intro ((2 * (m : Int))) (And.intro (by first | (rw [mj_w_id (by omega) (by omega)]; done) | (rw [mj_w_id (by omega) (by omega)]; omega) | (unfold mj_w; omega)) ?_)
                      refine Exists.intro ((2 * (m : Int) + 1)) (And.intro (by first | (rw [mj_w_id (by omega) (by omega)]; done) | (rw [mj_w_id (by omega) (by omega)]; omega) | (unfold mj_w; omega)) ?_)
                      refine And.intro (fun e => ?_) (fun e => ?_)
                      · simp (disch := (clear e; omega)) only [mj_w_id] at e
                        refine Exists.intro (((2 : Nat) : Int)) (And.intro (by first | (rw [mj_w_id (by omega) (by omega)]; done) | (rw [mj_w_id (by omega) (by omega)]; omega) | (unfold mj_w; omega)) ?_)
                        exact at2 e
                      · simp (disch := (clear e; omega)) only [mj_w_id] at e
                        rw [if_neg e] at hR
                        obtain ⟨x1, x2, x3, x4, x5⟩ := wr t1 hR.symm
                        refine And.intro h.o (Exists.intro _ (And.intro h.r24 ?_))
                        refine Exists.intro _ (Exists.intro (1) (And.intro h.a24 (And.intro (by first | (rw [mj_w_id (by omega) (by omega)]; done) | (rw [mj_w_id (by omega) (by omega)]; omega) | (unfold mj_w; omega)) (And.intro (by omega) ?_))))
                        rw [b1]
                        refine And.intro h.o (And.intro (Nat.le_of_ble_eq_true rfl) (And.intro (Nat.le_of_ble_eq_true rfl) (And.intro (Nat.le_of_ble_eq_true rfl) (Exists.intro _ (And.intro (ct_M_fail h) ?_)))))
                        rintro r9 sh9 FR9 IA9 LA9 n9 ⟨z0, z1, z2, z3, z4, z5⟩
                        subst z0
                        replace z1 := z1.symm
                        subst z1
                        replace z2 := z2.symm
                        subst z2
                        replace z3 := z3.symm
                        subst z3
                        replace z4 := z4.symm
                        subst z4
                        replace z5 := z5.symm
                        subst z5
                        refine And.intro (Or.inl rfl) ?_
                        refine Exists.intro (((2 : Nat) : Int)) (And.intro (by first | (rw [mj_w_id (by omega) (by omega)]; done) | (rw [mj_w_id (by omega) (by omega)]; omega) | (unfold mj_w; omega)) ?_)
                        exact wrong64 _ 2 (by decide) x1 x2 x3 x4 x5
                refine And.intro (fun d => ?_) (fun d => ?_)
                · exact at1
                · exact absurd (show ¬ mj_w 1 = 0 by decide) d
              · rw [if_neg (fun z => hz (hiff.mpr z))] at hR
                rw [if_neg hz, if_neg hz]
                refine And.intro (fun d => ?_) (fun d => ?_)
                · exact absurd d (show ¬ ¬ mj_w 0 = 0 by decide)
                · clear d
                  refine And.intro h.o (Exists.intro _ (And.intro h.r24 ?_))
                  refine Exists.intro _ (Exists.intro (0) (And.intro h.a24 (And.intro (by first | (rw [mj_w_id (by omega) (by omega)]; done) | (rw [mj_w_id (by omega) (by omega)]; omega) | (unfold mj_w; omega)) (And.intro (by omega) ?_))))
                  rw [m0.2]
                  refine And.intro h.o (And.intro (Nat.le_of_ble_eq_true rfl) (And.intro (Nat.le_of_ble_eq_true rfl) (And.intro (Nat.le_of_ble_eq_true rfl) (Exists.intro _ (And.intro (ct_M_fail h) ?_)))))
                  rintro r9 sh9 FR9 IA9 LA9 n9 ⟨z0, z1, z2, z3, z4, z5⟩
                  subst z0
                  replace z1 := z1.symm
                  subst z1
                  replace z2 := z2.symm
                  subst z2
                  replace z3 := z3.symm
                  subst z3
                  replace z4 := z4.symm
                  subst z4
                  replace z5 := z5.symm
                  subst z5
                  refine And.intro (Or.inl rfl) ?_
                  refine wrong64 _ 1 (by decide) (jd.trans ((md_d_52 (by decide)).trans (md_d_52 (by decide)))) (fun q h1 h2 h3 h4 h5 h6 h7 => by rw [mj_up_ne h1, mj_up_ne h1]; exact jg q h1 h2 h3 h4 h5 h6 h7) ?_ (fun i hi => ?_) ⟨by rw [mj_up_k (by decide), mj_up_at]; decide, by rw [mj_up_k (by decide), mj_up_at]; unfold mj_i; decide, _, hR.symm, by rw [mj_up_k (by decide), mj_up_at], by rw [mj_up_at]⟩
                  · unfold md_rr
                    rw [mj_up_ne (by decide), mj_up_ne (by decide)]
                    exact jr
                  · rw [mj_up_ne (show (62 : Nat) ≠ 52 by decide), mj_up_ne (show (62 : Nat) ≠ 52 by decide), mj_up_ne (show (63 : Nat) ≠ 52 by decide), mj_up_ne (show (63 : Nat) ≠ 52 by decide), mj_up_ne (show (64 : Nat) ≠ 52 by decide), mj_up_ne (show (64 : Nat) ≠ 52 by decide)]
                    exact jt i hi
            · exact absurd (show mj_w 0 ≤ 0 by decide) d
          · rw [if_neg (by rw [q1]; decide)] at hR
            subst hQ
            subst hR
            rw [q2]
            refine And.intro (fun d => ?_) (fun d => ?_)
            · exact absurd d (by decide)
            · exact ⟨⟨rfl, rfl, rfl, rfl, rfl, jd, jg, jr, q2, q3⟩, Nat.le_of_ble_eq_true rfl, Nat.le_of_ble_eq_true rfl⟩
  refine mj_Ct_of (by decide +kernel) (by decide) (Nat.le_of_ble_eq_true rfl) ?_
  refine mj_go z_M_readGates [2] 60 ?_
  exact loop G 0 p IA so ow le ri none (by omega) md_d.refl (fun _ _ _ _ _ _ _ _ => rfl) hrr hw hp hp2 hro hs0 hsn (fun i hi => by omega) hR0
end MM
