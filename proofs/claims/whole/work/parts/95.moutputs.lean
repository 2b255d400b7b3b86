/-! THE REFERENCE: readOutputs -/
def md_oq (R : (Int × Int) ⊕ (Nat × (Nat → Int))) (O : Nat) (J : mj_FI) : Prop := match R with
  | .inl e => J 52 21 = e.1 ∧ J 52 22 = e.2
  | .inr x => J 52 21 = 0 ∧ J 52 20 = (x.1 : Int) ∧ ∀ k, k < O → J 65 (32 + k) = x.2 k
section MM
variable {sh : mj_Sh} {FR : mj_FR} {IA : mj_FI} {LA : mj_LA} {n : Nat}
set_option maxHeartbeats 2000000 in
theorem ct_M_readOutputs (h : isM sh FR n) {p len m O : Nat} {ou : Nat → Int} (hlen : IA 52 2 = (len : Int)) (hl2 : len ≤ 8192) (hp : IA 52 20 = (p : Int)) (hp2 : p ≤ len) (hw : IA 52 21 = 0) (hO : IA 57 2 = (O : Int)) (hO2 : O ≤ 16) (hm : IA 58 2 = (m : Int)) (hm2 : m ≤ 1000) :
    mj_Ct m_M_readOutputs [.inr (.inr (.inl 52))] sh FR IA LA n (mj_po (fun o J => o = .inl none ∧ md_d IA J ∧ (∀ q, q ≠ 52 → q ≠ 65 → q ≠ 70 → q ≠ 71 → J q = IA q) ∧ md_oq (ab_ou (md_by IA) m O 0 p ou) O J) sh FR LA n) := by
  have hen := md_en hlen
  generalize hR0 : ab_ou (md_by IA) m O 0 p ou = R
  have loop : ∀ (t k p : Nat) (J : mj_FI) (ou : Nat → Int), k + t = O → md_d IA J → (∀ q, q ≠ 52 → q ≠ 65 → q ≠ 70 → q ≠ 71 → J q = IA q) → J 52 21 = 0 → J 52 20 = (p : Int) → p ≤ len → (∀ i, i < k → J 65 (32 + i) = ou i) → ab_ou (md_by IA) m t k p ou = R →
      mj_G m_M_readOutputs (mj_po (fun o J => o = .inl none ∧ md_d IA J ∧ (∀ q, q ≠ 52 → q ≠ 65 → q ≠ 70 → q ≠ 71 → J q = IA q) ∧ md_oq R O J) sh FR LA n) 2 [some (.inr (.inr (.inl 52))), some (.inl k)] [] sh FR J LA n 0 0 := by
    intro t
    induction t with
    | zero =>
      intro k p J ou hk hd hf hw hp hp2 hin hR
      subst hR
      have hk : k = O := by omega
      subst hk
      have e57 : J 57 2 = (k : Int) := by rw [hf 57 (by decide) (by decide) (by decide) (by decide)]; exact hO
      refine mj_go z_M_readOutputs [2] 60 ?_
      refine And.intro h.o (Exists.intro _ (And.intro h.r7 ?_))
      refine Exists.intro _ (Exists.intro (2) (And.intro h.a7 (And.intro (by first | (rw [mj_w_id (by omega) (by omega)]; done) | (rw [mj_w_id (by omega) (by omega)]; omega) | (unfold mj_w; omega)) (And.intro (by omega) ?_))))
      rw [e57]
      refine And.intro (fun d => ?_) (fun d => ?_)
      · exact ⟨⟨rfl, rfl, rfl, rfl, rfl, hd, hf, hw, hp, hin⟩, Nat.le_of_ble_eq_true rfl, Nat.le_of_ble_eq_true rfl⟩
      · simp (disch := (clear d; omega)) only [mj_w_id] at d
        omega
    | succ t ih =>
      intro k p J ou hk hd hf hw hp hp2 hin hR
      have e57 : J 57 2 = (O : Int) := by rw [hf 57 (by decide) (by decide) (by decide) (by decide)]; exact hO
      have el : J 52 2 = (len : Int) := by rw [hd.2 2 (by decide) (by decide) (by decide)]; exact hlen
      have hby : md_by J = md_by IA := hd.by
      simp only [ab_ou] at hR
      have s63 : ∀ (J2 : mj_FI), md_d IA J2 → (∀ q, q ≠ 52 → q ≠ 65 → q ≠ 70 → q ≠ 71 → J2 q = IA q) → (∀ i, i < k → J2 65 (32 + i) = ou i) → ((J2 52 21 ≠ 0 ∧ mj_i (J2 52 21) ∧ ∃ e : Int × Int, R = .inl e ∧ J2 52 21 = e.1 ∧ J2 52 22 = e.2) ∨ (∃ (p' : Nat), J2 52 21 = 0 ∧ J2 52 20 = (p' : Int) ∧ p' ≤ len ∧ ab_ou (md_by IA) m t (k + 1) p' (mj_u ou k (J2 70 0)) = R)) →
          mj_G m_M_readOutputs (mj_po (fun o J => o = .inl none ∧ md_d IA J ∧ (∀ q, q ≠ 52 → q ≠ 65 → q ≠ 70 → q ≠ 71 → J q = IA q) ∧ md_oq R O J) sh FR LA n) 63 [some (.inr (.inr (.inl 52))), some (.inl k)] [] sh FR J2 LA n 0 0 := by
        intro J2 g1 g2 g4 g5
        generalize hx : J2 70 0 = lit at g5
        have u1 : md_d IA (mj_up J2 65 (32 + k) lit) := g1.trans (md_d_up (by unfold dC; omega) (by decide))
        have u2 : ∀ q, q ≠ 52 → q ≠ 65 → q ≠ 70 → q ≠ 71 → mj_up J2 65 (32 + k) lit q = IA q := fun q h1 h2 h3 h4 => by rw [mj_up_ne h2]; exact g2 q h1 h2 h3 h4
        have u52 : mj_up J2 65 (32 + k) lit 52 = J2 52 := mj_up_ne (by decide)
        refine mj_go z_M_readOutputs [2] 60 ?_
        refine And.intro h.o (Exists.intro _ (And.intro h.r15 ?_))
        refine Exists.intro (((32 + k : Nat) : Int)) (And.intro (by first | (rw [mj_w_id (by omega) (by omega)]; done) | (rw [mj_w_id (by omega) (by omega)]; omega) | (unfold mj_w; omega)) ?_)
        refine And.intro h.o (Exists.intro _ (And.intro h.r23 ?_))
        refine Exists.intro _ (Exists.intro (0) (And.intro h.a23 (And.intro (by first | (rw [mj_w_id (by omega) (by omega)]; done) | (rw [mj_w_id (by omega) (by omega)]; omega) | (unfold mj_w; omega)) (And.intro (by omega) ?_))))
        rw [hx]
        refine Exists.intro _ (Exists.intro (32 + k) (And.intro h.a15 (And.intro (by first | (rw [mj_w_id (by omega) (by omega)]; done) | (rw [mj_w_id (by omega) (by omega)]; omega) | (unfold mj_w; omega)) (And.intro (by omega) ?_))))
        refine Exists.intro (((k + 1 : Nat) : Int)) (And.intro (by first | (rw [mj_w_id (by omega) (by omega)]; done) | (rw [mj_w_id (by omega) (by omega)]; omega) | (unfold mj_w; omega)) ?_)
        rcases g5 with ⟨z1, ⟨z2, z3⟩, e, z4, z5, z6⟩ | ⟨p', z1, z2, z3, z8⟩
        · subst z4
          have e57' : mj_up J2 65 (32 + k) lit 57 2 = (O : Int) := by rw [u2 57 (by decide) (by decide) (by decide) (by decide)]; exact hO
          refine mj_go z_M_readOutputs [] 60 ?_
          refine And.intro h.o (Exists.intro _ (And.intro h.r7 ?_))
          refine Exists.intro _ (Exists.intro (2) (And.intro h.a7 (And.intro (by first | (rw [mj_w_id (by omega) (by omega)]; done) | (rw [mj_w_id (by omega) (by omega)]; omega) | (unfold mj_w; omega)) (And.intro (by omega) ?_))))
          rw [e57']
          refine And.intro (fun d => ?_) (fun d => ?_)
          · exact ⟨⟨rfl, rfl, rfl, rfl, rfl, u1, u2, by rw [u52]; exact z5, by rw [u52]; exact z6⟩, Nat.le_of_ble_eq_true rfl, Nat.le_of_ble_eq_true rfl⟩
          · clear d
            refine And.intro h.o ?_
            rw [u52]
            refine And.intro (fun d => ?_) (fun d => ?_)
            · exact ⟨⟨rfl, rfl, rfl, rfl, rfl, u1, u2, by rw [u52]; exact z5, by rw [u52]; exact z6⟩, Nat.le_of_ble_eq_true rfl, Nat.le_of_ble_eq_true rfl⟩
            · replace d := Classical.not_not.mp d
              simp (disch := (clear d; omega)) only [mj_w_id] at d
              exact absurd d z1
        · refine ih (k + 1) p' _ (mj_u ou k lit) (by omega) u1 u2 (by rw [u52]; exact z1) (by rw [u52]; exact z2) z3 (fun i hi => ?_) z8
          rw [mj_up_row]
          by_cases e : i = k
          · subst e
            rw [mj_u_at, mj_u_at]
          · rw [mj_u_ne (by omega), mj_u_ne (by omega)]
            exact g4 i (by omega)
      refine mj_go z_M_readOutputs [2, 63] 60 ?_
      refine And.intro h.o (Exists.intro _ (And.intro h.r7 ?_))
      refine Exists.intro _ (Exists.intro (2) (And.intro h.a7 (And.intro (by first | (rw [mj_w_id (by omega) (by omega)]; done) | (rw [mj_w_id (by omega) (by omega)]; omega) | (unfold mj_w; omega)) (And.intro (by omega) ?_))))
      rw [e57]
      refine And.intro (fun d => ?_) (fun d => ?_)
      · simp (disch := (clear d; omega)) only [mj_w_id] at d
        omega
      · clear d
        refine And.intro h.o ?_
        rw [hw]
        refine And.intro (fun d => ?_) (fun d => ?_)
        · exact absurd rfl d
        · clear d
          refine And.intro h.o (And.intro (Nat.le_of_ble_eq_true rfl) (And.intro (Nat.le_of_ble_eq_true rfl) (And.intro (Nat.le_of_ble_eq_true rfl) (Exists.intro _ (And.intro (ct_M_line (cnt := 1) (code := 5) h (by decide) (Or.inr rfl) el hl2 hp hp2 hw) ?_)))))
          rintro o1 sh9 FR9 J1 LA9 n9 ⟨z1, z2, z3, z4, hp1⟩
          replace z1 := z1.symm
          subst z1
          replace z2 := z2.symm
          subst z2
          replace z3 := z3.symm
          subst z3
          replace z4 := z4.symm
          subst z4
          obtain ⟨ho, jf, jq⟩ := hp1
          subst ho
          obtain ⟨_, jq⟩ := jq.lp jf
          rw [hby] at jq
          have jd := hd.trans jf.d
          have jg : ∀ q, q ≠ 52 → q ≠ 65 → q ≠ 70 → q ≠ 71 → J1 q = IA q := fun q h1 h2 h4 h5 => (jf.1 q h1 h4 h5).trans (hf q h1 h2 h4 h5)
          have ji : ∀ i, i < k → J1 65 (32 + i) = ou i := fun i hi => by rw [jf.1 65 (by decide) (by decide) (by decide)]; exact hin i hi
          have e58 : J1 58 2 = (m : Int) := by rw [jg 58 (by decide) (by decide) (by decide) (by decide)]; exact hm
          refine And.intro (Or.inl rfl) ?_
          refine And.intro h.o ?_
          rcases jq with ⟨q1, q2, q3, q4⟩ | ⟨q1, q2, q3⟩
          · rw [if_pos q1] at hR
            have v0 := ab_L_n (j := 0) q1
            have v1 := (q4 0 (by decide)).1
            have st0 := (q4 0 (by decide)).2
            rw [ab_L_s (by decide)] at st0
            have hle := ab_L_e (cnt := 1) hen hp2
            rw [← v1] at v0 hR
            rw [q2]
            refine And.intro (fun d => ?_) (fun d => ?_)
            · exact absurd rfl d
            · clear d
              refine And.intro h.o (Exists.intro _ (And.intro h.r23 ?_))
              refine Exists.intro _ (Exists.intro (0) (And.intro h.a23 (And.intro (by first | (rw [mj_w_id (by omega) (by omega)]; done) | (rw [mj_w_id (by omega) (by omega)]; omega) | (unfold mj_w; omega)) (And.intro (by omega) ?_))))
              refine And.intro h.o (Exists.intro _ (And.intro h.r8 ?_))
              refine Exists.intro _ (Exists.intro (2) (And.intro h.a8 (And.intro (by first | (rw [mj_w_id (by omega) (by omega)]; done) | (rw [mj_w_id (by omega) (by omega)]; omega) | (unfold mj_w; omega)) (And.intro (by omega) ?_))))
              rw [e58]
              refine Exists.intro ((2 * (m : Int))) (And.intro (by first | (rw [mj_w_id (by omega) (by omega)]; done) | (rw [mj_w_id (by omega) (by omega)]; omega) | (unfold mj_w; omega)) ?_)
              refine Exists.intro ((2 * (m : Int) + 1)) (And.intro (by first | (rw [mj_w_id (by omega) (by omega)]; done) | (rw [mj_w_id (by omega) (by omega)]; omega) | (unfold mj_w; omega)) ?_)
              refine And.intro (fun d => ?_) (fun d => ?_)
              · simp (disch := (clear d; omega)) only [mj_w_id] at d
                rw [if_pos d] at hR
                exact s63 J1 jd jg ji (Or.inr ⟨_, q2, q3, hle, hR⟩)
              · simp (disch := (clear d; omega)) only [mj_w_id] at d
                rw [if_neg d] at hR
                refine And.intro h.o (Exists.intro _ (And.intro h.r24 ?_))
                refine Exists.intro _ (Exists.intro (0) (And.intro h.a24 (And.intro (by first | (rw [mj_w_id (by omega) (by omega)]; done) | (rw [mj_w_id (by omega) (by omega)]; omega) | (unfold mj_w; omega)) (And.intro (by omega) ?_))))
                rw [st0]
                refine And.intro h.o (And.intro (Nat.le_of_ble_eq_true rfl) (And.intro (Nat.le_of_ble_eq_true rfl) (And.intro (Nat.le_of_ble_eq_true rfl) (Exists.intro _ (And.intro (ct_M_fail h) ?_)))))
                rintro r9 sh9 FR9 IA9 LA9 n9 ⟨z0, z1, z2, z3, z4, z5⟩
                subst z0
                replace z1 := z1.symm
                subst z1
                replace z2 := z2.symm
                subst z2
                replace z3 := z3.symm
                subst z3
                replace z4 := z4.symm
                subst z4
                replace z5 := z5.symm
                subst z5
                refine And.intro (Or.inl rfl) ?_
                exact s63 _ (jd.trans ((md_d_52 (by decide)).trans (md_d_52 (by decide)))) (fun q h1 h2 h3 h4 => by rw [mj_up_ne h1, mj_up_ne h1]; exact jg q h1 h2 h3 h4) (fun i hi => by rw [mj_up_ne (by decide), mj_up_ne (by decide)]; exact ji i hi) (Or.inl ⟨by rw [mj_up_k (by decide), mj_up_at]; decide, by rw [mj_up_k (by decide), mj_up_at]; unfold mj_i; decide, _, hR.symm, by rw [mj_up_k (by decide), mj_up_at], by rw [mj_up_at]⟩)
          · rw [if_neg (by rw [q1]; decide)] at hR
            rw [q2]
            refine And.intro (fun d => ?_) (fun d => ?_)
            · exact s63 J1 jd jg ji (Or.inl ⟨by rw [q2]; decide, by rw [q2]; unfold mj_i; decide, _, hR.symm, q2, q3⟩)
            · exact absurd (show ¬ mj_w 5 = 0 by decide) d
  refine mj_Ct_of (by decide +kernel) (by decide) (Nat.le_of_ble_eq_true rfl) ?_
  refine mj_go z_M_readOutputs [2] 60 ?_
  exact loop O 0 p IA ou (by omega) md_d.refl (fun _ _ _ _ _ => rfl) hw hp hp2 (fun i hi => by omega) hR0
end MM
