/-! THE REFERENCE: readInputs, readOutputs -/
def md_rr (J : mj_FI) : Prop := ∀ j, j < 3003 → -1 ≤ J 66 j ∧ J 66 j < 315
theorem md_ok_fr {J : mj_FI} {m I : Nat} {so : Nat → Int} {v : Int} (hv : 0 ≤ v) (hm : J 58 2 = (m : Int)) (hm2 : m ≤ 1000) (h : md_ro J I so) (h0 : so 0 = 0) (hs : ∀ j, j < 1001 → -1 ≤ so j) : md_ok J v ↔ ab_fr m so v := by
  have key : v ≤ 2 * (m : Int) + 1 → 2 ≤ v → (J 66 (2002 + (v / 2).toNat) < 0 ↔ so (v / 2).toNat = -1) := by
    intro h1 h2
    rw [h.2 (v / 2).toNat (by omega) (by omega)]
    have := hs (v / 2).toNat (by omega)
    unfold rho
    split
    · omega
    · split <;> omega
  constructor
  · rintro ⟨a, b, c, d⟩
    rw [hm] at c
    exact ⟨c, b, (key c a).mp d⟩
  · rintro ⟨a, b, c⟩
    have h2 : 2 ≤ v := by
      by_cases z : 2 ≤ v
      · exact z
      · have e : (v / 2).toNat = 0 := by omega
        rw [e, h0] at c
        omega
    exact ⟨h2, b, by rw [hm]; exact a, (key a h2).mpr c⟩
theorem md_ro_up {J : mj_FI} {I : Nat} {so : Nat → Int} {j : Nat} {s row : Int} (h : md_ro J I so) (hj : 1 ≤ j) (hr : row = rho I s) : md_ro (mj_up J 66 (2002 + j) row) I (mj_u so j s) := by
  refine ⟨by rw [mj_up_row, mj_u_ne (by omega)]; exact h.1, fun i h1 h2 => ?_⟩
  rw [mj_up_row]
  by_cases e : i = j
  · subst e
    rw [mj_u_at, mj_u_at, hr]
  · rw [mj_u_ne (by omega), mj_u_ne e]
    exact h.2 i h1 h2
/-- how readInputs ends -/
def md_iq (R : (Int × Int) ⊕ (Nat × (Nat → Int) × (Nat → Int))) (I : Nat) (J : mj_FI) : Prop := match R with
  | .inl e => J 52 21 = e.1 ∧ J 52 22 = e.2
  | .inr x => J 52 21 = 0 ∧ J 52 20 = (x.1 : Int) ∧ md_ro J I x.2.1 ∧ ∀ k, k < I → J 61 (28 + k) = x.2.2 (1 + k)
section MM
variable {sh : mj_Sh} {FR : mj_FR} {IA : mj_FI} {LA : mj_LA} {n : Nat}
set_option maxHeartbeats 4000000 in
theorem ct_M_readInputs (h : isM sh FR n) {p len m I : Nat} {bin : Bool} {so ow : Nat → Int} (hlen : IA 52 2 = (len : Int)) (hl2 : len ≤ 8192) (hp : IA 52 20 = (p : Int)) (hp2 : p ≤ len) (hw : IA 52 21 = 0) (hI : IA 55 2 = (I : Int)) (hI2 : I ≤ 14) (hm : IA 58 2 = (m : Int)) (hm2 : m ≤ 1000) (hro : md_ro IA I so) (hrr : md_rr IA) (hs0 : so 0 = 0) (hsn : ∀ j, j < 1001 → -1 ≤ so j) (hb : bin = true → I ≤ m ∧ ∀ j, 1 ≤ j → j < 1001 → so j = -1) :
    mj_Ct m_M_readInputs [.inr (.inr (.inl 52)), .inl (if bin = true then 1 else 0)] sh FR IA LA n (mj_po (fun o J => o = .inl none ∧ md_d IA J ∧ (∀ q, q ≠ 52 → q ≠ 61 → q ≠ 66 → q ≠ 70 → q ≠ 71 → J q = IA q) ∧ md_rr J ∧ md_iq (ab_in (md_by IA) m bin I 1 p so ow) I J) sh FR LA n) := by
  have hen := md_en hlen
  generalize hR : ab_in (md_by IA) m bin I 1 p so ow = R
  have loop : ∀ (t k p : Nat) (J : mj_FI) (so ow : Nat → Int) (x : Option mj_V), k + t = I → md_d IA J → (∀ q, q ≠ 52 → q ≠ 61 → q ≠ 66 → q ≠ 70 → q ≠ 71 → J q = IA q) → md_rr J → J 52 21 = 0 → J 52 20 = (p : Int) → p ≤ len → md_ro J I so → so 0 = 0 → (∀ j, j < 1001 → -1 ≤ so j) → (bin = true → I ≤ m ∧ ∀ j, k + 1 ≤ j → j < 1001 → so j = -1) → (∀ i, i < k → J 61 (28 + i) = ow (1 + i)) → ab_in (md_by IA) m bin t (k + 1) p so ow = R →
      mj_G m_M_readInputs (mj_po (fun o J => o = .inl none ∧ md_d IA J ∧ (∀ q, q ≠ 52 → q ≠ 61 → q ≠ 66 → q ≠ 70 → q ≠ 71 → J q = IA q) ∧ md_rr J ∧ md_iq R I J) sh FR LA n) 2 [some (.inr (.inr (.inl 52))), some (.inl (if bin = true then 1 else 0)), some (.inl k), x] [] sh FR J LA n 0 0 := by
    intro t
    induction t with
    | zero =>
      intro k p J so ow x hk hd hf hrr hw hp hp2 hro hs0 hsn hb hin hR
      subst hR
      have hk : k = I := by omega
      subst hk
      have e55 : J 55 2 = (k : Int) := by rw [hf 55 (by decide) (by decide) (by decide) (by decide) (by decide)]; exact hI
      refine mj_go z_M_readInputs [2] 60 ?_
      refine And.intro h.o (Exists.intro _ (And.intro h.r5 ?_))
      refine Exists.intro _ (Exists.intro (2) (And.intro h.a5 (And.intro (by first | (rw [mj_w_id (by omega) (by omega)]; done) | (rw [mj_w_id (by omega) (by omega)]; omega) | (unfold mj_w; omega)) (And.intro (by omega) ?_))))
      rw [e55]
      refine And.intro (fun d => ?_) (fun d => ?_)
      · exact ⟨⟨rfl, rfl, rfl, rfl, rfl, hd, hf, hrr, hw, hp, hro, hin⟩, Nat.le_of_ble_eq_true rfl, Nat.le_of_ble_eq_true rfl⟩
      · simp (disch := (clear d; omega)) only [mj_w_id] at d
        omega
    | succ t ih =>
      intro k p J so ow x hk hd hf hrr hw hp hp2 hro hs0 hsn hb hin hR
      have e55 : J 55 2 = (I : Int) := by rw [hf 55 (by decide) (by decide) (by decide) (by decide) (by decide)]; exact hI
      have e58 : J 58 2 = (m : Int) := by rw [hf 58 (by decide) (by decide) (by decide) (by decide) (by decide)]; exact hm
      have el : J 52 2 = (len : Int) := by rw [hd.2 2 (by decide) (by decide) (by decide)]; exact hlen
      have hby : md_by J = md_by IA := hd.by
      simp only [ab_in] at hR
      -- the end of a round
      have s78 : ∀ (J2 : mj_FI) (lit : Int), md_d IA J2 → (∀ q, q ≠ 52 → q ≠ 61 → q ≠ 66 → q ≠ 70 → q ≠ 71 → J2 q = IA q) → md_rr J2 → (∀ i, i < k → J2 61 (28 + i) = ow (1 + i)) → ((J2 52 21 ≠ 0 ∧ mj_i (J2 52 21) ∧ ∃ e : Int × Int, R = .inl e ∧ J2 52 21 = e.1 ∧ J2 52 22 = e.2) ∨ (∃ (p' : Nat) (so' : Nat → Int), J2 52 21 = 0 ∧ J2 52 20 = (p' : Int) ∧ p' ≤ len ∧ md_ro J2 I so' ∧ so' 0 = 0 ∧ (∀ j, j < 1001 → -1 ≤ so' j) ∧ (bin = true → I ≤ m ∧ ∀ j, k + 1 + 1 ≤ j → j < 1001 → so' j = -1) ∧ ab_in (md_by IA) m bin t (k + 1 + 1) p' so' (mj_u ow (k + 1) lit) = R)) →
          mj_G m_M_readInputs (mj_po (fun o J => o = .inl none ∧ md_d IA J ∧ (∀ q, q ≠ 52 → q ≠ 61 → q ≠ 66 → q ≠ 70 → q ≠ 71 → J q = IA q) ∧ md_rr J ∧ md_iq R I J) sh FR LA n) 78 [some (.inr (.inr (.inl 52))), some (.inl (if bin = true then 1 else 0)), some (.inl k), some (.inl lit)] [] sh FR J2 LA n 0 0 := by
        intro J2 lit g1 g2 g3 g4 g5
        have u1 : md_d IA (mj_up J2 61 (28 + k) lit) := g1.trans (md_d_up (by unfold dC; omega) (by decide))
        have u2 : ∀ q, q ≠ 52 → q ≠ 61 → q ≠ 66 → q ≠ 70 → q ≠ 71 → mj_up J2 61 (28 + k) lit q = IA q := fun q h1 h2 h3 h4 h5 => by rw [mj_up_ne h2]; exact g2 q h1 h2 h3 h4 h5
        have u3 : md_rr (mj_up J2 61 (28 + k) lit) := by
          unfold md_rr
          rw [mj_up_ne (by decide)]
          exact g3
        have u52 : mj_up J2 61 (28 + k) lit 52 = J2 52 := mj_up_ne (by decide)
        have u66 : mj_up J2 61 (28 + k) lit 66 = J2 66 := mj_up_ne (by decide)
        refine mj_go z_M_readInputs [2] 60 ?_
        refine And.intro h.o (Exists.intro _ (And.intro h.r11 ?_))
        refine Exists.intro (((28 + k : Nat) : Int)) (And.intro (by first | (rw [mj_w_id (by omega) (by omega)]; done) | (rw [mj_w_id (by omega) (by omega)]; omega) | (unfold mj_w; omega)) ?_)
        refine Exists.intro _ (Exists.intro (28 + k) (And.intro h.a11 (And.intro (by first | (rw [mj_w_id (by omega) (by omega)]; done) | (rw [mj_w_id (by omega) (by omega)]; omega) | (unfold mj_w; omega)) (And.intro (by omega) ?_))))
        refine Exists.intro (((k + 1 : Nat) : Int)) (And.intro (by first | (rw [mj_w_id (by omega) (by omega)]; done) | (rw [mj_w_id (by omega) (by omega)]; omega) | (unfold mj_w; omega)) ?_)
        rcases g5 with ⟨z1, ⟨z2, z3⟩, e, z4, z5, z6⟩ | ⟨p', so', z1, z2, z3, z4, z5, z6, z7, z8⟩
        · subst z4
          have e55' : mj_up J2 61 (28 + k) lit 55 2 = (I : Int) := by rw [u2 55 (by decide) (by decide) (by decide) (by decide) (by decide)]; exact hI
          refine mj_go z_M_readInputs [] 60 ?_
          refine And.intro h.o (Exists.intro _ (And.intro h.r5 ?_))
          refine Exists.intro _ (Exists.intro (2) (And.intro h.a5 (And.intro (by first | (rw [mj_w_id (by omega) (by omega)]; done) | (rw [mj_w_id (by omega) (by omega)]; omega) | (unfold mj_w; omega)) (And.intro (by omega) ?_))))
          rw [e55']
          refine And.intro (fun d => ?_) (fun d => ?_)
          · exact ⟨⟨rfl, rfl, rfl, rfl, rfl, u1, u2, u3, by rw [u52]; exact z5, by rw [u52]; exact z6⟩, Nat.le_of_ble_eq_true rfl, Nat.le_of_ble_eq_true rfl⟩
          · clear d
            refine And.intro h.o ?_
            rw [u52]
            refine And.intro (fun d => ?_) (fun d => ?_)
            · exact ⟨⟨rfl, rfl, rfl, rfl, rfl, u1, u2, u3, by rw [u52]; exact z5, by rw [u52]; exact z6⟩, Nat.le_of_ble_eq_true rfl, Nat.le_of_ble_eq_true rfl⟩
            · replace d := Classical.not_not.mp d
              simp (disch := (clear d; omega)) only [mj_w_id] at d
              exact absurd d z1
        · refine ih (k + 1) p' _ so' (mj_u ow (k + 1) lit) _ (by omega) u1 u2 u3 (by rw [u52]; exact z1) (by rw [u52]; exact z2) z3 ?_ z5 z6 z7 (fun i hi => ?_) z8
          · unfold md_ro at z4 ⊢
            rw [u66]
            exact z4
          · rw [mj_up_row]
            by_cases e : i = k
            · subst e
              rw [mj_u_at, show 1 + i = i + 1 by omega, mj_u_at]
            · rw [mj_u_ne (by omega), mj_u_ne (by omega)]
              exact g4 i (by omega)
      -- the literal is asked to stand
      have ask : ∀ (J2 : mj_FI) (lit : Int) (p' : Nat), md_d IA J2 → (∀ q, q ≠ 52 → q ≠ 61 → q ≠ 66 → q ≠ 70 → q ≠ 71 → J2 q = IA q) → md_rr J2 → md_ro J2 I so → (∀ i, i < k → J2 61 (28 + i) = ow (1 + i)) → J2 52 21 = 0 → J2 52 20 = (p' : Int) → p' ≤ len → 0 ≤ lit → lit < 1000000000 → (ab_fr m so lit → (bin = true → I ≤ m ∧ ∀ j, k + 1 + 1 ≤ j → j < 1001 → mj_u so (lit / 2).toNat (k + 1 : Nat) j = -1) ∧ ab_in (md_by IA) m bin t (k + 1 + 1) p' (mj_u so (lit / 2).toNat (k + 1 : Nat)) (mj_u ow (k + 1) lit) = R) → (¬ ab_fr m so lit → R = .inl (6, J2 71 0)) →
          mj_G m_M_readInputs (mj_po (fun o J => o = .inl none ∧ md_d IA J ∧ (∀ q, q ≠ 52 → q ≠ 61 → q ≠ 66 → q ≠ 70 → q ≠ 71 → J q = IA q) ∧ md_rr J ∧ md_iq R I J) sh FR LA n) 48 [some (.inr (.inr (.inl 52))), some (.inl (if bin = true then 1 else 0)), some (.inl k), some (.inl lit)] [] sh FR J2 LA n 0 0 := by
        intro J2 lit p' g1 g2 g3 g4 g5 g6 g7 g8 g9 g10 g11 g12
        have e58 : J2 58 2 = (m : Int) := by rw [g2 58 (by decide) (by decide) (by decide) (by decide) (by decide)]; exact hm
        have hiff := md_ok_fr g9 e58 hm2 g4 hs0 hsn
        refine mj_go z_M_readInputs [2, 78] 60 ?_
        refine And.intro h.o ?_
        rw [g6]
        refine And.intro (fun d => ?_) (fun d => ?_)
        · exact absurd rfl d
        · clear d
          refine Exists.intro (((k + 1 : Nat) : Int)) (And.intro (by first | (rw [mj_w_id (by omega) (by omega)]; done) | (rw [mj_w_id (by omega) (by omega)]; omega) | (unfold mj_w; omega)) ?_)
          refine And.intro h.o (And.intro (Nat.le_of_ble_eq_true rfl) (And.intro (Nat.le_of_ble_eq_true rfl) (And.intro (Nat.le_of_ble_eq_true rfl) (Exists.intro _ (And.intro (ct_M_stands h g9 g10 (by omega) (by omega) g3) ?_)))))
          rintro r9 sh9 FR9 IA9 LA9 n9 ⟨z0, z1, z2, z3, z4, z5⟩
          subst z0
          replace z1 := z1.symm
          subst z1
          replace z2 := z2.symm
          subst z2
          replace z3 := z3.symm
          subst z3
          replace z4 := z4.symm
          subst z4
          replace z5 := z5.symm
          subst z5
          refine And.intro (Or.inl rfl) ?_
          by_cases hz : md_ok J2 lit
          · have hfr := hiff.mp hz
            obtain ⟨y1, y2⟩ := g11 hfr
            have a1 := hfr.1
            have hj1 : 1 ≤ (lit / 2).toNat := by
              have := hz.1
              omega
            rw [if_pos hz, if_pos hz]
            refine And.intro (fun d => ?_) (fun d => ?_)
            · clear d
              refine s78 _ lit (g1.trans (md_d_up (by unfold dC; omega) (by decide))) (fun q h1 h2 h3 h4 h5 => by rw [mj_up_ne h3]; exact g2 q h1 h2 h3 h4 h5) ?_ (fun i hi => by rw [mj_up_ne (by decide)]; exact g5 i hi) (Or.inr ⟨p', mj_u so (lit / 2).toNat (k + 1 : Nat), by rw [mj_up_ne (by decide)]; exact g6, by rw [mj_up_ne (by decide)]; exact g7, g8, md_ro_up g4 hj1 (by unfold rho; rw [if_neg (by omega), if_pos (by omega)]), by rw [mj_u_ne (by omega)]; exact hs0, ?_, y1, y2⟩)
              · intro j hj
                rw [mj_up_row]
                unfold mj_u
                split
                · omega
                · exact g3 j hj
              · intro j hj
                unfold mj_u
                split
                · omega
                · exact hsn j hj
            · exact absurd (show ¬ mj_w 1 = 0 by decide) d
          · have hn := g12 (fun z => hz (hiff.mpr z))
            rw [if_neg hz, if_neg hz]
            refine And.intro (fun d => ?_) (fun d => ?_)
            · exact absurd d (show ¬ ¬ mj_w 0 = 0 by decide)
            · clear d
              refine And.intro h.o (Exists.intro _ (And.intro h.r24 ?_))
              refine Exists.intro _ (Exists.intro (0) (And.intro h.a24 (And.intro (by first | (rw [mj_w_id (by omega) (by omega)]; done) | (rw [mj_w_id (by omega) (by omega)]; omega) | (unfold mj_w; omega)) (And.intro (by omega) ?_))))
              refine And.intro h.o (And.intro (Nat.le_of_ble_eq_true rfl) (And.intro (Nat.le_of_ble_eq_true rfl) (And.intro (Nat.le_of_ble_eq_true rfl) (Exists.intro _ (And.intro (ct_M_fail h) ?_)))))
              rintro r9 sh9 FR9 IA9 LA9 n9 ⟨z0, z1, z2, z3, z4, z5⟩
              subst z0
              replace z1 := z1.symm
              subst z1
              replace z2 := z2.symm
              subst z2
              replace z3 := z3.symm
              subst z3
              replace z4 := z4.symm
              subst z4
              replace z5 := z5.symm
              subst z5
              refine And.intro (Or.inl rfl) ?_
              refine s78 _ lit (g1.trans ((md_d_52 (by decide)).trans (md_d_52 (by decide)))) (fun q h1 h2 h3 h4 h5 => by rw [mj_up_ne h1, mj_up_ne h1]; exact g2 q h1 h2 h3 h4 h5) ?_ (fun i hi => by rw [mj_up_ne (by decide), mj_up_ne (by decide)]; exact g5 i hi) (Or.inl ⟨by rw [mj_up_k (by decide), mj_up_at]; decide, by rw [mj_up_k (by decide), mj_up_at]; unfold mj_i; decide, _, hn, by rw [mj_up_k (by decide), mj_up_at], by rw [mj_up_at]⟩)
              unfold md_rr
              rw [mj_up_ne (by decide), mj_up_ne (by decide)]
              exact g3
      refine mj_go z_M_readInputs [2, 48] 60 ?_
      refine And.intro h.o (Exists.intro _ (And.intro h.r5 ?_))
      refine Exists.intro _ (Exists.intro (2) (And.intro h.a5 (And.intro (by first | (rw [mj_w_id (by omega) (by omega)]; done) | (rw [mj_w_id (by omega) (by omega)]; omega) | (unfold mj_w; omega)) (And.intro (by omega) ?_))))
      rw [e55]
      refine And.intro (fun d => ?_) (fun d => ?_)
      · simp (disch := (clear d; omega)) only [mj_w_id] at d
        omega
      · clear d
        refine And.intro h.o ?_
        rw [hw]
        refine And.intro (fun d => ?_) (fun d => ?_)
        · exact absurd rfl d
        · clear d
          cases bin with
          | true =>
            rw [if_pos rfl] at hR
            obtain ⟨b1, b2⟩ := hb rfl
            refine And.intro (fun d => ?_) (fun d => ?_)
            · clear d
              refine And.intro (fun d => ?_) (fun d => ?_)
              · exact absurd d (by decide)
              · clear d
                refine Exists.intro ((2 * (k : Int))) (And.intro (by first | (rw [mj_w_id (by omega) (by omega)]; done) | (rw [mj_w_id (by omega) (by omega)]; omega) | (unfold mj_w; omega)) ?_)
                refine Exists.intro ((2 * ((k + 1 : Nat) : Int))) (And.intro (by first | (rw [mj_w_id (by omega) (by omega)]; done) | (rw [mj_w_id (by omega) (by omega)]; omega) | (unfold mj_w; omega)) ?_)
                refine ask J (2 * ((k + 1 : Nat) : Int)) p hd hf hrr hro hin hw hp hp2 (by omega) (by omega) (fun _ => ?_) (fun z => absurd ⟨by omega, by omega, by rw [show (2 * ((k + 1 : Nat) : Int) / 2).toNat = k + 1 by omega]; exact b2 (k + 1) (by omega) (by omega)⟩ z)
                rw [show (2 * ((k + 1 : Nat) : Int) / 2).toNat = k + 1 by omega]
                exact ⟨fun _ => ⟨b1, fun j h1 h2 => by rw [mj_u_ne (by omega)]; exact b2 j (by omega) h2⟩, hR⟩
            · exact absurd (show ¬ mj_w 1 = 0 by decide) d
          | false =>
            rw [if_neg (by decide)] at hR
            refine And.intro (fun d => ?_) (fun d => ?_)
            · exact absurd d (show ¬ ¬ mj_w 0 = 0 by decide)
            · clear d
              refine And.intro h.o (And.intro (Nat.le_of_ble_eq_true rfl) (And.intro (Nat.le_of_ble_eq_true rfl) (And.intro (Nat.le_of_ble_eq_true rfl) (Exists.intro _ (And.intro (ct_M_line (cnt := 1) (code := 5) h (by decide) (Or.inr rfl) el hl2 hp hp2 hw) ?_)))))
              rintro o1 sh9 FR9 J1 LA9 n9 ⟨z1, z2, z3, z4, hp1⟩
              replace z1 := z1.symm
              subst z1
              replace z2 := z2.symm
              subst z2
              replace z3 := z3.symm
              subst z3
              replace z4 := z4.symm
              subst z4
              obtain ⟨ho, jf, jq⟩ := hp1
              subst ho
              obtain ⟨_, jq⟩ := jq.lp jf
              rw [hby] at jq
              have jd := hd.trans jf.d
              have jg : ∀ q, q ≠ 52 → q ≠ 61 → q ≠ 66 → q ≠ 70 → q ≠ 71 → J1 q = IA q := fun q h1 h2 h3 h4 h5 => (jf.1 q h1 h4 h5).trans (hf q h1 h2 h3 h4 h5)
              have jr : md_rr J1 := by
                unfold md_rr
                rw [jf.1 66 (by decide) (by decide) (by decide)]
                exact hrr
              have ji : ∀ i, i < k → J1 61 (28 + i) = ow (1 + i) := fun i hi => by rw [jf.1 61 (by decide) (by decide) (by decide)]; exact hin i hi
              have jro : md_ro J1 I so := by
                unfold md_ro
                rw [jf.1 66 (by decide) (by decide) (by decide)]
                exact hro
              refine And.intro (Or.inl rfl) ?_
              refine And.intro (fun d => ?_) (fun d => ?_)
              · clear d
                refine And.intro h.o (Exists.intro _ (And.intro h.r23 ?_))
                refine Exists.intro _ (Exists.intro (0) (And.intro h.a23 (And.intro (by first | (rw [mj_w_id (by omega) (by omega)]; done) | (rw [mj_w_id (by omega) (by omega)]; omega) | (unfold mj_w; omega)) (And.intro (by omega) ?_))))
                rcases jq with ⟨q1, q2, q3, q4⟩ | ⟨q1, q2, q3⟩
                · rw [if_pos q1] at hR
                  have v0 := ab_L_n (j := 0) q1
                  rw [(q4 0 (by decide)).1]
                  have st0 := (q4 0 (by decide)).2
                  rw [ab_L_s (by decide)] at st0
                  refine ask J1 _ (ab_L (md_by IA) 1 p).2.1 jd jg jr jro ji q2 q3 (ab_L_e hen hp2) v0.1 v0.2 (fun z => ?_) (fun z => ?_)
                  · rw [if_pos z] at hR
                    exact ⟨(fun y => by cases y), hR⟩
                  · rw [if_neg z] at hR
                    rw [st0]
                    exact hR.symm
                · rw [if_neg (by rw [q1]; decide)] at hR
                  refine mj_go z_M_readInputs [2, 78] 60 ?_
                  refine And.intro h.o ?_
                  rw [q2]
                  refine And.intro (fun d => ?_) (fun d => ?_)
                  · exact s78 J1 _ jd jg jr ji (Or.inl ⟨by rw [q2]; decide, by rw [q2]; unfold mj_i; decide, _, hR.symm, q2, q3⟩)
                  · exact absurd (show ¬ mj_w 5 = 0 by decide) d
              · exact absurd (show mj_w 0 = 0 by decide) d
  refine mj_Ct_of (by decide +kernel) (by decide) (Nat.le_of_ble_eq_true rfl) ?_
  refine mj_go z_M_readInputs [2] 60 ?_
  exact loop I 0 p IA so ow none (by omega) md_d.refl (fun _ _ _ _ _ _ => rfl) hrr hw hp hp2 hro hs0 hsn (fun z => ⟨(hb z).1, fun j h1 h2 => (hb z).2 j h1 h2⟩) (fun i hi => by omega) hR
end MM
