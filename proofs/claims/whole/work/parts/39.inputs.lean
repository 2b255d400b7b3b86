/-! READER: takeInputs, takeOutputs -/
/-- a post that leaves all but the ints as they are -/
def mj_po (P : mj_O → mj_FI → Prop) (sh : mj_Sh) (FR : mj_FR) (LA : mj_LA) (n : Nat) : mj_Q := fun o sh' FR' IA' LA' n' => sh' = sh ∧ FR' = FR ∧ LA' = LA ∧ n' = n ∧ P o IA'
/-- what reading may change: some of the reader's own fields, its numbers and starts, and the rows in S -/
def rd_f (J J' : mj_FI) (r : Nat) (S : Nat → Prop) : Prop := (∀ q, q ≠ r → q ≠ r + 2 → q ≠ r + 3 → ¬ S q → J' q = J q) ∧ (∀ k, k ≠ 1 → k ≠ 2 → k ≠ 8 → J' r k = J r k)
theorem rd_f.refl {J : mj_FI} {r : Nat} {S : Nat → Prop} : rd_f J J r S := ⟨fun _ _ _ _ _ => rfl, fun _ _ _ _ => rfl⟩
theorem rd_f.trans {J J' J'' : mj_FI} {r : Nat} {S : Nat → Prop} (h1 : rd_f J J' r S) (h2 : rd_f J' J'' r S) : rd_f J J'' r S := ⟨fun q a b c d => (h2.1 q a b c d).trans (h1.1 q a b c d), fun k a b c => (h2.2 k a b c).trans (h1.2 k a b c)⟩
theorem rd_f.mono {J J' : mj_FI} {r : Nat} {S S' : Nat → Prop} (h : rd_f J J' r S) (hs : ∀ q, S q → S' q) : rd_f J J' r S' := ⟨fun q a b c d => h.1 q a b c fun z => d (hs q z), h.2⟩
theorem rd_f_up {J : mj_FI} {r q k : Nat} {x : Int} {S : Nat → Prop} (h : S q) (hq : q ≠ r) : rd_f J (mj_up J q k x) r S := ⟨fun a _ _ _ d => mj_up_ne (fun e => d (e ▸ h)), fun j _ _ _ => by rw [mj_up_ne (Ne.symm hq)]⟩
theorem rd_f_r {J : mj_FI} {r k : Nat} {x : Int} {S : Nat → Prop} (h : k = 1 ∨ k = 2 ∨ k = 8) : rd_f J (mj_up J r k x) r S := ⟨fun a e _ _ _ => mj_up_ne e, fun j h1 h2 h3 => mj_up_k (by omega)⟩
theorem ab_lp.f {J J' : mj_FI} {r cnt p : Nat} {code : Int} {ok : Bool} {S : Nat → Prop} (h : ab_lp J J' r code cnt p ok) : rd_f J J' r S := ⟨fun q a b c _ => h.2.1 q a b c, h.2.2.1⟩
theorem rd_f.by {J J' : mj_FI} {r : Nat} {S : Nat → Prop} (h : rd_f J J' r S) (hs : ¬ S (r + 1)) : rd_by J' r = rd_by J r := rd_by_eq (h.2 0 (by decide) (by decide) (by decide)) (h.1 (r + 1) (by omega) (by omega) (by omega) hs)
def rd_S2 (b : Nat) (q : Nat) : Prop := q = b + 1 ∨ q = b + 2
/-- the end of takeInputs -/
def rd_iq (R : (Int × Int) ⊕ (Nat × (Nat → Int) × (Nat → Int))) (IA : mj_FI) (r b : Nat) (o : mj_O) (J : mj_FI) : Prop := J (b + 2) 0 = IA (b + 2) 0 ∧ match R with
  | .inl e => o = .inl (some (.inl 0)) ∧ J r 1 = e.1 ∧ J r 2 = e.2
  | .inr x => o = .inl (some (.inl 1)) ∧ J r 8 = (x.1 : Int) ∧ J (b + 1) = x.2.1 ∧ J (b + 2) = x.2.2 ∧ J r 1 = IA r 1 ∧ J r 2 = IA r 2
section RR
variable {sh : mj_Sh} {FR : mj_FR} {IA : mj_FI} {LA : mj_LA} {n r b : Nat}
set_option maxHeartbeats 1000000 in
theorem ct_R_takeInputs (h : isRd sh FR n r b) (hN : isNet sh FR n b) (hap : rd_ap r b) {len p m I : Nat} {bin : Bool} (hlen : IA r 0 = (len : Int)) (hl2 : len ≤ 8192) (hp : IA r 8 = (p : Int)) (hp2 : p ≤ len) (hm : IA b 9 = (m : Int)) (hm2 : m ≤ 1000) (hI : IA b 10 = (I : Int)) (hI2 : I ≤ 14) (hb : IA r 9 = if bin = true then 1 else 0) (hso : ∀ j, j < 1001 → -1 ≤ IA (b + 1) j ∧ IA (b + 1) j < 315) :
    mj_Ct m_R_takeInputs [.inr (.inr (.inl r))] sh FR IA LA n (mj_po (fun o J => rd_f IA J r (rd_S2 b) ∧ rd_iq (ab_in (rd_by IA r) m bin I 1 p (IA (b + 1)) (IA (b + 2))) IA r b o J) sh FR LA n) := by
  have hR := h
  obtain ⟨h0, r3, r4, r5, r6, r7, a1, a2, a3, a4, s0, s1, a5, a6⟩ := h
  generalize hT : ab_in (rd_by IA r) m bin I 1 p (IA (b + 1)) (IA (b + 2)) = R
  have loop : ∀ (t s p : Nat) (J : mj_FI), s + t = I + 1 → 1 ≤ s → rd_f IA J r (rd_S2 b) → J r 8 = (p : Int) → p ≤ len → J r 1 = IA r 1 → J r 2 = IA r 2 → J (b + 2) 0 = IA (b + 2) 0 → (∀ j, j < 1001 → -1 ≤ J (b + 1) j ∧ J (b + 1) j < 315) → ab_in (rd_by IA r) m bin t s p (J (b + 1)) (J (b + 2)) = R →
      mj_G m_R_takeInputs (mj_po (fun o J => rd_f IA J r (rd_S2 b) ∧ rd_iq R IA r b o J) sh FR LA n) 2 [some (.inr (.inr (.inl r))), some (.inl s)] [] sh FR J LA n 0 0 := by
    intro t
    induction t with
    | zero =>
      intro s p J hst hs1 hf hp hp2 e1 e2 ez hso hT
      have e10 : J b 10 = (I : Int) := by
        rw [hf.1 b (by unfold rd_ap at hap; omega) (by unfold rd_ap at hap; omega) (by unfold rd_ap at hap; omega) (by unfold rd_S2; omega)]
        exact hI
      subst hT
      refine mj_go z_R_takeInputs [2] 60 ?_
      refine And.intro h0 (Exists.intro _ (And.intro r7 ?_))
      refine And.intro hN.1 ?_
      rw [e10]
      refine And.intro (fun c => ?_) (fun c => ?_)
      · exact ⟨Or.inr rfl, ⟨rfl, rfl, rfl, rfl, hf, ez, rfl, hp, rfl, rfl, e1, e2⟩, Nat.le_of_ble_eq_true rfl, Nat.le_of_ble_eq_true rfl⟩
      · simp (disch := (clear c; omega)) only [mj_w_id] at c
        omega
    | succ t ih =>
      intro s p J hst hs1 hf hp hp2 e1 e2 ez hso hT
      have hq : b ≠ r ∧ b ≠ r + 2 ∧ b ≠ r + 3 ∧ b + 1 ≠ r ∧ b + 1 ≠ r + 2 ∧ b + 1 ≠ r + 3 ∧ b + 2 ≠ r ∧ b + 2 ≠ r + 2 ∧ b + 2 ≠ r + 3 ∧ b + 1 ≠ r + 1 ∧ b + 2 ≠ r + 1 := by
        unfold rd_ap at hap
        omega
      obtain ⟨q1, q2, q3, q4, q5, q6, q7, q8, q9, q10, q11⟩ := hq
      have e10 : J b 10 = (I : Int) := by rw [hf.1 b q1 q2 q3 (by unfold rd_S2; omega)]; exact hI
      have e9 : J b 9 = (m : Int) := by rw [hf.1 b q1 q2 q3 (by unfold rd_S2; omega)]; exact hm
      have ebin : J r 9 = if bin = true then 1 else 0 := by rw [hf.2 9 (by decide) (by decide) (by decide)]; exact hb
      have el : J r 0 = (len : Int) := by rw [hf.2 0 (by decide) (by decide) (by decide)]; exact hlen
      have hby : rd_by J r = rd_by IA r := hf.by (by unfold rd_S2; omega)
      have step : ∀ (v : Int) (p' : Nat) (J2 : mj_FI), rd_f J J2 r (rd_S2 b) → p' ≤ len → 0 ≤ v → v ≤ 2001 → J2 (b + 1) = J (b + 1) → J2 (b + 2) = J (b + 2) → J2 r 8 = (p' : Int) → J2 r 1 = IA r 1 → J2 r 2 = IA r 2 → ab_in (rd_by IA r) m bin t (s + 1) p' (mj_u (J (b + 1)) (v / 2).toNat s) (mj_u (J (b + 2)) s v) = R →
          mj_G m_R_takeInputs (mj_po (fun o J => rd_f IA J r (rd_S2 b) ∧ rd_iq R IA r b o J) sh FR LA n) 53 [some (.inr (.inr (.inl r))), some (.inl s)] [] sh FR (mj_up (mj_up J2 (b + 2) s v) (b + 1) (v / 2).toNat s) LA n 0 0 := by
        intro v p' J2 f2 hp' hv0 hv1 g1 g2 g8 g3 g4 hT
        have w1 : mj_up (mj_up J2 (b + 2) s v) (b + 1) (v / 2).toNat s (b + 1) = mj_u (J (b + 1)) (v / 2).toNat s := by rw [mj_up_row, mj_up_ne (by omega), g1]
        have w2 : mj_up (mj_up J2 (b + 2) s v) (b + 1) (v / 2).toNat s (b + 2) = mj_u (J (b + 2)) s v := by rw [mj_up_ne (by omega), mj_up_row, g2]
        have w3 : mj_up (mj_up J2 (b + 2) s v) (b + 1) (v / 2).toNat (s : Int) r = J2 r := by rw [mj_up_ne (Ne.symm q4), mj_up_ne (Ne.symm q7)]
        refine mj_go z_R_takeInputs [2] 60 ?_
        refine Exists.intro (((s + 1 : Nat) : Int)) (And.intro (by first | (rw [mj_w_id (by omega) (by omega)]; done) | (rw [mj_w_id (by omega) (by omega)]; omega) | (unfold mj_w; omega)) ?_)
        refine ih (s + 1) p' _ (by omega) (by omega) ((hf.trans f2).trans ((rd_f_up (Or.inr rfl) q7).trans (rd_f_up (Or.inl rfl) q4))) (by rw [w3]; exact g8) hp' (by rw [w3]; exact g3) (by rw [w3]; exact g4) (by rw [w2, mj_u_ne (by omega)]; exact ez) ?_ (by rw [w1, w2]; exact hT)
        rw [w1]
        intro j hj
        unfold mj_u
        split
        · omega
        · exact hso j hj
      simp only [ab_in] at hT
      refine mj_go z_R_takeInputs [2, 53] 60 ?_
      refine And.intro h0 (Exists.intro _ (And.intro r7 ?_))
      refine And.intro hN.1 ?_
      rw [e10]
      refine And.intro (fun c => ?_) (fun c => ?_)
      · simp (disch := (clear c; omega)) only [mj_w_id] at c
        omega
      · refine And.intro h0 ?_
        rw [ebin]
        by_cases hbin : bin = true
        · rw [if_pos hbin] at hT ⊢
          refine And.intro (fun d => ?_) (fun d => ?_)
          · exact absurd d (by decide)
          · refine And.intro h0 (Exists.intro _ (And.intro r7 ?_))
            refine Exists.intro ((2 * (s : Int))) (And.intro (by first | (rw [mj_w_id (by omega) (by omega)]; done) | (rw [mj_w_id (by omega) (by omega)]; omega) | (unfold mj_w; omega)) ?_)
            refine And.intro hN.1 (And.intro (Nat.le_of_ble_eq_true rfl) (And.intro (Nat.le_of_ble_eq_true rfl) (And.intro (Nat.le_of_ble_eq_true rfl) (Exists.intro _ (And.intro (ct_N_place hN (by omega) (by omega) (by omega)) ?_)))))
            rintro r9 sh9 FR9 IA9 LA9 n9 ⟨z0, z1, z2, z3, z4, z5⟩
            subst z0
            replace z1 := z1.symm
            subst z1
            replace z2 := z2.symm
            subst z2
            replace z3 := z3.symm
            subst z3
            replace z4 := z4.symm
            subst z4
            replace z5 := z5.symm
            subst z5
            refine And.intro (Or.inl rfl) ?_
            refine step (2 * (s : Int)) p J rd_f.refl hp2 (by omega) (by omega) rfl rfl hp e1 e2 ?_
            rw [show (2 * (s : Int) / 2).toNat = s by omega]
            exact hT
        · rw [if_neg hbin] at hT ⊢
          refine And.intro (fun d => ?_) (fun d => ?_)
          · refine And.intro h0 (And.intro (Nat.le_of_ble_eq_true rfl) (And.intro (Nat.le_of_ble_eq_true rfl) (And.intro (Nat.le_of_ble_eq_true rfl) (Exists.intro _ (And.intro (ct_R_takeLine hR (cnt := 1) (code := 5) (by decide) hp (by omega) (by omega) (by omega)) ?_)))))
            rintro r9 sh9 FR9 IA9 LA9 n9 ⟨z0, z1, z2, z3, z4, z5⟩
            subst z0
            replace z1 := z1.symm
            subst z1
            replace z2 := z2.symm
            subst z2
            replace z3 := z3.symm
            subst z3
            replace z4 := z4.symm
            subst z4
            replace z5 := z5.symm
            subst z5
            refine And.intro (Or.inl rfl) ?_
            have hlp := rd_ln_lp (r := r) (code := 5) (cnt := 1) hp
            generalize (rd_ln r 5 1 1 0 J).2 = J2 at *
            generalize (rd_ln r 5 1 1 0 J).1 = ok at *
            obtain ⟨l1, l2, l3, l4, l5⟩ := hlp
            have f2 : rd_f J J2 r (rd_S2 b) := ⟨fun q a b c _ => l2 q a b c, l3⟩
            rw [hby] at l1 l4 l5
            cases ok with
            | false =>
              rw [← l1, if_neg (by decide)] at hT
              subst hT
              refine And.intro (fun x => ?_) (fun x => ?_)
              · exact ⟨Or.inl rfl, ⟨rfl, rfl, rfl, rfl, hf.trans f2, (by rw [l2 _ q7 q8 q9]; exact ez), rfl, (l5 rfl).1, (l5 rfl).2⟩, Nat.le_of_ble_eq_true rfl, Nat.le_of_ble_eq_true rfl⟩
              · exact absurd (by decide) x
            | true =>
              rw [← l1, if_pos rfl] at hT
              have ln := ab_L_n (j := 0) l1.symm
              have le := ab_L_e (cnt := 1) (rd_by_en hlen) hp2
              obtain ⟨l6, l7, l8, l9⟩ := l4 rfl
              obtain ⟨l6, l10⟩ := l6 0 (by decide)
              have ls : (ab_L (rd_by IA r) 1 p).2.2.2 0 = (p : Int) := by
                show (ab_ln (rd_by IA r) 1 1 0 p (fun _ => 0) (fun _ => 0)).2.2.2 0 = (p : Int)
                simp only [ab_ln]
                split <;> rfl
              rw [ls] at l10
              generalize (ab_L (rd_by IA r) 1 p).2.2.1 0 = v at *
              generalize (ab_L (rd_by IA r) 1 p).2.1 = p' at *
              have k1 : J2 (b + 1) = J (b + 1) := l2 _ q4 q5 q6
              have k9 : J2 b 9 = (m : Int) := by rw [l2 b q1 q2 q3]; exact e9
              refine And.intro (fun x => ?_) (fun x => ?_)
              · exact absurd x (by decide)
              · refine And.intro h0 (And.intro (Nat.le_of_ble_eq_true rfl) (And.intro (Nat.le_of_ble_eq_true rfl) (And.intro (Nat.le_of_ble_eq_true rfl) (Exists.intro _ (And.intro (ct_R_takeOwn hR hN (by omega) (by omega) (by omega) (by omega) (by omega) (by rw [k1]; exact hso)) ?_)))))
                rintro r9 sh9 FR9 IA9 LA9 n9 ⟨z0, z1, z2, z3, z4, z5⟩
                subst z0
                replace z1 := z1.symm
                subst z1
                replace z2 := z2.symm
                subst z2
                replace z3 := z3.symm
                subst z3
                replace z4 := z4.symm
                subst z4
                replace z5 := z5.symm
                subst z5
                refine And.intro (Or.inl rfl) ?_
                by_cases hfr : ab_fr m (J (b + 1)) v
                · rw [if_pos hfr] at hT
                  rw [if_pos (show (0 ≤ J2 (r + 2) 0 ∧ J2 (r + 2) 0 ≤ 2 * J2 b 9 + 1) ∧ J2 (r + 2) 0 % 2 = 0 ∧ J2 (b + 1) (J2 (r + 2) 0 / 2).toNat = -1 by rw [l6, k9, k1]; exact ⟨⟨ln.1, hfr.1⟩, hfr.2⟩), if_pos (show (0 ≤ J2 (r + 2) 0 ∧ J2 (r + 2) 0 ≤ 2 * J2 b 9 + 1) ∧ J2 (r + 2) 0 % 2 = 0 ∧ J2 (b + 1) (J2 (r + 2) 0 / 2).toNat = -1 by rw [l6, k9, k1]; exact ⟨⟨ln.1, hfr.1⟩, hfr.2⟩)]
                  refine And.intro (fun y => ?_) (fun y => ?_)
                  · rw [l6]
                    exact step v p' J2 f2 le ln.1 (by have := hfr.1; omega) k1 (l2 _ q7 q8 q9) l7 (l8.trans e1) (l9.trans e2) hT
                  · exact absurd (by decide) y
                · rw [if_neg hfr] at hT
                  subst hT
                  have hno : ¬ ((0 ≤ J2 (r + 2) 0 ∧ J2 (r + 2) 0 ≤ 2 * J2 b 9 + 1) ∧ J2 (r + 2) 0 % 2 = 0 ∧ J2 (b + 1) (J2 (r + 2) 0 / 2).toNat = -1) := by
                    rw [l6, k9, k1]
                    exact fun z => hfr ⟨z.1.2, z.2⟩
                  rw [if_neg hno, if_neg hno]
                  refine And.intro (fun y => ?_) (fun y => ?_)
                  · exact absurd y (by decide)
                  · exact ⟨Or.inl rfl, ⟨rfl, rfl, rfl, rfl, hf.trans (f2.trans ((rd_f_r (Or.inl rfl)).trans (rd_f_r (Or.inr (Or.inl rfl))))), (by rw [mj_up_ne q7, mj_up_ne q7, l2 _ q7 q8 q9]; exact ez), rfl, (by rw [mj_up_k (by decide), mj_up_at]), (by rw [mj_up_at]; exact l10)⟩, Nat.le_of_ble_eq_true rfl, Nat.le_of_ble_eq_true rfl⟩
          · exact absurd (by decide) d
  refine mj_Ct_of (by decide +kernel) (by decide) (Nat.le_of_ble_eq_true rfl) ?_
  refine mj_go z_R_takeInputs [2] 60 ?_
  exact loop I 1 p IA (by omega) (by omega) rd_f.refl hp hp2 rfl rfl rfl hso hT
end RR
