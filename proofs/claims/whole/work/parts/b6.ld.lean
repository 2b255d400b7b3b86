/-! THE LAW: load on both sides, whole -/
/-- the circuit that was loaded -/
theorem ld_new {JJ IA1 J2 IA2 : mj_FI} {LA LA2 K1 K : mj_LA} {n c b3 m I O G : Nat} {od pl : List Nat} {D : Nat → Int} (hn : n < 2) (hc : c = 1 ∨ c = 15) (hb3 : b3 = 2 ∨ b3 = 16 ∨ b3 = 36) (hA : nA JJ b3 m I O G od) (hq : se_q JJ LA c b3 I od (.inl none) IA1 LA2) (hz : ∀ j, j < 256 → LA (c + 10) j = 0#64) (hj1 : JJ c 1 = 0) (hj2 : JJ c 2 = 0) (hK1 : ∀ q, q ≠ 77 → K1 q = LA2 q)
    (hd : md_d (mj_up IA1 52 0 0) J2) (hr : md_rr J2) (hN : mN J2 2 m I O G (JJ (b3 + 1)) (JJ (b3 + 2)) (JJ (b3 + 3)) (JJ (b3 + 4)) (JJ (b3 + 5))) (hma : ma_I (mRow I (JJ (b3 + 1)) (JJ (b3 + 3))) (mRow I (JJ (b3 + 1)) (JJ (b3 + 4))) G D pl) (hlen : (mo_d D G G).length = G) (h67 : ∀ r, r < 315 → J2 67 (630 + r) = D r) (h68 : ∀ (i s : Nat), (mo_d D G G)[i]? = some s → J2 68 (600 + i) = (s : Int)) (hDs : ∀ s, nS I G s → D (rN I s) = JJ (b3 + 6) s)
    (ht : tk (ml_s J2 n 0 0) IA2 n 14 16 300 1001 315) (hf : mf_q IA2 K1 n I G (mRow I (JJ (b3 + 1)) (JJ (b3 + 3))) (mRow I (JJ (b3 + 1)) (JJ (b3 + 4))) (.inl none) IA2 K) (hz0 : ∀ w, w < 256 → M_rw K1 n 0 w = 0#64) : ∃ ld, cp IA2 K n c b3 m I O G od ld := by
  obtain ⟨ld, hS1⟩ := se_q.cS hq hA (by unfold C_ap; omega) hz
  refine ⟨ld, ?_⟩
  obtain ⟨_, hsf, _⟩ := hq
  obtain ⟨g1, _, _, _, _, _, _, _, _, g10, g11, _⟩ := ml_good hn hd hr ht
  obtain ⟨t1, t2, t3, t4, t5, t6, t7, t8, t9, t10⟩ := ht
  obtain ⟨_, _, ff, fi, fg⟩ := hf
  have ms : ∀ q, q ≠ 52 → q ≠ 59 → q ≠ 60 → ml_s J2 n 0 0 q = J2 q := fun q h1 h2 h3 => ml_s_o h1 h2 h3
  have eK : ∀ q, q ≠ 69 → q ≠ 77 → K q = LA2 q := fun q h1 h2 => by rw [ff.1 q h1, hK1 q h2]
  have e12 : ∀ q, q < 52 → IA2 q = IA1 q := g1
  have eb : ∀ k, k ≤ 8 → IA2 (b3 + k) = JJ (b3 + k) := fun k hk => by rw [e12 _ (by omega), hsf.1 _ (by omega) (by omega) (by omega)]
  have eb1 : ∀ k, k ≤ 8 → IA2 (b3 + k) = IA1 (b3 + k) := fun k hk => e12 _ (by omega)
  have eb0 : IA2 b3 = IA1 b3 := eb1 0 (by decide)
  have ec0 : IA2 c = IA1 c := e12 c (by omega)
  rw [← eb 1 (by decide), ← eb 2 (by decide), ← eb 3 (by decide), ← eb 4 (by decide), ← eb 5 (by decide)] at hN
  rw [← eb 1 (by decide), ← eb 3 (by decide), ← eb 4 (by decide)] at hma fg
  rw [← eb 6 (by decide)] at hDs
  have hS : cS IA2 K c b3 m I O G od ld := cS_mv hS1 (fun k _ => by rw [eb0]) (fun k _ h2 => eb1 k (by omega)) (by rw [ec0]) (by rw [ec0]) (e12 _ (by omega)) (e12 _ (by omega)) (by rw [eK c (by omega) (by omega)]) (eK _ (by omega) (by omega)) (eK _ (by omega) (by omega))
  have hW := hS.1.1
  have hI := hW.2.1
  have hG := hW.2.2.2.1
  have hO := hW.2.2.1
  have hX : ∀ k, k < G → mRow I (IA2 (b3 + 1)) (IA2 (b3 + 3)) k = rN I (nF (IA2 (b3 + 1)) (IA2 (b3 + 3)) (I + 1 + k)) ∧ mRow I (IA2 (b3 + 1)) (IA2 (b3 + 4)) k = rN I (nF (IA2 (b3 + 1)) (IA2 (b3 + 4)) (I + 1 + k)) := fun k hk => by
    obtain ⟨⟨a1, a2, a3, a4⟩, d1, d2, d3, d4⟩ := hW.fan hS.1.2.1 (s := I + 1 + k) ⟨by omega, by omega⟩
    refine ⟨?_, ?_⟩
    · unfold mRow
      rw [a3, rho_N]
      omega
    · unfold mRow
      rw [d3, rho_N]
      omega
  obtain ⟨n1, n2, n3, n4, n5, n6, n7, n8⟩ := hN
  have r67 : ∀ r, r < 315 → IA2 67 (315 * n + r) = D r := fun r hr2 => by rw [t10, cpr_at hr2, ms 67 (by decide) (by decide) (by decide), h67 r hr2]
  have r62 : ∀ i, i < G → IA2 62 (300 * n + i) = IA2 (b3 + 2) (I + 1 + i) ∧ IA2 63 (300 * n + i) = IA2 (b3 + 3) (I + 1 + i) ∧ IA2 64 (300 * n + i) = IA2 (b3 + 4) (I + 1 + i) := fun i hi => by
    rw [t5, t6, t7, cpr_at (by omega), cpr_at (by omega), cpr_at (by omega), ms 62 (by decide) (by decide) (by decide), ms 63 (by decide) (by decide) (by decide), ms 64 (by decide) (by decide) (by decide)]
    exact n7 i hi
  have hT : cpT K n c I G := by
    refine hS.1.ind (fun s hs w hw => ?_) (fun s hs l1 r1 hl hr2 w hw => ?_)
    · have hw2 := (C_W_le hI).2
      rw [rN_i hs]
      rcases Nat.eq_zero_or_pos s with z | z
      · subst z
        rw [hS.2.2.2.1.1 w hw, M_rw_at, ff.2 _ (by omega), ← M_rw_at (LA := K1)]
        exact hz0 w (by omega)
      · have h1 := fi (s - 1) (by omega) w hw
        have h2 := hS.2.2.2.1.2.1 (s - 1) (by omega) w hw
        rw [show 1 + (s - 1) = s by omega] at h1 h2
        rw [h1, h2]
    · have e := hs
      unfold lf_g at e
      have es : I + 1 + (s - I - 1) = s := by omega
      have er : rN I s = 15 + (s - I - 1) := by unfold rN; rw [if_neg (by omega)]
      have h1 := fg (s - I - 1) (by omega) w hw
      have h2 := hX (s - I - 1) (by omega)
      have h3 := r62 (s - I - 1) (by omega)
      rw [es] at h2 h3
      rw [h2.1, h2.2, h3.2.1, h3.2.2, lw_of hS l1 hw (hl w hw), lw_of hS r1 hw (hr2 w hw)] at h1
      rw [er, h1, hS.2.2.2.1.2.2 s ((hS.1.od.2.2 s).mpr hs) w hw]
      rfl
  refine ⟨hS, ⟨?_, ?_, ?_, ?_, ⟨?_, fun j j1 j2 => ?_⟩, fun k hk => ?_, r62, fun k hk => ?_⟩, fun s hs => ?_, ⟨mo_d D G G, ⟨hlen, mo_d_nd G, fun k hk => (mo_d_mem.mp hk).1⟩, fun i s hi => ?_, (mo_d_pw G).imp_of_mem (fun {a d} ha hd2 q => ?_)⟩, hT, fun r hr2 => ?_, ?_, ?_⟩
  · rw [t2 55 (by decide) (by decide), mj_u_at, ms 55 (by decide) (by decide) (by decide)]
    exact n1
  · rw [t2 56 (by decide) (by decide), mj_u_at, ms 56 (by decide) (by decide) (by decide)]
    exact n2
  · rw [t2 57 (by decide) (by decide), mj_u_at, ms 57 (by decide) (by decide) (by decide)]
    exact n3
  · rw [t2 58 (by decide) (by decide), mj_u_at, ms 58 (by decide) (by decide) (by decide)]
    exact n4
  · have := cpr_at (f := ml_s J2 n 0 0 66) (a := 1001 * n) (b := 2002) (i := 1001) (k := 0) (by decide)
    rw [Nat.add_zero, Nat.add_zero] at this
    rw [t9, this, ms 66 (by decide) (by decide) (by decide)]
    exact n5.1
  · rw [t9, cpr_at (by omega), ms 66 (by decide) (by decide) (by decide)]
    exact n5.2 j j1 j2
  · rw [t3, cpr_at (by omega), ms 61 (by decide) (by decide) (by decide)]
    exact n6 k hk
  · rw [t4, cpr_at (by omega), ms 65 (by decide) (by decide) (by decide)]
    exact n8 k hk
  · rw [r67 _ (rN_lt hI hG hs), hDs s hs]
  · have : i < (mo_d D G G).length := by
      apply Classical.byContradiction
      intro z
      rw [List.getElem?_eq_none (by omega)] at hi
      cases hi
    rw [t8, cpr_at (by omega), ms 68 (by decide) (by decide) (by decide), h68 i s hi]
  · have a1 := (mo_d_mem.mp ha).1
    have a2 := (mo_d_mem.mp hd2).1
    rw [r67 _ (by omega), r67 _ (by omega)]
    exact q
  · rw [r67 r hr2]
    have h1 := hma.2.2.2.2.2 r hr2
    have h2 := hma.len
    omega
  · rw [g10, ec0, hsf.2.1 1 (by decide) (by decide), hj1]
  · rw [g11, ec0, hsf.2.1 2 (by decide) (by decide), hj2]
section LL
variable {sh : mj_Sh} {FR : mj_FR} {IA : mj_FI} {LA : mj_LA} {b1 b2 b3 : Nat}
theorem st_load_core (hI : Iv sh FR IA LA b1 b2 b3) {n c b n' c' b' m I O G m' I' O' G' : Nat} {od ld od' ld' : List Nat} {B1 B2 : Nat → Nat} (ht : tw_c b1 b2 (n : Int) c b) (hn : n < 2) (hn' : n' < 2) (hnn : n' ≠ n) (hcc : (c' = 1 ∧ c = 15) ∨ (c' = 15 ∧ c = 1)) (hb : b = 2 ∨ b = 16 ∨ b = 36) (hb' : b' = 2 ∨ b' = 16 ∨ b' = 36) (h3 : b ≠ b3) (h3' : b' ≠ b3) (hbb' : b ≠ b') (h : cp IA LA n c b m I O G od ld) (h' : cp IA LA n' c' b' m' I' O' G' od' ld') (eB : B1 b = b1 ∧ B2 b = b2) (hsw : isTw sh (mj_up (mj_up FR 29 7 (.inl b)) c 0 (.inl b3)) 78 (B1 b3) (B2 b3) b)
    (mkS : ∀ (J : mj_FI) (K : mj_LA) (q : Nat), (∃ m I O G od ld, cp J K n c q m I O G od ld) → (∃ m I O G od ld, cp J K n' c' b' m I O G od ld) → (∃ m I O G od ld, cp J K 0 1 (B1 q) m I O G od ld) ∧ (∃ m I O G od ld, cp J K 1 15 (B2 q) m I O G od ld)) : lwC sh FR IA LA m_L_load m_M_load [.inr (.inr (.inl 0)), .inl (n : Int), .inr (.inr (.inl 77))] [.inr (.inr (.inl 52)), .inl (n : Int)] (lwF sh) := by
  obtain ⟨⟨l1, t1, t2, t3, t4⟩, hbt, ⟨l2, u1, u2, u3, u4⟩, hr, h0, hz, hz0, _, _⟩ := id hI.2.2.2
  have hbb := hI.1.bb
  have hb3 : b3 = 2 ∨ b3 = 16 ∨ b3 = 36 := hbb.2.2.1
  have hrow := h.1.2.2.2.2.2
  refine ⟨_, ct_L_load hI.t0 hI.a7 (ct_T_load hI.1 ht t2 t1 hz hrow) (fun o s f i l k hq => ?_), ?_⟩
  · obtain ⟨q1, q2, J1, _, _, _, q3, _⟩ := hq
    exact ⟨q1, q2, Or.inl ⟨_, q3⟩⟩
  · rintro o sh1 FR1 IA1 LA1 n1 (⟨z, LA2, e1, hq, e2⟩ | ⟨e, hq, e1⟩)
    · obtain ⟨q1, q2, J1, r1, r2, r3, r4, r5⟩ := hq
      subst q1 q2 e1 e2
      cases r4
      have j1q : ∀ q, (q < 29 ∨ 35 < q) → (q < b3 ∨ b3 + 8 < q) → J1 q = IA q := fun q w1 w2 => r1.1 q (by omega) w2
      have jj : ∀ q, q ≠ c → mj_up (mj_up J1 c 1 (J1 29 1)) c 2 (J1 29 2) q = J1 q := fun q hq => by rw [mj_up_ne hq, mj_up_ne hq]
      have jc : ∀ k, k ≠ 1 → k ≠ 2 → mj_up (mj_up J1 c 1 (J1 29 1)) c 2 (J1 29 2) c k = J1 c k := fun k w1 w2 => by rw [mj_up_k w2, mj_up_k w1]
      have jc1 : mj_up (mj_up J1 c 1 (J1 29 1)) c 2 (J1 29 2) c 1 = J1 29 1 := by rw [mj_up_k (by decide), mj_up_at]
      have jc2 : mj_up (mj_up J1 c 1 (J1 29 1)) c 2 (J1 29 2) c 2 = J1 29 2 := by rw [mj_up_at]
      generalize hJJ : mj_up (mj_up J1 c 1 (J1 29 1)) c 2 (J1 29 2) = JJ at r5 jj jc jc1 jc2
      -- what the class may have changed
      have cq : ∀ q, (q < 29 ∨ 35 < q) → (q < b3 ∨ b3 + 8 < q) → q ≠ c → q ≠ c + 12 → q ≠ c + 13 → IA1 q = IA q := fun q w1 w2 w3 w4 w5 => by
        rcases r5 with ⟨_, _, _, e⟩ | ⟨_, _, m2, I2, O2, G2, od2, _, hse⟩
        · rw [e, jj q w3, j1q q w1 w2]
        · rw [hse.2.1.1 q w3 w4 w5, jj q w3, j1q q w1 w2]
      have c29 : IA1 29 0 = 0 := by
        rcases r5 with ⟨_, _, _, e⟩ | ⟨_, _, m2, I2, O2, G2, od2, _, hse⟩
        · rw [e, jj 29 (by omega), r2]
        · rw [hse.2.1.1 29 (by omega) (by omega) (by omega), jj 29 (by omega), r2]
      have lq : ∀ q, q ≠ c → q ≠ c + 10 → q ≠ c + 11 → LA2 q = LA q := fun q w1 w2 w3 => by
        rcases r5 with ⟨_, _, e, _⟩ | ⟨_, _, m2, I2, O2, G2, od2, _, hse⟩
        · rw [e]
        · exact hse.2.1.2.2.1 q w1 w2 w3
      have fq : FR1 52 = FR 52 := by
        rcases r5 with ⟨_, e, _⟩ | ⟨_, e, _⟩
        · rw [e]
        · rw [e, mj_up_ne (by omega), mj_up_ne (by omega)]
      have hi : ∀ q, 52 ≤ q → IA1 q = IA q := fun q hq => cq q (by omega) (by omega) (by omega) (by omega) (by omega)
      have eby : md_by IA1 = rd_by IA 29 := by rw [← rd_md t2 t3 t4, md_by_eq (J' := IA1) (J := IA) (by rw [hi 52 (by omega)]) (hi 53 (by omega))]
      refine ⟨rfl, rfl, 0, rfl, ⟨by omega, by omega⟩, _, ct_M_load (c := n) (f := IA (b3 + 1)) (ow := IA (b3 + 2)) (le := IA (b3 + 3)) (ri := IA (b3 + 4)) (ou := IA (b3 + 5)) (isM_FR hI.2.1 fq) hn (by rw [hi 52 (by omega)]; exact t3) t1 (fun j => by rw [hi 53 (by omega)]; exact hbt j) (fun j hj => by rw [hi 66 (by omega)]; exact hr j hj) (by rw [hi 66 (by omega)]; exact h0), fun o2 sh2 FR2 IA2 LA3 n2 hm2 => ?_⟩
      obtain ⟨s1, s2, s3, J2, d1, d2, d3, d4, d5⟩ := hm2
      subst s1 s2 s3
      rw [eby] at d3 d5
      generalize hR : ab_rd (rd_by IA 29) l1 (ab_s0 (IA (b3 + 1))) (IA (b3 + 2)) (IA (b3 + 3)) (IA (b3 + 4)) (IA (b3 + 5)) = R at r3 d3 d5
      -- the two readings agree
      have key : (¬ J1 29 1 = 0 ∧ J2 52 21 = J1 29 1 ∧ J2 52 22 = J1 29 2) ∨ (∃ C : ab_C, R = .inr C ∧ J1 29 1 = 0 ∧ J1 29 2 = 0 ∧ J2 52 21 = 0 ∧ nW J1 b3 C.1.1 C.1.2.1 C.1.2.2.1 C.1.2.2.2 ∧ (J1 (b3 + 1) = C.2.1 ∧ J1 (b3 + 2) = C.2.2.1 ∧ J1 (b3 + 3) = C.2.2.2.1 ∧ J1 (b3 + 4) = C.2.2.2.2.1 ∧ J1 (b3 + 5) = C.2.2.2.2.2) ∧ mN J2 2 C.1.1 C.1.2.1 C.1.2.2.1 C.1.2.2.2 C.2.1 C.2.2.1 C.2.2.2.1 C.2.2.2.2.1 C.2.2.2.2.2 ∧
          ∃ (D : Nat → Int) (pl : List Nat), ma_I (mRow C.1.2.1 C.2.1 C.2.2.2.1) (mRow C.1.2.1 C.2.1 C.2.2.2.2.1) C.1.2.2.2 D pl ∧ (mo_d D C.1.2.2.2 C.1.2.2.2).length = C.1.2.2.2 ∧ (∀ r, r < 315 → J2 67 (630 + r) = D r) ∧ (∀ (i s : Nat), (mo_d D C.1.2.2.2 C.1.2.2.2)[i]? = some s → J2 68 (600 + i) = (s : Int)) ∧ ∀ s, nS C.1.2.1 C.1.2.2.2 s → D (rN C.1.2.1 s) = J1 (b3 + 6) s) := by
        cases R with
        | inl e =>
          have he := ab_rd_er hR
          have w1 : J1 29 1 = e.1 ∧ J1 29 2 = e.2 := r3
          have w2 : J2 52 21 = e.1 ∧ J2 52 22 = e.2 := d3
          exact Or.inl ⟨by omega, by rw [w2.1, w1.1], by rw [w2.2, w1.2]⟩
        | inr C =>
          obtain ⟨w1, w2, w3, w4, w5, w6, w7⟩ := r3
          obtain ⟨v1, v2⟩ := d3
          rcases ld_eq w1 w2 w3 w4 w5 w6 w7 v2 with q | ⟨q1, q2, q3, _, D, pl, q4, q5, q6, q7, q8⟩
          · exact Or.inl q
          · exact Or.inr ⟨C, rfl, q1, q2, q3, w1, ⟨w2, w3, w4, w5, w6⟩, v1, D, pl, q4, q5, q6, q7, q8⟩
      rcases key with ⟨k1, k2, k3⟩ | ⟨C, kR, k1, k2, k3, kW, ⟨x1, x2, x3, x4, x5⟩, kN, D, pl, y1, y2, y3, y4, y5⟩
      · rcases r5 with ⟨_, f1, f2, f3⟩ | ⟨f1, _⟩
        · rcases d5 with ⟨_, g1, g2⟩ | ⟨g1, _⟩
          · subst f1 f2 f3 g1 g2
            obtain ⟨m1, m2, m3, m4, m5, m6, m7, m8, m9, m10, m11, m12⟩ := ml_bad (n := n) d1 d2 (J2 52 21) (J2 52 22)
            generalize ml_s J2 n (J2 52 21) (J2 52 22) = F at *
            have Fq : ∀ q, q < 52 → (q < 29 ∨ 35 < q) → (q < b3 ∨ b3 + 8 < q) → q ≠ c → F q = IA q := fun q w0 w1 w2 w3 => by rw [m1 q w0, jj q w3, j1q q w1 w2]
            have Fc : ∀ k, k ≠ 1 → k ≠ 2 → F c k = IA c k := fun k w1 w2 => by rw [m1 c (by omega), jc k w1 w2, j1q c (by omega) (by omega)]
            have Fh : ∀ q, 52 ≤ q → IA1 q = IA q := hi
            have hcpn : cp F (mj_up LA2 77 0 (BitVec.ofInt 64 (mj_w (J1 29 1)))) n c b m I O G od ld := by
              have b0 : F b = IA b := Fq b (by omega) (by omega) (by omega) (by omega)
              refine cp_mv h (fun k _ => by rw [b0]) (fun k w1 w2 => Fq _ (by omega) (by omega) (by omega) (by omega)) ?_ ?_ (Fc 3 (by decide) (by decide)) (Fc 8 (by decide) (by decide)) (Fq _ (by omega) (by omega) (by omega) (by omega)) (Fq _ (by omega) (by omega) (by omega) (by omega)) (by rw [up77 c (by omega)]) (up77 _ (by omega)) (up77 _ (by omega)) (fun q j hq w1 w2 => ?_) (fun j _ _ => by rw [up77 69 (by decide)])
              · rw [m10, m1 c (by omega), jc1, k2]
              · rw [m11, m1 c (by omega), jc2, k3]
              · rw [m9 n q j hn hq w1 w2, Fh q (by unfold mcl at hq; omega)]
            have hcpo : cp F (mj_up LA2 77 0 (BitVec.ofInt 64 (mj_w (J1 29 1)))) n' c' b' m' I' O' G' od' ld' := cp_ot (c' := c) (b3 := b3) h' (by omega) hb' hb3 h3' (fun q w0 w1 w2 w3 _ _ => Fq q w0 w1 w2 w3) (fun q _ _ _ _ w5 => up77 q w5) (by rw [(m12 n' hnn).1, Fh 59 (by omega)]) (by rw [(m12 n' hnn).2, Fh 60 (by omega)]) (fun q j hq w1 w2 => by rw [m9 n' q j hn' hq w1 w2, Fh q (by unfold mcl at hq; omega)]) (fun j _ _ => by rw [up77 69 (by decide)])
            have hmk := mkS F (mj_up LA2 77 0 (BitVec.ofInt 64 (mj_w (J1 29 1)))) b ⟨_, _, _, _, _, _, hcpn⟩ ⟨_, _, _, _, _, _, hcpo⟩
            rw [eB.1, eB.2] at hmk
            refine ⟨rfl, rfl, J2 52 21, d4, ⟨b1, b2, b3, hI.1, hI.2.1, hI.2.2.1, ⟨0, by omega, ?_, ?_, fun j hj => by omega⟩, fun j => ?_, ⟨l2, u1, ?_, ?_, fun j hj => ?_⟩, m7, ?_, ?_, M_z0_fr hz0 (up77 69 (by decide)), hmk.1, hmk.2⟩, m6, fun _ => by rw [up77_at, k2]⟩
            · rw [m1 29 (by omega)]
              exact c29
            · rw [m4]
              rfl
            · rw [m2, Fh 53 (by omega)]
              exact hbt j
            · rw [Fq 45 (by omega) (by omega) (by omega) (by omega)]
              exact u2
            · rw [m5, Fh 52 (by omega)]
              exact u3
            · rw [m3, Fh 54 (by omega), Fq 46 (by omega) (by omega) (by omega) (by omega)]
              exact u4 j hj
            · rw [m8, Fh 66 (by omega)]
              exact h0
            · rw [m1 (b3 + 2) (by omega), jj (b3 + 2) (by omega), r1.2.2]
              exact hz
          · rw [k2] at g1
            exact absurd g1 k1
        · exact absurd f1 k1
      · rcases r5 with ⟨f1, _⟩ | ⟨_, f1, M1, I1, O1, G1, od1, hA, hse⟩
        · exact absurd k1 f1
        · rcases d5 with ⟨g1, _⟩ | ⟨_, C', g0, g1, g2⟩
          · omega
          · rw [kR] at g0
            cases g0
            -- the sizes are the same
            have eb0 : JJ b3 = J1 b3 := jj b3 (by omega)
            have z1 := hA.1.2.2.2.2.2.1
            have z2 := hA.1.2.2.2.2.2.2.1
            have z3 := hA.1.2.2.2.2.2.2.2.1
            have z4 := hA.1.2.2.2.2.2.2.2.2.1
            rw [eb0] at z1 z2 z3 z4
            have y6 := kW.2.2.2.2.2.1
            have y7 := kW.2.2.2.2.2.2.1
            have y8 := kW.2.2.2.2.2.2.2.1
            have y9 := kW.2.2.2.2.2.2.2.2.1
            have s1 : C.1.1 = M1 := by omega
            have s2 : C.1.2.1 = I1 := by omega
            have s3 : C.1.2.2.2 = G1 := by omega
            have s4 : C.1.2.2.1 = O1 := by omega
            have ej : ∀ k, 1 ≤ k → k ≤ 8 → JJ (b3 + k) = J1 (b3 + k) := fun k w1 w2 => jj _ (by omega)
            rw [s1, s2, s3, s4, ← x1, ← x2, ← x3, ← x4, ← x5, ← ej 1 (by decide) (by decide), ← ej 2 (by decide) (by decide), ← ej 3 (by decide) (by decide), ← ej 4 (by decide) (by decide), ← ej 5 (by decide) (by decide)] at kN
            rw [s2, s3, ← x1, ← x3, ← x4, ← ej 1 (by decide) (by decide), ← ej 3 (by decide) (by decide), ← ej 4 (by decide) (by decide)] at y1 g2
            rw [s3] at y2 y4
            rw [s2, s3, ← ej 6 (by decide) (by decide)] at y5
            have hgood := ml_good hn d1 d2 g1
            obtain ⟨ld1, hnew⟩ := ld_new (K1 := mj_up LA2 77 0 (BitVec.ofInt 64 (mj_w (J1 29 1)))) hn (by omega) hb3 hA hse hrow (by rw [jc1, k1]) (by rw [jc2, k2]) up77 d1 d2 kN y1 y2 y3 y4 y5 g1 g2 (fun w hw => by
              rw [M_rw_at, up77 69 (by decide), lq 69 (by omega) (by omega) (by omega), ← M_rw_at (LA := LA)]
              exact hz0 n hn w hw)
            obtain ⟨m1, m2, m3, m4, m5, m6, m7, m8, m9, m10, m11, m12⟩ := hgood
            have ff := g2.2.2.1
            have Fq : ∀ q, q < 52 → (q < 29 ∨ 35 < q) → (q < b3 ∨ b3 + 8 < q) → q ≠ c → q ≠ c + 12 → q ≠ c + 13 → IA2 q = IA q := fun q w0 w1 w2 w3 w4 w5 => by rw [m1 q w0, cq q w1 w2 w3 w4 w5]
            have Lq : ∀ q, q ≠ c → q ≠ c + 10 → q ≠ c + 11 → q ≠ 69 → q ≠ 77 → LA3 q = LA q := fun q w1 w2 w3 w4 w5 => by rw [ff.1 q w4, up77 q w5, lq q w1 w2 w3]
            have hcpo : cp IA2 LA3 n' c' b' m' I' O' G' od' ld' := cp_ot (c' := c) (b3 := b3) h' (by omega) hb' hb3 h3' Fq Lq (by rw [(m12 n' hnn).1, hi 59 (by omega)]) (by rw [(m12 n' hnn).2, hi 60 (by omega)]) (fun q j hq w1 w2 => by rw [m9 n' q j hn' hnn hq w1 w2, hi q (by unfold mcl at hq; omega)]) (fun j w1 w2 => by rw [ff.2 j (by omega), up77 69 (by decide), lq 69 (by omega) (by omega) (by omega)])
            have hmk := mkS IA2 LA3 b3 ⟨_, _, _, _, _, _, hnew⟩ ⟨_, _, _, _, _, _, hcpo⟩
            have l77 : LA3 77 0 = BitVec.ofInt 64 (mj_w (J1 29 1)) := by rw [ff.1 77 (by decide), up77_at]
            subst f1
            refine ⟨rfl, rfl, J2 52 21, d4, ⟨B1 b3, B2 b3, b, hsw, isM_FR hI.2.1 fq, hI.2.2.1, ⟨0, by omega, ?_, ?_, fun j hj => by omega⟩, fun j => ?_, ⟨l2, u1, ?_, ?_, fun j hj => ?_⟩, m7, ?_, ?_, fun y hy w hw => ?_, hmk.1, hmk.2⟩, m6, fun _ => by rw [l77, k1, k3]⟩
            · rw [m1 29 (by omega)]
              exact c29
            · rw [m4]
              rfl
            · rw [m2, hi 53 (by omega)]
              exact hbt j
            · rw [Fq 45 (by omega) (by omega) (by omega) (by omega) (by omega) (by omega)]
              exact u2
            · rw [m5, hi 52 (by omega)]
              exact u3
            · rw [m3, hi 54 (by omega), Fq 46 (by omega) (by omega) (by omega) (by omega) (by omega) (by omega)]
              exact u4 j hj
            · rw [m8, hi 66 (by omega)]
              exact h0
            · rw [Fq (b + 2) (by omega) (by omega) (by omega) (by omega) (by omega) (by omega)]
              exact h.1.1.2.2.2.2
            · rw [M_rw_at, ff.2 _ (by omega), up77 69 (by decide), lq 69 (by omega) (by omega) (by omega), ← M_rw_at (LA := LA)]
              exact hz0 y hy w hw
    · obtain ⟨q1, q2, J1, _, _, _, q3, _⟩ := hq
      cases q3
theorem st_load (hI : Iv sh FR IA LA b1 b2 b3) {x : Int} (ix : mj_i x) : lwC sh FR IA LA m_L_load m_M_load [.inr (.inr (.inl 0)), .inl x, .inr (.inr (.inl 77))] [.inr (.inr (.inl 52)), .inl x] (lwF sh) := by
  by_cases hx : x = 0 ∨ x = 1
  · obtain ⟨m1, I1, O1, G1, od1, ld1, k1⟩ := hI.2.2.2.2.2.2.2.2.2.2.1
    obtain ⟨m2, I2, O2, G2, od2, ld2, k2⟩ := hI.2.2.2.2.2.2.2.2.2.2.2
    have hbb := hI.1.bb
    unfold bb3 at hbb
    rcases hx with hx | hx
    · subst hx
      exact st_load_core (n := 0) (n' := 1) (B1 := fun q => q) (B2 := fun _ => b2) hI (Or.inl ⟨rfl, rfl, rfl⟩) (by decide) (by decide) (by decide) (Or.inr ⟨rfl, rfl⟩) hbb.1 hbb.2.1 (by omega) (by omega) (by omega) k1 k2 ⟨rfl, rfl⟩ (tw_sw0 hI.1) (fun J K q w1 w2 => ⟨w1, w2⟩)
    · subst hx
      exact st_load_core (n := 1) (n' := 0) (B1 := fun _ => b1) (B2 := fun q => q) hI (Or.inr ⟨rfl, rfl, rfl⟩) (by decide) (by decide) (by decide) (Or.inl ⟨rfl, rfl⟩) hbb.2.1 hbb.1 (by omega) (by omega) (by omega) k2 k1 ⟨rfl, rfl⟩ (tw_sw1 hI.1) (fun J K q w1 w2 => ⟨w2, w1⟩)
  · exact lw_bad hI (ct_L_load hI.t0 hI.a7 (ct_T_loadX hI.1 ix hx) (fun o s f i l k hq => ⟨(pu_q hq).1, (pu_q hq).2.2.2.2.1, Or.inr (pu_q hq).2.2.2.2.2⟩)) (ct_M_loadX hI.2.1 ix hx) rfl
end LL
