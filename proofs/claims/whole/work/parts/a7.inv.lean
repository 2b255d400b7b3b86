/-! THE TWO SIDES COUPLED: what holds between two calls -/
/-- the cells of circuit x in the reference -/
def mcl (x q j : Nat) : Prop := (55 ≤ q ∧ q ≤ 60 ∧ j = x) ∨ (q = 61 ∧ 14 * x ≤ j ∧ j < 14 * x + 14) ∨ ((q = 62 ∨ q = 63 ∨ q = 64 ∨ q = 68) ∧ 300 * x ≤ j ∧ j < 300 * x + 300) ∨ (q = 65 ∧ 16 * x ≤ j ∧ j < 16 * x + 16) ∨ (q = 66 ∧ 1001 * x ≤ j ∧ j < 1001 * x + 1001) ∨ (q = 67 ∧ 315 * x ≤ j ∧ j < 315 * x + 315)
theorem M_rw_at {LA : mj_LA} {x r w : Nat} : M_rw LA x r w = LA 69 ((315 * x + r) * 256 + w) := rfl
theorem cp_mv {IA J : mj_FI} {LA K : mj_LA} {x c b m I O G : Nat} {od ld : List Nat} (h : cp IA LA x c b m I O G od ld) (e0 : ∀ k, k ≠ 8 → J b k = IA b k) (e : ∀ k, 1 ≤ k → k ≤ 7 → J (b + k) = IA (b + k)) (c1 : J c 1 = J 59 x) (c2 : J c 2 = J 60 x) (c3 : J c 3 = IA c 3) (c8 : J c 8 = IA c 8) (c12 : J (c + 12) = IA (c + 12)) (c13 : J (c + 13) = IA (c + 13)) (l9 : K c 9 = LA c 9) (l10 : K (c + 10) = LA (c + 10)) (l11 : K (c + 11) = LA (c + 11))
    (hm : ∀ q j, mcl x q j → q ≠ 59 → q ≠ 60 → J q j = IA q j) (hl : ∀ j, 80640 * x ≤ j → j < 80640 * x + 80640 → K 69 j = LA 69 j) : cp J K x c b m I O G od ld := by
  obtain ⟨hS, hN, hD, hO, hT, hR, h1, h2⟩ := h
  obtain ⟨w1, w2, w3, w4, w5, w6, w7, w8, w9, V, wg, wo⟩ := hS.1.1
  obtain ⟨n1, n2, n3, n4, n5, n6, n7, n8⟩ := hN
  have g67 : ∀ r, r < 315 → J 67 (315 * x + r) = IA 67 (315 * x + r) := fun r hr => hm 67 _ (by unfold mcl; omega) (by decide) (by decide)
  refine ⟨cS_mv hS e0 e c3 c8 c12 c13 l9 l10 l11, ⟨?_, ?_, ?_, ?_, ⟨?_, fun j j1 j2 => ?_⟩, fun k hk => ?_, fun i hi => ⟨?_, ?_, ?_⟩, fun k hk => ?_⟩, fun s hs => ?_, ?_, fun s hs w hw => ?_, fun r hr => ?_, c1, c2⟩
  · rw [hm 55 x (by unfold mcl; omega) (by decide) (by decide), n1]
  · rw [hm 56 x (by unfold mcl; omega) (by decide) (by decide), n2]
  · rw [hm 57 x (by unfold mcl; omega) (by decide) (by decide), n3]
  · rw [hm 58 x (by unfold mcl; omega) (by decide) (by decide), n4]
  · rw [hm 66 (1001 * x) (by unfold mcl; omega) (by decide) (by decide), n5.1]
  · rw [hm 66 (1001 * x + j) (by unfold mcl; omega) (by decide) (by decide), n5.2 j j1 j2, e 1 (by decide) (by decide)]
  · rw [hm 61 (14 * x + k) (by unfold mcl; omega) (by decide) (by decide), n6 k hk, e 2 (by decide) (by decide)]
  · rw [hm 62 (300 * x + i) (by unfold mcl; omega) (by decide) (by decide), (n7 i hi).1, e 2 (by decide) (by decide)]
  · rw [hm 63 (300 * x + i) (by unfold mcl; omega) (by decide) (by decide), (n7 i hi).2.1, e 3 (by decide) (by decide)]
  · rw [hm 64 (300 * x + i) (by unfold mcl; omega) (by decide) (by decide), (n7 i hi).2.2, e 4 (by decide) (by decide)]
  · rw [hm 65 (16 * x + k) (by unfold mcl; omega) (by decide) (by decide), n8 k hk, e 5 (by decide) (by decide)]
  · rw [g67 _ (rN_lt w2 w4 hs), hD s hs, e 6 (by decide) (by decide)]
  · obtain ⟨om, ⟨o1, o2, o3⟩, o4, o5⟩ := hO
    refine ⟨om, ⟨o1, o2, o3⟩, fun i s hi => ?_, o5.imp_of_mem (fun {k j} hk hj q => ?_)⟩
    · have : i < om.length := by
        apply Classical.byContradiction
        intro z
        rw [List.getElem?_eq_none (by omega)] at hi
        cases hi
      rw [hm 68 (300 * x + i) (by unfold mcl; omega) (by decide) (by decide), o4 i s hi]
    · have a1 := o3 k hk
      have a2 := o3 j hj
      rw [g67 (15 + k) (by omega), g67 (15 + j) (by omega)]
      exact q
  · have h4 := rN_lt w2 w4 hs
    have h5 := (C_W_le w2).2
    rw [M_rw_at, hl _ (by omega) (by omega), ← M_rw_at (LA := LA), hT s hs w hw]
    unfold C_rw
    rw [l10]
  · rw [g67 r hr]
    exact hR r hr
def M_z0 (LA : mj_LA) : Prop := ∀ x, x < 2 → ∀ w, w < 256 → M_rw LA x 0 w = 0#64
/-- the contents, between two calls -/
def IvS (IA : mj_FI) (LA : mj_LA) (b1 b2 b3 : Nat) : Prop := (∃ len : Nat, len ≤ 8192 ∧ IA 29 0 = (len : Int) ∧ IA 52 2 = (len : Int) ∧ ∀ j, j < len → IA 53 j = IA 30 j) ∧ md_tb IA ∧ (∃ len : Nat, len ≤ 4096 ∧ IA 45 0 = (len : Int) ∧ IA 52 4 = (len : Int) ∧ ∀ j, j < len → IA 54 j = IA 46 j) ∧ M_rr IA ∧ IA 66 2002 = 0 ∧ IA (b3 + 2) 0 = 0 ∧ M_z0 LA ∧
  (∃ m I O G od ld, cp IA LA 0 1 b1 m I O G od ld) ∧ (∃ m I O G od ld, cp IA LA 1 15 b2 m I O G od ld)
def bb3 (b1 b2 b3 : Nat) : Prop := (b1 = 2 ∨ b1 = 16 ∨ b1 = 36) ∧ (b2 = 2 ∨ b2 = 16 ∨ b2 = 36) ∧ (b3 = 2 ∨ b3 = 16 ∨ b3 = 36) ∧ b1 ≠ b2 ∧ b1 ≠ b3 ∧ b2 ≠ b3
/-- all that holds between two calls -/
def Iv (sh : mj_Sh) (FR : mj_FR) (IA : mj_FI) (LA : mj_LA) (b1 b2 b3 : Nat) : Prop := isTw sh FR 78 b1 b2 b3 ∧ isM sh FR 78 ∧ mj_is sh 78 77 3 1 ∧ IvS IA LA b1 b2 b3
theorem isTw.bb {sh : mj_Sh} {FR : mj_FR} {n b1 b2 b3 : Nat} (h : isTw sh FR n b1 b2 b3) : bb3 b1 b2 b3 := h.2.2.2.2.2.2.2.2.2.2.2.2
/-- where neither circuit's cells change -/
theorem cp_fr {IA J : mj_FI} {LA K : mj_LA} {x c b m I O G : Nat} {od ld : List Nat} (h : cp IA LA x c b m I O G od ld) (hc : c = 1 ∨ c = 15) (hb : b = 2 ∨ b = 16 ∨ b = 36) (hJ : ∀ q, (q ≤ 28 ∨ (36 ≤ q ∧ q ≤ 44) ∨ (55 ≤ q ∧ q ≤ 68)) → J q = IA q) (hK : ∀ q, q ≠ 77 → K q = LA q) : cp J K x c b m I O G od ld := by
  have hcc : ∀ k, k ≤ 13 → J (c + k) = IA (c + k) := fun k hk => by
    refine hJ _ ?_
    omega
  have hbb : ∀ k, k ≤ 8 → J (b + k) = IA (b + k) := fun k hk => by
    refine hJ _ ?_
    omega
  have c0 : J c = IA c := hcc 0 (by decide)
  have b0 : J b = IA b := hbb 0 (by decide)
  refine cp_mv h (fun k _ => by rw [b0]) (fun k _ h2 => hbb k (by omega)) ?_ ?_ (by rw [c0]) (by rw [c0]) (hcc 12 (by decide)) (hcc 13 (by decide)) (by rw [hK c (by omega)]) (hK _ (by omega)) (hK _ (by omega)) (fun q j hq _ _ => ?_) (fun j _ _ => by rw [hK 69 (by decide)])
  · rw [c0, hJ 59 (by omega)]
    exact h.2.2.2.2.2.2.1
  · rw [c0, hJ 60 (by omega)]
    exact h.2.2.2.2.2.2.2
  · rw [hJ q (by unfold mcl at hq; omega)]
theorem M_z0_fr {LA K : mj_LA} (h : M_z0 LA) (hK : K 69 = LA 69) : M_z0 K := fun x hx w hw => by
  rw [M_rw_at, hK, ← M_rw_at (LA := LA)]
  exact h x hx w hw
/-- queries: the flag and the law's cell alone change -/
theorem IvS_q {IA : mj_FI} {LA K : mj_LA} {b1 b2 b3 : Nat} (h : IvS IA LA b1 b2 b3) (hb : bb3 b1 b2 b3) {t : Int} (hK : ∀ q, q ≠ 77 → K q = LA q) : IvS (mj_up IA 52 0 t) K b1 b2 b3 := by
  obtain ⟨⟨l1, t1, t2, t3, t4⟩, h2, ⟨l2, u1, u2, u3, u4⟩, h4, h5, h6, h7, ⟨m1, I1, O1, G1, od1, ld1, k1⟩, ⟨m2, I2, O2, G2, od2, ld2, k2⟩⟩ := h
  have ne : ∀ q, q ≠ 52 → mj_up IA 52 0 t q = IA q := fun q hq => mj_up_ne hq
  have n0 : ∀ k, k ≠ 0 → mj_up IA 52 0 t 52 k = IA 52 k := fun k hk => mj_up_k hk
  refine ⟨⟨l1, t1, by rw [ne 29 (by decide)]; exact t2, by rw [n0 2 (by decide)]; exact t3, by rw [ne 53 (by decide), ne 30 (by decide)]; exact t4⟩, ?_, ⟨l2, u1, by rw [ne 45 (by decide)]; exact u2, by rw [n0 4 (by decide)]; exact u3, by rw [ne 54 (by decide), ne 46 (by decide)]; exact u4⟩, h4.up, by rw [ne 66 (by decide)]; exact h5, ?_, M_z0_fr h7 (hK 69 (by decide)), ⟨m1, I1, O1, G1, od1, ld1, ?_⟩, ⟨m2, I2, O2, G2, od2, ld2, ?_⟩⟩
  · unfold md_tb
    rw [ne 53 (by decide)]
    exact h2
  · unfold bb3 at hb
    rw [ne (b3 + 2) (by omega)]
    exact h6
  · exact cp_fr k1 (Or.inl rfl) hb.1 (fun q hq => ne q (by omega)) hK
  · exact cp_fr k2 (Or.inr rfl) hb.2.1 (fun q hq => ne q (by omega)) hK
theorem up77 {LA : mj_LA} {v : BitVec 64} : ∀ q, q ≠ 77 → mj_up LA 77 0 v q = LA q := fun q hq => mj_up_ne hq
theorem up77_at {LA : mj_LA} {v : BitVec 64} : mj_up LA 77 0 v 77 0 = v := mj_up_at
/-- the words of the reference are not in the law's cell -/
theorem M_lw_up {LA : mj_LA} {v : BitVec 64} : M_lw (mj_up LA 77 0 v) = M_lw LA := rfl
theorem M_bt_up {LA : mj_LA} {v : BitVec 64} : M_bt (mj_up LA 77 0 v) = M_bt LA := rfl
theorem M_eq_up {LA : mj_LA} {v : BitVec 64} : M_eq (mj_up LA 77 0 v) = M_eq LA := rfl
theorem M_oe_up {IA : mj_FI} {LA : mj_LA} {v : BitVec 64} : M_oe IA (mj_up LA 77 0 v) = M_oe IA LA := rfl
theorem M_be_up {IA : mj_FI} {LA : mj_LA} {v : BitVec 64} : M_be IA (mj_up LA 77 0 v) = M_be IA LA := rfl
theorem M_nl_up {LA : mj_LA} {v : BitVec 64} : M_nl (mj_up LA 77 0 v) = M_nl LA := rfl
/-- circuit x of both -/
theorem Iv.c {sh : mj_Sh} {FR : mj_FR} {IA : mj_FI} {LA : mj_LA} {b1 b2 b3 : Nat} (h : Iv sh FR IA LA b1 b2 b3) {x : Int} (hx : x = 0 ∨ x = 1) : ∃ n c b m I O G od ld, x = ((n : Nat) : Int) ∧ n < 2 ∧ tw_c b1 b2 x c b ∧ cp IA LA n c b m I O G od ld := by
  obtain ⟨m1, I1, O1, G1, od1, ld1, k1⟩ := h.2.2.2.2.2.2.2.2.2.2.1
  obtain ⟨m2, I2, O2, G2, od2, ld2, k2⟩ := h.2.2.2.2.2.2.2.2.2.2.2
  rcases hx with q | q
  · exact ⟨0, 1, b1, m1, I1, O1, G1, od1, ld1, q, by decide, Or.inl ⟨q, rfl, rfl⟩, k1⟩
  · exact ⟨1, 15, b2, m2, I2, O2, G2, od2, ld2, q, by decide, Or.inr ⟨q, rfl, rfl⟩, k2⟩
theorem Iv.q {sh : mj_Sh} {FR : mj_FR} {IA : mj_FI} {LA K : mj_LA} {b1 b2 b3 : Nat} (h : Iv sh FR IA LA b1 b2 b3) {t : Int} (hK : ∀ q, q ≠ 77 → K q = LA q) : Iv sh FR (mj_up IA 52 0 t) K b1 b2 b3 := ⟨h.1, h.2.1, h.2.2.1, IvS_q h.2.2.2 h.1.bb hK⟩
theorem Iv.rr {sh : mj_Sh} {FR : mj_FR} {IA : mj_FI} {LA : mj_LA} {b1 b2 b3 : Nat} (h : Iv sh FR IA LA b1 b2 b3) : M_rr IA := h.2.2.2.2.2.2.1
/-- what choose and write need of the reference -/
theorem cp.S {IA : mj_FI} {LA : mj_LA} {x c b m I O G : Nat} {od ld : List Nat} (h : cp IA LA x c b m I O G od ld) (hr : M_rr IA) : ∃ om, M_S IA x I O G om ∧ (∀ k, k < G → k ∈ om) ∧ ∀ k ∈ om, k < G := by
  obtain ⟨om, ⟨o1, o2, o3⟩, o4, o5⟩ := h.2.2.2.1
  have hN := h.2.1
  have hW := h.W
  have hA := h.1.1
  have fan : ∀ k, k < G → lf_g I G (I + 1 + k) := fun k hk => ⟨by omega, by omega⟩
  refine ⟨om, ⟨⟨hN.1, hW.2.1⟩, ⟨hN.2.1, hW.2.2.2.1⟩, ⟨hN.2.2.1, hW.2.2.1⟩, hr, h.vr, h.2.2.2.2.2.1, fun k hk => ?_, fun lit hl => ?_, fun k hk => ?_, ⟨o1, o2, o3⟩, o4, fun k hk => ?_, o5⟩, nodup_all o2 o1 o3, o3⟩
  · rw [h.o65 hk]
    exact h.st.mpr (hA.out hk)
  · have hl := h.st.mp hl
    rw [h.ro hl]
    exact rN_is (h.sl hl)
  · rw [(hN.2.2.2.2.2.2.1 k hk).2.1, (hN.2.2.2.2.2.2.1 k hk).2.2]
    have := sd_le h (fan k hk)
    exact ⟨h.st.mpr this.1, h.st.mpr this.2⟩
  · have hg := sd_le h (fan k hk)
    rw [(hN.2.2.2.2.2.2.1 k hk).2.1, (hN.2.2.2.2.2.2.1 k hk).2.2, h.ro hg.1, h.ro hg.2, ← rN_g (I := I), h.2.2.1 _ (h.sl hg.1), h.2.2.1 _ (h.sl hg.2), h.2.2.1 _ (Or.inr (fan k hk)), sl_nF, sl_nF]
    have h3 := ((hA.dp (Or.inr (fan k hk))).2.2.2 (fan k hk)).2
    have h4 := Int.le_max_left (IA (b + 6) (nF (IA (b + 1)) (IA (b + 3)) (I + 1 + k))) (IA (b + 6) (nF (IA (b + 1)) (IA (b + 4)) (I + 1 + k)))
    have h5 := Int.le_max_right (IA (b + 6) (nF (IA (b + 1)) (IA (b + 3)) (I + 1 + k))) (IA (b + 6) (nF (IA (b + 1)) (IA (b + 4)) (I + 1 + k)))
    exact ⟨by omega, by omega⟩
