/-! THE LAW: its cases -/
def lwl (i : Nat) (x5 x6 x7 : Option mj_V) : mj_L := [some (.inr (.inr (.inr 1))), some (.inr (.inr (.inl 0))), some (.inr (.inr (.inl 52))), some (.inr (.inr (.inl 77))), some (.inl (i : Int)), x5, x6, x7]
section WW
variable {L : Nat} {sc : Nat → Int} {sh : mj_Sh} {FR : mj_FR} {IA : mj_FI} {LA : mj_LA} {b1 b2 b3 i kc ks : Nat}
/-- behind a case -/
def lwT (L : Nat) (sc : Nat → Int) (sh : mj_Sh) (i kc ks : Nat) : Prop := ∀ (FR : mj_FR) (IA : mj_FI) (LA : mj_LA) (kc2 ks2 : Nat) (x5 x6 x7 : Option mj_V), (∃ b1 b2 b3, Iv sh FR IA LA b1 b2 b3) → kc2 ≤ kc + 3 → ks2 ≤ ks + 18 → mj_G (m_L_law L sc) en_Q 1413 [some (.inr (.inr (.inr 1))), some (.inr (.inr (.inl 0))), some (.inr (.inr (.inl 52))), some (.inr (.inr (.inl 77))), some (.inl (i : Int)), x5, x6, x7] [] sh FR IA LA 78 kc2 ks2
def q_w_feed (L : Nat) (sc : Nat → Int) : List (Nat × mj_Sem) := [(124, o_al 1 125), (125, o_al 0 126), (126, o_il 4 128), (128, o_ic 1 129), (129, o_iadd 130), (130, o_sal L sc 131), (131, o_al 0 132), (132, o_il 4 134), (134, o_ic 2 135), (135, o_iadd 136), (136, o_sal L sc 137), (137, o_i2l 138), (138, o_ic 32 140), (140, o_lshl 141), (141, o_al 0 142), (142, o_il 4 144), (144, o_ic 3 145), (145, o_iadd 146), (146, o_sal L sc 147), (147, o_i2l 148), (148, o_lc 0x00000000FFFFFFFF#64 151), (151, o_land 152), (152, o_lor 153), (153, o_al 3 154), (154, o_call m_L_feed 4 601024 7293034 157 mj_rs), (157, o_is 5 159), (159, o_al 2 160), (160, o_al 0 161), (161, o_il 4 163), (163, o_ic 1 164), (164, o_iadd 165), (165, o_sal L sc 166), (166, o_al 0 167), (167, o_il 4 169), (169, o_ic 2 170), (170, o_iadd 171), (171, o_sal L sc 172), (172, o_i2l 173), (173, o_ic 32 175), (175, o_lshl 176), (176, o_al 0 177), (177, o_il 4 179), (179, o_ic 3 180), (180, o_iadd 181), (181, o_sal L sc 182), (182, o_i2l 183), (183, o_lc 0x00000000FFFFFFFF#64 186), (186, o_land 187), (187, o_lor 188), (188, o_call m_M_feed 3 601024 7293034 191 (mj_rv 6)), (191, o_is 6 193), (193, o_al 2 194), (194, o_call m_M_thrown 1 601024 7293034 197 (mj_rv 6)), (197, o_il 5 199), (199, o_iceq 204 202), (202, o_ic 0 203), (203, o_zret 601024 7293034), (204, o_il 5 206), (206, o_ifne 221 209), (209, o_al 3 210), (210, o_ic 0 211), (211, o_lal 212), (212, o_il 6 214), (214, o_i2l 215), (215, o_lcmp 216), (216, o_ifeq 221 219), (219, o_ic 0 220), (220, o_zret 601024 7293034), (221, o_goto 1413)]
set_option maxRecDepth 100000 in
theorem e_w_feed : ((q_L_law L sc).drop 25).take 69 = q_w_feed L sc := rfl
theorem z_w_feed : mj_Code (m_L_law L sc) (q_w_feed L sc) := fun q hq => z_L_law L sc q (List.mem_of_mem_drop (List.mem_of_mem_take (by rw [e_w_feed]; exact hq)))
set_option maxHeartbeats 2000000 in
theorem lc_feed (hI : Iv sh FR IA LA b1 b2 b3) (hi : i + 3 < L) (hL : L ≤ 2048) (hsc : ∀ j, -2147483648 ≤ sc j ∧ sc j < 2147483648) (hkc : kc ≤ 600000) (hks : ks ≤ 7000000) (hK : lwT L sc sh i kc ks) (x5 x6 x7 : Option mj_V) : mj_G (m_L_law L sc) en_Q 124 [some (.inr (.inr (.inr 1))), some (.inr (.inr (.inl 0))), some (.inr (.inr (.inl 52))), some (.inr (.inr (.inl 77))), some (.inl (i : Int)), x5, x6, x7] [] sh FR IA LA 78 kc ks := by
  have hM0 := hI.2.1.o
  have hA7 := hI.a7
  have hst := fun v : BitVec 64 => st_feed hI (x := sc (i + 1)) (v := v) (hsc _)
  obtain ⟨Q1f, hQ⟩ := Classical.axiomOfChoice hst
  refine mj_go z_w_feed [1413] 140 ?_
  refine Exists.intro ((i + 1 : Nat) : Int) (And.intro (by first | (rw [mj_w_id (by omega) (by omega)]; done) | (rw [mj_w_id (by omega) (by omega)]; omega) | (unfold mj_w; omega)) ?_)
  refine Exists.intro (i + 1) (And.intro (by first | (rw [mj_w_id (by omega) (by omega)]; done) | (rw [mj_w_id (by omega) (by omega)]; omega) | (unfold mj_w; omega)) (And.intro (by omega) ?_))
  refine Exists.intro ((i + 2 : Nat) : Int) (And.intro (by first | (rw [mj_w_id (by omega) (by omega)]; done) | (rw [mj_w_id (by omega) (by omega)]; omega) | (unfold mj_w; omega)) ?_)
  refine Exists.intro (i + 2) (And.intro (by first | (rw [mj_w_id (by omega) (by omega)]; done) | (rw [mj_w_id (by omega) (by omega)]; omega) | (unfold mj_w; omega)) (And.intro (by omega) ?_))
  refine Exists.intro _ (And.intro rfl ?_)
  refine Exists.intro ((i + 3 : Nat) : Int) (And.intro (by first | (rw [mj_w_id (by omega) (by omega)]; done) | (rw [mj_w_id (by omega) (by omega)]; omega) | (unfold mj_w; omega)) ?_)
  refine Exists.intro (i + 3) (And.intro (by first | (rw [mj_w_id (by omega) (by omega)]; done) | (rw [mj_w_id (by omega) (by omega)]; omega) | (unfold mj_w; omega)) (And.intro (by omega) ?_))
  refine And.intro trivial (And.intro (Nat.le_of_ble_eq_true rfl) (And.intro (show kc + 2 ≤ 601024 by omega) (And.intro (show ks + 12 ≤ 7293034 by omega) (Exists.intro (Q1f _) (And.intro (hQ _).1 ?_)))))
  intro o1 sh1 FR1 IA1 LA1 n1 h1
  obtain ⟨e1, e2, k, e3, hk, Q2, d1, d2⟩ := (hQ _).2 _ _ _ _ _ _ h1
  replace e1 := e1.symm
  subst e1
  replace e2 := e2.symm
  subst e2
  subst e3
  refine And.intro (Or.inl rfl) ?_
  refine Exists.intro ((i + 1 : Nat) : Int) (And.intro (by first | (rw [mj_w_id (by omega) (by omega)]; done) | (rw [mj_w_id (by omega) (by omega)]; omega) | (unfold mj_w; omega)) ?_)
  refine Exists.intro (i + 1) (And.intro (by first | (rw [mj_w_id (by omega) (by omega)]; done) | (rw [mj_w_id (by omega) (by omega)]; omega) | (unfold mj_w; omega)) (And.intro (by omega) ?_))
  refine Exists.intro ((i + 2 : Nat) : Int) (And.intro (by first | (rw [mj_w_id (by omega) (by omega)]; done) | (rw [mj_w_id (by omega) (by omega)]; omega) | (unfold mj_w; omega)) ?_)
  refine Exists.intro (i + 2) (And.intro (by first | (rw [mj_w_id (by omega) (by omega)]; done) | (rw [mj_w_id (by omega) (by omega)]; omega) | (unfold mj_w; omega)) (And.intro (by omega) ?_))
  refine Exists.intro _ (And.intro rfl ?_)
  refine Exists.intro ((i + 3 : Nat) : Int) (And.intro (by first | (rw [mj_w_id (by omega) (by omega)]; done) | (rw [mj_w_id (by omega) (by omega)]; omega) | (unfold mj_w; omega)) ?_)
  refine Exists.intro (i + 3) (And.intro (by first | (rw [mj_w_id (by omega) (by omega)]; done) | (rw [mj_w_id (by omega) (by omega)]; omega) | (unfold mj_w; omega)) (And.intro (by omega) ?_))
  refine And.intro hM0 (And.intro (Nat.le_of_ble_eq_true rfl) (And.intro (show kc + 2 + 0 ≤ 601024 by omega) (And.intro (show ks + 12 + 0 ≤ 7293034 by omega) (Exists.intro Q2 (And.intro d1 ?_)))))
  intro o2 sh2 FR2 IA2 LA2 n2 h2
  obtain ⟨e4, e5, z, e6, hIv, hth, hz⟩ := d2 _ _ _ _ _ _ h2
  replace e4 := e4.symm
  subst e4
  replace e5 := e5.symm
  subst e5
  subst e6
  refine And.intro (Or.inl rfl) ?_
  have hIM : isM sh FR2 78 := hIv.elim fun _ h => h.elim fun _ h => h.elim fun _ h => h.2.1
  refine And.intro hM0 (And.intro (Nat.le_of_ble_eq_true rfl) (And.intro (show kc + 2 + 0 + 0 ≤ 601024 by omega) (And.intro (show ks + 12 + 0 + 0 ≤ 7293034 by omega) (Exists.intro _ (And.intro (ct_M_thrown hIM) ?_)))))
  rintro r9 sh9 FR9 IA9 LA9 n9 ⟨z0, z1, z2, z3, z4, z5⟩
  subst z0
  replace z1 := z1.symm
  subst z1
  replace z2 := z2.symm
  subst z2
  replace z3 := z3.symm
  subst z3
  replace z4 := z4.symm
  subst z4
  replace z5 := z5.symm
  subst z5
  refine And.intro (Or.inl rfl) ?_
  refine And.intro (fun _ => ?_) (fun d => absurd (by rw [hth]) d)
  refine And.intro (fun _ => ?_) (fun d => ?_)
  · exact hK _ _ _ _ _ _ _ _ hIv (show kc + 2 + 0 + 0 ≤ kc + 3 by omega) (show ks + 12 + 0 + 0 ≤ ks + 18 by omega)
  have hk0 : k = 0 := by
    rw [mj_w_id (by omega) (by omega)] at d
    exact Classical.byContradiction fun w => d w
  refine Exists.intro _ (Exists.intro 0 (And.intro hA7 (And.intro (by decide) (And.intro (by decide) ?_))))
  refine Exists.intro 0 (And.intro ?_ ?_)
  · rw [hz hk0]
    unfold mj_lc
    rw [if_neg (by omega), if_pos rfl]
  refine And.intro (fun _ => ?_) (fun d => absurd (by decide) d)
  exact hK _ _ _ _ _ _ _ _ hIv (show kc + 2 + 0 + 0 ≤ kc + 3 by omega) (show ks + 12 + 0 + 0 ≤ ks + 18 by omega)
def q_w_load (L : Nat) (sc : Nat → Int) : List (Nat × mj_Sem) := [(224, o_al 1 225), (225, o_al 0 226), (226, o_il 4 228), (228, o_ic 1 229), (229, o_iadd 230), (230, o_sal L sc 231), (231, o_al 3 232), (232, o_call m_L_load 3 601024 7293034 235 mj_rs), (235, o_is 5 237), (237, o_al 2 238), (238, o_al 0 239), (239, o_il 4 241), (241, o_ic 1 242), (242, o_iadd 243), (243, o_sal L sc 244), (244, o_call m_M_load 2 601024 7293034 247 (mj_rv 6)), (247, o_is 6 249), (249, o_al 2 250), (250, o_call m_M_thrown 1 601024 7293034 253 (mj_rv 6)), (253, o_il 5 255), (255, o_iceq 260 258), (258, o_ic 0 259), (259, o_zret 601024 7293034), (260, o_il 5 262), (262, o_ifne 277 265), (265, o_al 3 266), (266, o_ic 0 267), (267, o_lal 268), (268, o_il 6 270), (270, o_i2l 271), (271, o_lcmp 272), (272, o_ifeq 277 275), (275, o_ic 0 276), (276, o_zret 601024 7293034), (277, o_goto 1413)]
set_option maxRecDepth 100000 in
theorem e_w_load : ((q_L_law L sc).drop 94).take 35 = q_w_load L sc := rfl
theorem z_w_load : mj_Code (m_L_law L sc) (q_w_load L sc) := fun q hq => z_L_law L sc q (List.mem_of_mem_drop (List.mem_of_mem_take (by rw [e_w_load]; exact hq)))
set_option maxHeartbeats 2000000 in
theorem lc_load (hI : Iv sh FR IA LA b1 b2 b3) (hi : i + 3 < L) (hL : L ≤ 2048) (hsc : ∀ j, -2147483648 ≤ sc j ∧ sc j < 2147483648) (hkc : kc ≤ 600000) (hks : ks ≤ 7000000) (hK : lwT L sc sh i kc ks) (x5 x6 x7 : Option mj_V) : mj_G (m_L_law L sc) en_Q 224 [some (.inr (.inr (.inr 1))), some (.inr (.inr (.inl 0))), some (.inr (.inr (.inl 52))), some (.inr (.inr (.inl 77))), some (.inl (i : Int)), x5, x6, x7] [] sh FR IA LA 78 kc ks := by
  have hM0 := hI.2.1.o
  have hA7 := hI.a7
  obtain ⟨Q1, c1, c2⟩ := st_load hI (hsc (i + 1))
  refine mj_go z_w_load [1413] 140 ?_
  refine Exists.intro ((i + 1 : Nat) : Int) (And.intro (by first | (rw [mj_w_id (by omega) (by omega)]; done) | (rw [mj_w_id (by omega) (by omega)]; omega) | (unfold mj_w; omega)) ?_)
  refine Exists.intro (i + 1) (And.intro (by first | (rw [mj_w_id (by omega) (by omega)]; done) | (rw [mj_w_id (by omega) (by omega)]; omega) | (unfold mj_w; omega)) (And.intro (by omega) ?_))
  refine And.intro trivial (And.intro (Nat.le_of_ble_eq_true rfl) (And.intro (show kc + 1 ≤ 601024 by omega) (And.intro (show ks + 6 ≤ 7293034 by omega) (Exists.intro Q1 (And.intro c1 ?_)))))
  intro o1 sh1 FR1 IA1 LA1 n1 h1
  obtain ⟨e1, e2, k, e3, hk, Q2, d1, d2⟩ := c2 _ _ _ _ _ _ h1
  replace e1 := e1.symm
  subst e1
  replace e2 := e2.symm
  subst e2
  subst e3
  refine And.intro (Or.inl rfl) ?_
  refine Exists.intro ((i + 1 : Nat) : Int) (And.intro (by first | (rw [mj_w_id (by omega) (by omega)]; done) | (rw [mj_w_id (by omega) (by omega)]; omega) | (unfold mj_w; omega)) ?_)
  refine Exists.intro (i + 1) (And.intro (by first | (rw [mj_w_id (by omega) (by omega)]; done) | (rw [mj_w_id (by omega) (by omega)]; omega) | (unfold mj_w; omega)) (And.intro (by omega) ?_))
  refine And.intro hM0 (And.intro (Nat.le_of_ble_eq_true rfl) (And.intro (show kc + 1 + 0 ≤ 601024 by omega) (And.intro (show ks + 6 + 0 ≤ 7293034 by omega) (Exists.intro Q2 (And.intro d1 ?_)))))
  intro o2 sh2 FR2 IA2 LA2 n2 h2
  obtain ⟨e4, e5, z, e6, hIv, hth, hz⟩ := d2 _ _ _ _ _ _ h2
  replace e4 := e4.symm
  subst e4
  replace e5 := e5.symm
  subst e5
  subst e6
  refine And.intro (Or.inl rfl) ?_
  have hIM : isM sh FR2 78 := hIv.elim fun _ h => h.elim fun _ h => h.elim fun _ h => h.2.1
  refine And.intro hM0 (And.intro (Nat.le_of_ble_eq_true rfl) (And.intro (show kc + 1 + 0 + 0 ≤ 601024 by omega) (And.intro (show ks + 6 + 0 + 0 ≤ 7293034 by omega) (Exists.intro _ (And.intro (ct_M_thrown hIM) ?_)))))
  rintro r9 sh9 FR9 IA9 LA9 n9 ⟨z0, z1, z2, z3, z4, z5⟩
  subst z0
  replace z1 := z1.symm
  subst z1
  replace z2 := z2.symm
  subst z2
  replace z3 := z3.symm
  subst z3
  replace z4 := z4.symm
  subst z4
  replace z5 := z5.symm
  subst z5
  refine And.intro (Or.inl rfl) ?_
  refine And.intro (fun _ => ?_) (fun d => absurd (by rw [hth]) d)
  refine And.intro (fun _ => ?_) (fun d => ?_)
  · exact hK _ _ _ _ _ _ _ _ hIv (show kc + 1 + 0 + 0 ≤ kc + 3 by omega) (show ks + 6 + 0 + 0 ≤ ks + 18 by omega)
  have hk0 : k = 0 := by
    rw [mj_w_id (by omega) (by omega)] at d
    exact Classical.byContradiction fun w => d w
  refine Exists.intro _ (Exists.intro 0 (And.intro hA7 (And.intro (by decide) (And.intro (by decide) ?_))))
  refine Exists.intro 0 (And.intro ?_ ?_)
  · rw [hz hk0]
    unfold mj_lc
    rw [if_neg (by omega), if_pos rfl]
  refine And.intro (fun _ => ?_) (fun d => absurd (by decide) d)
  exact hK _ _ _ _ _ _ _ _ hIv (show kc + 1 + 0 + 0 ≤ kc + 3 by omega) (show ks + 6 + 0 + 0 ≤ ks + 18 by omega)
def q_w_literal (L : Nat) (sc : Nat → Int) : List (Nat × mj_Sem) := [(280, o_al 1 281), (281, o_al 0 282), (282, o_il 4 284), (284, o_ic 1 285), (285, o_iadd 286), (286, o_sal L sc 287), (287, o_al 0 288), (288, o_il 4 290), (290, o_ic 2 291), (291, o_iadd 292), (292, o_sal L sc 293), (293, o_al 0 294), (294, o_il 4 296), (296, o_ic 3 297), (297, o_iadd 298), (298, o_sal L sc 299), (299, o_al 3 300), (300, o_call m_L_literal 5 601024 7293034 303 mj_rs), (303, o_is 5 305), (305, o_al 2 306), (306, o_al 0 307), (307, o_il 4 309), (309, o_ic 1 310), (310, o_iadd 311), (311, o_sal L sc 312), (312, o_al 0 313), (313, o_il 4 315), (315, o_ic 2 316), (316, o_iadd 317), (317, o_sal L sc 318), (318, o_al 0 319), (319, o_il 4 321), (321, o_ic 3 322), (322, o_iadd 323), (323, o_sal L sc 324), (324, o_call m_M_literal 4 601024 7293034 327 (mj_rv 6)), (327, o_is 6 329), (329, o_al 2 330), (330, o_call m_M_thrown 1 601024 7293034 333 (mj_rv 6)), (333, o_il 5 335), (335, o_iceq 340 338), (338, o_ic 0 339), (339, o_zret 601024 7293034), (340, o_il 5 342), (342, o_ifne 357 345), (345, o_al 3 346), (346, o_ic 0 347), (347, o_lal 348), (348, o_il 6 350), (350, o_i2l 351), (351, o_lcmp 352), (352, o_ifeq 357 355), (355, o_ic 0 356), (356, o_zret 601024 7293034), (357, o_goto 1413)]
set_option maxRecDepth 100000 in
theorem e_w_literal : ((q_L_law L sc).drop 129).take 55 = q_w_literal L sc := rfl
theorem z_w_literal : mj_Code (m_L_law L sc) (q_w_literal L sc) := fun q hq => z_L_law L sc q (List.mem_of_mem_drop (List.mem_of_mem_take (by rw [e_w_literal]; exact hq)))
set_option maxHeartbeats 2000000 in
theorem lc_literal (hI : Iv sh FR IA LA b1 b2 b3) (hi : i + 3 < L) (hL : L ≤ 2048) (hsc : ∀ j, -2147483648 ≤ sc j ∧ sc j < 2147483648) (hkc : kc ≤ 600000) (hks : ks ≤ 7000000) (hK : lwT L sc sh i kc ks) (x5 x6 x7 : Option mj_V) : mj_G (m_L_law L sc) en_Q 280 [some (.inr (.inr (.inr 1))), some (.inr (.inr (.inl 0))), some (.inr (.inr (.inl 52))), some (.inr (.inr (.inl 77))), some (.inl (i : Int)), x5, x6, x7] [] sh FR IA LA 78 kc ks := by
  have hM0 := hI.2.1.o
  have hA7 := hI.a7
  obtain ⟨Q1, c1, c2⟩ := st_literal hI (hsc (i + 1)) (hsc (i + 2)) (hsc (i + 3))
  refine mj_go z_w_literal [1413] 140 ?_
  refine Exists.intro ((i + 1 : Nat) : Int) (And.intro (by first | (rw [mj_w_id (by omega) (by omega)]; done) | (rw [mj_w_id (by omega) (by omega)]; omega) | (unfold mj_w; omega)) ?_)
  refine Exists.intro (i + 1) (And.intro (by first | (rw [mj_w_id (by omega) (by omega)]; done) | (rw [mj_w_id (by omega) (by omega)]; omega) | (unfold mj_w; omega)) (And.intro (by omega) ?_))
  refine Exists.intro ((i + 2 : Nat) : Int) (And.intro (by first | (rw [mj_w_id (by omega) (by omega)]; done) | (rw [mj_w_id (by omega) (by omega)]; omega) | (unfold mj_w; omega)) ?_)
  refine Exists.intro (i + 2) (And.intro (by first | (rw [mj_w_id (by omega) (by omega)]; done) | (rw [mj_w_id (by omega) (by omega)]; omega) | (unfold mj_w; omega)) (And.intro (by omega) ?_))
  refine Exists.intro ((i + 3 : Nat) : Int) (And.intro (by first | (rw [mj_w_id (by omega) (by omega)]; done) | (rw [mj_w_id (by omega) (by omega)]; omega) | (unfold mj_w; omega)) ?_)
  refine Exists.intro (i + 3) (And.intro (by first | (rw [mj_w_id (by omega) (by omega)]; done) | (rw [mj_w_id (by omega) (by omega)]; omega) | (unfold mj_w; omega)) (And.intro (by omega) ?_))
  refine And.intro trivial (And.intro (Nat.le_of_ble_eq_true rfl) (And.intro (show kc + 2 ≤ 601024 by omega) (And.intro (show ks + 12 ≤ 7293034 by omega) (Exists.intro Q1 (And.intro c1 ?_)))))
  intro o1 sh1 FR1 IA1 LA1 n1 h1
  obtain ⟨e1, e2, k, e3, hk, Q2, d1, d2⟩ := c2 _ _ _ _ _ _ h1
  replace e1 := e1.symm
  subst e1
  replace e2 := e2.symm
  subst e2
  subst e3
  refine And.intro (Or.inl rfl) ?_
  refine Exists.intro ((i + 1 : Nat) : Int) (And.intro (by first | (rw [mj_w_id (by omega) (by omega)]; done) | (rw [mj_w_id (by omega) (by omega)]; omega) | (unfold mj_w; omega)) ?_)
  refine Exists.intro (i + 1) (And.intro (by first | (rw [mj_w_id (by omega) (by omega)]; done) | (rw [mj_w_id (by omega) (by omega)]; omega) | (unfold mj_w; omega)) (And.intro (by omega) ?_))
  refine Exists.intro ((i + 2 : Nat) : Int) (And.intro (by first | (rw [mj_w_id (by omega) (by omega)]; done) | (rw [mj_w_id (by omega) (by omega)]; omega) | (unfold mj_w; omega)) ?_)
  refine Exists.intro (i + 2) (And.intro (by first | (rw [mj_w_id (by omega) (by omega)]; done) | (rw [mj_w_id (by omega) (by omega)]; omega) | (unfold mj_w; omega)) (And.intro (by omega) ?_))
  refine Exists.intro ((i + 3 : Nat) : Int) (And.intro (by first | (rw [mj_w_id (by omega) (by omega)]; done) | (rw [mj_w_id (by omega) (by omega)]; omega) | (unfold mj_w; omega)) ?_)
  refine Exists.intro (i + 3) (And.intro (by first | (rw [mj_w_id (by omega) (by omega)]; done) | (rw [mj_w_id (by omega) (by omega)]; omega) | (unfold mj_w; omega)) (And.intro (by omega) ?_))
  refine And.intro hM0 (And.intro (Nat.le_of_ble_eq_true rfl) (And.intro (show kc + 2 + 0 ≤ 601024 by omega) (And.intro (show ks + 12 + 0 ≤ 7293034 by omega) (Exists.intro Q2 (And.intro d1 ?_)))))
  intro o2 sh2 FR2 IA2 LA2 n2 h2
  obtain ⟨e4, e5, z, e6, hIv, hth, hz⟩ := d2 _ _ _ _ _ _ h2
  replace e4 := e4.symm
  subst e4
  replace e5 := e5.symm
  subst e5
  subst e6
  refine And.intro (Or.inl rfl) ?_
  have hIM : isM sh FR2 78 := hIv.elim fun _ h => h.elim fun _ h => h.elim fun _ h => h.2.1
  refine And.intro hM0 (And.intro (Nat.le_of_ble_eq_true rfl) (And.intro (show kc + 2 + 0 + 0 ≤ 601024 by omega) (And.intro (show ks + 12 + 0 + 0 ≤ 7293034 by omega) (Exists.intro _ (And.intro (ct_M_thrown hIM) ?_)))))
  rintro r9 sh9 FR9 IA9 LA9 n9 ⟨z0, z1, z2, z3, z4, z5⟩
  subst z0
  replace z1 := z1.symm
  subst z1
  replace z2 := z2.symm
  subst z2
  replace z3 := z3.symm
  subst z3
  replace z4 := z4.symm
  subst z4
  replace z5 := z5.symm
  subst z5
  refine And.intro (Or.inl rfl) ?_
  refine And.intro (fun _ => ?_) (fun d => absurd (by rw [hth]) d)
  refine And.intro (fun _ => ?_) (fun d => ?_)
  · exact hK _ _ _ _ _ _ _ _ hIv (show kc + 2 + 0 + 0 ≤ kc + 3 by omega) (show ks + 12 + 0 + 0 ≤ ks + 18 by omega)
  have hk0 : k = 0 := by
    rw [mj_w_id (by omega) (by omega)] at d
    exact Classical.byContradiction fun w => d w
  refine Exists.intro _ (Exists.intro 0 (And.intro hA7 (And.intro (by decide) (And.intro (by decide) ?_))))
  refine Exists.intro 0 (And.intro ?_ ?_)
  · rw [hz hk0]
    unfold mj_lc
    rw [if_neg (by omega), if_pos rfl]
  refine And.intro (fun _ => ?_) (fun d => absurd (by decide) d)
  exact hK _ _ _ _ _ _ _ _ hIv (show kc + 2 + 0 + 0 ≤ kc + 3 by omega) (show ks + 12 + 0 + 0 ≤ ks + 18 by omega)
def q_w_value (L : Nat) (sc : Nat → Int) : List (Nat × mj_Sem) := [(360, o_al 1 361), (361, o_al 0 362), (362, o_il 4 364), (364, o_ic 1 365), (365, o_iadd 366), (366, o_sal L sc 367), (367, o_al 0 368), (368, o_il 4 370), (370, o_ic 2 371), (371, o_iadd 372), (372, o_sal L sc 373), (373, o_al 0 374), (374, o_il 4 376), (376, o_ic 3 377), (377, o_iadd 378), (378, o_sal L sc 379), (379, o_al 3 380), (380, o_call m_L_value 5 601024 7293034 383 mj_rs), (383, o_is 5 385), (385, o_al 2 386), (386, o_al 0 387), (387, o_il 4 389), (389, o_ic 1 390), (390, o_iadd 391), (391, o_sal L sc 392), (392, o_al 0 393), (393, o_il 4 395), (395, o_ic 2 396), (396, o_iadd 397), (397, o_sal L sc 398), (398, o_al 0 399), (399, o_il 4 401), (401, o_ic 3 402), (402, o_iadd 403), (403, o_sal L sc 404), (404, o_call m_M_value 4 601024 7293034 407 (mj_rv 6)), (407, o_is 6 409), (409, o_al 2 410), (410, o_call m_M_thrown 1 601024 7293034 413 (mj_rv 6)), (413, o_il 5 415), (415, o_iceq 420 418), (418, o_ic 0 419), (419, o_zret 601024 7293034), (420, o_il 5 422), (422, o_ifne 437 425), (425, o_al 3 426), (426, o_ic 0 427), (427, o_lal 428), (428, o_il 6 430), (430, o_i2l 431), (431, o_lcmp 432), (432, o_ifeq 437 435), (435, o_ic 0 436), (436, o_zret 601024 7293034), (437, o_goto 1413)]
set_option maxRecDepth 100000 in
theorem e_w_value : ((q_L_law L sc).drop 184).take 55 = q_w_value L sc := rfl
theorem z_w_value : mj_Code (m_L_law L sc) (q_w_value L sc) := fun q hq => z_L_law L sc q (List.mem_of_mem_drop (List.mem_of_mem_take (by rw [e_w_value]; exact hq)))
set_option maxHeartbeats 2000000 in
theorem lc_value (hI : Iv sh FR IA LA b1 b2 b3) (hi : i + 3 < L) (hL : L ≤ 2048) (hsc : ∀ j, -2147483648 ≤ sc j ∧ sc j < 2147483648) (hkc : kc ≤ 600000) (hks : ks ≤ 7000000) (hK : lwT L sc sh i kc ks) (x5 x6 x7 : Option mj_V) : mj_G (m_L_law L sc) en_Q 360 [some (.inr (.inr (.inr 1))), some (.inr (.inr (.inl 0))), some (.inr (.inr (.inl 52))), some (.inr (.inr (.inl 77))), some (.inl (i : Int)), x5, x6, x7] [] sh FR IA LA 78 kc ks := by
  have hM0 := hI.2.1.o
  have hA7 := hI.a7
  obtain ⟨Q1, c1, c2⟩ := st_value hI (hsc (i + 1)) (hsc (i + 2)) (hsc (i + 3))
  refine mj_go z_w_value [1413] 140 ?_
  refine Exists.intro ((i + 1 : Nat) : Int) (And.intro (by first | (rw [mj_w_id (by omega) (by omega)]; done) | (rw [mj_w_id (by omega) (by omega)]; omega) | (unfold mj_w; omega)) ?_)
  refine Exists.intro (i + 1) (And.intro (by first | (rw [mj_w_id (by omega) (by omega)]; done) | (rw [mj_w_id (by omega) (by omega)]; omega) | (unfold mj_w; omega)) (And.intro (by omega) ?_))
  refine Exists.intro ((i + 2 : Nat) : Int) (And.intro (by first | (rw [mj_w_id (by omega) (by omega)]; done) | (rw [mj_w_id (by omega) (by omega)]; omega) | (unfold mj_w; omega)) ?_)
  refine Exists.intro (i + 2) (And.intro (by first | (rw [mj_w_id (by omega) (by omega)]; done) | (rw [mj_w_id (by omega) (by omega)]; omega) | (unfold mj_w; omega)) (And.intro (by omega) ?_))
  refine Exists.intro ((i + 3 : Nat) : Int) (And.intro (by first | (rw [mj_w_id (by omega) (by omega)]; done) | (rw [mj_w_id (by omega) (by omega)]; omega) | (unfold mj_w; omega)) ?_)
  refine Exists.intro (i + 3) (And.intro (by first | (rw [mj_w_id (by omega) (by omega)]; done) | (rw [mj_w_id (by omega) (by omega)]; omega) | (unfold mj_w; omega)) (And.intro (by omega) ?_))
  refine And.intro trivial (And.intro (Nat.le_of_ble_eq_true rfl) (And.intro (show kc + 3 ≤ 601024 by omega) (And.intro (show ks + 18 ≤ 7293034 by omega) (Exists.intro Q1 (And.intro c1 ?_)))))
  intro o1 sh1 FR1 IA1 LA1 n1 h1
  obtain ⟨e1, e2, k, e3, hk, Q2, d1, d2⟩ := c2 _ _ _ _ _ _ h1
  replace e1 := e1.symm
  subst e1
  replace e2 := e2.symm
  subst e2
  subst e3
  refine And.intro (Or.inl rfl) ?_
  refine Exists.intro ((i + 1 : Nat) : Int) (And.intro (by first | (rw [mj_w_id (by omega) (by omega)]; done) | (rw [mj_w_id (by omega) (by omega)]; omega) | (unfold mj_w; omega)) ?_)
  refine Exists.intro (i + 1) (And.intro (by first | (rw [mj_w_id (by omega) (by omega)]; done) | (rw [mj_w_id (by omega) (by omega)]; omega) | (unfold mj_w; omega)) (And.intro (by omega) ?_))
  refine Exists.intro ((i + 2 : Nat) : Int) (And.intro (by first | (rw [mj_w_id (by omega) (by omega)]; done) | (rw [mj_w_id (by omega) (by omega)]; omega) | (unfold mj_w; omega)) ?_)
  refine Exists.intro (i + 2) (And.intro (by first | (rw [mj_w_id (by omega) (by omega)]; done) | (rw [mj_w_id (by omega) (by omega)]; omega) | (unfold mj_w; omega)) (And.intro (by omega) ?_))
  refine Exists.intro ((i + 3 : Nat) : Int) (And.intro (by first | (rw [mj_w_id (by omega) (by omega)]; done) | (rw [mj_w_id (by omega) (by omega)]; omega) | (unfold mj_w; omega)) ?_)
  refine Exists.intro (i + 3) (And.intro (by first | (rw [mj_w_id (by omega) (by omega)]; done) | (rw [mj_w_id (by omega) (by omega)]; omega) | (unfold mj_w; omega)) (And.intro (by omega) ?_))
  refine And.intro hM0 (And.intro (Nat.le_of_ble_eq_true rfl) (And.intro (show kc + 3 + 0 ≤ 601024 by omega) (And.intro (show ks + 18 + 0 ≤ 7293034 by omega) (Exists.intro Q2 (And.intro d1 ?_)))))
  intro o2 sh2 FR2 IA2 LA2 n2 h2
  obtain ⟨e4, e5, z, e6, hIv, hth, hz⟩ := d2 _ _ _ _ _ _ h2
  replace e4 := e4.symm
  subst e4
  replace e5 := e5.symm
  subst e5
  subst e6
  refine And.intro (Or.inl rfl) ?_
  have hIM : isM sh FR2 78 := hIv.elim fun _ h => h.elim fun _ h => h.elim fun _ h => h.2.1
  refine And.intro hM0 (And.intro (Nat.le_of_ble_eq_true rfl) (And.intro (show kc + 3 + 0 + 0 ≤ 601024 by omega) (And.intro (show ks + 18 + 0 + 0 ≤ 7293034 by omega) (Exists.intro _ (And.intro (ct_M_thrown hIM) ?_)))))
  rintro r9 sh9 FR9 IA9 LA9 n9 ⟨z0, z1, z2, z3, z4, z5⟩
  subst z0
  replace z1 := z1.symm
  subst z1
  replace z2 := z2.symm
  subst z2
  replace z3 := z3.symm
  subst z3
  replace z4 := z4.symm
  subst z4
  replace z5 := z5.symm
  subst z5
  refine And.intro (Or.inl rfl) ?_
  refine And.intro (fun _ => ?_) (fun d => absurd (by rw [hth]) d)
  refine And.intro (fun _ => ?_) (fun d => ?_)
  · exact hK _ _ _ _ _ _ _ _ hIv (show kc + 3 + 0 + 0 ≤ kc + 3 by omega) (show ks + 18 + 0 + 0 ≤ ks + 18 by omega)
  have hk0 : k = 0 := by
    rw [mj_w_id (by omega) (by omega)] at d
    exact Classical.byContradiction fun w => d w
  refine Exists.intro _ (Exists.intro 0 (And.intro hA7 (And.intro (by decide) (And.intro (by decide) ?_))))
  refine Exists.intro 0 (And.intro ?_ ?_)
  · rw [hz hk0]
    unfold mj_lc
    rw [if_neg (by omega), if_pos rfl]
  refine And.intro (fun _ => ?_) (fun d => absurd (by decide) d)
  exact hK _ _ _ _ _ _ _ _ hIv (show kc + 3 + 0 + 0 ≤ kc + 3 by omega) (show ks + 18 + 0 + 0 ≤ ks + 18 by omega)
def q_w_compare (L : Nat) (sc : Nat → Int) : List (Nat × mj_Sem) := [(440, o_al 1 441), (441, o_al 3 442), (442, o_call m_L_compare 2 601024 7293034 445 mj_rs), (445, o_is 5 447), (447, o_al 2 448), (448, o_call m_M_compare 1 601024 7293034 451 (mj_rv 6)), (451, o_is 6 453), (453, o_al 2 454), (454, o_call m_M_thrown 1 601024 7293034 457 (mj_rv 6)), (457, o_il 5 459), (459, o_iceq 464 462), (462, o_ic 0 463), (463, o_zret 601024 7293034), (464, o_il 5 466), (466, o_ifne 481 469), (469, o_al 3 470), (470, o_ic 0 471), (471, o_lal 472), (472, o_il 6 474), (474, o_i2l 475), (475, o_lcmp 476), (476, o_ifeq 481 479), (479, o_ic 0 480), (480, o_zret 601024 7293034), (481, o_goto 1413)]
set_option maxRecDepth 100000 in
theorem e_w_compare : ((q_L_law L sc).drop 239).take 25 = q_w_compare L sc := rfl
theorem z_w_compare : mj_Code (m_L_law L sc) (q_w_compare L sc) := fun q hq => z_L_law L sc q (List.mem_of_mem_drop (List.mem_of_mem_take (by rw [e_w_compare]; exact hq)))
set_option maxHeartbeats 2000000 in
theorem lc_compare (hI : Iv sh FR IA LA b1 b2 b3) (hi : i + 3 < L) (hL : L ≤ 2048) (hsc : ∀ j, -2147483648 ≤ sc j ∧ sc j < 2147483648) (hkc : kc ≤ 600000) (hks : ks ≤ 7000000) (hK : lwT L sc sh i kc ks) (x5 x6 x7 : Option mj_V) : mj_G (m_L_law L sc) en_Q 440 [some (.inr (.inr (.inr 1))), some (.inr (.inr (.inl 0))), some (.inr (.inr (.inl 52))), some (.inr (.inr (.inl 77))), some (.inl (i : Int)), x5, x6, x7] [] sh FR IA LA 78 kc ks := by
  have hM0 := hI.2.1.o
  have hA7 := hI.a7
  obtain ⟨Q1, c1, c2⟩ := st_compare hI
  refine mj_go z_w_compare [1413] 140 ?_
  refine And.intro trivial (And.intro (Nat.le_of_ble_eq_true rfl) (And.intro (show kc + 1 ≤ 601024 by omega) (And.intro (show ks + 6 ≤ 7293034 by omega) (Exists.intro Q1 (And.intro c1 ?_)))))
  intro o1 sh1 FR1 IA1 LA1 n1 h1
  obtain ⟨e1, e2, k, e3, hk, Q2, d1, d2⟩ := c2 _ _ _ _ _ _ h1
  replace e1 := e1.symm
  subst e1
  replace e2 := e2.symm
  subst e2
  subst e3
  refine And.intro (Or.inl rfl) ?_
  refine And.intro hM0 (And.intro (Nat.le_of_ble_eq_true rfl) (And.intro (show kc + 1 + 0 ≤ 601024 by omega) (And.intro (show ks + 6 + 0 ≤ 7293034 by omega) (Exists.intro Q2 (And.intro d1 ?_)))))
  intro o2 sh2 FR2 IA2 LA2 n2 h2
  obtain ⟨e4, e5, z, e6, hIv, hth, hz⟩ := d2 _ _ _ _ _ _ h2
  replace e4 := e4.symm
  subst e4
  replace e5 := e5.symm
  subst e5
  subst e6
  refine And.intro (Or.inl rfl) ?_
  have hIM : isM sh FR2 78 := hIv.elim fun _ h => h.elim fun _ h => h.elim fun _ h => h.2.1
  refine And.intro hM0 (And.intro (Nat.le_of_ble_eq_true rfl) (And.intro (show kc + 1 + 0 + 0 ≤ 601024 by omega) (And.intro (show ks + 6 + 0 + 0 ≤ 7293034 by omega) (Exists.intro _ (And.intro (ct_M_thrown hIM) ?_)))))
  rintro r9 sh9 FR9 IA9 LA9 n9 ⟨z0, z1, z2, z3, z4, z5⟩
  subst z0
  replace z1 := z1.symm
  subst z1
  replace z2 := z2.symm
  subst z2
  replace z3 := z3.symm
  subst z3
  replace z4 := z4.symm
  subst z4
  replace z5 := z5.symm
  subst z5
  refine And.intro (Or.inl rfl) ?_
  refine And.intro (fun _ => ?_) (fun d => absurd (by rw [hth]) d)
  refine And.intro (fun _ => ?_) (fun d => ?_)
  · exact hK _ _ _ _ _ _ _ _ hIv (show kc + 1 + 0 + 0 ≤ kc + 3 by omega) (show ks + 6 + 0 + 0 ≤ ks + 18 by omega)
  have hk0 : k = 0 := by
    rw [mj_w_id (by omega) (by omega)] at d
    exact Classical.byContradiction fun w => d w
  refine Exists.intro _ (Exists.intro 0 (And.intro hA7 (And.intro (by decide) (And.intro (by decide) ?_))))
  refine Exists.intro 0 (And.intro ?_ ?_)
  · rw [hz hk0]
    unfold mj_lc
    rw [if_neg (by omega), if_pos rfl]
  refine And.intro (fun _ => ?_) (fun d => absurd (by decide) d)
  exact hK _ _ _ _ _ _ _ _ hIv (show kc + 1 + 0 + 0 ≤ kc + 3 by omega) (show ks + 6 + 0 + 0 ≤ ks + 18 by omega)
def q_w_witness (L : Nat) (sc : Nat → Int) : List (Nat × mj_Sem) := [(484, o_al 1 485), (485, o_al 0 486), (486, o_il 4 488), (488, o_ic 1 489), (489, o_iadd 490), (490, o_sal L sc 491), (491, o_al 3 492), (492, o_call m_L_witness 3 601024 7293034 495 mj_rs), (495, o_is 5 497), (497, o_al 2 498), (498, o_al 0 499), (499, o_il 4 501), (501, o_ic 1 502), (502, o_iadd 503), (503, o_sal L sc 504), (504, o_call m_M_witness 2 601024 7293034 507 (mj_rv 6)), (507, o_is 6 509), (509, o_al 2 510), (510, o_call m_M_thrown 1 601024 7293034 513 (mj_rv 6)), (513, o_il 5 515), (515, o_iceq 520 518), (518, o_ic 0 519), (519, o_zret 601024 7293034), (520, o_il 5 522), (522, o_ifne 537 525), (525, o_al 3 526), (526, o_ic 0 527), (527, o_lal 528), (528, o_il 6 530), (530, o_i2l 531), (531, o_lcmp 532), (532, o_ifeq 537 535), (535, o_ic 0 536), (536, o_zret 601024 7293034), (537, o_goto 1413)]
set_option maxRecDepth 100000 in
theorem e_w_witness : ((q_L_law L sc).drop 264).take 35 = q_w_witness L sc := rfl
theorem z_w_witness : mj_Code (m_L_law L sc) (q_w_witness L sc) := fun q hq => z_L_law L sc q (List.mem_of_mem_drop (List.mem_of_mem_take (by rw [e_w_witness]; exact hq)))
set_option maxHeartbeats 2000000 in
theorem lc_witness (hI : Iv sh FR IA LA b1 b2 b3) (hi : i + 3 < L) (hL : L ≤ 2048) (hsc : ∀ j, -2147483648 ≤ sc j ∧ sc j < 2147483648) (hkc : kc ≤ 600000) (hks : ks ≤ 7000000) (hK : lwT L sc sh i kc ks) (x5 x6 x7 : Option mj_V) : mj_G (m_L_law L sc) en_Q 484 [some (.inr (.inr (.inr 1))), some (.inr (.inr (.inl 0))), some (.inr (.inr (.inl 52))), some (.inr (.inr (.inl 77))), some (.inl (i : Int)), x5, x6, x7] [] sh FR IA LA 78 kc ks := by
  have hM0 := hI.2.1.o
  have hA7 := hI.a7
  obtain ⟨Q1, c1, c2⟩ := st_witness hI (hsc (i + 1))
  refine mj_go z_w_witness [1413] 140 ?_
  refine Exists.intro ((i + 1 : Nat) : Int) (And.intro (by first | (rw [mj_w_id (by omega) (by omega)]; done) | (rw [mj_w_id (by omega) (by omega)]; omega) | (unfold mj_w; omega)) ?_)
  refine Exists.intro (i + 1) (And.intro (by first | (rw [mj_w_id (by omega) (by omega)]; done) | (rw [mj_w_id (by omega) (by omega)]; omega) | (unfold mj_w; omega)) (And.intro (by omega) ?_))
  refine And.intro trivial (And.intro (Nat.le_of_ble_eq_true rfl) (And.intro (show kc + 2 ≤ 601024 by omega) (And.intro (show ks + 12 ≤ 7293034 by omega) (Exists.intro Q1 (And.intro c1 ?_)))))
  intro o1 sh1 FR1 IA1 LA1 n1 h1
  obtain ⟨e1, e2, k, e3, hk, Q2, d1, d2⟩ := c2 _ _ _ _ _ _ h1
  replace e1 := e1.symm
  subst e1
  replace e2 := e2.symm
  subst e2
  subst e3
  refine And.intro (Or.inl rfl) ?_
  refine Exists.intro ((i + 1 : Nat) : Int) (And.intro (by first | (rw [mj_w_id (by omega) (by omega)]; done) | (rw [mj_w_id (by omega) (by omega)]; omega) | (unfold mj_w; omega)) ?_)
  refine Exists.intro (i + 1) (And.intro (by first | (rw [mj_w_id (by omega) (by omega)]; done) | (rw [mj_w_id (by omega) (by omega)]; omega) | (unfold mj_w; omega)) (And.intro (by omega) ?_))
  refine And.intro hM0 (And.intro (Nat.le_of_ble_eq_true rfl) (And.intro (show kc + 2 + 0 ≤ 601024 by omega) (And.intro (show ks + 12 + 0 ≤ 7293034 by omega) (Exists.intro Q2 (And.intro d1 ?_)))))
  intro o2 sh2 FR2 IA2 LA2 n2 h2
  obtain ⟨e4, e5, z, e6, hIv, hth, hz⟩ := d2 _ _ _ _ _ _ h2
  replace e4 := e4.symm
  subst e4
  replace e5 := e5.symm
  subst e5
  subst e6
  refine And.intro (Or.inl rfl) ?_
  have hIM : isM sh FR2 78 := hIv.elim fun _ h => h.elim fun _ h => h.elim fun _ h => h.2.1
  refine And.intro hM0 (And.intro (Nat.le_of_ble_eq_true rfl) (And.intro (show kc + 2 + 0 + 0 ≤ 601024 by omega) (And.intro (show ks + 12 + 0 + 0 ≤ 7293034 by omega) (Exists.intro _ (And.intro (ct_M_thrown hIM) ?_)))))
  rintro r9 sh9 FR9 IA9 LA9 n9 ⟨z0, z1, z2, z3, z4, z5⟩
  subst z0
  replace z1 := z1.symm
  subst z1
  replace z2 := z2.symm
  subst z2
  replace z3 := z3.symm
  subst z3
  replace z4 := z4.symm
  subst z4
  replace z5 := z5.symm
  subst z5
  refine And.intro (Or.inl rfl) ?_
  refine And.intro (fun _ => ?_) (fun d => absurd (by rw [hth]) d)
  refine And.intro (fun _ => ?_) (fun d => ?_)
  · exact hK _ _ _ _ _ _ _ _ hIv (show kc + 2 + 0 + 0 ≤ kc + 3 by omega) (show ks + 12 + 0 + 0 ≤ ks + 18 by omega)
  have hk0 : k = 0 := by
    rw [mj_w_id (by omega) (by omega)] at d
    exact Classical.byContradiction fun w => d w
  refine Exists.intro _ (Exists.intro 0 (And.intro hA7 (And.intro (by decide) (And.intro (by decide) ?_))))
  refine Exists.intro 0 (And.intro ?_ ?_)
  · rw [hz hk0]
    unfold mj_lc
    rw [if_neg (by omega), if_pos rfl]
  refine And.intro (fun _ => ?_) (fun d => absurd (by decide) d)
  exact hK _ _ _ _ _ _ _ _ hIv (show kc + 2 + 0 + 0 ≤ kc + 3 by omega) (show ks + 12 + 0 + 0 ≤ ks + 18 by omega)
def q_w_least (L : Nat) (sc : Nat → Int) : List (Nat × mj_Sem) := [(540, o_al 1 541), (541, o_al 0 542), (542, o_il 4 544), (544, o_ic 1 545), (545, o_iadd 546), (546, o_sal L sc 547), (547, o_al 0 548), (548, o_il 4 550), (550, o_ic 2 551), (551, o_iadd 552), (552, o_sal L sc 553), (553, o_al 0 554), (554, o_il 4 556), (556, o_ic 3 557), (557, o_iadd 558), (558, o_sal L sc 559), (559, o_al 3 560), (560, o_call m_L_least 5 601024 7293034 563 mj_rs), (563, o_is 5 565), (565, o_al 2 566), (566, o_al 0 567), (567, o_il 4 569), (569, o_ic 1 570), (570, o_iadd 571), (571, o_sal L sc 572), (572, o_al 0 573), (573, o_il 4 575), (575, o_ic 2 576), (576, o_iadd 577), (577, o_sal L sc 578), (578, o_al 0 579), (579, o_il 4 581), (581, o_ic 3 582), (582, o_iadd 583), (583, o_sal L sc 584), (584, o_call m_M_least 4 601024 7293034 587 (mj_rv 6)), (587, o_is 6 589), (589, o_al 2 590), (590, o_call m_M_thrown 1 601024 7293034 593 (mj_rv 6)), (593, o_il 5 595), (595, o_iceq 600 598), (598, o_ic 0 599), (599, o_zret 601024 7293034), (600, o_il 5 602), (602, o_ifne 617 605), (605, o_al 3 606), (606, o_ic 0 607), (607, o_lal 608), (608, o_il 6 610), (610, o_i2l 611), (611, o_lcmp 612), (612, o_ifeq 617 615), (615, o_ic 0 616), (616, o_zret 601024 7293034), (617, o_goto 1413)]
set_option maxRecDepth 100000 in
theorem e_w_least : ((q_L_law L sc).drop 299).take 55 = q_w_least L sc := rfl
theorem z_w_least : mj_Code (m_L_law L sc) (q_w_least L sc) := fun q hq => z_L_law L sc q (List.mem_of_mem_drop (List.mem_of_mem_take (by rw [e_w_least]; exact hq)))
set_option maxHeartbeats 2000000 in
theorem lc_least (hI : Iv sh FR IA LA b1 b2 b3) (hi : i + 3 < L) (hL : L ≤ 2048) (hsc : ∀ j, -2147483648 ≤ sc j ∧ sc j < 2147483648) (hkc : kc ≤ 600000) (hks : ks ≤ 7000000) (hK : lwT L sc sh i kc ks) (x5 x6 x7 : Option mj_V) : mj_G (m_L_law L sc) en_Q 540 [some (.inr (.inr (.inr 1))), some (.inr (.inr (.inl 0))), some (.inr (.inr (.inl 52))), some (.inr (.inr (.inl 77))), some (.inl (i : Int)), x5, x6, x7] [] sh FR IA LA 78 kc ks := by
  have hM0 := hI.2.1.o
  have hA7 := hI.a7
  obtain ⟨Q1, c1, c2⟩ := st_least hI (hsc (i + 1)) (hsc (i + 2)) (hsc (i + 3))
  refine mj_go z_w_least [1413] 140 ?_
  refine Exists.intro ((i + 1 : Nat) : Int) (And.intro (by first | (rw [mj_w_id (by omega) (by omega)]; done) | (rw [mj_w_id (by omega) (by omega)]; omega) | (unfold mj_w; omega)) ?_)
  refine Exists.intro (i + 1) (And.intro (by first | (rw [mj_w_id (by omega) (by omega)]; done) | (rw [mj_w_id (by omega) (by omega)]; omega) | (unfold mj_w; omega)) (And.intro (by omega) ?_))
  refine Exists.intro ((i + 2 : Nat) : Int) (And.intro (by first | (rw [mj_w_id (by omega) (by omega)]; done) | (rw [mj_w_id (by omega) (by omega)]; omega) | (unfold mj_w; omega)) ?_)
  refine Exists.intro (i + 2) (And.intro (by first | (rw [mj_w_id (by omega) (by omega)]; done) | (rw [mj_w_id (by omega) (by omega)]; omega) | (unfold mj_w; omega)) (And.intro (by omega) ?_))
  refine Exists.intro ((i + 3 : Nat) : Int) (And.intro (by first | (rw [mj_w_id (by omega) (by omega)]; done) | (rw [mj_w_id (by omega) (by omega)]; omega) | (unfold mj_w; omega)) ?_)
  refine Exists.intro (i + 3) (And.intro (by first | (rw [mj_w_id (by omega) (by omega)]; done) | (rw [mj_w_id (by omega) (by omega)]; omega) | (unfold mj_w; omega)) (And.intro (by omega) ?_))
  refine And.intro trivial (And.intro (Nat.le_of_ble_eq_true rfl) (And.intro (show kc + 3 ≤ 601024 by omega) (And.intro (show ks + 18 ≤ 7293034 by omega) (Exists.intro Q1 (And.intro c1 ?_)))))
  intro o1 sh1 FR1 IA1 LA1 n1 h1
  obtain ⟨e1, e2, k, e3, hk, Q2, d1, d2⟩ := c2 _ _ _ _ _ _ h1
  replace e1 := e1.symm
  subst e1
  replace e2 := e2.symm
  subst e2
  subst e3
  refine And.intro (Or.inl rfl) ?_
  refine Exists.intro ((i + 1 : Nat) : Int) (And.intro (by first | (rw [mj_w_id (by omega) (by omega)]; done) | (rw [mj_w_id (by omega) (by omega)]; omega) | (unfold mj_w; omega)) ?_)
  refine Exists.intro (i + 1) (And.intro (by first | (rw [mj_w_id (by omega) (by omega)]; done) | (rw [mj_w_id (by omega) (by omega)]; omega) | (unfold mj_w; omega)) (And.intro (by omega) ?_))
  refine Exists.intro ((i + 2 : Nat) : Int) (And.intro (by first | (rw [mj_w_id (by omega) (by omega)]; done) | (rw [mj_w_id (by omega) (by omega)]; omega) | (unfold mj_w; omega)) ?_)
  refine Exists.intro (i + 2) (And.intro (by first | (rw [mj_w_id (by omega) (by omega)]; done) | (rw [mj_w_id (by omega) (by omega)]; omega) | (unfold mj_w; omega)) (And.intro (by omega) ?_))
  refine Exists.intro ((i + 3 : Nat) : Int) (And.intro (by first | (rw [mj_w_id (by omega) (by omega)]; done) | (rw [mj_w_id (by omega) (by omega)]; omega) | (unfold mj_w; omega)) ?_)
  refine Exists.intro (i + 3) (And.intro (by first | (rw [mj_w_id (by omega) (by omega)]; done) | (rw [mj_w_id (by omega) (by omega)]; omega) | (unfold mj_w; omega)) (And.intro (by omega) ?_))
  refine And.intro hM0 (And.intro (Nat.le_of_ble_eq_true rfl) (And.intro (show kc + 3 + 0 ≤ 601024 by omega) (And.intro (show ks + 18 + 0 ≤ 7293034 by omega) (Exists.intro Q2 (And.intro d1 ?_)))))
  intro o2 sh2 FR2 IA2 LA2 n2 h2
  obtain ⟨e4, e5, z, e6, hIv, hth, hz⟩ := d2 _ _ _ _ _ _ h2
  replace e4 := e4.symm
  subst e4
  replace e5 := e5.symm
  subst e5
  subst e6
  refine And.intro (Or.inl rfl) ?_
  have hIM : isM sh FR2 78 := hIv.elim fun _ h => h.elim fun _ h => h.elim fun _ h => h.2.1
  refine And.intro hM0 (And.intro (Nat.le_of_ble_eq_true rfl) (And.intro (show kc + 3 + 0 + 0 ≤ 601024 by omega) (And.intro (show ks + 18 + 0 + 0 ≤ 7293034 by omega) (Exists.intro _ (And.intro (ct_M_thrown hIM) ?_)))))
  rintro r9 sh9 FR9 IA9 LA9 n9 ⟨z0, z1, z2, z3, z4, z5⟩
  subst z0
  replace z1 := z1.symm
  subst z1
  replace z2 := z2.symm
  subst z2
  replace z3 := z3.symm
  subst z3
  replace z4 := z4.symm
  subst z4
  replace z5 := z5.symm
  subst z5
  refine And.intro (Or.inl rfl) ?_
  refine And.intro (fun _ => ?_) (fun d => absurd (by rw [hth]) d)
  refine And.intro (fun _ => ?_) (fun d => ?_)
  · exact hK _ _ _ _ _ _ _ _ hIv (show kc + 3 + 0 + 0 ≤ kc + 3 by omega) (show ks + 18 + 0 + 0 ≤ ks + 18 by omega)
  have hk0 : k = 0 := by
    rw [mj_w_id (by omega) (by omega)] at d
    exact Classical.byContradiction fun w => d w
  refine Exists.intro _ (Exists.intro 0 (And.intro hA7 (And.intro (by decide) (And.intro (by decide) ?_))))
  refine Exists.intro 0 (And.intro ?_ ?_)
  · rw [hz hk0]
    unfold mj_lc
    rw [if_neg (by omega), if_pos rfl]
  refine And.intro (fun _ => ?_) (fun d => absurd (by decide) d)
  exact hK _ _ _ _ _ _ _ _ hIv (show kc + 3 + 0 + 0 ≤ kc + 3 by omega) (show ks + 18 + 0 + 0 ≤ ks + 18 by omega)
def q_w_greatest (L : Nat) (sc : Nat → Int) : List (Nat × mj_Sem) := [(620, o_al 1 621), (621, o_al 0 622), (622, o_il 4 624), (624, o_ic 1 625), (625, o_iadd 626), (626, o_sal L sc 627), (627, o_al 0 628), (628, o_il 4 630), (630, o_ic 2 631), (631, o_iadd 632), (632, o_sal L sc 633), (633, o_al 3 634), (634, o_call m_L_greatest 4 601024 7293034 637 mj_rs), (637, o_is 5 639), (639, o_al 2 640), (640, o_al 0 641), (641, o_il 4 643), (643, o_ic 1 644), (644, o_iadd 645), (645, o_sal L sc 646), (646, o_al 0 647), (647, o_il 4 649), (649, o_ic 2 650), (650, o_iadd 651), (651, o_sal L sc 652), (652, o_call m_M_greatest 3 601024 7293034 655 (mj_rv 6)), (655, o_is 6 657), (657, o_al 2 658), (658, o_call m_M_thrown 1 601024 7293034 661 (mj_rv 6)), (661, o_il 5 663), (663, o_iceq 668 666), (666, o_ic 0 667), (667, o_zret 601024 7293034), (668, o_il 5 670), (670, o_ifne 685 673), (673, o_al 3 674), (674, o_ic 0 675), (675, o_lal 676), (676, o_il 6 678), (678, o_i2l 679), (679, o_lcmp 680), (680, o_ifeq 685 683), (683, o_ic 0 684), (684, o_zret 601024 7293034), (685, o_goto 1413)]
set_option maxRecDepth 100000 in
theorem e_w_greatest : ((q_L_law L sc).drop 354).take 45 = q_w_greatest L sc := rfl
theorem z_w_greatest : mj_Code (m_L_law L sc) (q_w_greatest L sc) := fun q hq => z_L_law L sc q (List.mem_of_mem_drop (List.mem_of_mem_take (by rw [e_w_greatest]; exact hq)))
set_option maxHeartbeats 2000000 in
theorem lc_greatest (hI : Iv sh FR IA LA b1 b2 b3) (hi : i + 3 < L) (hL : L ≤ 2048) (hsc : ∀ j, -2147483648 ≤ sc j ∧ sc j < 2147483648) (hkc : kc ≤ 600000) (hks : ks ≤ 7000000) (hK : lwT L sc sh i kc ks) (x5 x6 x7 : Option mj_V) : mj_G (m_L_law L sc) en_Q 620 [some (.inr (.inr (.inr 1))), some (.inr (.inr (.inl 0))), some (.inr (.inr (.inl 52))), some (.inr (.inr (.inl 77))), some (.inl (i : Int)), x5, x6, x7] [] sh FR IA LA 78 kc ks := by
  have hM0 := hI.2.1.o
  have hA7 := hI.a7
  obtain ⟨Q1, c1, c2⟩ := st_greatest hI (hsc (i + 1)) (hsc (i + 2))
  refine mj_go z_w_greatest [1413] 140 ?_
  refine Exists.intro ((i + 1 : Nat) : Int) (And.intro (by first | (rw [mj_w_id (by omega) (by omega)]; done) | (rw [mj_w_id (by omega) (by omega)]; omega) | (unfold mj_w; omega)) ?_)
  refine Exists.intro (i + 1) (And.intro (by first | (rw [mj_w_id (by omega) (by omega)]; done) | (rw [mj_w_id (by omega) (by omega)]; omega) | (unfold mj_w; omega)) (And.intro (by omega) ?_))
  refine Exists.intro ((i + 2 : Nat) : Int) (And.intro (by first | (rw [mj_w_id (by omega) (by omega)]; done) | (rw [mj_w_id (by omega) (by omega)]; omega) | (unfold mj_w; omega)) ?_)
  refine Exists.intro (i + 2) (And.intro (by first | (rw [mj_w_id (by omega) (by omega)]; done) | (rw [mj_w_id (by omega) (by omega)]; omega) | (unfold mj_w; omega)) (And.intro (by omega) ?_))
  refine And.intro trivial (And.intro (Nat.le_of_ble_eq_true rfl) (And.intro (show kc + 2 ≤ 601024 by omega) (And.intro (show ks + 12 ≤ 7293034 by omega) (Exists.intro Q1 (And.intro c1 ?_)))))
  intro o1 sh1 FR1 IA1 LA1 n1 h1
  obtain ⟨e1, e2, k, e3, hk, Q2, d1, d2⟩ := c2 _ _ _ _ _ _ h1
  replace e1 := e1.symm
  subst e1
  replace e2 := e2.symm
  subst e2
  subst e3
  refine And.intro (Or.inl rfl) ?_
  refine Exists.intro ((i + 1 : Nat) : Int) (And.intro (by first | (rw [mj_w_id (by omega) (by omega)]; done) | (rw [mj_w_id (by omega) (by omega)]; omega) | (unfold mj_w; omega)) ?_)
  refine Exists.intro (i + 1) (And.intro (by first | (rw [mj_w_id (by omega) (by omega)]; done) | (rw [mj_w_id (by omega) (by omega)]; omega) | (unfold mj_w; omega)) (And.intro (by omega) ?_))
  refine Exists.intro ((i + 2 : Nat) : Int) (And.intro (by first | (rw [mj_w_id (by omega) (by omega)]; done) | (rw [mj_w_id (by omega) (by omega)]; omega) | (unfold mj_w; omega)) ?_)
  refine Exists.intro (i + 2) (And.intro (by first | (rw [mj_w_id (by omega) (by omega)]; done) | (rw [mj_w_id (by omega) (by omega)]; omega) | (unfold mj_w; omega)) (And.intro (by omega) ?_))
  refine And.intro hM0 (And.intro (Nat.le_of_ble_eq_true rfl) (And.intro (show kc + 2 + 0 ≤ 601024 by omega) (And.intro (show ks + 12 + 0 ≤ 7293034 by omega) (Exists.intro Q2 (And.intro d1 ?_)))))
  intro o2 sh2 FR2 IA2 LA2 n2 h2
  obtain ⟨e4, e5, z, e6, hIv, hth, hz⟩ := d2 _ _ _ _ _ _ h2
  replace e4 := e4.symm
  subst e4
  replace e5 := e5.symm
  subst e5
  subst e6
  refine And.intro (Or.inl rfl) ?_
  have hIM : isM sh FR2 78 := hIv.elim fun _ h => h.elim fun _ h => h.elim fun _ h => h.2.1
  refine And.intro hM0 (And.intro (Nat.le_of_ble_eq_true rfl) (And.intro (show kc + 2 + 0 + 0 ≤ 601024 by omega) (And.intro (show ks + 12 + 0 + 0 ≤ 7293034 by omega) (Exists.intro _ (And.intro (ct_M_thrown hIM) ?_)))))
  rintro r9 sh9 FR9 IA9 LA9 n9 ⟨z0, z1, z2, z3, z4, z5⟩
  subst z0
  replace z1 := z1.symm
  subst z1
  replace z2 := z2.symm
  subst z2
  replace z3 := z3.symm
  subst z3
  replace z4 := z4.symm
  subst z4
  replace z5 := z5.symm
  subst z5
  refine And.intro (Or.inl rfl) ?_
  refine And.intro (fun _ => ?_) (fun d => absurd (by rw [hth]) d)
  refine And.intro (fun _ => ?_) (fun d => ?_)
  · exact hK _ _ _ _ _ _ _ _ hIv (show kc + 2 + 0 + 0 ≤ kc + 3 by omega) (show ks + 12 + 0 + 0 ≤ ks + 18 by omega)
  have hk0 : k = 0 := by
    rw [mj_w_id (by omega) (by omega)] at d
    exact Classical.byContradiction fun w => d w
  refine Exists.intro _ (Exists.intro 0 (And.intro hA7 (And.intro (by decide) (And.intro (by decide) ?_))))
  refine Exists.intro 0 (And.intro ?_ ?_)
  · rw [hz hk0]
    unfold mj_lc
    rw [if_neg (by omega), if_pos rfl]
  refine And.intro (fun _ => ?_) (fun d => absurd (by decide) d)
  exact hK _ _ _ _ _ _ _ _ hIv (show kc + 2 + 0 + 0 ≤ kc + 3 by omega) (show ks + 12 + 0 + 0 ≤ ks + 18 by omega)
def q_w_same (L : Nat) (sc : Nat → Int) : List (Nat × mj_Sem) := [(688, o_al 1 689), (689, o_al 0 690), (690, o_il 4 692), (692, o_ic 1 693), (693, o_iadd 694), (694, o_sal L sc 695), (695, o_al 0 696), (696, o_il 4 698), (698, o_ic 2 699), (699, o_iadd 700), (700, o_sal L sc 701), (701, o_al 3 702), (702, o_call m_L_same 4 601024 7293034 705 mj_rs), (705, o_is 5 707), (707, o_al 2 708), (708, o_al 0 709), (709, o_il 4 711), (711, o_ic 1 712), (712, o_iadd 713), (713, o_sal L sc 714), (714, o_al 0 715), (715, o_il 4 717), (717, o_ic 2 718), (718, o_iadd 719), (719, o_sal L sc 720), (720, o_call m_M_same 3 601024 7293034 723 (mj_rv 6)), (723, o_is 6 725), (725, o_al 2 726), (726, o_call m_M_thrown 1 601024 7293034 729 (mj_rv 6)), (729, o_il 5 731), (731, o_iceq 736 734), (734, o_ic 0 735), (735, o_zret 601024 7293034), (736, o_il 5 738), (738, o_ifne 753 741), (741, o_al 3 742), (742, o_ic 0 743), (743, o_lal 744), (744, o_il 6 746), (746, o_i2l 747), (747, o_lcmp 748), (748, o_ifeq 753 751), (751, o_ic 0 752), (752, o_zret 601024 7293034), (753, o_goto 1413)]
set_option maxRecDepth 100000 in
theorem e_w_same : ((q_L_law L sc).drop 399).take 45 = q_w_same L sc := rfl
theorem z_w_same : mj_Code (m_L_law L sc) (q_w_same L sc) := fun q hq => z_L_law L sc q (List.mem_of_mem_drop (List.mem_of_mem_take (by rw [e_w_same]; exact hq)))
set_option maxHeartbeats 2000000 in
theorem lc_same (hI : Iv sh FR IA LA b1 b2 b3) (hi : i + 3 < L) (hL : L ≤ 2048) (hsc : ∀ j, -2147483648 ≤ sc j ∧ sc j < 2147483648) (hkc : kc ≤ 600000) (hks : ks ≤ 7000000) (hK : lwT L sc sh i kc ks) (x5 x6 x7 : Option mj_V) : mj_G (m_L_law L sc) en_Q 688 [some (.inr (.inr (.inr 1))), some (.inr (.inr (.inl 0))), some (.inr (.inr (.inl 52))), some (.inr (.inr (.inl 77))), some (.inl (i : Int)), x5, x6, x7] [] sh FR IA LA 78 kc ks := by
  have hM0 := hI.2.1.o
  have hA7 := hI.a7
  obtain ⟨Q1, c1, c2⟩ := st_same hI (hsc (i + 1)) (hsc (i + 2))
  refine mj_go z_w_same [1413] 140 ?_
  refine Exists.intro ((i + 1 : Nat) : Int) (And.intro (by first | (rw [mj_w_id (by omega) (by omega)]; done) | (rw [mj_w_id (by omega) (by omega)]; omega) | (unfold mj_w; omega)) ?_)
  refine Exists.intro (i + 1) (And.intro (by first | (rw [mj_w_id (by omega) (by omega)]; done) | (rw [mj_w_id (by omega) (by omega)]; omega) | (unfold mj_w; omega)) (And.intro (by omega) ?_))
  refine Exists.intro ((i + 2 : Nat) : Int) (And.intro (by first | (rw [mj_w_id (by omega) (by omega)]; done) | (rw [mj_w_id (by omega) (by omega)]; omega) | (unfold mj_w; omega)) ?_)
  refine Exists.intro (i + 2) (And.intro (by first | (rw [mj_w_id (by omega) (by omega)]; done) | (rw [mj_w_id (by omega) (by omega)]; omega) | (unfold mj_w; omega)) (And.intro (by omega) ?_))
  refine And.intro trivial (And.intro (Nat.le_of_ble_eq_true rfl) (And.intro (show kc + 3 ≤ 601024 by omega) (And.intro (show ks + 18 ≤ 7293034 by omega) (Exists.intro Q1 (And.intro c1 ?_)))))
  intro o1 sh1 FR1 IA1 LA1 n1 h1
  obtain ⟨e1, e2, k, e3, hk, Q2, d1, d2⟩ := c2 _ _ _ _ _ _ h1
  replace e1 := e1.symm
  subst e1
  replace e2 := e2.symm
  subst e2
  subst e3
  refine And.intro (Or.inl rfl) ?_
  refine Exists.intro ((i + 1 : Nat) : Int) (And.intro (by first | (rw [mj_w_id (by omega) (by omega)]; done) | (rw [mj_w_id (by omega) (by omega)]; omega) | (unfold mj_w; omega)) ?_)
  refine Exists.intro (i + 1) (And.intro (by first | (rw [mj_w_id (by omega) (by omega)]; done) | (rw [mj_w_id (by omega) (by omega)]; omega) | (unfold mj_w; omega)) (And.intro (by omega) ?_))
  refine Exists.intro ((i + 2 : Nat) : Int) (And.intro (by first | (rw [mj_w_id (by omega) (by omega)]; done) | (rw [mj_w_id (by omega) (by omega)]; omega) | (unfold mj_w; omega)) ?_)
  refine Exists.intro (i + 2) (And.intro (by first | (rw [mj_w_id (by omega) (by omega)]; done) | (rw [mj_w_id (by omega) (by omega)]; omega) | (unfold mj_w; omega)) (And.intro (by omega) ?_))
  refine And.intro hM0 (And.intro (Nat.le_of_ble_eq_true rfl) (And.intro (show kc + 3 + 0 ≤ 601024 by omega) (And.intro (show ks + 18 + 0 ≤ 7293034 by omega) (Exists.intro Q2 (And.intro d1 ?_)))))
  intro o2 sh2 FR2 IA2 LA2 n2 h2
  obtain ⟨e4, e5, z, e6, hIv, hth, hz⟩ := d2 _ _ _ _ _ _ h2
  replace e4 := e4.symm
  subst e4
  replace e5 := e5.symm
  subst e5
  subst e6
  refine And.intro (Or.inl rfl) ?_
  have hIM : isM sh FR2 78 := hIv.elim fun _ h => h.elim fun _ h => h.elim fun _ h => h.2.1
  refine And.intro hM0 (And.intro (Nat.le_of_ble_eq_true rfl) (And.intro (show kc + 3 + 0 + 0 ≤ 601024 by omega) (And.intro (show ks + 18 + 0 + 0 ≤ 7293034 by omega) (Exists.intro _ (And.intro (ct_M_thrown hIM) ?_)))))
  rintro r9 sh9 FR9 IA9 LA9 n9 ⟨z0, z1, z2, z3, z4, z5⟩
  subst z0
  replace z1 := z1.symm
  subst z1
  replace z2 := z2.symm
  subst z2
  replace z3 := z3.symm
  subst z3
  replace z4 := z4.symm
  subst z4
  replace z5 := z5.symm
  subst z5
  refine And.intro (Or.inl rfl) ?_
  refine And.intro (fun _ => ?_) (fun d => absurd (by rw [hth]) d)
  refine And.intro (fun _ => ?_) (fun d => ?_)
  · exact hK _ _ _ _ _ _ _ _ hIv (show kc + 3 + 0 + 0 ≤ kc + 3 by omega) (show ks + 18 + 0 + 0 ≤ ks + 18 by omega)
  have hk0 : k = 0 := by
    rw [mj_w_id (by omega) (by omega)] at d
    exact Classical.byContradiction fun w => d w
  refine Exists.intro _ (Exists.intro 0 (And.intro hA7 (And.intro (by decide) (And.intro (by decide) ?_))))
  refine Exists.intro 0 (And.intro ?_ ?_)
  · rw [hz hk0]
    unfold mj_lc
    rw [if_neg (by omega), if_pos rfl]
  refine And.intro (fun _ => ?_) (fun d => absurd (by decide) d)
  exact hK _ _ _ _ _ _ _ _ hIv (show kc + 3 + 0 + 0 ≤ kc + 3 by omega) (show ks + 18 + 0 + 0 ≤ ks + 18 by omega)
def q_w_implies (L : Nat) (sc : Nat → Int) : List (Nat × mj_Sem) := [(756, o_al 1 757), (757, o_al 0 758), (758, o_il 4 760), (760, o_ic 1 761), (761, o_iadd 762), (762, o_sal L sc 763), (763, o_al 0 764), (764, o_il 4 766), (766, o_ic 2 767), (767, o_iadd 768), (768, o_sal L sc 769), (769, o_al 0 770), (770, o_il 4 772), (772, o_ic 3 773), (773, o_iadd 774), (774, o_sal L sc 775), (775, o_al 3 776), (776, o_call m_L_implies 5 601024 7293034 779 mj_rs), (779, o_is 5 781), (781, o_al 2 782), (782, o_al 0 783), (783, o_il 4 785), (785, o_ic 1 786), (786, o_iadd 787), (787, o_sal L sc 788), (788, o_al 0 789), (789, o_il 4 791), (791, o_ic 2 792), (792, o_iadd 793), (793, o_sal L sc 794), (794, o_al 0 795), (795, o_il 4 797), (797, o_ic 3 798), (798, o_iadd 799), (799, o_sal L sc 800), (800, o_call m_M_implies 4 601024 7293034 803 (mj_rv 6)), (803, o_is 6 805), (805, o_al 2 806), (806, o_call m_M_thrown 1 601024 7293034 809 (mj_rv 6)), (809, o_il 5 811), (811, o_iceq 816 814), (814, o_ic 0 815), (815, o_zret 601024 7293034), (816, o_il 5 818), (818, o_ifne 840 821), (821, o_al 3 822), (822, o_ic 0 823), (823, o_lal 824), (824, o_il 6 826), (826, o_ifeq 833 829), (829, o_lc 1#64 830), (830, o_goto 834), (833, o_lc 0#64 834), (834, o_lcmp 835), (835, o_ifeq 840 838), (838, o_ic 0 839), (839, o_zret 601024 7293034), (840, o_goto 1413)]
set_option maxRecDepth 100000 in
theorem e_w_implies : ((q_L_law L sc).drop 444).take 58 = q_w_implies L sc := rfl
theorem z_w_implies : mj_Code (m_L_law L sc) (q_w_implies L sc) := fun q hq => z_L_law L sc q (List.mem_of_mem_drop (List.mem_of_mem_take (by rw [e_w_implies]; exact hq)))
set_option maxHeartbeats 2000000 in
theorem lc_implies (hI : Iv sh FR IA LA b1 b2 b3) (hi : i + 3 < L) (hL : L ≤ 2048) (hsc : ∀ j, -2147483648 ≤ sc j ∧ sc j < 2147483648) (hkc : kc ≤ 600000) (hks : ks ≤ 7000000) (hK : lwT L sc sh i kc ks) (x5 x6 x7 : Option mj_V) : mj_G (m_L_law L sc) en_Q 756 [some (.inr (.inr (.inr 1))), some (.inr (.inr (.inl 0))), some (.inr (.inr (.inl 52))), some (.inr (.inr (.inl 77))), some (.inl (i : Int)), x5, x6, x7] [] sh FR IA LA 78 kc ks := by
  have hM0 := hI.2.1.o
  have hA7 := hI.a7
  obtain ⟨Q1, c1, c2⟩ := st_implies hI (hsc (i + 1)) (hsc (i + 2)) (hsc (i + 3))
  refine mj_go z_w_implies [1413] 140 ?_
  refine Exists.intro ((i + 1 : Nat) : Int) (And.intro (by first | (rw [mj_w_id (by omega) (by omega)]; done) | (rw [mj_w_id (by omega) (by omega)]; omega) | (unfold mj_w; omega)) ?_)
  refine Exists.intro (i + 1) (And.intro (by first | (rw [mj_w_id (by omega) (by omega)]; done) | (rw [mj_w_id (by omega) (by omega)]; omega) | (unfold mj_w; omega)) (And.intro (by omega) ?_))
  refine Exists.intro ((i + 2 : Nat) : Int) (And.intro (by first | (rw [mj_w_id (by omega) (by omega)]; done) | (rw [mj_w_id (by omega) (by omega)]; omega) | (unfold mj_w; omega)) ?_)
  refine Exists.intro (i + 2) (And.intro (by first | (rw [mj_w_id (by omega) (by omega)]; done) | (rw [mj_w_id (by omega) (by omega)]; omega) | (unfold mj_w; omega)) (And.intro (by omega) ?_))
  refine Exists.intro ((i + 3 : Nat) : Int) (And.intro (by first | (rw [mj_w_id (by omega) (by omega)]; done) | (rw [mj_w_id (by omega) (by omega)]; omega) | (unfold mj_w; omega)) ?_)
  refine Exists.intro (i + 3) (And.intro (by first | (rw [mj_w_id (by omega) (by omega)]; done) | (rw [mj_w_id (by omega) (by omega)]; omega) | (unfold mj_w; omega)) (And.intro (by omega) ?_))
  refine And.intro trivial (And.intro (Nat.le_of_ble_eq_true rfl) (And.intro (show kc + 3 ≤ 601024 by omega) (And.intro (show ks + 18 ≤ 7293034 by omega) (Exists.intro Q1 (And.intro c1 ?_)))))
  intro o1 sh1 FR1 IA1 LA1 n1 h1
  obtain ⟨e1, e2, k, e3, hk, Q2, d1, d2⟩ := c2 _ _ _ _ _ _ h1
  replace e1 := e1.symm
  subst e1
  replace e2 := e2.symm
  subst e2
  subst e3
  refine And.intro (Or.inl rfl) ?_
  refine Exists.intro ((i + 1 : Nat) : Int) (And.intro (by first | (rw [mj_w_id (by omega) (by omega)]; done) | (rw [mj_w_id (by omega) (by omega)]; omega) | (unfold mj_w; omega)) ?_)
  refine Exists.intro (i + 1) (And.intro (by first | (rw [mj_w_id (by omega) (by omega)]; done) | (rw [mj_w_id (by omega) (by omega)]; omega) | (unfold mj_w; omega)) (And.intro (by omega) ?_))
  refine Exists.intro ((i + 2 : Nat) : Int) (And.intro (by first | (rw [mj_w_id (by omega) (by omega)]; done) | (rw [mj_w_id (by omega) (by omega)]; omega) | (unfold mj_w; omega)) ?_)
  refine Exists.intro (i + 2) (And.intro (by first | (rw [mj_w_id (by omega) (by omega)]; done) | (rw [mj_w_id (by omega) (by omega)]; omega) | (unfold mj_w; omega)) (And.intro (by omega) ?_))
  refine Exists.intro ((i + 3 : Nat) : Int) (And.intro (by first | (rw [mj_w_id (by omega) (by omega)]; done) | (rw [mj_w_id (by omega) (by omega)]; omega) | (unfold mj_w; omega)) ?_)
  refine Exists.intro (i + 3) (And.intro (by first | (rw [mj_w_id (by omega) (by omega)]; done) | (rw [mj_w_id (by omega) (by omega)]; omega) | (unfold mj_w; omega)) (And.intro (by omega) ?_))
  refine And.intro hM0 (And.intro (Nat.le_of_ble_eq_true rfl) (And.intro (show kc + 3 + 0 ≤ 601024 by omega) (And.intro (show ks + 18 + 0 ≤ 7293034 by omega) (Exists.intro Q2 (And.intro d1 ?_)))))
  intro o2 sh2 FR2 IA2 LA2 n2 h2
  obtain ⟨e4, e5, z, e6, hz01, hIv, hth, hz⟩ := d2 _ _ _ _ _ _ h2
  replace e4 := e4.symm
  subst e4
  replace e5 := e5.symm
  subst e5
  subst e6
  refine And.intro (Or.inl rfl) ?_
  have hIM : isM sh FR2 78 := hIv.elim fun _ h => h.elim fun _ h => h.elim fun _ h => h.2.1
  refine And.intro hM0 (And.intro (Nat.le_of_ble_eq_true rfl) (And.intro (show kc + 3 + 0 + 0 ≤ 601024 by omega) (And.intro (show ks + 18 + 0 + 0 ≤ 7293034 by omega) (Exists.intro _ (And.intro (ct_M_thrown hIM) ?_)))))
  rintro r9 sh9 FR9 IA9 LA9 n9 ⟨z0, z1, z2, z3, z4, z5⟩
  subst z0
  replace z1 := z1.symm
  subst z1
  replace z2 := z2.symm
  subst z2
  replace z3 := z3.symm
  subst z3
  replace z4 := z4.symm
  subst z4
  replace z5 := z5.symm
  subst z5
  refine And.intro (Or.inl rfl) ?_
  refine And.intro (fun _ => ?_) (fun d => absurd (by rw [hth]) d)
  refine And.intro (fun _ => ?_) (fun d => ?_)
  · exact hK _ _ _ _ _ _ _ _ hIv (show kc + 3 + 0 + 0 ≤ kc + 3 by omega) (show ks + 18 + 0 + 0 ≤ ks + 18 by omega)
  have hk0 : k = 0 := by
    rw [mj_w_id (by omega) (by omega)] at d
    exact Classical.byContradiction fun w => d w
  refine Exists.intro _ (Exists.intro 0 (And.intro hA7 (And.intro (by decide) (And.intro (by decide) ?_))))
  rcases hz01 with hz01 | hz01
  · subst hz01
    refine And.intro (fun _ => ?_) (fun d => absurd (by decide) d)
    refine Exists.intro 0 (And.intro ?_ ?_)
    · have e9 := hz hk0
      rw [show BitVec.ofInt 64 (mj_w 0) = 0#64 by decide] at e9
      rw [e9]
      rfl
    refine And.intro (fun _ => ?_) (fun d => absurd (by decide) d)
    exact hK _ _ _ _ _ _ _ _ hIv (show kc + 3 + 0 + 0 ≤ kc + 3 by omega) (show ks + 18 + 0 + 0 ≤ ks + 18 by omega)
  · subst hz01
    refine And.intro (fun d => absurd d (by decide)) (fun _ => ?_)
    refine Exists.intro 0 (And.intro ?_ ?_)
    · have e9 := hz hk0
      rw [show BitVec.ofInt 64 (mj_w 1) = 1#64 by decide] at e9
      rw [e9]
      rfl
    refine And.intro (fun _ => ?_) (fun d => absurd (by decide) d)
    exact hK _ _ _ _ _ _ _ _ hIv (show kc + 3 + 0 + 0 ≤ kc + 3 by omega) (show ks + 18 + 0 + 0 ≤ ks + 18 by omega)
def q_w_depends (L : Nat) (sc : Nat → Int) : List (Nat × mj_Sem) := [(843, o_al 1 844), (844, o_al 0 845), (845, o_il 4 847), (847, o_ic 1 848), (848, o_iadd 849), (849, o_sal L sc 850), (850, o_al 0 851), (851, o_il 4 853), (853, o_ic 2 854), (854, o_iadd 855), (855, o_sal L sc 856), (856, o_al 0 857), (857, o_il 4 859), (859, o_ic 3 860), (860, o_iadd 861), (861, o_sal L sc 862), (862, o_al 3 863), (863, o_call m_L_depends 5 601024 7293034 866 mj_rs), (866, o_is 5 868), (868, o_al 2 869), (869, o_al 0 870), (870, o_il 4 872), (872, o_ic 1 873), (873, o_iadd 874), (874, o_sal L sc 875), (875, o_al 0 876), (876, o_il 4 878), (878, o_ic 2 879), (879, o_iadd 880), (880, o_sal L sc 881), (881, o_al 0 882), (882, o_il 4 884), (884, o_ic 3 885), (885, o_iadd 886), (886, o_sal L sc 887), (887, o_call m_M_depends 4 601024 7293034 890 (mj_rv 6)), (890, o_is 6 892), (892, o_al 2 893), (893, o_call m_M_thrown 1 601024 7293034 896 (mj_rv 6)), (896, o_il 5 898), (898, o_iceq 903 901), (901, o_ic 0 902), (902, o_zret 601024 7293034), (903, o_il 5 905), (905, o_ifne 927 908), (908, o_al 3 909), (909, o_ic 0 910), (910, o_lal 911), (911, o_il 6 913), (913, o_ifeq 920 916), (916, o_lc 1#64 917), (917, o_goto 921), (920, o_lc 0#64 921), (921, o_lcmp 922), (922, o_ifeq 927 925), (925, o_ic 0 926), (926, o_zret 601024 7293034), (927, o_goto 1413)]
set_option maxRecDepth 100000 in
theorem e_w_depends : ((q_L_law L sc).drop 502).take 58 = q_w_depends L sc := rfl
theorem z_w_depends : mj_Code (m_L_law L sc) (q_w_depends L sc) := fun q hq => z_L_law L sc q (List.mem_of_mem_drop (List.mem_of_mem_take (by rw [e_w_depends]; exact hq)))
set_option maxHeartbeats 2000000 in
theorem lc_depends (hI : Iv sh FR IA LA b1 b2 b3) (hi : i + 3 < L) (hL : L ≤ 2048) (hsc : ∀ j, -2147483648 ≤ sc j ∧ sc j < 2147483648) (hkc : kc ≤ 600000) (hks : ks ≤ 7000000) (hK : lwT L sc sh i kc ks) (x5 x6 x7 : Option mj_V) : mj_G (m_L_law L sc) en_Q 843 [some (.inr (.inr (.inr 1))), some (.inr (.inr (.inl 0))), some (.inr (.inr (.inl 52))), some (.inr (.inr (.inl 77))), some (.inl (i : Int)), x5, x6, x7] [] sh FR IA LA 78 kc ks := by
  have hM0 := hI.2.1.o
  have hA7 := hI.a7
  obtain ⟨Q1, c1, c2⟩ := st_depends hI (hsc (i + 1)) (hsc (i + 2)) (hsc (i + 3))
  refine mj_go z_w_depends [1413] 140 ?_
  refine Exists.intro ((i + 1 : Nat) : Int) (And.intro (by first | (rw [mj_w_id (by omega) (by omega)]; done) | (rw [mj_w_id (by omega) (by omega)]; omega) | (unfold mj_w; omega)) ?_)
  refine Exists.intro (i + 1) (And.intro (by first | (rw [mj_w_id (by omega) (by omega)]; done) | (rw [mj_w_id (by omega) (by omega)]; omega) | (unfold mj_w; omega)) (And.intro (by omega) ?_))
  refine Exists.intro ((i + 2 : Nat) : Int) (And.intro (by first | (rw [mj_w_id (by omega) (by omega)]; done) | (rw [mj_w_id (by omega) (by omega)]; omega) | (unfold mj_w; omega)) ?_)
  refine Exists.intro (i + 2) (And.intro (by first | (rw [mj_w_id (by omega) (by omega)]; done) | (rw [mj_w_id (by omega) (by omega)]; omega) | (unfold mj_w; omega)) (And.intro (by omega) ?_))
  refine Exists.intro ((i + 3 : Nat) : Int) (And.intro (by first | (rw [mj_w_id (by omega) (by omega)]; done) | (rw [mj_w_id (by omega) (by omega)]; omega) | (unfold mj_w; omega)) ?_)
  refine Exists.intro (i + 3) (And.intro (by first | (rw [mj_w_id (by omega) (by omega)]; done) | (rw [mj_w_id (by omega) (by omega)]; omega) | (unfold mj_w; omega)) (And.intro (by omega) ?_))
  refine And.intro trivial (And.intro (Nat.le_of_ble_eq_true rfl) (And.intro (show kc + 3 ≤ 601024 by omega) (And.intro (show ks + 18 ≤ 7293034 by omega) (Exists.intro Q1 (And.intro c1 ?_)))))
  intro o1 sh1 FR1 IA1 LA1 n1 h1
  obtain ⟨e1, e2, k, e3, hk, Q2, d1, d2⟩ := c2 _ _ _ _ _ _ h1
  replace e1 := e1.symm
  subst e1
  replace e2 := e2.symm
  subst e2
  subst e3
  refine And.intro (Or.inl rfl) ?_
  refine Exists.intro ((i + 1 : Nat) : Int) (And.intro (by first | (rw [mj_w_id (by omega) (by omega)]; done) | (rw [mj_w_id (by omega) (by omega)]; omega) | (unfold mj_w; omega)) ?_)
  refine Exists.intro (i + 1) (And.intro (by first | (rw [mj_w_id (by omega) (by omega)]; done) | (rw [mj_w_id (by omega) (by omega)]; omega) | (unfold mj_w; omega)) (And.intro (by omega) ?_))
  refine Exists.intro ((i + 2 : Nat) : Int) (And.intro (by first | (rw [mj_w_id (by omega) (by omega)]; done) | (rw [mj_w_id (by omega) (by omega)]; omega) | (unfold mj_w; omega)) ?_)
  refine Exists.intro (i + 2) (And.intro (by first | (rw [mj_w_id (by omega) (by omega)]; done) | (rw [mj_w_id (by omega) (by omega)]; omega) | (unfold mj_w; omega)) (And.intro (by omega) ?_))
  refine Exists.intro ((i + 3 : Nat) : Int) (And.intro (by first | (rw [mj_w_id (by omega) (by omega)]; done) | (rw [mj_w_id (by omega) (by omega)]; omega) | (unfold mj_w; omega)) ?_)
  refine Exists.intro (i + 3) (And.intro (by first | (rw [mj_w_id (by omega) (by omega)]; done) | (rw [mj_w_id (by omega) (by omega)]; omega) | (unfold mj_w; omega)) (And.intro (by omega) ?_))
  refine And.intro hM0 (And.intro (Nat.le_of_ble_eq_true rfl) (And.intro (show kc + 3 + 0 ≤ 601024 by omega) (And.intro (show ks + 18 + 0 ≤ 7293034 by omega) (Exists.intro Q2 (And.intro d1 ?_)))))
  intro o2 sh2 FR2 IA2 LA2 n2 h2
  obtain ⟨e4, e5, z, e6, hz01, hIv, hth, hz⟩ := d2 _ _ _ _ _ _ h2
  replace e4 := e4.symm
  subst e4
  replace e5 := e5.symm
  subst e5
  subst e6
  refine And.intro (Or.inl rfl) ?_
  have hIM : isM sh FR2 78 := hIv.elim fun _ h => h.elim fun _ h => h.elim fun _ h => h.2.1
  refine And.intro hM0 (And.intro (Nat.le_of_ble_eq_true rfl) (And.intro (show kc + 3 + 0 + 0 ≤ 601024 by omega) (And.intro (show ks + 18 + 0 + 0 ≤ 7293034 by omega) (Exists.intro _ (And.intro (ct_M_thrown hIM) ?_)))))
  rintro r9 sh9 FR9 IA9 LA9 n9 ⟨z0, z1, z2, z3, z4, z5⟩
  subst z0
  replace z1 := z1.symm
  subst z1
  replace z2 := z2.symm
  subst z2
  replace z3 := z3.symm
  subst z3
  replace z4 := z4.symm
  subst z4
  replace z5 := z5.symm
  subst z5
  refine And.intro (Or.inl rfl) ?_
  refine And.intro (fun _ => ?_) (fun d => absurd (by rw [hth]) d)
  refine And.intro (fun _ => ?_) (fun d => ?_)
  · exact hK _ _ _ _ _ _ _ _ hIv (show kc + 3 + 0 + 0 ≤ kc + 3 by omega) (show ks + 18 + 0 + 0 ≤ ks + 18 by omega)
  have hk0 : k = 0 := by
    rw [mj_w_id (by omega) (by omega)] at d
    exact Classical.byContradiction fun w => d w
  refine Exists.intro _ (Exists.intro 0 (And.intro hA7 (And.intro (by decide) (And.intro (by decide) ?_))))
  rcases hz01 with hz01 | hz01
  · subst hz01
    refine And.intro (fun _ => ?_) (fun d => absurd (by decide) d)
    refine Exists.intro 0 (And.intro ?_ ?_)
    · have e9 := hz hk0
      rw [show BitVec.ofInt 64 (mj_w 0) = 0#64 by decide] at e9
      rw [e9]
      rfl
    refine And.intro (fun _ => ?_) (fun d => absurd (by decide) d)
    exact hK _ _ _ _ _ _ _ _ hIv (show kc + 3 + 0 + 0 ≤ kc + 3 by omega) (show ks + 18 + 0 + 0 ≤ ks + 18 by omega)
  · subst hz01
    refine And.intro (fun d => absurd d (by decide)) (fun _ => ?_)
    refine Exists.intro 0 (And.intro ?_ ?_)
    · have e9 := hz hk0
      rw [show BitVec.ofInt 64 (mj_w 1) = 1#64 by decide] at e9
      rw [e9]
      rfl
    refine And.intro (fun _ => ?_) (fun d => absurd (by decide) d)
    exact hK _ _ _ _ _ _ _ _ hIv (show kc + 3 + 0 + 0 ≤ kc + 3 by omega) (show ks + 18 + 0 + 0 ≤ ks + 18 by omega)
def q_w_rises (L : Nat) (sc : Nat → Int) : List (Nat × mj_Sem) := [(930, o_al 1 931), (931, o_al 0 932), (932, o_il 4 934), (934, o_ic 1 935), (935, o_iadd 936), (936, o_sal L sc 937), (937, o_al 0 938), (938, o_il 4 940), (940, o_ic 2 941), (941, o_iadd 942), (942, o_sal L sc 943), (943, o_al 0 944), (944, o_il 4 946), (946, o_ic 3 947), (947, o_iadd 948), (948, o_sal L sc 949), (949, o_al 3 950), (950, o_call m_L_rises 5 601024 7293034 953 mj_rs), (953, o_is 5 955), (955, o_al 2 956), (956, o_al 0 957), (957, o_il 4 959), (959, o_ic 1 960), (960, o_iadd 961), (961, o_sal L sc 962), (962, o_al 0 963), (963, o_il 4 965), (965, o_ic 2 966), (966, o_iadd 967), (967, o_sal L sc 968), (968, o_al 0 969), (969, o_il 4 971), (971, o_ic 3 972), (972, o_iadd 973), (973, o_sal L sc 974), (974, o_call m_M_rises 4 601024 7293034 977 (mj_rv 6)), (977, o_is 6 979), (979, o_al 2 980), (980, o_call m_M_thrown 1 601024 7293034 983 (mj_rv 6)), (983, o_il 5 985), (985, o_iceq 990 988), (988, o_ic 0 989), (989, o_zret 601024 7293034), (990, o_il 5 992), (992, o_ifne 1007 995), (995, o_al 3 996), (996, o_ic 0 997), (997, o_lal 998), (998, o_il 6 1000), (1000, o_i2l 1001), (1001, o_lcmp 1002), (1002, o_ifeq 1007 1005), (1005, o_ic 0 1006), (1006, o_zret 601024 7293034), (1007, o_goto 1413)]
set_option maxRecDepth 100000 in
theorem e_w_rises : ((q_L_law L sc).drop 560).take 55 = q_w_rises L sc := rfl
theorem z_w_rises : mj_Code (m_L_law L sc) (q_w_rises L sc) := fun q hq => z_L_law L sc q (List.mem_of_mem_drop (List.mem_of_mem_take (by rw [e_w_rises]; exact hq)))
set_option maxHeartbeats 2000000 in
theorem lc_rises (hI : Iv sh FR IA LA b1 b2 b3) (hi : i + 3 < L) (hL : L ≤ 2048) (hsc : ∀ j, -2147483648 ≤ sc j ∧ sc j < 2147483648) (hkc : kc ≤ 600000) (hks : ks ≤ 7000000) (hK : lwT L sc sh i kc ks) (x5 x6 x7 : Option mj_V) : mj_G (m_L_law L sc) en_Q 930 [some (.inr (.inr (.inr 1))), some (.inr (.inr (.inl 0))), some (.inr (.inr (.inl 52))), some (.inr (.inr (.inl 77))), some (.inl (i : Int)), x5, x6, x7] [] sh FR IA LA 78 kc ks := by
  have hM0 := hI.2.1.o
  have hA7 := hI.a7
  obtain ⟨Q1, c1, c2⟩ := st_rises hI (hsc (i + 1)) (hsc (i + 2)) (hsc (i + 3))
  refine mj_go z_w_rises [1413] 140 ?_
  refine Exists.intro ((i + 1 : Nat) : Int) (And.intro (by first | (rw [mj_w_id (by omega) (by omega)]; done) | (rw [mj_w_id (by omega) (by omega)]; omega) | (unfold mj_w; omega)) ?_)
  refine Exists.intro (i + 1) (And.intro (by first | (rw [mj_w_id (by omega) (by omega)]; done) | (rw [mj_w_id (by omega) (by omega)]; omega) | (unfold mj_w; omega)) (And.intro (by omega) ?_))
  refine Exists.intro ((i + 2 : Nat) : Int) (And.intro (by first | (rw [mj_w_id (by omega) (by omega)]; done) | (rw [mj_w_id (by omega) (by omega)]; omega) | (unfold mj_w; omega)) ?_)
  refine Exists.intro (i + 2) (And.intro (by first | (rw [mj_w_id (by omega) (by omega)]; done) | (rw [mj_w_id (by omega) (by omega)]; omega) | (unfold mj_w; omega)) (And.intro (by omega) ?_))
  refine Exists.intro ((i + 3 : Nat) : Int) (And.intro (by first | (rw [mj_w_id (by omega) (by omega)]; done) | (rw [mj_w_id (by omega) (by omega)]; omega) | (unfold mj_w; omega)) ?_)
  refine Exists.intro (i + 3) (And.intro (by first | (rw [mj_w_id (by omega) (by omega)]; done) | (rw [mj_w_id (by omega) (by omega)]; omega) | (unfold mj_w; omega)) (And.intro (by omega) ?_))
  refine And.intro trivial (And.intro (Nat.le_of_ble_eq_true rfl) (And.intro (show kc + 3 ≤ 601024 by omega) (And.intro (show ks + 18 ≤ 7293034 by omega) (Exists.intro Q1 (And.intro c1 ?_)))))
  intro o1 sh1 FR1 IA1 LA1 n1 h1
  obtain ⟨e1, e2, k, e3, hk, Q2, d1, d2⟩ := c2 _ _ _ _ _ _ h1
  replace e1 := e1.symm
  subst e1
  replace e2 := e2.symm
  subst e2
  subst e3
  refine And.intro (Or.inl rfl) ?_
  refine Exists.intro ((i + 1 : Nat) : Int) (And.intro (by first | (rw [mj_w_id (by omega) (by omega)]; done) | (rw [mj_w_id (by omega) (by omega)]; omega) | (unfold mj_w; omega)) ?_)
  refine Exists.intro (i + 1) (And.intro (by first | (rw [mj_w_id (by omega) (by omega)]; done) | (rw [mj_w_id (by omega) (by omega)]; omega) | (unfold mj_w; omega)) (And.intro (by omega) ?_))
  refine Exists.intro ((i + 2 : Nat) : Int) (And.intro (by first | (rw [mj_w_id (by omega) (by omega)]; done) | (rw [mj_w_id (by omega) (by omega)]; omega) | (unfold mj_w; omega)) ?_)
  refine Exists.intro (i + 2) (And.intro (by first | (rw [mj_w_id (by omega) (by omega)]; done) | (rw [mj_w_id (by omega) (by omega)]; omega) | (unfold mj_w; omega)) (And.intro (by omega) ?_))
  refine Exists.intro ((i + 3 : Nat) : Int) (And.intro (by first | (rw [mj_w_id (by omega) (by omega)]; done) | (rw [mj_w_id (by omega) (by omega)]; omega) | (unfold mj_w; omega)) ?_)
  refine Exists.intro (i + 3) (And.intro (by first | (rw [mj_w_id (by omega) (by omega)]; done) | (rw [mj_w_id (by omega) (by omega)]; omega) | (unfold mj_w; omega)) (And.intro (by omega) ?_))
  refine And.intro hM0 (And.intro (Nat.le_of_ble_eq_true rfl) (And.intro (show kc + 3 + 0 ≤ 601024 by omega) (And.intro (show ks + 18 + 0 ≤ 7293034 by omega) (Exists.intro Q2 (And.intro d1 ?_)))))
  intro o2 sh2 FR2 IA2 LA2 n2 h2
  obtain ⟨e4, e5, z, e6, hIv, hth, hz⟩ := d2 _ _ _ _ _ _ h2
  replace e4 := e4.symm
  subst e4
  replace e5 := e5.symm
  subst e5
  subst e6
  refine And.intro (Or.inl rfl) ?_
  have hIM : isM sh FR2 78 := hIv.elim fun _ h => h.elim fun _ h => h.elim fun _ h => h.2.1
  refine And.intro hM0 (And.intro (Nat.le_of_ble_eq_true rfl) (And.intro (show kc + 3 + 0 + 0 ≤ 601024 by omega) (And.intro (show ks + 18 + 0 + 0 ≤ 7293034 by omega) (Exists.intro _ (And.intro (ct_M_thrown hIM) ?_)))))
  rintro r9 sh9 FR9 IA9 LA9 n9 ⟨z0, z1, z2, z3, z4, z5⟩
  subst z0
  replace z1 := z1.symm
  subst z1
  replace z2 := z2.symm
  subst z2
  replace z3 := z3.symm
  subst z3
  replace z4 := z4.symm
  subst z4
  replace z5 := z5.symm
  subst z5
  refine And.intro (Or.inl rfl) ?_
  refine And.intro (fun _ => ?_) (fun d => absurd (by rw [hth]) d)
  refine And.intro (fun _ => ?_) (fun d => ?_)
  · exact hK _ _ _ _ _ _ _ _ hIv (show kc + 3 + 0 + 0 ≤ kc + 3 by omega) (show ks + 18 + 0 + 0 ≤ ks + 18 by omega)
  have hk0 : k = 0 := by
    rw [mj_w_id (by omega) (by omega)] at d
    exact Classical.byContradiction fun w => d w
  refine Exists.intro _ (Exists.intro 0 (And.intro hA7 (And.intro (by decide) (And.intro (by decide) ?_))))
  refine Exists.intro 0 (And.intro ?_ ?_)
  · rw [hz hk0]
    unfold mj_lc
    rw [if_neg (by omega), if_pos rfl]
  refine And.intro (fun _ => ?_) (fun d => absurd (by decide) d)
  exact hK _ _ _ _ _ _ _ _ hIv (show kc + 3 + 0 + 0 ≤ kc + 3 by omega) (show ks + 18 + 0 + 0 ≤ ks + 18 by omega)
def q_w_leader (L : Nat) (sc : Nat → Int) : List (Nat × mj_Sem) := [(1010, o_al 1 1011), (1011, o_al 0 1012), (1012, o_il 4 1014), (1014, o_ic 1 1015), (1015, o_iadd 1016), (1016, o_sal L sc 1017), (1017, o_al 0 1018), (1018, o_il 4 1020), (1020, o_ic 2 1021), (1021, o_iadd 1022), (1022, o_sal L sc 1023), (1023, o_al 3 1024), (1024, o_call m_L_leader 4 601024 7293034 1027 mj_rs), (1027, o_is 5 1029), (1029, o_al 2 1030), (1030, o_al 0 1031), (1031, o_il 4 1033), (1033, o_ic 1 1034), (1034, o_iadd 1035), (1035, o_sal L sc 1036), (1036, o_al 0 1037), (1037, o_il 4 1039), (1039, o_ic 2 1040), (1040, o_iadd 1041), (1041, o_sal L sc 1042), (1042, o_call m_M_leader 3 601024 7293034 1045 (mj_rv 6)), (1045, o_is 6 1047), (1047, o_al 2 1048), (1048, o_call m_M_thrown 1 601024 7293034 1051 (mj_rv 6)), (1051, o_il 5 1053), (1053, o_iceq 1058 1056), (1056, o_ic 0 1057), (1057, o_zret 601024 7293034), (1058, o_il 5 1060), (1060, o_ifne 1075 1063), (1063, o_al 3 1064), (1064, o_ic 0 1065), (1065, o_lal 1066), (1066, o_il 6 1068), (1068, o_i2l 1069), (1069, o_lcmp 1070), (1070, o_ifeq 1075 1073), (1073, o_ic 0 1074), (1074, o_zret 601024 7293034), (1075, o_goto 1413)]
set_option maxRecDepth 100000 in
theorem e_w_leader : ((q_L_law L sc).drop 615).take 45 = q_w_leader L sc := rfl
theorem z_w_leader : mj_Code (m_L_law L sc) (q_w_leader L sc) := fun q hq => z_L_law L sc q (List.mem_of_mem_drop (List.mem_of_mem_take (by rw [e_w_leader]; exact hq)))
set_option maxHeartbeats 2000000 in
theorem lc_leader (hI : Iv sh FR IA LA b1 b2 b3) (hi : i + 3 < L) (hL : L ≤ 2048) (hsc : ∀ j, -2147483648 ≤ sc j ∧ sc j < 2147483648) (hkc : kc ≤ 600000) (hks : ks ≤ 7000000) (hK : lwT L sc sh i kc ks) (x5 x6 x7 : Option mj_V) : mj_G (m_L_law L sc) en_Q 1010 [some (.inr (.inr (.inr 1))), some (.inr (.inr (.inl 0))), some (.inr (.inr (.inl 52))), some (.inr (.inr (.inl 77))), some (.inl (i : Int)), x5, x6, x7] [] sh FR IA LA 78 kc ks := by
  have hM0 := hI.2.1.o
  have hA7 := hI.a7
  obtain ⟨Q1, c1, c2⟩ := st_leader hI (hsc (i + 1)) (hsc (i + 2))
  refine mj_go z_w_leader [1413] 140 ?_
  refine Exists.intro ((i + 1 : Nat) : Int) (And.intro (by first | (rw [mj_w_id (by omega) (by omega)]; done) | (rw [mj_w_id (by omega) (by omega)]; omega) | (unfold mj_w; omega)) ?_)
  refine Exists.intro (i + 1) (And.intro (by first | (rw [mj_w_id (by omega) (by omega)]; done) | (rw [mj_w_id (by omega) (by omega)]; omega) | (unfold mj_w; omega)) (And.intro (by omega) ?_))
  refine Exists.intro ((i + 2 : Nat) : Int) (And.intro (by first | (rw [mj_w_id (by omega) (by omega)]; done) | (rw [mj_w_id (by omega) (by omega)]; omega) | (unfold mj_w; omega)) ?_)
  refine Exists.intro (i + 2) (And.intro (by first | (rw [mj_w_id (by omega) (by omega)]; done) | (rw [mj_w_id (by omega) (by omega)]; omega) | (unfold mj_w; omega)) (And.intro (by omega) ?_))
  refine And.intro trivial (And.intro (Nat.le_of_ble_eq_true rfl) (And.intro (show kc + 2 ≤ 601024 by omega) (And.intro (show ks + 12 ≤ 7293034 by omega) (Exists.intro Q1 (And.intro c1 ?_)))))
  intro o1 sh1 FR1 IA1 LA1 n1 h1
  obtain ⟨e1, e2, k, e3, hk, Q2, d1, d2⟩ := c2 _ _ _ _ _ _ h1
  replace e1 := e1.symm
  subst e1
  replace e2 := e2.symm
  subst e2
  subst e3
  refine And.intro (Or.inl rfl) ?_
  refine Exists.intro ((i + 1 : Nat) : Int) (And.intro (by first | (rw [mj_w_id (by omega) (by omega)]; done) | (rw [mj_w_id (by omega) (by omega)]; omega) | (unfold mj_w; omega)) ?_)
  refine Exists.intro (i + 1) (And.intro (by first | (rw [mj_w_id (by omega) (by omega)]; done) | (rw [mj_w_id (by omega) (by omega)]; omega) | (unfold mj_w; omega)) (And.intro (by omega) ?_))
  refine Exists.intro ((i + 2 : Nat) : Int) (And.intro (by first | (rw [mj_w_id (by omega) (by omega)]; done) | (rw [mj_w_id (by omega) (by omega)]; omega) | (unfold mj_w; omega)) ?_)
  refine Exists.intro (i + 2) (And.intro (by first | (rw [mj_w_id (by omega) (by omega)]; done) | (rw [mj_w_id (by omega) (by omega)]; omega) | (unfold mj_w; omega)) (And.intro (by omega) ?_))
  refine And.intro hM0 (And.intro (Nat.le_of_ble_eq_true rfl) (And.intro (show kc + 2 + 0 ≤ 601024 by omega) (And.intro (show ks + 12 + 0 ≤ 7293034 by omega) (Exists.intro Q2 (And.intro d1 ?_)))))
  intro o2 sh2 FR2 IA2 LA2 n2 h2
  obtain ⟨e4, e5, z, e6, hIv, hth, hz⟩ := d2 _ _ _ _ _ _ h2
  replace e4 := e4.symm
  subst e4
  replace e5 := e5.symm
  subst e5
  subst e6
  refine And.intro (Or.inl rfl) ?_
  have hIM : isM sh FR2 78 := hIv.elim fun _ h => h.elim fun _ h => h.elim fun _ h => h.2.1
  refine And.intro hM0 (And.intro (Nat.le_of_ble_eq_true rfl) (And.intro (show kc + 2 + 0 + 0 ≤ 601024 by omega) (And.intro (show ks + 12 + 0 + 0 ≤ 7293034 by omega) (Exists.intro _ (And.intro (ct_M_thrown hIM) ?_)))))
  rintro r9 sh9 FR9 IA9 LA9 n9 ⟨z0, z1, z2, z3, z4, z5⟩
  subst z0
  replace z1 := z1.symm
  subst z1
  replace z2 := z2.symm
  subst z2
  replace z3 := z3.symm
  subst z3
  replace z4 := z4.symm
  subst z4
  replace z5 := z5.symm
  subst z5
  refine And.intro (Or.inl rfl) ?_
  refine And.intro (fun _ => ?_) (fun d => absurd (by rw [hth]) d)
  refine And.intro (fun _ => ?_) (fun d => ?_)
  · exact hK _ _ _ _ _ _ _ _ hIv (show kc + 2 + 0 + 0 ≤ kc + 3 by omega) (show ks + 12 + 0 + 0 ≤ ks + 18 by omega)
  have hk0 : k = 0 := by
    rw [mj_w_id (by omega) (by omega)] at d
    exact Classical.byContradiction fun w => d w
  refine Exists.intro _ (Exists.intro 0 (And.intro hA7 (And.intro (by decide) (And.intro (by decide) ?_))))
  refine Exists.intro 0 (And.intro ?_ ?_)
  · rw [hz hk0]
    unfold mj_lc
    rw [if_neg (by omega), if_pos rfl]
  refine And.intro (fun _ => ?_) (fun d => absurd (by decide) d)
  exact hK _ _ _ _ _ _ _ _ hIv (show kc + 2 + 0 + 0 ≤ kc + 3 by omega) (show ks + 12 + 0 + 0 ≤ ks + 18 by omega)
def q_w_functions (L : Nat) (sc : Nat → Int) : List (Nat × mj_Sem) := [(1078, o_al 1 1079), (1079, o_al 0 1080), (1080, o_il 4 1082), (1082, o_ic 1 1083), (1083, o_iadd 1084), (1084, o_sal L sc 1085), (1085, o_al 3 1086), (1086, o_call m_L_functions 3 601024 7293034 1089 mj_rs), (1089, o_is 5 1091), (1091, o_al 2 1092), (1092, o_al 0 1093), (1093, o_il 4 1095), (1095, o_ic 1 1096), (1096, o_iadd 1097), (1097, o_sal L sc 1098), (1098, o_call m_M_functions 2 601024 7293034 1101 (mj_rv 6)), (1101, o_is 6 1103), (1103, o_al 2 1104), (1104, o_call m_M_thrown 1 601024 7293034 1107 (mj_rv 6)), (1107, o_il 5 1109), (1109, o_iceq 1114 1112), (1112, o_ic 0 1113), (1113, o_zret 601024 7293034), (1114, o_il 5 1116), (1116, o_ifne 1131 1119), (1119, o_al 3 1120), (1120, o_ic 0 1121), (1121, o_lal 1122), (1122, o_il 6 1124), (1124, o_i2l 1125), (1125, o_lcmp 1126), (1126, o_ifeq 1131 1129), (1129, o_ic 0 1130), (1130, o_zret 601024 7293034), (1131, o_goto 1413)]
set_option maxRecDepth 100000 in
theorem e_w_functions : ((q_L_law L sc).drop 660).take 35 = q_w_functions L sc := rfl
theorem z_w_functions : mj_Code (m_L_law L sc) (q_w_functions L sc) := fun q hq => z_L_law L sc q (List.mem_of_mem_drop (List.mem_of_mem_take (by rw [e_w_functions]; exact hq)))
set_option maxHeartbeats 2000000 in
theorem lc_functions (hI : Iv sh FR IA LA b1 b2 b3) (hi : i + 3 < L) (hL : L ≤ 2048) (hsc : ∀ j, -2147483648 ≤ sc j ∧ sc j < 2147483648) (hkc : kc ≤ 600000) (hks : ks ≤ 7000000) (hK : lwT L sc sh i kc ks) (x5 x6 x7 : Option mj_V) : mj_G (m_L_law L sc) en_Q 1078 [some (.inr (.inr (.inr 1))), some (.inr (.inr (.inl 0))), some (.inr (.inr (.inl 52))), some (.inr (.inr (.inl 77))), some (.inl (i : Int)), x5, x6, x7] [] sh FR IA LA 78 kc ks := by
  have hM0 := hI.2.1.o
  have hA7 := hI.a7
  obtain ⟨Q1, c1, c2⟩ := st_functions hI (hsc (i + 1))
  refine mj_go z_w_functions [1413] 140 ?_
  refine Exists.intro ((i + 1 : Nat) : Int) (And.intro (by first | (rw [mj_w_id (by omega) (by omega)]; done) | (rw [mj_w_id (by omega) (by omega)]; omega) | (unfold mj_w; omega)) ?_)
  refine Exists.intro (i + 1) (And.intro (by first | (rw [mj_w_id (by omega) (by omega)]; done) | (rw [mj_w_id (by omega) (by omega)]; omega) | (unfold mj_w; omega)) (And.intro (by omega) ?_))
  refine And.intro trivial (And.intro (Nat.le_of_ble_eq_true rfl) (And.intro (show kc + 1 ≤ 601024 by omega) (And.intro (show ks + 6 ≤ 7293034 by omega) (Exists.intro Q1 (And.intro c1 ?_)))))
  intro o1 sh1 FR1 IA1 LA1 n1 h1
  obtain ⟨e1, e2, k, e3, hk, Q2, d1, d2⟩ := c2 _ _ _ _ _ _ h1
  replace e1 := e1.symm
  subst e1
  replace e2 := e2.symm
  subst e2
  subst e3
  refine And.intro (Or.inl rfl) ?_
  refine Exists.intro ((i + 1 : Nat) : Int) (And.intro (by first | (rw [mj_w_id (by omega) (by omega)]; done) | (rw [mj_w_id (by omega) (by omega)]; omega) | (unfold mj_w; omega)) ?_)
  refine Exists.intro (i + 1) (And.intro (by first | (rw [mj_w_id (by omega) (by omega)]; done) | (rw [mj_w_id (by omega) (by omega)]; omega) | (unfold mj_w; omega)) (And.intro (by omega) ?_))
  refine And.intro hM0 (And.intro (Nat.le_of_ble_eq_true rfl) (And.intro (show kc + 1 + 0 ≤ 601024 by omega) (And.intro (show ks + 6 + 0 ≤ 7293034 by omega) (Exists.intro Q2 (And.intro d1 ?_)))))
  intro o2 sh2 FR2 IA2 LA2 n2 h2
  obtain ⟨e4, e5, z, e6, hIv, hth, hz⟩ := d2 _ _ _ _ _ _ h2
  replace e4 := e4.symm
  subst e4
  replace e5 := e5.symm
  subst e5
  subst e6
  refine And.intro (Or.inl rfl) ?_
  have hIM : isM sh FR2 78 := hIv.elim fun _ h => h.elim fun _ h => h.elim fun _ h => h.2.1
  refine And.intro hM0 (And.intro (Nat.le_of_ble_eq_true rfl) (And.intro (show kc + 1 + 0 + 0 ≤ 601024 by omega) (And.intro (show ks + 6 + 0 + 0 ≤ 7293034 by omega) (Exists.intro _ (And.intro (ct_M_thrown hIM) ?_)))))
  rintro r9 sh9 FR9 IA9 LA9 n9 ⟨z0, z1, z2, z3, z4, z5⟩
  subst z0
  replace z1 := z1.symm
  subst z1
  replace z2 := z2.symm
  subst z2
  replace z3 := z3.symm
  subst z3
  replace z4 := z4.symm
  subst z4
  replace z5 := z5.symm
  subst z5
  refine And.intro (Or.inl rfl) ?_
  refine And.intro (fun _ => ?_) (fun d => absurd (by rw [hth]) d)
  refine And.intro (fun _ => ?_) (fun d => ?_)
  · exact hK _ _ _ _ _ _ _ _ hIv (show kc + 1 + 0 + 0 ≤ kc + 3 by omega) (show ks + 6 + 0 + 0 ≤ ks + 18 by omega)
  have hk0 : k = 0 := by
    rw [mj_w_id (by omega) (by omega)] at d
    exact Classical.byContradiction fun w => d w
  refine Exists.intro _ (Exists.intro 0 (And.intro hA7 (And.intro (by decide) (And.intro (by decide) ?_))))
  refine Exists.intro 0 (And.intro ?_ ?_)
  · rw [hz hk0]
    unfold mj_lc
    rw [if_neg (by omega), if_pos rfl]
  refine And.intro (fun _ => ?_) (fun d => absurd (by decide) d)
  exact hK _ _ _ _ _ _ _ _ hIv (show kc + 1 + 0 + 0 ≤ kc + 3 by omega) (show ks + 6 + 0 + 0 ≤ ks + 18 by omega)
def q_w_allFunctions (L : Nat) (sc : Nat → Int) : List (Nat × mj_Sem) := [(1134, o_al 1 1135), (1135, o_al 3 1136), (1136, o_call m_L_allFunctions 2 601024 7293034 1139 mj_rs), (1139, o_is 5 1141), (1141, o_al 2 1142), (1142, o_call m_M_allFunctions 1 601024 7293034 1145 (mj_rv 6)), (1145, o_is 6 1147), (1147, o_al 2 1148), (1148, o_call m_M_thrown 1 601024 7293034 1151 (mj_rv 6)), (1151, o_il 5 1153), (1153, o_iceq 1158 1156), (1156, o_ic 0 1157), (1157, o_zret 601024 7293034), (1158, o_il 5 1160), (1160, o_ifne 1175 1163), (1163, o_al 3 1164), (1164, o_ic 0 1165), (1165, o_lal 1166), (1166, o_il 6 1168), (1168, o_i2l 1169), (1169, o_lcmp 1170), (1170, o_ifeq 1175 1173), (1173, o_ic 0 1174), (1174, o_zret 601024 7293034), (1175, o_goto 1413)]
set_option maxRecDepth 100000 in
theorem e_w_allFunctions : ((q_L_law L sc).drop 695).take 25 = q_w_allFunctions L sc := rfl
theorem z_w_allFunctions : mj_Code (m_L_law L sc) (q_w_allFunctions L sc) := fun q hq => z_L_law L sc q (List.mem_of_mem_drop (List.mem_of_mem_take (by rw [e_w_allFunctions]; exact hq)))
set_option maxHeartbeats 2000000 in
theorem lc_allFunctions (hI : Iv sh FR IA LA b1 b2 b3) (hi : i + 3 < L) (hL : L ≤ 2048) (hsc : ∀ j, -2147483648 ≤ sc j ∧ sc j < 2147483648) (hkc : kc ≤ 600000) (hks : ks ≤ 7000000) (hK : lwT L sc sh i kc ks) (x5 x6 x7 : Option mj_V) : mj_G (m_L_law L sc) en_Q 1134 [some (.inr (.inr (.inr 1))), some (.inr (.inr (.inl 0))), some (.inr (.inr (.inl 52))), some (.inr (.inr (.inl 77))), some (.inl (i : Int)), x5, x6, x7] [] sh FR IA LA 78 kc ks := by
  have hM0 := hI.2.1.o
  have hA7 := hI.a7
  obtain ⟨Q1, c1, c2⟩ := st_allFunctions hI
  refine mj_go z_w_allFunctions [1413] 140 ?_
  refine And.intro trivial (And.intro (Nat.le_of_ble_eq_true rfl) (And.intro (show kc + 1 ≤ 601024 by omega) (And.intro (show ks + 6 ≤ 7293034 by omega) (Exists.intro Q1 (And.intro c1 ?_)))))
  intro o1 sh1 FR1 IA1 LA1 n1 h1
  obtain ⟨e1, e2, k, e3, hk, Q2, d1, d2⟩ := c2 _ _ _ _ _ _ h1
  replace e1 := e1.symm
  subst e1
  replace e2 := e2.symm
  subst e2
  subst e3
  refine And.intro (Or.inl rfl) ?_
  refine And.intro hM0 (And.intro (Nat.le_of_ble_eq_true rfl) (And.intro (show kc + 1 + 0 ≤ 601024 by omega) (And.intro (show ks + 6 + 0 ≤ 7293034 by omega) (Exists.intro Q2 (And.intro d1 ?_)))))
  intro o2 sh2 FR2 IA2 LA2 n2 h2
  obtain ⟨e4, e5, z, e6, hIv, hth, hz⟩ := d2 _ _ _ _ _ _ h2
  replace e4 := e4.symm
  subst e4
  replace e5 := e5.symm
  subst e5
  subst e6
  refine And.intro (Or.inl rfl) ?_
  have hIM : isM sh FR2 78 := hIv.elim fun _ h => h.elim fun _ h => h.elim fun _ h => h.2.1
  refine And.intro hM0 (And.intro (Nat.le_of_ble_eq_true rfl) (And.intro (show kc + 1 + 0 + 0 ≤ 601024 by omega) (And.intro (show ks + 6 + 0 + 0 ≤ 7293034 by omega) (Exists.intro _ (And.intro (ct_M_thrown hIM) ?_)))))
  rintro r9 sh9 FR9 IA9 LA9 n9 ⟨z0, z1, z2, z3, z4, z5⟩
  subst z0
  replace z1 := z1.symm
  subst z1
  replace z2 := z2.symm
  subst z2
  replace z3 := z3.symm
  subst z3
  replace z4 := z4.symm
  subst z4
  replace z5 := z5.symm
  subst z5
  refine And.intro (Or.inl rfl) ?_
  refine And.intro (fun _ => ?_) (fun d => absurd (by rw [hth]) d)
  refine And.intro (fun _ => ?_) (fun d => ?_)
  · exact hK _ _ _ _ _ _ _ _ hIv (show kc + 1 + 0 + 0 ≤ kc + 3 by omega) (show ks + 6 + 0 + 0 ≤ ks + 18 by omega)
  have hk0 : k = 0 := by
    rw [mj_w_id (by omega) (by omega)] at d
    exact Classical.byContradiction fun w => d w
  refine Exists.intro _ (Exists.intro 0 (And.intro hA7 (And.intro (by decide) (And.intro (by decide) ?_))))
  refine Exists.intro 0 (And.intro ?_ ?_)
  · rw [hz hk0]
    unfold mj_lc
    rw [if_neg (by omega), if_pos rfl]
  refine And.intro (fun _ => ?_) (fun d => absurd (by decide) d)
  exact hK _ _ _ _ _ _ _ _ hIv (show kc + 1 + 0 + 0 ≤ kc + 3 by omega) (show ks + 6 + 0 + 0 ≤ ks + 18 by omega)
def q_w_write (L : Nat) (sc : Nat → Int) : List (Nat × mj_Sem) := [(1178, o_al 1 1179), (1179, o_al 0 1180), (1180, o_il 4 1182), (1182, o_ic 1 1183), (1183, o_iadd 1184), (1184, o_sal L sc 1185), (1185, o_al 0 1186), (1186, o_il 4 1188), (1188, o_ic 2 1189), (1189, o_iadd 1190), (1190, o_sal L sc 1191), (1191, o_ifeq 1198 1194), (1194, o_ic 1 1195), (1195, o_goto 1199), (1198, o_ic 0 1199), (1199, o_al 0 1200), (1200, o_il 4 1202), (1202, o_ic 3 1203), (1203, o_iadd 1204), (1204, o_sal L sc 1205), (1205, o_ifeq 1212 1208), (1208, o_ic 1 1209), (1209, o_goto 1213), (1212, o_ic 0 1213), (1213, o_al 3 1214), (1214, o_call m_L_write 5 601024 7293034 1217 mj_rs), (1217, o_is 5 1219), (1219, o_al 2 1220), (1220, o_al 0 1221), (1221, o_il 4 1223), (1223, o_ic 1 1224), (1224, o_iadd 1225), (1225, o_sal L sc 1226), (1226, o_al 0 1227), (1227, o_il 4 1229), (1229, o_ic 2 1230), (1230, o_iadd 1231), (1231, o_sal L sc 1232), (1232, o_ifeq 1239 1235), (1235, o_ic 1 1236), (1236, o_goto 1240), (1239, o_ic 0 1240), (1240, o_al 0 1241), (1241, o_il 4 1243), (1243, o_ic 3 1244), (1244, o_iadd 1245), (1245, o_sal L sc 1246), (1246, o_ifeq 1253 1249), (1249, o_ic 1 1250), (1250, o_goto 1254), (1253, o_ic 0 1254), (1254, o_call m_M_write 4 601024 7293034 1257 (mj_rv 6)), (1257, o_is 6 1259), (1259, o_al 2 1260), (1260, o_call m_M_thrown 1 601024 7293034 1263 (mj_rv 6)), (1263, o_il 5 1265), (1265, o_iceq 1270 1268), (1268, o_ic 0 1269), (1269, o_zret 601024 7293034), (1270, o_il 5 1272), (1272, o_ifne 1287 1275), (1275, o_al 3 1276), (1276, o_ic 0 1277), (1277, o_lal 1278), (1278, o_il 6 1280), (1280, o_i2l 1281), (1281, o_lcmp 1282), (1282, o_ifeq 1287 1285), (1285, o_ic 0 1286), (1286, o_zret 601024 7293034), (1287, o_goto 1413)]
set_option maxRecDepth 100000 in
theorem e_w_write : ((q_L_law L sc).drop 720).take 71 = q_w_write L sc := rfl
theorem z_w_write : mj_Code (m_L_law L sc) (q_w_write L sc) := fun q hq => z_L_law L sc q (List.mem_of_mem_drop (List.mem_of_mem_take (by rw [e_w_write]; exact hq)))
set_option maxHeartbeats 2000000 in
theorem lc_write (hI : Iv sh FR IA LA b1 b2 b3) (hi : i + 3 < L) (hL : L ≤ 2048) (hsc : ∀ j, -2147483648 ≤ sc j ∧ sc j < 2147483648) (hkc : kc ≤ 600000) (hks : ks ≤ 7000000) (hK : lwT L sc sh i kc ks) (x5 x6 x7 : Option mj_V) : mj_G (m_L_law L sc) en_Q 1178 [some (.inr (.inr (.inr 1))), some (.inr (.inr (.inl 0))), some (.inr (.inr (.inl 52))), some (.inr (.inr (.inl 77))), some (.inl (i : Int)), x5, x6, x7] [] sh FR IA LA 78 kc ks := by
  have hM0 := hI.2.1.o
  have hA7 := hI.a7
  by_cases hb : mj_w (sc (i + 2)) = 0
  · by_cases hd : mj_w (sc (i + 3)) = 0
    · obtain ⟨Q1, c1, c2⟩ := st_write hI (bin := false) (rd := false) (hsc (i + 1))
      refine mj_go z_w_write [1413] 140 ?_
      refine Exists.intro ((i + 1 : Nat) : Int) (And.intro (by first | (rw [mj_w_id (by omega) (by omega)]; done) | (rw [mj_w_id (by omega) (by omega)]; omega) | (unfold mj_w; omega)) ?_)
      refine Exists.intro (i + 1) (And.intro (by first | (rw [mj_w_id (by omega) (by omega)]; done) | (rw [mj_w_id (by omega) (by omega)]; omega) | (unfold mj_w; omega)) (And.intro (by omega) ?_))
      refine Exists.intro ((i + 2 : Nat) : Int) (And.intro (by first | (rw [mj_w_id (by omega) (by omega)]; done) | (rw [mj_w_id (by omega) (by omega)]; omega) | (unfold mj_w; omega)) ?_)
      refine Exists.intro (i + 2) (And.intro (by first | (rw [mj_w_id (by omega) (by omega)]; done) | (rw [mj_w_id (by omega) (by omega)]; omega) | (unfold mj_w; omega)) (And.intro (by omega) ?_))
      refine And.intro (fun _ => ?_) (fun d => absurd hb d)
      refine Exists.intro ((i + 3 : Nat) : Int) (And.intro (by first | (rw [mj_w_id (by omega) (by omega)]; done) | (rw [mj_w_id (by omega) (by omega)]; omega) | (unfold mj_w; omega)) ?_)
      refine Exists.intro (i + 3) (And.intro (by first | (rw [mj_w_id (by omega) (by omega)]; done) | (rw [mj_w_id (by omega) (by omega)]; omega) | (unfold mj_w; omega)) (And.intro (by omega) ?_))
      refine And.intro (fun _ => ?_) (fun d => absurd hd d)
      refine And.intro trivial (And.intro (Nat.le_of_ble_eq_true rfl) (And.intro (show kc + 1 ≤ 601024 by omega) (And.intro (show ks + 6 ≤ 7293034 by omega) (Exists.intro Q1 (And.intro c1 ?_)))))
      intro o1 sh1 FR1 IA1 LA1 n1 h1
      obtain ⟨e1, e2, k, e3, hk, Q2, d1, d2⟩ := c2 _ _ _ _ _ _ h1
      replace e1 := e1.symm
      subst e1
      replace e2 := e2.symm
      subst e2
      subst e3
      refine And.intro (Or.inl rfl) ?_
      refine Exists.intro ((i + 1 : Nat) : Int) (And.intro (by first | (rw [mj_w_id (by omega) (by omega)]; done) | (rw [mj_w_id (by omega) (by omega)]; omega) | (unfold mj_w; omega)) ?_)
      refine Exists.intro (i + 1) (And.intro (by first | (rw [mj_w_id (by omega) (by omega)]; done) | (rw [mj_w_id (by omega) (by omega)]; omega) | (unfold mj_w; omega)) (And.intro (by omega) ?_))
      refine Exists.intro ((i + 2 : Nat) : Int) (And.intro (by first | (rw [mj_w_id (by omega) (by omega)]; done) | (rw [mj_w_id (by omega) (by omega)]; omega) | (unfold mj_w; omega)) ?_)
      refine Exists.intro (i + 2) (And.intro (by first | (rw [mj_w_id (by omega) (by omega)]; done) | (rw [mj_w_id (by omega) (by omega)]; omega) | (unfold mj_w; omega)) (And.intro (by omega) ?_))
      refine And.intro (fun _ => ?_) (fun d => absurd hb d)
      refine Exists.intro ((i + 3 : Nat) : Int) (And.intro (by first | (rw [mj_w_id (by omega) (by omega)]; done) | (rw [mj_w_id (by omega) (by omega)]; omega) | (unfold mj_w; omega)) ?_)
      refine Exists.intro (i + 3) (And.intro (by first | (rw [mj_w_id (by omega) (by omega)]; done) | (rw [mj_w_id (by omega) (by omega)]; omega) | (unfold mj_w; omega)) (And.intro (by omega) ?_))
      refine And.intro (fun _ => ?_) (fun d => absurd hd d)
      refine And.intro hM0 (And.intro (Nat.le_of_ble_eq_true rfl) (And.intro (show kc + 1 + 0 ≤ 601024 by omega) (And.intro (show ks + 6 + 0 ≤ 7293034 by omega) (Exists.intro Q2 (And.intro d1 ?_)))))
      intro o2 sh2 FR2 IA2 LA2 n2 h2
      obtain ⟨e4, e5, z, e6, hIv, hth, hz⟩ := d2 _ _ _ _ _ _ h2
      replace e4 := e4.symm
      subst e4
      replace e5 := e5.symm
      subst e5
      subst e6
      refine And.intro (Or.inl rfl) ?_
      have hIM : isM sh FR2 78 := hIv.elim fun _ h => h.elim fun _ h => h.elim fun _ h => h.2.1
      refine And.intro hM0 (And.intro (Nat.le_of_ble_eq_true rfl) (And.intro (show kc + 1 + 0 + 0 ≤ 601024 by omega) (And.intro (show ks + 6 + 0 + 0 ≤ 7293034 by omega) (Exists.intro _ (And.intro (ct_M_thrown hIM) ?_)))))
      rintro r9 sh9 FR9 IA9 LA9 n9 ⟨z0, z1, z2, z3, z4, z5⟩
      subst z0
      replace z1 := z1.symm
      subst z1
      replace z2 := z2.symm
      subst z2
      replace z3 := z3.symm
      subst z3
      replace z4 := z4.symm
      subst z4
      replace z5 := z5.symm
      subst z5
      refine And.intro (Or.inl rfl) ?_
      refine And.intro (fun _ => ?_) (fun d => absurd (by rw [hth]) d)
      refine And.intro (fun _ => ?_) (fun d => ?_)
      · exact hK _ _ _ _ _ _ _ _ hIv (show kc + 1 + 0 + 0 ≤ kc + 3 by omega) (show ks + 6 + 0 + 0 ≤ ks + 18 by omega)
      have hk0 : k = 0 := by
        rw [mj_w_id (by omega) (by omega)] at d
        exact Classical.byContradiction fun w => d w
      refine Exists.intro _ (Exists.intro 0 (And.intro hA7 (And.intro (by decide) (And.intro (by decide) ?_))))
      refine Exists.intro 0 (And.intro ?_ ?_)
      · rw [hz hk0]
        unfold mj_lc
        rw [if_neg (by omega), if_pos rfl]
      refine And.intro (fun _ => ?_) (fun d => absurd (by decide) d)
      exact hK _ _ _ _ _ _ _ _ hIv (show kc + 1 + 0 + 0 ≤ kc + 3 by omega) (show ks + 6 + 0 + 0 ≤ ks + 18 by omega)
    · obtain ⟨Q1, c1, c2⟩ := st_write hI (bin := false) (rd := true) (hsc (i + 1))
      refine mj_go z_w_write [1413] 140 ?_
      refine Exists.intro ((i + 1 : Nat) : Int) (And.intro (by first | (rw [mj_w_id (by omega) (by omega)]; done) | (rw [mj_w_id (by omega) (by omega)]; omega) | (unfold mj_w; omega)) ?_)
      refine Exists.intro (i + 1) (And.intro (by first | (rw [mj_w_id (by omega) (by omega)]; done) | (rw [mj_w_id (by omega) (by omega)]; omega) | (unfold mj_w; omega)) (And.intro (by omega) ?_))
      refine Exists.intro ((i + 2 : Nat) : Int) (And.intro (by first | (rw [mj_w_id (by omega) (by omega)]; done) | (rw [mj_w_id (by omega) (by omega)]; omega) | (unfold mj_w; omega)) ?_)
      refine Exists.intro (i + 2) (And.intro (by first | (rw [mj_w_id (by omega) (by omega)]; done) | (rw [mj_w_id (by omega) (by omega)]; omega) | (unfold mj_w; omega)) (And.intro (by omega) ?_))
      refine And.intro (fun _ => ?_) (fun d => absurd hb d)
      refine Exists.intro ((i + 3 : Nat) : Int) (And.intro (by first | (rw [mj_w_id (by omega) (by omega)]; done) | (rw [mj_w_id (by omega) (by omega)]; omega) | (unfold mj_w; omega)) ?_)
      refine Exists.intro (i + 3) (And.intro (by first | (rw [mj_w_id (by omega) (by omega)]; done) | (rw [mj_w_id (by omega) (by omega)]; omega) | (unfold mj_w; omega)) (And.intro (by omega) ?_))
      refine And.intro (fun d => absurd d hd) (fun _ => ?_)
      refine And.intro trivial (And.intro (Nat.le_of_ble_eq_true rfl) (And.intro (show kc + 1 ≤ 601024 by omega) (And.intro (show ks + 6 ≤ 7293034 by omega) (Exists.intro Q1 (And.intro c1 ?_)))))
      intro o1 sh1 FR1 IA1 LA1 n1 h1
      obtain ⟨e1, e2, k, e3, hk, Q2, d1, d2⟩ := c2 _ _ _ _ _ _ h1
      replace e1 := e1.symm
      subst e1
      replace e2 := e2.symm
      subst e2
      subst e3
      refine And.intro (Or.inl rfl) ?_
      refine Exists.intro ((i + 1 : Nat) : Int) (And.intro (by first | (rw [mj_w_id (by omega) (by omega)]; done) | (rw [mj_w_id (by omega) (by omega)]; omega) | (unfold mj_w; omega)) ?_)
      refine Exists.intro (i + 1) (And.intro (by first | (rw [mj_w_id (by omega) (by omega)]; done) | (rw [mj_w_id (by omega) (by omega)]; omega) | (unfold mj_w; omega)) (And.intro (by omega) ?_))
      refine Exists.intro ((i + 2 : Nat) : Int) (And.intro (by first | (rw [mj_w_id (by omega) (by omega)]; done) | (rw [mj_w_id (by omega) (by omega)]; omega) | (unfold mj_w; omega)) ?_)
      refine Exists.intro (i + 2) (And.intro (by first | (rw [mj_w_id (by omega) (by omega)]; done) | (rw [mj_w_id (by omega) (by omega)]; omega) | (unfold mj_w; omega)) (And.intro (by omega) ?_))
      refine And.intro (fun _ => ?_) (fun d => absurd hb d)
      refine Exists.intro ((i + 3 : Nat) : Int) (And.intro (by first | (rw [mj_w_id (by omega) (by omega)]; done) | (rw [mj_w_id (by omega) (by omega)]; omega) | (unfold mj_w; omega)) ?_)
      refine Exists.intro (i + 3) (And.intro (by first | (rw [mj_w_id (by omega) (by omega)]; done) | (rw [mj_w_id (by omega) (by omega)]; omega) | (unfold mj_w; omega)) (And.intro (by omega) ?_))
      refine And.intro (fun d => absurd d hd) (fun _ => ?_)
      refine And.intro hM0 (And.intro (Nat.le_of_ble_eq_true rfl) (And.intro (show kc + 1 + 0 ≤ 601024 by omega) (And.intro (show ks + 6 + 0 ≤ 7293034 by omega) (Exists.intro Q2 (And.intro d1 ?_)))))
      intro o2 sh2 FR2 IA2 LA2 n2 h2
      obtain ⟨e4, e5, z, e6, hIv, hth, hz⟩ := d2 _ _ _ _ _ _ h2
      replace e4 := e4.symm
      subst e4
      replace e5 := e5.symm
      subst e5
      subst e6
      refine And.intro (Or.inl rfl) ?_
      have hIM : isM sh FR2 78 := hIv.elim fun _ h => h.elim fun _ h => h.elim fun _ h => h.2.1
      refine And.intro hM0 (And.intro (Nat.le_of_ble_eq_true rfl) (And.intro (show kc + 1 + 0 + 0 ≤ 601024 by omega) (And.intro (show ks + 6 + 0 + 0 ≤ 7293034 by omega) (Exists.intro _ (And.intro (ct_M_thrown hIM) ?_)))))
      rintro r9 sh9 FR9 IA9 LA9 n9 ⟨z0, z1, z2, z3, z4, z5⟩
      subst z0
      replace z1 := z1.symm
      subst z1
      replace z2 := z2.symm
      subst z2
      replace z3 := z3.symm
      subst z3
      replace z4 := z4.symm
      subst z4
      replace z5 := z5.symm
      subst z5
      refine And.intro (Or.inl rfl) ?_
      refine And.intro (fun _ => ?_) (fun d => absurd (by rw [hth]) d)
      refine And.intro (fun _ => ?_) (fun d => ?_)
      · exact hK _ _ _ _ _ _ _ _ hIv (show kc + 1 + 0 + 0 ≤ kc + 3 by omega) (show ks + 6 + 0 + 0 ≤ ks + 18 by omega)
      have hk0 : k = 0 := by
        rw [mj_w_id (by omega) (by omega)] at d
        exact Classical.byContradiction fun w => d w
      refine Exists.intro _ (Exists.intro 0 (And.intro hA7 (And.intro (by decide) (And.intro (by decide) ?_))))
      refine Exists.intro 0 (And.intro ?_ ?_)
      · rw [hz hk0]
        unfold mj_lc
        rw [if_neg (by omega), if_pos rfl]
      refine And.intro (fun _ => ?_) (fun d => absurd (by decide) d)
      exact hK _ _ _ _ _ _ _ _ hIv (show kc + 1 + 0 + 0 ≤ kc + 3 by omega) (show ks + 6 + 0 + 0 ≤ ks + 18 by omega)
  · by_cases hd : mj_w (sc (i + 3)) = 0
    · obtain ⟨Q1, c1, c2⟩ := st_write hI (bin := true) (rd := false) (hsc (i + 1))
      refine mj_go z_w_write [1413] 140 ?_
      refine Exists.intro ((i + 1 : Nat) : Int) (And.intro (by first | (rw [mj_w_id (by omega) (by omega)]; done) | (rw [mj_w_id (by omega) (by omega)]; omega) | (unfold mj_w; omega)) ?_)
      refine Exists.intro (i + 1) (And.intro (by first | (rw [mj_w_id (by omega) (by omega)]; done) | (rw [mj_w_id (by omega) (by omega)]; omega) | (unfold mj_w; omega)) (And.intro (by omega) ?_))
      refine Exists.intro ((i + 2 : Nat) : Int) (And.intro (by first | (rw [mj_w_id (by omega) (by omega)]; done) | (rw [mj_w_id (by omega) (by omega)]; omega) | (unfold mj_w; omega)) ?_)
      refine Exists.intro (i + 2) (And.intro (by first | (rw [mj_w_id (by omega) (by omega)]; done) | (rw [mj_w_id (by omega) (by omega)]; omega) | (unfold mj_w; omega)) (And.intro (by omega) ?_))
      refine And.intro (fun d => absurd d hb) (fun _ => ?_)
      refine Exists.intro ((i + 3 : Nat) : Int) (And.intro (by first | (rw [mj_w_id (by omega) (by omega)]; done) | (rw [mj_w_id (by omega) (by omega)]; omega) | (unfold mj_w; omega)) ?_)
      refine Exists.intro (i + 3) (And.intro (by first | (rw [mj_w_id (by omega) (by omega)]; done) | (rw [mj_w_id (by omega) (by omega)]; omega) | (unfold mj_w; omega)) (And.intro (by omega) ?_))
      refine And.intro (fun _ => ?_) (fun d => absurd hd d)
      refine And.intro trivial (And.intro (Nat.le_of_ble_eq_true rfl) (And.intro (show kc + 1 ≤ 601024 by omega) (And.intro (show ks + 6 ≤ 7293034 by omega) (Exists.intro Q1 (And.intro c1 ?_)))))
      intro o1 sh1 FR1 IA1 LA1 n1 h1
      obtain ⟨e1, e2, k, e3, hk, Q2, d1, d2⟩ := c2 _ _ _ _ _ _ h1
      replace e1 := e1.symm
      subst e1
      replace e2 := e2.symm
      subst e2
      subst e3
      refine And.intro (Or.inl rfl) ?_
      refine Exists.intro ((i + 1 : Nat) : Int) (And.intro (by first | (rw [mj_w_id (by omega) (by omega)]; done) | (rw [mj_w_id (by omega) (by omega)]; omega) | (unfold mj_w; omega)) ?_)
      refine Exists.intro (i + 1) (And.intro (by first | (rw [mj_w_id (by omega) (by omega)]; done) | (rw [mj_w_id (by omega) (by omega)]; omega) | (unfold mj_w; omega)) (And.intro (by omega) ?_))
      refine Exists.intro ((i + 2 : Nat) : Int) (And.intro (by first | (rw [mj_w_id (by omega) (by omega)]; done) | (rw [mj_w_id (by omega) (by omega)]; omega) | (unfold mj_w; omega)) ?_)
      refine Exists.intro (i + 2) (And.intro (by first | (rw [mj_w_id (by omega) (by omega)]; done) | (rw [mj_w_id (by omega) (by omega)]; omega) | (unfold mj_w; omega)) (And.intro (by omega) ?_))
      refine And.intro (fun d => absurd d hb) (fun _ => ?_)
      refine Exists.intro ((i + 3 : Nat) : Int) (And.intro (by first | (rw [mj_w_id (by omega) (by omega)]; done) | (rw [mj_w_id (by omega) (by omega)]; omega) | (unfold mj_w; omega)) ?_)
      refine Exists.intro (i + 3) (And.intro (by first | (rw [mj_w_id (by omega) (by omega)]; done) | (rw [mj_w_id (by omega) (by omega)]; omega) | (unfold mj_w; omega)) (And.intro (by omega) ?_))
      refine And.intro (fun _ => ?_) (fun d => absurd hd d)
      refine And.intro hM0 (And.intro (Nat.le_of_ble_eq_true rfl) (And.intro (show kc + 1 + 0 ≤ 601024 by omega) (And.intro (show ks + 6 + 0 ≤ 7293034 by omega) (Exists.intro Q2 (And.intro d1 ?_)))))
      intro o2 sh2 FR2 IA2 LA2 n2 h2
      obtain ⟨e4, e5, z, e6, hIv, hth, hz⟩ := d2 _ _ _ _ _ _ h2
      replace e4 := e4.symm
      subst e4
      replace e5 := e5.symm
      subst e5
      subst e6
      refine And.intro (Or.inl rfl) ?_
      have hIM : isM sh FR2 78 := hIv.elim fun _ h => h.elim fun _ h => h.elim fun _ h => h.2.1
      refine And.intro hM0 (And.intro (Nat.le_of_ble_eq_true rfl) (And.intro (show kc + 1 + 0 + 0 ≤ 601024 by omega) (And.intro (show ks + 6 + 0 + 0 ≤ 7293034 by omega) (Exists.intro _ (And.intro (ct_M_thrown hIM) ?_)))))
      rintro r9 sh9 FR9 IA9 LA9 n9 ⟨z0, z1, z2, z3, z4, z5⟩
      subst z0
      replace z1 := z1.symm
      subst z1
      replace z2 := z2.symm
      subst z2
      replace z3 := z3.symm
      subst z3
      replace z4 := z4.symm
      subst z4
      replace z5 := z5.symm
      subst z5
      refine And.intro (Or.inl rfl) ?_
      refine And.intro (fun _ => ?_) (fun d => absurd (by rw [hth]) d)
      refine And.intro (fun _ => ?_) (fun d => ?_)
      · exact hK _ _ _ _ _ _ _ _ hIv (show kc + 1 + 0 + 0 ≤ kc + 3 by omega) (show ks + 6 + 0 + 0 ≤ ks + 18 by omega)
      have hk0 : k = 0 := by
        rw [mj_w_id (by omega) (by omega)] at d
        exact Classical.byContradiction fun w => d w
      refine Exists.intro _ (Exists.intro 0 (And.intro hA7 (And.intro (by decide) (And.intro (by decide) ?_))))
      refine Exists.intro 0 (And.intro ?_ ?_)
      · rw [hz hk0]
        unfold mj_lc
        rw [if_neg (by omega), if_pos rfl]
      refine And.intro (fun _ => ?_) (fun d => absurd (by decide) d)
      exact hK _ _ _ _ _ _ _ _ hIv (show kc + 1 + 0 + 0 ≤ kc + 3 by omega) (show ks + 6 + 0 + 0 ≤ ks + 18 by omega)
    · obtain ⟨Q1, c1, c2⟩ := st_write hI (bin := true) (rd := true) (hsc (i + 1))
      refine mj_go z_w_write [1413] 140 ?_
      refine Exists.intro ((i + 1 : Nat) : Int) (And.intro (by first | (rw [mj_w_id (by omega) (by omega)]; done) | (rw [mj_w_id (by omega) (by omega)]; omega) | (unfold mj_w; omega)) ?_)
      refine Exists.intro (i + 1) (And.intro (by first | (rw [mj_w_id (by omega) (by omega)]; done) | (rw [mj_w_id (by omega) (by omega)]; omega) | (unfold mj_w; omega)) (And.intro (by omega) ?_))
      refine Exists.intro ((i + 2 : Nat) : Int) (And.intro (by first | (rw [mj_w_id (by omega) (by omega)]; done) | (rw [mj_w_id (by omega) (by omega)]; omega) | (unfold mj_w; omega)) ?_)
      refine Exists.intro (i + 2) (And.intro (by first | (rw [mj_w_id (by omega) (by omega)]; done) | (rw [mj_w_id (by omega) (by omega)]; omega) | (unfold mj_w; omega)) (And.intro (by omega) ?_))
      refine And.intro (fun d => absurd d hb) (fun _ => ?_)
      refine Exists.intro ((i + 3 : Nat) : Int) (And.intro (by first | (rw [mj_w_id (by omega) (by omega)]; done) | (rw [mj_w_id (by omega) (by omega)]; omega) | (unfold mj_w; omega)) ?_)
      refine Exists.intro (i + 3) (And.intro (by first | (rw [mj_w_id (by omega) (by omega)]; done) | (rw [mj_w_id (by omega) (by omega)]; omega) | (unfold mj_w; omega)) (And.intro (by omega) ?_))
      refine And.intro (fun d => absurd d hd) (fun _ => ?_)
      refine And.intro trivial (And.intro (Nat.le_of_ble_eq_true rfl) (And.intro (show kc + 1 ≤ 601024 by omega) (And.intro (show ks + 6 ≤ 7293034 by omega) (Exists.intro Q1 (And.intro c1 ?_)))))
      intro o1 sh1 FR1 IA1 LA1 n1 h1
      obtain ⟨e1, e2, k, e3, hk, Q2, d1, d2⟩ := c2 _ _ _ _ _ _ h1
      replace e1 := e1.symm
      subst e1
      replace e2 := e2.symm
      subst e2
      subst e3
      refine And.intro (Or.inl rfl) ?_
      refine Exists.intro ((i + 1 : Nat) : Int) (And.intro (by first | (rw [mj_w_id (by omega) (by omega)]; done) | (rw [mj_w_id (by omega) (by omega)]; omega) | (unfold mj_w; omega)) ?_)
      refine Exists.intro (i + 1) (And.intro (by first | (rw [mj_w_id (by omega) (by omega)]; done) | (rw [mj_w_id (by omega) (by omega)]; omega) | (unfold mj_w; omega)) (And.intro (by omega) ?_))
      refine Exists.intro ((i + 2 : Nat) : Int) (And.intro (by first | (rw [mj_w_id (by omega) (by omega)]; done) | (rw [mj_w_id (by omega) (by omega)]; omega) | (unfold mj_w; omega)) ?_)
      refine Exists.intro (i + 2) (And.intro (by first | (rw [mj_w_id (by omega) (by omega)]; done) | (rw [mj_w_id (by omega) (by omega)]; omega) | (unfold mj_w; omega)) (And.intro (by omega) ?_))
      refine And.intro (fun d => absurd d hb) (fun _ => ?_)
      refine Exists.intro ((i + 3 : Nat) : Int) (And.intro (by first | (rw [mj_w_id (by omega) (by omega)]; done) | (rw [mj_w_id (by omega) (by omega)]; omega) | (unfold mj_w; omega)) ?_)
      refine Exists.intro (i + 3) (And.intro (by first | (rw [mj_w_id (by omega) (by omega)]; done) | (rw [mj_w_id (by omega) (by omega)]; omega) | (unfold mj_w; omega)) (And.intro (by omega) ?_))
      refine And.intro (fun d => absurd d hd) (fun _ => ?_)
      refine And.intro hM0 (And.intro (Nat.le_of_ble_eq_true rfl) (And.intro (show kc + 1 + 0 ≤ 601024 by omega) (And.intro (show ks + 6 + 0 ≤ 7293034 by omega) (Exists.intro Q2 (And.intro d1 ?_)))))
      intro o2 sh2 FR2 IA2 LA2 n2 h2
      obtain ⟨e4, e5, z, e6, hIv, hth, hz⟩ := d2 _ _ _ _ _ _ h2
      replace e4 := e4.symm
      subst e4
      replace e5 := e5.symm
      subst e5
      subst e6
      refine And.intro (Or.inl rfl) ?_
      have hIM : isM sh FR2 78 := hIv.elim fun _ h => h.elim fun _ h => h.elim fun _ h => h.2.1
      refine And.intro hM0 (And.intro (Nat.le_of_ble_eq_true rfl) (And.intro (show kc + 1 + 0 + 0 ≤ 601024 by omega) (And.intro (show ks + 6 + 0 + 0 ≤ 7293034 by omega) (Exists.intro _ (And.intro (ct_M_thrown hIM) ?_)))))
      rintro r9 sh9 FR9 IA9 LA9 n9 ⟨z0, z1, z2, z3, z4, z5⟩
      subst z0
      replace z1 := z1.symm
      subst z1
      replace z2 := z2.symm
      subst z2
      replace z3 := z3.symm
      subst z3
      replace z4 := z4.symm
      subst z4
      replace z5 := z5.symm
      subst z5
      refine And.intro (Or.inl rfl) ?_
      refine And.intro (fun _ => ?_) (fun d => absurd (by rw [hth]) d)
      refine And.intro (fun _ => ?_) (fun d => ?_)
      · exact hK _ _ _ _ _ _ _ _ hIv (show kc + 1 + 0 + 0 ≤ kc + 3 by omega) (show ks + 6 + 0 + 0 ≤ ks + 18 by omega)
      have hk0 : k = 0 := by
        rw [mj_w_id (by omega) (by omega)] at d
        exact Classical.byContradiction fun w => d w
      refine Exists.intro _ (Exists.intro 0 (And.intro hA7 (And.intro (by decide) (And.intro (by decide) ?_))))
      refine Exists.intro 0 (And.intro ?_ ?_)
      · rw [hz hk0]
        unfold mj_lc
        rw [if_neg (by omega), if_pos rfl]
      refine And.intro (fun _ => ?_) (fun d => absurd (by decide) d)
      exact hK _ _ _ _ _ _ _ _ hIv (show kc + 1 + 0 + 0 ≤ kc + 3 by omega) (show ks + 6 + 0 + 0 ≤ ks + 18 by omega)
def q_w_out (L : Nat) (sc : Nat → Int) : List (Nat × mj_Sem) := [(1290, o_al 1 1291), (1291, o_al 0 1292), (1292, o_il 4 1294), (1294, o_ic 1 1295), (1295, o_iadd 1296), (1296, o_sal L sc 1297), (1297, o_al 3 1298), (1298, o_call m_L_out 3 601024 7293034 1301 mj_rs), (1301, o_is 5 1303), (1303, o_al 2 1304), (1304, o_al 0 1305), (1305, o_il 4 1307), (1307, o_ic 1 1308), (1308, o_iadd 1309), (1309, o_sal L sc 1310), (1310, o_call m_M_out 2 601024 7293034 1313 (mj_rv 6)), (1313, o_ls 6 1315), (1315, o_al 2 1316), (1316, o_call m_M_thrown 1 601024 7293034 1319 (mj_rv 6)), (1319, o_il 5 1321), (1321, o_iceq 1326 1324), (1324, o_ic 0 1325), (1325, o_zret 601024 7293034), (1326, o_il 5 1328), (1328, o_ifne 1342 1331), (1331, o_al 3 1332), (1332, o_ic 0 1333), (1333, o_lal 1334), (1334, o_ll 6 1336), (1336, o_lcmp 1337), (1337, o_ifeq 1342 1340), (1340, o_ic 0 1341), (1341, o_zret 601024 7293034), (1342, o_goto 1413)]
set_option maxRecDepth 100000 in
theorem e_w_out : ((q_L_law L sc).drop 791).take 34 = q_w_out L sc := rfl
theorem z_w_out : mj_Code (m_L_law L sc) (q_w_out L sc) := fun q hq => z_L_law L sc q (List.mem_of_mem_drop (List.mem_of_mem_take (by rw [e_w_out]; exact hq)))
set_option maxHeartbeats 2000000 in
theorem lc_out (hI : Iv sh FR IA LA b1 b2 b3) (hi : i + 3 < L) (hL : L ≤ 2048) (hsc : ∀ j, -2147483648 ≤ sc j ∧ sc j < 2147483648) (hkc : kc ≤ 600000) (hks : ks ≤ 7000000) (hK : lwT L sc sh i kc ks) (x5 x6 x7 : Option mj_V) : mj_G (m_L_law L sc) en_Q 1290 [some (.inr (.inr (.inr 1))), some (.inr (.inr (.inl 0))), some (.inr (.inr (.inl 52))), some (.inr (.inr (.inl 77))), some (.inl (i : Int)), x5, x6, x7] [] sh FR IA LA 78 kc ks := by
  have hM0 := hI.2.1.o
  have hA7 := hI.a7
  obtain ⟨Q1, c1, c2⟩ := st_out hI (hsc (i + 1))
  refine mj_go z_w_out [1413] 140 ?_
  refine Exists.intro ((i + 1 : Nat) : Int) (And.intro (by first | (rw [mj_w_id (by omega) (by omega)]; done) | (rw [mj_w_id (by omega) (by omega)]; omega) | (unfold mj_w; omega)) ?_)
  refine Exists.intro (i + 1) (And.intro (by first | (rw [mj_w_id (by omega) (by omega)]; done) | (rw [mj_w_id (by omega) (by omega)]; omega) | (unfold mj_w; omega)) (And.intro (by omega) ?_))
  refine And.intro trivial (And.intro (Nat.le_of_ble_eq_true rfl) (And.intro (show kc + 1 ≤ 601024 by omega) (And.intro (show ks + 6 ≤ 7293034 by omega) (Exists.intro Q1 (And.intro c1 ?_)))))
  intro o1 sh1 FR1 IA1 LA1 n1 h1
  obtain ⟨e1, e2, k, e3, hk, Q2, d1, d2⟩ := c2 _ _ _ _ _ _ h1
  replace e1 := e1.symm
  subst e1
  replace e2 := e2.symm
  subst e2
  subst e3
  refine And.intro (Or.inl rfl) ?_
  refine Exists.intro ((i + 1 : Nat) : Int) (And.intro (by first | (rw [mj_w_id (by omega) (by omega)]; done) | (rw [mj_w_id (by omega) (by omega)]; omega) | (unfold mj_w; omega)) ?_)
  refine Exists.intro (i + 1) (And.intro (by first | (rw [mj_w_id (by omega) (by omega)]; done) | (rw [mj_w_id (by omega) (by omega)]; omega) | (unfold mj_w; omega)) (And.intro (by omega) ?_))
  refine And.intro hM0 (And.intro (Nat.le_of_ble_eq_true rfl) (And.intro (show kc + 1 + 0 ≤ 601024 by omega) (And.intro (show ks + 6 + 0 ≤ 7293034 by omega) (Exists.intro Q2 (And.intro d1 ?_)))))
  intro o2 sh2 FR2 IA2 LA2 n2 h2
  obtain ⟨e4, e5, z, e6, hIv, hth, hz⟩ := d2 _ _ _ _ _ _ h2
  replace e4 := e4.symm
  subst e4
  replace e5 := e5.symm
  subst e5
  subst e6
  refine And.intro (Or.inl rfl) ?_
  have hIM : isM sh FR2 78 := hIv.elim fun _ h => h.elim fun _ h => h.elim fun _ h => h.2.1
  refine And.intro hM0 (And.intro (Nat.le_of_ble_eq_true rfl) (And.intro (show kc + 1 + 0 + 0 ≤ 601024 by omega) (And.intro (show ks + 6 + 0 + 0 ≤ 7293034 by omega) (Exists.intro _ (And.intro (ct_M_thrown hIM) ?_)))))
  rintro r9 sh9 FR9 IA9 LA9 n9 ⟨z0, z1, z2, z3, z4, z5⟩
  subst z0
  replace z1 := z1.symm
  subst z1
  replace z2 := z2.symm
  subst z2
  replace z3 := z3.symm
  subst z3
  replace z4 := z4.symm
  subst z4
  replace z5 := z5.symm
  subst z5
  refine And.intro (Or.inl rfl) ?_
  refine And.intro (fun _ => ?_) (fun d => absurd (by rw [hth]) d)
  refine And.intro (fun _ => ?_) (fun d => ?_)
  · exact hK _ _ _ _ _ _ _ _ hIv (show kc + 1 + 0 + 0 ≤ kc + 3 by omega) (show ks + 6 + 0 + 0 ≤ ks + 18 by omega)
  have hk0 : k = 0 := by
    rw [mj_w_id (by omega) (by omega)] at d
    exact Classical.byContradiction fun w => d w
  refine Exists.intro _ (Exists.intro 0 (And.intro hA7 (And.intro (by decide) (And.intro (by decide) ?_))))
  refine Exists.intro 0 (And.intro ?_ ?_)
  · rw [hz hk0]
    unfold mj_lc
    rw [if_neg (by omega), if_pos rfl]
  refine And.intro (fun _ => ?_) (fun d => absurd (by decide) d)
  exact hK _ _ _ _ _ _ _ _ hIv (show kc + 1 + 0 + 0 ≤ kc + 3 by omega) (show ks + 6 + 0 + 0 ≤ ks + 18 by omega)
def q_w_look (L : Nat) (sc : Nat → Int) : List (Nat × mj_Sem) := [(1345, o_al 1 1346), (1346, o_al 0 1347), (1347, o_il 4 1349), (1349, o_ic 1 1350), (1350, o_iadd 1351), (1351, o_sal L sc 1352), (1352, o_al 0 1353), (1353, o_il 4 1355), (1355, o_ic 2 1356), (1356, o_iadd 1357), (1357, o_sal L sc 1358), (1358, o_al 3 1359), (1359, o_call m_L_look 4 601024 7293034 1362 mj_rs), (1362, o_is 5 1364), (1364, o_al 2 1365), (1365, o_al 0 1366), (1366, o_il 4 1368), (1368, o_ic 1 1369), (1369, o_iadd 1370), (1370, o_sal L sc 1371), (1371, o_al 0 1372), (1372, o_il 4 1374), (1374, o_ic 2 1375), (1375, o_iadd 1376), (1376, o_sal L sc 1377), (1377, o_call m_M_look 3 601024 7293034 1380 (mj_rv 6)), (1380, o_is 6 1382), (1382, o_al 2 1383), (1383, o_call m_M_thrown 1 601024 7293034 1386 (mj_rv 6)), (1386, o_il 5 1388), (1388, o_iceq 1393 1391), (1391, o_ic 0 1392), (1392, o_zret 601024 7293034), (1393, o_il 5 1395), (1395, o_ifne 1410 1398), (1398, o_al 3 1399), (1399, o_ic 0 1400), (1400, o_lal 1401), (1401, o_il 6 1403), (1403, o_i2l 1404), (1404, o_lcmp 1405), (1405, o_ifeq 1410 1408), (1408, o_ic 0 1409), (1409, o_zret 601024 7293034), (1410, o_goto 1413)]
set_option maxRecDepth 100000 in
theorem e_w_look : ((q_L_law L sc).drop 825).take 45 = q_w_look L sc := rfl
theorem z_w_look : mj_Code (m_L_law L sc) (q_w_look L sc) := fun q hq => z_L_law L sc q (List.mem_of_mem_drop (List.mem_of_mem_take (by rw [e_w_look]; exact hq)))
set_option maxHeartbeats 2000000 in
theorem lc_look (hI : Iv sh FR IA LA b1 b2 b3) (hi : i + 3 < L) (hL : L ≤ 2048) (hsc : ∀ j, -2147483648 ≤ sc j ∧ sc j < 2147483648) (hkc : kc ≤ 600000) (hks : ks ≤ 7000000) (hK : lwT L sc sh i kc ks) (x5 x6 x7 : Option mj_V) : mj_G (m_L_law L sc) en_Q 1345 [some (.inr (.inr (.inr 1))), some (.inr (.inr (.inl 0))), some (.inr (.inr (.inl 52))), some (.inr (.inr (.inl 77))), some (.inl (i : Int)), x5, x6, x7] [] sh FR IA LA 78 kc ks := by
  have hM0 := hI.2.1.o
  have hA7 := hI.a7
  obtain ⟨Q1, c1, c2⟩ := st_look hI (hsc (i + 1)) (hsc (i + 2))
  refine mj_go z_w_look [1413] 140 ?_
  refine Exists.intro ((i + 1 : Nat) : Int) (And.intro (by first | (rw [mj_w_id (by omega) (by omega)]; done) | (rw [mj_w_id (by omega) (by omega)]; omega) | (unfold mj_w; omega)) ?_)
  refine Exists.intro (i + 1) (And.intro (by first | (rw [mj_w_id (by omega) (by omega)]; done) | (rw [mj_w_id (by omega) (by omega)]; omega) | (unfold mj_w; omega)) (And.intro (by omega) ?_))
  refine Exists.intro ((i + 2 : Nat) : Int) (And.intro (by first | (rw [mj_w_id (by omega) (by omega)]; done) | (rw [mj_w_id (by omega) (by omega)]; omega) | (unfold mj_w; omega)) ?_)
  refine Exists.intro (i + 2) (And.intro (by first | (rw [mj_w_id (by omega) (by omega)]; done) | (rw [mj_w_id (by omega) (by omega)]; omega) | (unfold mj_w; omega)) (And.intro (by omega) ?_))
  refine And.intro trivial (And.intro (Nat.le_of_ble_eq_true rfl) (And.intro (show kc + 2 ≤ 601024 by omega) (And.intro (show ks + 12 ≤ 7293034 by omega) (Exists.intro Q1 (And.intro c1 ?_)))))
  intro o1 sh1 FR1 IA1 LA1 n1 h1
  obtain ⟨e1, e2, k, e3, hk, Q2, d1, d2⟩ := c2 _ _ _ _ _ _ h1
  replace e1 := e1.symm
  subst e1
  replace e2 := e2.symm
  subst e2
  subst e3
  refine And.intro (Or.inl rfl) ?_
  refine Exists.intro ((i + 1 : Nat) : Int) (And.intro (by first | (rw [mj_w_id (by omega) (by omega)]; done) | (rw [mj_w_id (by omega) (by omega)]; omega) | (unfold mj_w; omega)) ?_)
  refine Exists.intro (i + 1) (And.intro (by first | (rw [mj_w_id (by omega) (by omega)]; done) | (rw [mj_w_id (by omega) (by omega)]; omega) | (unfold mj_w; omega)) (And.intro (by omega) ?_))
  refine Exists.intro ((i + 2 : Nat) : Int) (And.intro (by first | (rw [mj_w_id (by omega) (by omega)]; done) | (rw [mj_w_id (by omega) (by omega)]; omega) | (unfold mj_w; omega)) ?_)
  refine Exists.intro (i + 2) (And.intro (by first | (rw [mj_w_id (by omega) (by omega)]; done) | (rw [mj_w_id (by omega) (by omega)]; omega) | (unfold mj_w; omega)) (And.intro (by omega) ?_))
  refine And.intro hM0 (And.intro (Nat.le_of_ble_eq_true rfl) (And.intro (show kc + 2 + 0 ≤ 601024 by omega) (And.intro (show ks + 12 + 0 ≤ 7293034 by omega) (Exists.intro Q2 (And.intro d1 ?_)))))
  intro o2 sh2 FR2 IA2 LA2 n2 h2
  obtain ⟨e4, e5, z, e6, hIv, hth, hz⟩ := d2 _ _ _ _ _ _ h2
  replace e4 := e4.symm
  subst e4
  replace e5 := e5.symm
  subst e5
  subst e6
  refine And.intro (Or.inl rfl) ?_
  have hIM : isM sh FR2 78 := hIv.elim fun _ h => h.elim fun _ h => h.elim fun _ h => h.2.1
  refine And.intro hM0 (And.intro (Nat.le_of_ble_eq_true rfl) (And.intro (show kc + 2 + 0 + 0 ≤ 601024 by omega) (And.intro (show ks + 12 + 0 + 0 ≤ 7293034 by omega) (Exists.intro _ (And.intro (ct_M_thrown hIM) ?_)))))
  rintro r9 sh9 FR9 IA9 LA9 n9 ⟨z0, z1, z2, z3, z4, z5⟩
  subst z0
  replace z1 := z1.symm
  subst z1
  replace z2 := z2.symm
  subst z2
  replace z3 := z3.symm
  subst z3
  replace z4 := z4.symm
  subst z4
  replace z5 := z5.symm
  subst z5
  refine And.intro (Or.inl rfl) ?_
  refine And.intro (fun _ => ?_) (fun d => absurd (by rw [hth]) d)
  refine And.intro (fun _ => ?_) (fun d => ?_)
  · exact hK _ _ _ _ _ _ _ _ hIv (show kc + 2 + 0 + 0 ≤ kc + 3 by omega) (show ks + 12 + 0 + 0 ≤ ks + 18 by omega)
  have hk0 : k = 0 := by
    rw [mj_w_id (by omega) (by omega)] at d
    exact Classical.byContradiction fun w => d w
  refine Exists.intro _ (Exists.intro 0 (And.intro hA7 (And.intro (by decide) (And.intro (by decide) ?_))))
  refine Exists.intro 0 (And.intro ?_ ?_)
  · rw [hz hk0]
    unfold mj_lc
    rw [if_neg (by omega), if_pos rfl]
  refine And.intro (fun _ => ?_) (fun d => absurd (by decide) d)
  exact hK _ _ _ _ _ _ _ _ hIv (show kc + 2 + 0 + 0 ≤ kc + 3 by omega) (show ks + 12 + 0 + 0 ≤ ks + 18 by omega)
end WW
