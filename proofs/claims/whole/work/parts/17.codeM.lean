def q_M_init : List (Nat × mj_Sem) := [(0, o_al 0 1), (1, o_oi 4), (4, o_al 0 5), (5, o_ic 8192 8), (8, o_na 1 24 186905 10), (10, o_pR 6 1 13), (13, o_al 0 14), (14, o_ic 8192 17), (17, o_na 1 24 186905 19), (19, o_pR 6 3 22), (22, o_al 0 23), (23, o_ic 3 24), (24, o_na 0 24 186905 26), (26, o_pR 6 5 29), (29, o_al 0 30), (30, o_ic 3 31), (31, o_na 0 24 186905 33), (33, o_pR 6 6 36), (36, o_al 0 37), (37, o_ic 3 38), (38, o_na 0 24 186905 40), (40, o_pR 6 7 43), (43, o_al 0 44), (44, o_ic 3 45), (45, o_na 0 24 186905 47), (47, o_pR 6 8 50), (50, o_al 0 51), (51, o_ic 3 52), (52, o_na 0 24 186905 54), (54, o_pR 6 9 57), (57, o_al 0 58), (58, o_ic 3 59), (59, o_na 0 24 186905 61), (61, o_pR 6 10 64), (64, o_al 0 65), (65, o_ic 42 67), (67, o_na 0 24 186905 69), (69, o_pR 6 11 72), (72, o_al 0 73), (73, o_ic 900 76), (76, o_na 0 24 186905 78), (78, o_pR 6 12 81), (81, o_al 0 82), (82, o_ic 900 85), (85, o_na 0 24 186905 87), (87, o_pR 6 13 90), (90, o_al 0 91), (91, o_ic 900 94), (94, o_na 0 24 186905 96), (96, o_pR 6 14 99), (99, o_al 0 100), (100, o_ic 48 102), (102, o_na 0 24 186905 104), (104, o_pR 6 15 107), (107, o_al 0 108), (108, o_ic 3003 111), (111, o_na 0 24 186905 113), (113, o_pR 6 16 116), (116, o_al 0 117), (117, o_ic 945 120), (120, o_na 0 24 186905 122), (122, o_pR 6 17 125), (125, o_al 0 126), (126, o_ic 900 129), (129, o_na 0 24 186905 131), (131, o_pR 6 18 134), (134, o_al 0 135), (135, o_ic 161280 137), (137, o_na 3 24 186905 139), (139, o_pR 6 19 142), (142, o_al 0 143), (143, o_ic 5 144), (144, o_na 0 24 186905 146), (146, o_pR 6 23 149), (149, o_al 0 150), (150, o_ic 5 151), (151, o_na 0 24 186905 153), (153, o_pR 6 24 156), (156, o_al 0 157), (157, o_ic 315 160), (160, o_na 2 24 186905 162), (162, o_pR 6 25 165), (165, o_al 0 166), (166, o_ic 315 169), (169, o_na 0 24 186905 171), (171, o_pR 6 26 174), (174, o_al 0 175), (175, o_ic 315 178), (178, o_na 0 24 186905 180), (180, o_pR 6 27 183), (183, o_al 0 184), (184, o_ic 315 187), (187, o_na 0 24 186905 189), (189, o_pR 6 28 192), (192, o_al 0 193), (193, o_ic 315 196), (196, o_na 2 24 186905 198), (198, o_pR 6 29 201), (201, o_ic 0 202), (202, o_is 1 203), (203, o_il 1 204), (204, o_ic 3 205), (205, o_icge 249 208), (208, o_ic 1 209), (209, o_is 2 210), (210, o_il 2 211), (211, o_ic 1000 214), (214, o_icgt 236 217), (217, o_al 0 218), (218, o_gR 6 16 221), (221, o_ic 1001 224), (224, o_il 1 225), (225, o_imul 226), (226, o_il 2 227), (227, o_iadd 228), (228, o_ic (-1) 229), (229, o_ias 230), (230, o_inc 2 1 233), (233, o_goto 210), (236, o_al 0 237), (237, o_gR 6 10 240), (240, o_il 1 241), (241, o_ic 0 242), (242, o_ias 243), (243, o_inc 1 1 246), (246, o_goto 203), (249, o_retv 24 186905)]
set_option maxRecDepth 100000 in
theorem z_M_init : mj_Code (m_M_init) (q_M_init) :=
  mj_c1 (k_aloadn (k := 0) (by decide +kernel) rfl) <|
  mj_c1 (k_oi (idx := 1) (by decide +kernel) w_844 w_24 w_25 (by decide) (by decide)) <|
  mj_c1 (k_aloadn (k := 0) (by decide +kernel) rfl) <|
  mj_c1 (k_sipush (by decide +kernel) (by decide)) <|
  mj_c1 (k_na (at0 := .byte) (by decide +kernel) rfl (Or.inr (Or.inl ⟨rfl, rfl⟩)) w_226) <|
  mj_c1 (k_pRF (idx := 7) h_M (by decide) rfl (Or.inr ⟨_, rfl⟩) w_847 rfl rfl rfl (by decide +kernel)) <|
  mj_c1 (k_aloadn (k := 0) (by decide +kernel) rfl) <|
  mj_c1 (k_sipush (by decide +kernel) (by decide)) <|
  mj_c1 (k_na (at0 := .byte) (by decide +kernel) rfl (Or.inr (Or.inl ⟨rfl, rfl⟩)) w_226) <|
  mj_c1 (k_pRF (idx := 13) h_M (by decide) rfl (Or.inr ⟨_, rfl⟩) w_849 rfl rfl rfl (by decide +kernel)) <|
  mj_c1 (k_aloadn (k := 0) (by decide +kernel) rfl) <|
  mj_c1 (k_iconst (by decide +kernel)) <|
  mj_c1 (k_na (at0 := .int) (by decide +kernel) rfl (Or.inl ⟨rfl, rfl⟩) w_118) <|
  mj_c1 (k_pRF (idx := 16) h_M (by decide) rfl (Or.inr ⟨_, rfl⟩) w_851 rfl rfl rfl (by decide +kernel)) <|
  mj_c1 (k_aloadn (k := 0) (by decide +kernel) rfl) <|
  mj_c1 (k_iconst (by decide +kernel)) <|
  mj_c1 (k_na (at0 := .int) (by decide +kernel) rfl (Or.inl ⟨rfl, rfl⟩) w_118) <|
  mj_c1 (k_pRF (idx := 20) h_M (by decide) rfl (Or.inr ⟨_, rfl⟩) w_852 rfl rfl rfl (by decide +kernel)) <|
  mj_c1 (k_aloadn (k := 0) (by decide +kernel) rfl) <|
  mj_c1 (k_iconst (by decide +kernel)) <|
  mj_c1 (k_na (at0 := .int) (by decide +kernel) rfl (Or.inl ⟨rfl, rfl⟩) w_118) <|
  mj_c1 (k_pRF (idx := 23) h_M (by decide) rfl (Or.inr ⟨_, rfl⟩) w_853 rfl rfl rfl (by decide +kernel)) <|
  mj_c1 (k_aloadn (k := 0) (by decide +kernel) rfl) <|
  mj_c1 (k_iconst (by decide +kernel)) <|
  mj_c1 (k_na (at0 := .int) (by decide +kernel) rfl (Or.inl ⟨rfl, rfl⟩) w_118) <|
  mj_c1 (k_pRF (idx := 26) h_M (by decide) rfl (Or.inr ⟨_, rfl⟩) w_854 rfl rfl rfl (by decide +kernel)) <|
  mj_c1 (k_aloadn (k := 0) (by decide +kernel) rfl) <|
  mj_c1 (k_iconst (by decide +kernel)) <|
  mj_c1 (k_na (at0 := .int) (by decide +kernel) rfl (Or.inl ⟨rfl, rfl⟩) w_118) <|
  mj_c1 (k_pRF (idx := 29) h_M (by decide) rfl (Or.inr ⟨_, rfl⟩) w_855 rfl rfl rfl (by decide +kernel)) <|
  mj_c1 (k_aloadn (k := 0) (by decide +kernel) rfl) <|
  mj_c1 (k_iconst (by decide +kernel)) <|
  mj_c1 (k_na (at0 := .int) (by decide +kernel) rfl (Or.inl ⟨rfl, rfl⟩) w_118) <|
  mj_c1 (k_pRF (idx := 32) h_M (by decide) rfl (Or.inr ⟨_, rfl⟩) w_856 rfl rfl rfl (by decide +kernel)) <|
  mj_c1 (k_aloadn (k := 0) (by decide +kernel) rfl) <|
  mj_c1 (k_bipush (by decide +kernel) (by decide)) <|
  mj_c1 (k_na (at0 := .int) (by decide +kernel) rfl (Or.inl ⟨rfl, rfl⟩) w_118) <|
  mj_c1 (k_pRF (idx := 35) h_M (by decide) rfl (Or.inr ⟨_, rfl⟩) w_857 rfl rfl rfl (by decide +kernel)) <|
  mj_c1 (k_aloadn (k := 0) (by decide +kernel) rfl) <|
  mj_c1 (k_sipush (by decide +kernel) (by decide)) <|
  mj_c1 (k_na (at0 := .int) (by decide +kernel) rfl (Or.inl ⟨rfl, rfl⟩) w_118) <|
  mj_c1 (k_pRF (idx := 38) h_M (by decide) rfl (Or.inr ⟨_, rfl⟩) w_858 rfl rfl rfl (by decide +kernel)) <|
  mj_c1 (k_aloadn (k := 0) (by decide +kernel) rfl) <|
  mj_c1 (k_sipush (by decide +kernel) (by decide)) <|
  mj_c1 (k_na (at0 := .int) (by decide +kernel) rfl (Or.inl ⟨rfl, rfl⟩) w_118) <|
  mj_c1 (k_pRF (idx := 41) h_M (by decide) rfl (Or.inr ⟨_, rfl⟩) w_859 rfl rfl rfl (by decide +kernel)) <|
  mj_c1 (k_aloadn (k := 0) (by decide +kernel) rfl) <|
  mj_c1 (k_sipush (by decide +kernel) (by decide)) <|
  mj_c1 (k_na (at0 := .int) (by decide +kernel) rfl (Or.inl ⟨rfl, rfl⟩) w_118) <|
  mj_c1 (k_pRF (idx := 44) h_M (by decide) rfl (Or.inr ⟨_, rfl⟩) w_860 rfl rfl rfl (by decide +kernel)) <|
  mj_c1 (k_aloadn (k := 0) (by decide +kernel) rfl) <|
  mj_c1 (k_bipush (by decide +kernel) (by decide)) <|
  mj_c1 (k_na (at0 := .int) (by decide +kernel) rfl (Or.inl ⟨rfl, rfl⟩) w_118) <|
  mj_c1 (k_pRF (idx := 47) h_M (by decide) rfl (Or.inr ⟨_, rfl⟩) w_861 rfl rfl rfl (by decide +kernel)) <|
  mj_c1 (k_aloadn (k := 0) (by decide +kernel) rfl) <|
  mj_c1 (k_sipush (by decide +kernel) (by decide)) <|
  mj_c1 (k_na (at0 := .int) (by decide +kernel) rfl (Or.inl ⟨rfl, rfl⟩) w_118) <|
  mj_c1 (k_pRF (idx := 50) h_M (by decide) rfl (Or.inr ⟨_, rfl⟩) w_862 rfl rfl rfl (by decide +kernel)) <|
  mj_c1 (k_aloadn (k := 0) (by decide +kernel) rfl) <|
  mj_c1 (k_sipush (by decide +kernel) (by decide)) <|
  mj_c1 (k_na (at0 := .int) (by decide +kernel) rfl (Or.inl ⟨rfl, rfl⟩) w_118) <|
  mj_c1 (k_pRF (idx := 53) h_M (by decide) rfl (Or.inr ⟨_, rfl⟩) w_863 rfl rfl rfl (by decide +kernel)) <|
  mj_c1 (k_aloadn (k := 0) (by decide +kernel) rfl) <|
  mj_c1 (k_sipush (by decide +kernel) (by decide)) <|
  mj_c1 (k_na (at0 := .int) (by decide +kernel) rfl (Or.inl ⟨rfl, rfl⟩) w_118) <|
  mj_c1 (k_pRF (idx := 56) h_M (by decide) rfl (Or.inr ⟨_, rfl⟩) w_864 rfl rfl rfl (by decide +kernel)) <|
  mj_c1 (k_aloadn (k := 0) (by decide +kernel) rfl) <|
  mj_c1 (k_ldc (idx := 59) (by decide +kernel) w_845) <|
  mj_c1 (k_na (at0 := .long) (by decide +kernel) rfl (Or.inr (Or.inr (Or.inr ⟨rfl, rfl⟩))) w_154) <|
  mj_c1 (k_pRF (idx := 60) h_M (by decide) rfl (Or.inr ⟨_, rfl⟩) w_865 rfl rfl rfl (by decide +kernel)) <|
  mj_c1 (k_aloadn (k := 0) (by decide +kernel) rfl) <|
  mj_c1 (k_iconst (by decide +kernel)) <|
  mj_c1 (k_na (at0 := .int) (by decide +kernel) rfl (Or.inl ⟨rfl, rfl⟩) w_118) <|
  mj_c1 (k_pRF (idx := 64) h_M (by decide) rfl (Or.inr ⟨_, rfl⟩) w_869 rfl rfl rfl (by decide +kernel)) <|
  mj_c1 (k_aloadn (k := 0) (by decide +kernel) rfl) <|
  mj_c1 (k_iconst (by decide +kernel)) <|
  mj_c1 (k_na (at0 := .int) (by decide +kernel) rfl (Or.inl ⟨rfl, rfl⟩) w_118) <|
  mj_c1 (k_pRF (idx := 67) h_M (by decide) rfl (Or.inr ⟨_, rfl⟩) w_870 rfl rfl rfl (by decide +kernel)) <|
  mj_c1 (k_aloadn (k := 0) (by decide +kernel) rfl) <|
  mj_c1 (k_sipush (by decide +kernel) (by decide)) <|
  mj_c1 (k_na (at0 := .boolean) (by decide +kernel) rfl (Or.inr (Or.inr (Or.inl ⟨rfl, rfl⟩))) w_298) <|
  mj_c1 (k_pRF (idx := 70) h_M (by decide) rfl (Or.inr ⟨_, rfl⟩) w_871 rfl rfl rfl (by decide +kernel)) <|
  mj_c1 (k_aloadn (k := 0) (by decide +kernel) rfl) <|
  mj_c1 (k_sipush (by decide +kernel) (by decide)) <|
  mj_c1 (k_na (at0 := .int) (by decide +kernel) rfl (Or.inl ⟨rfl, rfl⟩) w_118) <|
  mj_c1 (k_pRF (idx := 74) h_M (by decide) rfl (Or.inr ⟨_, rfl⟩) w_872 rfl rfl rfl (by decide +kernel)) <|
  mj_c1 (k_aloadn (k := 0) (by decide +kernel) rfl) <|
  mj_c1 (k_sipush (by decide +kernel) (by decide)) <|
  mj_c1 (k_na (at0 := .int) (by decide +kernel) rfl (Or.inl ⟨rfl, rfl⟩) w_118) <|
  mj_c1 (k_pRF (idx := 77) h_M (by decide) rfl (Or.inr ⟨_, rfl⟩) w_873 rfl rfl rfl (by decide +kernel)) <|
  mj_c1 (k_aloadn (k := 0) (by decide +kernel) rfl) <|
  mj_c1 (k_sipush (by decide +kernel) (by decide)) <|
  mj_c1 (k_na (at0 := .int) (by decide +kernel) rfl (Or.inl ⟨rfl, rfl⟩) w_118) <|
  mj_c1 (k_pRF (idx := 80) h_M (by decide) rfl (Or.inr ⟨_, rfl⟩) w_874 rfl rfl rfl (by decide +kernel)) <|
  mj_c1 (k_aloadn (k := 0) (by decide +kernel) rfl) <|
  mj_c1 (k_sipush (by decide +kernel) (by decide)) <|
  mj_c1 (k_na (at0 := .boolean) (by decide +kernel) rfl (Or.inr (Or.inr (Or.inl ⟨rfl, rfl⟩))) w_298) <|
  mj_c1 (k_pRF (idx := 83) h_M (by decide) rfl (Or.inr ⟨_, rfl⟩) w_875 rfl rfl rfl (by decide +kernel)) <|
  mj_c1 (k_iconst (by decide +kernel)) <|
  mj_c1 (k_istoren (k := 1) (by decide +kernel) rfl (by decide)) <|
  mj_c1 (k_iloadn (k := 1) (by decide +kernel) rfl) <|
  mj_c1 (k_iconst (by decide +kernel)) <|
  mj_c1 (k_icge (off := 44) (by decide +kernel) (by decide)) <|
  mj_c1 (k_iconst (by decide +kernel)) <|
  mj_c1 (k_istoren (k := 2) (by decide +kernel) rfl (by decide)) <|
  mj_c1 (k_iloadn (k := 2) (by decide +kernel) rfl) <|
  mj_c1 (k_sipush (by decide +kernel) (by decide)) <|
  mj_c1 (k_icgt (off := 22) (by decide +kernel) (by decide)) <|
  mj_c1 (k_aloadn (k := 0) (by decide +kernel) rfl) <|
  mj_c1 (k_gR (idx := 50) h_M (by decide) rfl w_862 (by decide +kernel)) <|
  mj_c1 (k_sipush (by decide +kernel) (by decide)) <|
  mj_c1 (k_iloadn (k := 1) (by decide +kernel) rfl) <|
  mj_c1 (k_imul (by decide +kernel)) <|
  mj_c1 (k_iloadn (k := 2) (by decide +kernel) rfl) <|
  mj_c1 (k_iadd (by decide +kernel)) <|
  mj_c1 (k_iconst (by decide +kernel)) <|
  mj_c1 (k_ias (by decide +kernel)) <|
  mj_c1 (k_iinc (by decide +kernel) (by decide)) <|
  mj_c1 (k_goto (off := -23) (by decide +kernel) (by decide)) <|
  mj_c1 (k_aloadn (k := 0) (by decide +kernel) rfl) <|
  mj_c1 (k_gR (idx := 32) h_M (by decide) rfl w_856 (by decide +kernel)) <|
  mj_c1 (k_iloadn (k := 1) (by decide +kernel) rfl) <|
  mj_c1 (k_iconst (by decide +kernel)) <|
  mj_c1 (k_ias (by decide +kernel)) <|
  mj_c1 (k_iinc (by decide +kernel) (by decide)) <|
  mj_c1 (k_goto (off := -43) (by decide +kernel) (by decide)) <|
  mj_c1 (k_retv (by decide +kernel) rfl) mj_c0
def q_M_thrown : List (Nat × mj_Sem) := [(0, o_al 0 1), (1, o_gI 6 0 4), (4, o_iret 0 0)]
set_option maxRecDepth 100000 in
theorem z_M_thrown : mj_Code (m_M_thrown) (q_M_thrown) :=
  mj_c1 (k_aloadn (k := 0) (by decide +kernel) rfl) <|
  mj_c1 (k_gI (idx := 86) h_M (by decide) rfl w_846 (by decide +kernel)) <|
  mj_c1 (k_iret (by decide +kernel) rfl) mj_c0
def q_M_feed : List (Nat × mj_Sem) := [(0, o_il 1 1), (1, o_ic 1 2), (2, o_iclt 11 5), (5, o_il 1 6), (6, o_ic 8 8), (8, o_icle 15 11), (11, o_ic 1 12), (12, o_goto 16), (15, o_ic 0 16), (16, o_is 4 18), (18, o_al 0 19), (19, o_il 4 21), (21, o_il 4 23), (23, o_ifne 42 26), (26, o_al 0 27), (27, o_gI 6 2 30), (30, o_il 1 31), (31, o_iadd 32), (32, o_ic 8192 35), (35, o_icle 42 38), (38, o_ic 1 39), (39, o_goto 43), (42, o_ic 0 43), (43, o_call m_M_throwing 3 0 0 46 (mj_rv 6)), (46, o_ifeq 51 49), (49, o_ic 0 50), (50, o_iret 0 0), (51, o_ic 0 52), (52, o_is 5 54), (54, o_il 5 56), (56, o_il 1 57), (57, o_icge 94 60), (60, o_al 0 61), (61, o_gR 6 1 64), (64, o_al 0 65), (65, o_gI 6 2 68), (68, o_ll 2 69), (69, o_ic 8 71), (71, o_il 5 73), (73, o_imul 74), (74, o_lshr 75), (75, o_l2i 76), (76, o_i2b 77), (77, o_bas 78), (78, o_al 0 79), (79, o_dup 80), (80, o_gI 6 2 83), (83, o_ic 1 84), (84, o_iadd 85), (85, o_pI 6 2 88), (88, o_inc 5 1 91), (91, o_goto 54), (94, o_al 0 95), (95, o_gI 6 2 98), (98, o_iret 0 0)]
set_option maxRecDepth 100000 in
theorem z_M_feed : mj_Code (m_M_feed) (q_M_feed) :=
  mj_c1 (k_iloadn (k := 1) (by decide +kernel) rfl) <|
  mj_c1 (k_iconst (by decide +kernel)) <|
  mj_c1 (k_iclt (off := 9) (by decide +kernel) (by decide)) <|
  mj_c1 (k_iloadn (k := 1) (by decide +kernel) rfl) <|
  mj_c1 (k_bipush (by decide +kernel) (by decide)) <|
  mj_c1 (k_icle (off := 7) (by decide +kernel) (by decide)) <|
  mj_c1 (k_iconst (by decide +kernel)) <|
  mj_c1 (k_goto (off := 4) (by decide +kernel) (by decide)) <|
  mj_c1 (k_iconst (by decide +kernel)) <|
  mj_c1 (k_istore (by decide +kernel) (by decide)) <|
  mj_c1 (k_aloadn (k := 0) (by decide +kernel) rfl) <|
  mj_c1 (k_iload (by decide +kernel)) <|
  mj_c1 (k_iload (by decide +kernel)) <|
  mj_c1 (k_ifne (off := 19) (by decide +kernel) (by decide)) <|
  mj_c1 (k_aloadn (k := 0) (by decide +kernel) rfl) <|
  mj_c1 (k_gI (idx := 90) h_M (by decide) rfl w_848 (by decide +kernel)) <|
  mj_c1 (k_iloadn (k := 1) (by decide +kernel) rfl) <|
  mj_c1 (k_iadd (by decide +kernel)) <|
  mj_c1 (k_sipush (by decide +kernel) (by decide)) <|
  mj_c1 (k_icle (off := 7) (by decide +kernel) (by decide)) <|
  mj_c1 (k_iconst (by decide +kernel)) <|
  mj_c1 (k_goto (off := 4) (by decide +kernel) (by decide)) <|
  mj_c1 (k_iconst (by decide +kernel)) <|
  mj_c1 (k_callV (idx := 93) (by decide +kernel) (fit_m_M_feed_m_M_throwing) rfl rfl w_945 w_947 v_49 (by decide) (by decide +kernel)) <|
  mj_c1 (k_ifeq (off := 5) (by decide +kernel) (by decide)) <|
  mj_c1 (k_iconst (by decide +kernel)) <|
  mj_c1 (k_iret (by decide +kernel) rfl) <|
  mj_c1 (k_iconst (by decide +kernel)) <|
  mj_c1 (k_istore (by decide +kernel) (by decide)) <|
  mj_c1 (k_iload (by decide +kernel)) <|
  mj_c1 (k_iloadn (k := 1) (by decide +kernel) rfl) <|
  mj_c1 (k_icge (off := 37) (by decide +kernel) (by decide)) <|
  mj_c1 (k_aloadn (k := 0) (by decide +kernel) rfl) <|
  mj_c1 (k_gR (idx := 7) h_M (by decide) rfl w_847 (by decide +kernel)) <|
  mj_c1 (k_aloadn (k := 0) (by decide +kernel) rfl) <|
  mj_c1 (k_gI (idx := 90) h_M (by decide) rfl w_848 (by decide +kernel)) <|
  mj_c1 (k_lloadn (k := 2) (by decide +kernel) rfl) <|
  mj_c1 (k_bipush (by decide +kernel) (by decide)) <|
  mj_c1 (k_iload (by decide +kernel)) <|
  mj_c1 (k_imul (by decide +kernel)) <|
  mj_c1 (k_lshr (by decide +kernel)) <|
  mj_c1 (k_l2i (by decide +kernel)) <|
  mj_c1 (k_i2b (by decide +kernel)) <|
  mj_c1 (k_bas (by decide +kernel)) <|
  mj_c1 (k_aloadn (k := 0) (by decide +kernel) rfl) <|
  mj_c1 (k_dup (by decide +kernel)) <|
  mj_c1 (k_gI (idx := 90) h_M (by decide) rfl w_848 (by decide +kernel)) <|
  mj_c1 (k_iconst (by decide +kernel)) <|
  mj_c1 (k_iadd (by decide +kernel)) <|
  mj_c1 (k_pI (idx := 90) h_M (by decide) rfl rfl w_848 rfl (by decide +kernel)) <|
  mj_c1 (k_iinc (by decide +kernel) (by decide)) <|
  mj_c1 (k_goto (off := -37) (by decide +kernel) (by decide)) <|
  mj_c1 (k_aloadn (k := 0) (by decide +kernel) rfl) <|
  mj_c1 (k_gI (idx := 90) h_M (by decide) rfl w_848 (by decide +kernel)) <|
  mj_c1 (k_iret (by decide +kernel) rfl) mj_c0
def q_M_throwing : List (Nat × mj_Sem) := [(0, o_al 0 1), (1, o_il 1 2), (2, o_ifeq 9 5), (5, o_ic 1 6), (6, o_goto 18), (9, o_il 2 10), (10, o_ifeq 17 13), (13, o_ic 2 14), (14, o_goto 18), (17, o_ic 0 18), (18, o_pI 6 0 21), (21, o_al 0 22), (22, o_gI 6 0 25), (25, o_ifle 32 28), (28, o_ic 1 29), (29, o_goto 33), (32, o_ic 0 33), (33, o_zret 0 0)]
set_option maxRecDepth 100000 in
theorem z_M_throwing : mj_Code (m_M_throwing) (q_M_throwing) :=
  mj_c1 (k_aloadn (k := 0) (by decide +kernel) rfl) <|
  mj_c1 (k_iloadn (k := 1) (by decide +kernel) rfl) <|
  mj_c1 (k_ifeq (off := 7) (by decide +kernel) (by decide)) <|
  mj_c1 (k_iconst (by decide +kernel)) <|
  mj_c1 (k_goto (off := 12) (by decide +kernel) (by decide)) <|
  mj_c1 (k_iloadn (k := 2) (by decide +kernel) rfl) <|
  mj_c1 (k_ifeq (off := 7) (by decide +kernel) (by decide)) <|
  mj_c1 (k_iconst (by decide +kernel)) <|
  mj_c1 (k_goto (off := 4) (by decide +kernel) (by decide)) <|
  mj_c1 (k_iconst (by decide +kernel)) <|
  mj_c1 (k_pI (idx := 86) h_M (by decide) rfl rfl w_846 rfl (by decide +kernel)) <|
  mj_c1 (k_aloadn (k := 0) (by decide +kernel) rfl) <|
  mj_c1 (k_gI (idx := 86) h_M (by decide) rfl w_846 (by decide +kernel)) <|
  mj_c1 (k_ifle (off := 7) (by decide +kernel) (by decide)) <|
  mj_c1 (k_iconst (by decide +kernel)) <|
  mj_c1 (k_goto (off := 4) (by decide +kernel) (by decide)) <|
  mj_c1 (k_iconst (by decide +kernel)) <|
  mj_c1 (k_zret (by decide +kernel) rfl) mj_c0
def q_M_load : List (Nat × mj_Sem) := [(0, o_al 0 1), (1, o_il 1 2), (2, o_call m_M_isCircuit 1 0 0 5 mj_rs), (5, o_ifne 12 8), (8, o_ic 1 9), (9, o_goto 13), (12, o_ic 0 13), (13, o_ic 0 14), (14, o_call m_M_throwing 3 0 0 17 (mj_rv 6)), (17, o_ifeq 22 20), (20, o_ic 0 21), (21, o_iret 0 0), (22, o_al 0 23), (23, o_call m_M_readText 1 0 0 26 (mj_rv 6)), (26, o_al 0 27), (27, o_ic 0 28), (28, o_pI 6 2 31), (31, o_al 0 32), (32, o_gR 6 9 35), (35, o_il 1 36), (36, o_al 0 37), (37, o_gI 6 21 40), (40, o_ias 41), (41, o_al 0 42), (42, o_gR 6 10 45), (45, o_il 1 46), (46, o_al 0 47), (47, o_gI 6 21 50), (50, o_ifle 60 53), (53, o_al 0 54), (54, o_gI 6 22 57), (57, o_goto 61), (60, o_ic 0 61), (61, o_ias 62), (62, o_al 0 63), (63, o_gI 6 21 66), (66, o_ifne 74 69), (69, o_al 0 70), (70, o_il 1 71), (71, o_call m_M_take 2 0 0 74 (mj_rv 6)), (74, o_al 0 75), (75, o_gI 6 21 78), (78, o_iret 0 0)]
set_option maxRecDepth 100000 in
theorem z_M_load : mj_Code (m_M_load) (q_M_load) :=
  mj_c1 (k_aloadn (k := 0) (by decide +kernel) rfl) <|
  mj_c1 (k_iloadn (k := 1) (by decide +kernel) rfl) <|
  mj_c1 (k_callS (idx := 166) (by decide +kernel) (fit_m_M_load_m_M_isCircuit) rfl w_953 w_954 (by decide) (by decide +kernel)) <|
  mj_c1 (k_ifne (off := 7) (by decide +kernel) (by decide)) <|
  mj_c1 (k_iconst (by decide +kernel)) <|
  mj_c1 (k_goto (off := 4) (by decide +kernel) (by decide)) <|
  mj_c1 (k_iconst (by decide +kernel)) <|
  mj_c1 (k_iconst (by decide +kernel)) <|
  mj_c1 (k_callV (idx := 93) (by decide +kernel) (fit_m_M_load_m_M_throwing) rfl rfl w_945 w_947 v_49 (by decide) (by decide +kernel)) <|
  mj_c1 (k_ifeq (off := 5) (by decide +kernel) (by decide)) <|
  mj_c1 (k_iconst (by decide +kernel)) <|
  mj_c1 (k_iret (by decide +kernel) rfl) <|
  mj_c1 (k_aloadn (k := 0) (by decide +kernel) rfl) <|
  mj_c1 (k_callV (idx := 169) (by decide +kernel) (fit_m_M_load_m_M_readText) rfl rfl w_956 w_958 v_50 (by decide) (by decide +kernel)) <|
  mj_c1 (k_aloadn (k := 0) (by decide +kernel) rfl) <|
  mj_c1 (k_iconst (by decide +kernel)) <|
  mj_c1 (k_pI (idx := 90) h_M (by decide) rfl rfl w_848 rfl (by decide +kernel)) <|
  mj_c1 (k_aloadn (k := 0) (by decide +kernel) rfl) <|
  mj_c1 (k_gR (idx := 29) h_M (by decide) rfl w_855 (by decide +kernel)) <|
  mj_c1 (k_iloadn (k := 1) (by decide +kernel) rfl) <|
  mj_c1 (k_aloadn (k := 0) (by decide +kernel) rfl) <|
  mj_c1 (k_gI (idx := 97) h_M (by decide) rfl w_867 (by decide +kernel)) <|
  mj_c1 (k_ias (by decide +kernel)) <|
  mj_c1 (k_aloadn (k := 0) (by decide +kernel) rfl) <|
  mj_c1 (k_gR (idx := 32) h_M (by decide) rfl w_856 (by decide +kernel)) <|
  mj_c1 (k_iloadn (k := 1) (by decide +kernel) rfl) <|
  mj_c1 (k_aloadn (k := 0) (by decide +kernel) rfl) <|
  mj_c1 (k_gI (idx := 97) h_M (by decide) rfl w_867 (by decide +kernel)) <|
  mj_c1 (k_ifle (off := 10) (by decide +kernel) (by decide)) <|
  mj_c1 (k_aloadn (k := 0) (by decide +kernel) rfl) <|
  mj_c1 (k_gI (idx := 100) h_M (by decide) rfl w_868 (by decide +kernel)) <|
  mj_c1 (k_goto (off := 4) (by decide +kernel) (by decide)) <|
  mj_c1 (k_iconst (by decide +kernel)) <|
  mj_c1 (k_ias (by decide +kernel)) <|
  mj_c1 (k_aloadn (k := 0) (by decide +kernel) rfl) <|
  mj_c1 (k_gI (idx := 97) h_M (by decide) rfl w_867 (by decide +kernel)) <|
  mj_c1 (k_ifne (off := 8) (by decide +kernel) (by decide)) <|
  mj_c1 (k_aloadn (k := 0) (by decide +kernel) rfl) <|
  mj_c1 (k_iloadn (k := 1) (by decide +kernel) rfl) <|
  mj_c1 (k_callV (idx := 172) (by decide +kernel) (fit_m_M_load_m_M_take) rfl rfl w_1031 w_1033 v_68 (by decide) (by decide +kernel)) <|
  mj_c1 (k_aloadn (k := 0) (by decide +kernel) rfl) <|
  mj_c1 (k_gI (idx := 97) h_M (by decide) rfl w_867 (by decide +kernel)) <|
  mj_c1 (k_iret (by decide +kernel) rfl) mj_c0
def q_M_isCircuit : List (Nat × mj_Sem) := [(0, o_il 0 1), (1, o_ifeq 9 4), (4, o_il 0 5), (5, o_ic 1 6), (6, o_icne 13 9), (9, o_ic 1 10), (10, o_goto 14), (13, o_ic 0 14), (14, o_zret 0 0)]
set_option maxRecDepth 100000 in
theorem z_M_isCircuit : mj_Code (m_M_isCircuit) (q_M_isCircuit) :=
  mj_c1 (k_iloadn (k := 0) (by decide +kernel) rfl) <|
  mj_c1 (k_ifeq (off := 8) (by decide +kernel) (by decide)) <|
  mj_c1 (k_iloadn (k := 0) (by decide +kernel) rfl) <|
  mj_c1 (k_iconst (by decide +kernel)) <|
  mj_c1 (k_icne (off := 7) (by decide +kernel) (by decide)) <|
  mj_c1 (k_iconst (by decide +kernel)) <|
  mj_c1 (k_goto (off := 4) (by decide +kernel) (by decide)) <|
  mj_c1 (k_iconst (by decide +kernel)) <|
  mj_c1 (k_zret (by decide +kernel) rfl) mj_c0
def q_M_readText : List (Nat × mj_Sem) := [(0, o_al 0 1), (1, o_ic 0 2), (2, o_pI 6 21 5), (5, o_al 0 6), (6, o_ic 4 7), (7, o_pI 6 20 10), (10, o_al 0 11), (11, o_gI 6 2 14), (14, o_ic 2 15), (15, o_icle 33 18), (18, o_al 0 19), (19, o_gR 6 1 22), (22, o_ic 1 23), (23, o_bal 24), (24, o_ic 105 26), (26, o_icne 33 29), (29, o_ic 1 30), (30, o_goto 34), (33, o_ic 0 34), (34, o_is 1 35), (35, o_al 0 36), (36, o_gI 6 2 39), (39, o_ic 3 40), (40, o_icle 95 43), (43, o_al 0 44), (44, o_gR 6 1 47), (47, o_ic 0 48), (48, o_bal 49), (49, o_ic 97 51), (51, o_icne 95 54), (54, o_al 0 55), (55, o_gR 6 1 58), (58, o_ic 1 59), (59, o_bal 60), (60, o_ic 97 62), (62, o_iceq 69 65), (65, o_il 1 66), (66, o_ifeq 95 69), (69, o_al 0 70), (70, o_gR 6 1 73), (73, o_ic 2 74), (74, o_bal 75), (75, o_ic 103 77), (77, o_icne 95 80), (80, o_al 0 81), (81, o_gR 6 1 84), (84, o_ic 3 85), (85, o_bal 86), (86, o_ic 32 88), (88, o_icne 95 91), (91, o_ic 1 92), (92, o_goto 96), (95, o_ic 0 96), (96, o_is 2 97), (97, o_il 2 98), (98, o_ifne 108 101), (101, o_al 0 102), (102, o_ic 1 103), (103, o_ic 0 104), (104, o_call m_M_fail 3 0 0 107 (mj_rv 6)), (107, o_retv 0 0), (108, o_al 0 109), (109, o_call m_M_empty 1 0 0 112 (mj_rv 6)), (112, o_al 0 113), (113, o_il 1 114), (114, o_call m_M_header 2 0 0 117 (mj_rv 6)), (117, o_al 0 118), (118, o_gI 6 21 121), (121, o_ifne 129 124), (124, o_al 0 125), (125, o_il 1 126), (126, o_call m_M_readInputs 2 0 0 129 (mj_rv 6)), (129, o_al 0 130), (130, o_gI 6 21 133), (133, o_ifne 140 136), (136, o_al 0 137), (137, o_call m_M_readOutputs 1 0 0 140 (mj_rv 6)), (140, o_al 0 141), (141, o_gI 6 21 144), (144, o_ifne 155 147), (147, o_il 1 148), (148, o_ifeq 155 151), (151, o_al 0 152), (152, o_call m_M_readSteps 1 0 0 155 (mj_rv 6)), (155, o_al 0 156), (156, o_gI 6 21 159), (159, o_ifne 170 162), (162, o_il 1 163), (163, o_ifne 170 166), (166, o_al 0 167), (167, o_call m_M_readGates 1 0 0 170 (mj_rv 6)), (170, o_al 0 171), (171, o_gI 6 21 174), (174, o_ifne 237 177), (177, o_al 0 178), (178, o_gI 6 20 181), (181, o_al 0 182), (182, o_gI 6 2 185), (185, o_icge 237 188), (188, o_al 0 189), (189, o_call m_M_here 1 0 0 192 (mj_rv 6)), (192, o_ic 99 194), (194, o_iceq 209 197), (197, o_al 0 198), (198, o_ic 5 199), (199, o_al 0 200), (200, o_gI 6 20 203), (203, o_call m_M_fail 3 0 0 206 (mj_rv 6)), (206, o_goto 237), (209, o_al 0 210), (210, o_dup 211), (211, o_gI 6 20 214), (214, o_ic 1 215), (215, o_iadd 216), (216, o_pI 6 20 219), (219, o_al 0 220), (220, o_call m_M_here 1 0 0 223 (mj_rv 6)), (223, o_ic 10 225), (225, o_iceq 237 228), (228, o_al 0 229), (229, o_ic 5 230), (230, o_al 0 231), (231, o_gI 6 20 234), (234, o_call m_M_fail 3 0 0 237 (mj_rv 6)), (237, o_al 0 238), (238, o_gI 6 21 241), (241, o_ifne 248 244), (244, o_al 0 245), (245, o_call m_M_connect 1 0 0 248 (mj_rv 6)), (248, o_retv 0 0)]
set_option maxRecDepth 100000 in
theorem z_M_readText : mj_Code (m_M_readText) (q_M_readText) :=
  mj_c1 (k_aloadn (k := 0) (by decide +kernel) rfl) <|
  mj_c1 (k_iconst (by decide +kernel)) <|
  mj_c1 (k_pI (idx := 97) h_M (by decide) rfl rfl w_867 rfl (by decide +kernel)) <|
  mj_c1 (k_aloadn (k := 0) (by decide +kernel) rfl) <|
  mj_c1 (k_iconst (by decide +kernel)) <|
  mj_c1 (k_pI (idx := 103) h_M (by decide) rfl rfl w_866 rfl (by decide +kernel)) <|
  mj_c1 (k_aloadn (k := 0) (by decide +kernel) rfl) <|
  mj_c1 (k_gI (idx := 90) h_M (by decide) rfl w_848 (by decide +kernel)) <|
  mj_c1 (k_iconst (by decide +kernel)) <|
  mj_c1 (k_icle (off := 18) (by decide +kernel) (by decide)) <|
  mj_c1 (k_aloadn (k := 0) (by decide +kernel) rfl) <|
  mj_c1 (k_gR (idx := 7) h_M (by decide) rfl w_847 (by decide +kernel)) <|
  mj_c1 (k_iconst (by decide +kernel)) <|
  mj_c1 (k_bal (by decide +kernel)) <|
  mj_c1 (k_bipush (by decide +kernel) (by decide)) <|
  mj_c1 (k_icne (off := 7) (by decide +kernel) (by decide)) <|
  mj_c1 (k_iconst (by decide +kernel)) <|
  mj_c1 (k_goto (off := 4) (by decide +kernel) (by decide)) <|
  mj_c1 (k_iconst (by decide +kernel)) <|
  mj_c1 (k_istoren (k := 1) (by decide +kernel) rfl (by decide)) <|
  mj_c1 (k_aloadn (k := 0) (by decide +kernel) rfl) <|
  mj_c1 (k_gI (idx := 90) h_M (by decide) rfl w_848 (by decide +kernel)) <|
  mj_c1 (k_iconst (by decide +kernel)) <|
  mj_c1 (k_icle (off := 55) (by decide +kernel) (by decide)) <|
  mj_c1 (k_aloadn (k := 0) (by decide +kernel) rfl) <|
  mj_c1 (k_gR (idx := 7) h_M (by decide) rfl w_847 (by decide +kernel)) <|
  mj_c1 (k_iconst (by decide +kernel)) <|
  mj_c1 (k_bal (by decide +kernel)) <|
  mj_c1 (k_bipush (by decide +kernel) (by decide)) <|
  mj_c1 (k_icne (off := 44) (by decide +kernel) (by decide)) <|
  mj_c1 (k_aloadn (k := 0) (by decide +kernel) rfl) <|
  mj_c1 (k_gR (idx := 7) h_M (by decide) rfl w_847 (by decide +kernel)) <|
  mj_c1 (k_iconst (by decide +kernel)) <|
  mj_c1 (k_bal (by decide +kernel)) <|
  mj_c1 (k_bipush (by decide +kernel) (by decide)) <|
  mj_c1 (k_iceq (off := 7) (by decide +kernel) (by decide)) <|
  mj_c1 (k_iloadn (k := 1) (by decide +kernel) rfl) <|
  mj_c1 (k_ifeq (off := 29) (by decide +kernel) (by decide)) <|
  mj_c1 (k_aloadn (k := 0) (by decide +kernel) rfl) <|
  mj_c1 (k_gR (idx := 7) h_M (by decide) rfl w_847 (by decide +kernel)) <|
  mj_c1 (k_iconst (by decide +kernel)) <|
  mj_c1 (k_bal (by decide +kernel)) <|
  mj_c1 (k_bipush (by decide +kernel) (by decide)) <|
  mj_c1 (k_icne (off := 18) (by decide +kernel) (by decide)) <|
  mj_c1 (k_aloadn (k := 0) (by decide +kernel) rfl) <|
  mj_c1 (k_gR (idx := 7) h_M (by decide) rfl w_847 (by decide +kernel)) <|
  mj_c1 (k_iconst (by decide +kernel)) <|
  mj_c1 (k_bal (by decide +kernel)) <|
  mj_c1 (k_bipush (by decide +kernel) (by decide)) <|
  mj_c1 (k_icne (off := 7) (by decide +kernel) (by decide)) <|
  mj_c1 (k_iconst (by decide +kernel)) <|
  mj_c1 (k_goto (off := 4) (by decide +kernel) (by decide)) <|
  mj_c1 (k_iconst (by decide +kernel)) <|
  mj_c1 (k_istoren (k := 2) (by decide +kernel) rfl (by decide)) <|
  mj_c1 (k_iloadn (k := 2) (by decide +kernel) rfl) <|
  mj_c1 (k_ifne (off := 10) (by decide +kernel) (by decide)) <|
  mj_c1 (k_aloadn (k := 0) (by decide +kernel) rfl) <|
  mj_c1 (k_iconst (by decide +kernel)) <|
  mj_c1 (k_iconst (by decide +kernel)) <|
  mj_c1 (k_callV (idx := 114) (by decide +kernel) (fit_m_M_readText_m_M_fail) rfl rfl w_960 w_962 v_51 (by decide) (by decide +kernel)) <|
  mj_c1 (k_retv (by decide +kernel) rfl) <|
  mj_c1 (k_aloadn (k := 0) (by decide +kernel) rfl) <|
  mj_c1 (k_callV (idx := 144) (by decide +kernel) (fit_m_M_readText_m_M_empty) rfl rfl w_964 w_966 v_52 (by decide) (by decide +kernel)) <|
  mj_c1 (k_aloadn (k := 0) (by decide +kernel) rfl) <|
  mj_c1 (k_iloadn (k := 1) (by decide +kernel) rfl) <|
  mj_c1 (k_callV (idx := 147) (by decide +kernel) (fit_m_M_readText_m_M_header) rfl rfl w_968 w_970 v_53 (by decide) (by decide +kernel)) <|
  mj_c1 (k_aloadn (k := 0) (by decide +kernel) rfl) <|
  mj_c1 (k_gI (idx := 97) h_M (by decide) rfl w_867 (by decide +kernel)) <|
  mj_c1 (k_ifne (off := 8) (by decide +kernel) (by decide)) <|
  mj_c1 (k_aloadn (k := 0) (by decide +kernel) rfl) <|
  mj_c1 (k_iloadn (k := 1) (by decide +kernel) rfl) <|
  mj_c1 (k_callV (idx := 151) (by decide +kernel) (fit_m_M_readText_m_M_readInputs) rfl rfl w_983 w_985 v_56 (by decide) (by decide +kernel)) <|
  mj_c1 (k_aloadn (k := 0) (by decide +kernel) rfl) <|
  mj_c1 (k_gI (idx := 97) h_M (by decide) rfl w_867 (by decide +kernel)) <|
  mj_c1 (k_ifne (off := 7) (by decide +kernel) (by decide)) <|
  mj_c1 (k_aloadn (k := 0) (by decide +kernel) rfl) <|
  mj_c1 (k_callV (idx := 154) (by decide +kernel) (fit_m_M_readText_m_M_readOutputs) rfl rfl w_991 w_993 v_58 (by decide) (by decide +kernel)) <|
  mj_c1 (k_aloadn (k := 0) (by decide +kernel) rfl) <|
  mj_c1 (k_gI (idx := 97) h_M (by decide) rfl w_867 (by decide +kernel)) <|
  mj_c1 (k_ifne (off := 11) (by decide +kernel) (by decide)) <|
  mj_c1 (k_iloadn (k := 1) (by decide +kernel) rfl) <|
  mj_c1 (k_ifeq (off := 7) (by decide +kernel) (by decide)) <|
  mj_c1 (k_aloadn (k := 0) (by decide +kernel) rfl) <|
  mj_c1 (k_callV (idx := 157) (by decide +kernel) (fit_m_M_readText_m_M_readSteps) rfl rfl w_995 w_997 v_59 (by decide) (by decide +kernel)) <|
  mj_c1 (k_aloadn (k := 0) (by decide +kernel) rfl) <|
  mj_c1 (k_gI (idx := 97) h_M (by decide) rfl w_867 (by decide +kernel)) <|
  mj_c1 (k_ifne (off := 11) (by decide +kernel) (by decide)) <|
  mj_c1 (k_iloadn (k := 1) (by decide +kernel) rfl) <|
  mj_c1 (k_ifne (off := 7) (by decide +kernel) (by decide)) <|
  mj_c1 (k_aloadn (k := 0) (by decide +kernel) rfl) <|
  mj_c1 (k_callV (idx := 160) (by decide +kernel) (fit_m_M_readText_m_M_readGates) rfl rfl w_1003 w_1005 v_61 (by decide) (by decide +kernel)) <|
  mj_c1 (k_aloadn (k := 0) (by decide +kernel) rfl) <|
  mj_c1 (k_gI (idx := 97) h_M (by decide) rfl w_867 (by decide +kernel)) <|
  mj_c1 (k_ifne (off := 63) (by decide +kernel) (by decide)) <|
  mj_c1 (k_aloadn (k := 0) (by decide +kernel) rfl) <|
  mj_c1 (k_gI (idx := 103) h_M (by decide) rfl w_866 (by decide +kernel)) <|
  mj_c1 (k_aloadn (k := 0) (by decide +kernel) rfl) <|
  mj_c1 (k_gI (idx := 90) h_M (by decide) rfl w_848 (by decide +kernel)) <|
  mj_c1 (k_icge (off := 52) (by decide +kernel) (by decide)) <|
  mj_c1 (k_aloadn (k := 0) (by decide +kernel) rfl) <|
  mj_c1 (k_callV (idx := 106) (by decide +kernel) (fit_m_M_readText_m_M_here) rfl rfl w_976 w_978 v_55 (by decide) (by decide +kernel)) <|
  mj_c1 (k_bipush (by decide +kernel) (by decide)) <|
  mj_c1 (k_iceq (off := 15) (by decide +kernel) (by decide)) <|
  mj_c1 (k_aloadn (k := 0) (by decide +kernel) rfl) <|
  mj_c1 (k_iconst (by decide +kernel)) <|
  mj_c1 (k_aloadn (k := 0) (by decide +kernel) rfl) <|
  mj_c1 (k_gI (idx := 103) h_M (by decide) rfl w_866 (by decide +kernel)) <|
  mj_c1 (k_callV (idx := 114) (by decide +kernel) (fit_m_M_readText_m_M_fail) rfl rfl w_960 w_962 v_51 (by decide) (by decide +kernel)) <|
  mj_c1 (k_goto (off := 31) (by decide +kernel) (by decide)) <|
  mj_c1 (k_aloadn (k := 0) (by decide +kernel) rfl) <|
  mj_c1 (k_dup (by decide +kernel)) <|
  mj_c1 (k_gI (idx := 103) h_M (by decide) rfl w_866 (by decide +kernel)) <|
  mj_c1 (k_iconst (by decide +kernel)) <|
  mj_c1 (k_iadd (by decide +kernel)) <|
  mj_c1 (k_pI (idx := 103) h_M (by decide) rfl rfl w_866 rfl (by decide +kernel)) <|
  mj_c1 (k_aloadn (k := 0) (by decide +kernel) rfl) <|
  mj_c1 (k_callV (idx := 106) (by decide +kernel) (fit_m_M_readText_m_M_here) rfl rfl w_976 w_978 v_55 (by decide) (by decide +kernel)) <|
  mj_c1 (k_bipush (by decide +kernel) (by decide)) <|
  mj_c1 (k_iceq (off := 12) (by decide +kernel) (by decide)) <|
  mj_c1 (k_aloadn (k := 0) (by decide +kernel) rfl) <|
  mj_c1 (k_iconst (by decide +kernel)) <|
  mj_c1 (k_aloadn (k := 0) (by decide +kernel) rfl) <|
  mj_c1 (k_gI (idx := 103) h_M (by decide) rfl w_866 (by decide +kernel)) <|
  mj_c1 (k_callV (idx := 114) (by decide +kernel) (fit_m_M_readText_m_M_fail) rfl rfl w_960 w_962 v_51 (by decide) (by decide +kernel)) <|
  mj_c1 (k_aloadn (k := 0) (by decide +kernel) rfl) <|
  mj_c1 (k_gI (idx := 97) h_M (by decide) rfl w_867 (by decide +kernel)) <|
  mj_c1 (k_ifne (off := 7) (by decide +kernel) (by decide)) <|
  mj_c1 (k_aloadn (k := 0) (by decide +kernel) rfl) <|
  mj_c1 (k_callV (idx := 163) (by decide +kernel) (fit_m_M_readText_m_M_connect) rfl rfl w_1007 w_1009 v_62 (by decide) (by decide +kernel)) <|
  mj_c1 (k_retv (by decide +kernel) rfl) mj_c0
def q_M_fail : List (Nat × mj_Sem) := [(0, o_al 0 1), (1, o_il 1 2), (2, o_pI 6 21 5), (5, o_al 0 6), (6, o_il 2 7), (7, o_pI 6 22 10), (10, o_retv 0 0)]
set_option maxRecDepth 100000 in
theorem z_M_fail : mj_Code (m_M_fail) (q_M_fail) :=
  mj_c1 (k_aloadn (k := 0) (by decide +kernel) rfl) <|
  mj_c1 (k_iloadn (k := 1) (by decide +kernel) rfl) <|
  mj_c1 (k_pI (idx := 97) h_M (by decide) rfl rfl w_867 rfl (by decide +kernel)) <|
  mj_c1 (k_aloadn (k := 0) (by decide +kernel) rfl) <|
  mj_c1 (k_iloadn (k := 2) (by decide +kernel) rfl) <|
  mj_c1 (k_pI (idx := 100) h_M (by decide) rfl rfl w_868 rfl (by decide +kernel)) <|
  mj_c1 (k_retv (by decide +kernel) rfl) mj_c0
def q_M_empty : List (Nat × mj_Sem) := [(0, o_ic 1 1), (1, o_is 1 2), (2, o_il 1 3), (3, o_ic 1000 6), (6, o_icgt 26 9), (9, o_al 0 10), (10, o_gR 6 16 13), (13, o_ic 2002 16), (16, o_il 1 17), (17, o_iadd 18), (18, o_ic (-1) 19), (19, o_ias 20), (20, o_inc 1 1 23), (23, o_goto 2), (26, o_retv 0 0)]
set_option maxRecDepth 100000 in
theorem z_M_empty : mj_Code (m_M_empty) (q_M_empty) :=
  mj_c1 (k_iconst (by decide +kernel)) <|
  mj_c1 (k_istoren (k := 1) (by decide +kernel) rfl (by decide)) <|
  mj_c1 (k_iloadn (k := 1) (by decide +kernel) rfl) <|
  mj_c1 (k_sipush (by decide +kernel) (by decide)) <|
  mj_c1 (k_icgt (off := 20) (by decide +kernel) (by decide)) <|
  mj_c1 (k_aloadn (k := 0) (by decide +kernel) rfl) <|
  mj_c1 (k_gR (idx := 50) h_M (by decide) rfl w_862 (by decide +kernel)) <|
  mj_c1 (k_sipush (by decide +kernel) (by decide)) <|
  mj_c1 (k_iloadn (k := 1) (by decide +kernel) rfl) <|
  mj_c1 (k_iadd (by decide +kernel)) <|
  mj_c1 (k_iconst (by decide +kernel)) <|
  mj_c1 (k_ias (by decide +kernel)) <|
  mj_c1 (k_iinc (by decide +kernel) (by decide)) <|
  mj_c1 (k_goto (off := -21) (by decide +kernel) (by decide)) <|
  mj_c1 (k_retv (by decide +kernel) rfl) mj_c0
def q_M_header : List (Nat × mj_Sem) := [(0, o_al 0 1), (1, o_ic 5 2), (2, o_ic 2 3), (3, o_call m_M_line 3 0 0 6 (mj_rv 6)), (6, o_al 0 7), (7, o_gI 6 21 10), (10, o_ifle 14 13), (13, o_retv 0 0), (14, o_al 0 15), (15, o_gR 6 23 18), (18, o_ic 0 19), (19, o_ial 20), (20, o_is 2 21), (21, o_al 0 22), (22, o_gR 6 23 25), (25, o_ic 1 26), (26, o_ial 27), (27, o_is 3 28), (28, o_al 0 29), (29, o_gR 6 23 32), (32, o_ic 3 33), (33, o_ial 34), (34, o_is 4 36), (36, o_al 0 37), (37, o_gR 6 23 40), (40, o_ic 4 41), (41, o_ial 42), (42, o_is 5 44), (44, o_al 0 45), (45, o_gR 6 23 48), (48, o_ic 2 49), (49, o_ial 50), (50, o_ifeq 62 53), (53, o_al 0 54), (54, o_ic 3 55), (55, o_ic 0 56), (56, o_call m_M_fail 3 0 0 59 (mj_rv 6)), (59, o_goto 149), (62, o_il 2 63), (63, o_ic 1000 66), (66, o_icgt 110 69), (69, o_il 3 70), (70, o_ic 14 72), (72, o_icgt 110 75), (75, o_il 4 77), (77, o_ic 16 79), (79, o_icgt 110 82), (82, o_il 5 84), (84, o_ic 300 87), (87, o_icgt 110 90), (90, o_il 2 91), (91, o_il 3 92), (92, o_il 5 94), (94, o_iadd 95), (95, o_iclt 110 98), (98, o_il 1 99), (99, o_ifeq 119 102), (102, o_il 2 103), (103, o_il 3 104), (104, o_il 5 106), (106, o_iadd 107), (107, o_iceq 119 110), (110, o_al 0 111), (111, o_ic 4 112), (112, o_ic 0 113), (113, o_call m_M_fail 3 0 0 116 (mj_rv 6)), (116, o_goto 149), (119, o_al 0 120), (120, o_gR 6 8 123), (123, o_ic 2 124), (124, o_il 2 125), (125, o_ias 126), (126, o_al 0 127), (127, o_gR 6 5 130), (130, o_ic 2 131), (131, o_il 3 132), (132, o_ias 133), (133, o_al 0 134), (134, o_gR 6 7 137), (137, o_ic 2 138), (138, o_il 4 140), (140, o_ias 141), (141, o_al 0 142), (142, o_gR 6 6 145), (145, o_ic 2 146), (146, o_il 5 148), (148, o_ias 149), (149, o_retv 0 0)]
set_option maxRecDepth 100000 in
theorem z_M_header : mj_Code (m_M_header) (q_M_header) :=
  mj_c1 (k_aloadn (k := 0) (by decide +kernel) rfl) <|
  mj_c1 (k_iconst (by decide +kernel)) <|
  mj_c1 (k_iconst (by decide +kernel)) <|
  mj_c1 (k_callV (idx := 118) (by decide +kernel) (fit_m_M_header_m_M_line) rfl rfl w_972 w_974 v_54 (by decide) (by decide +kernel)) <|
  mj_c1 (k_aloadn (k := 0) (by decide +kernel) rfl) <|
  mj_c1 (k_gI (idx := 97) h_M (by decide) rfl w_867 (by decide +kernel)) <|
  mj_c1 (k_ifle (off := 4) (by decide +kernel) (by decide)) <|
  mj_c1 (k_retv (by decide +kernel) rfl) <|
  mj_c1 (k_aloadn (k := 0) (by decide +kernel) rfl) <|
  mj_c1 (k_gR (idx := 64) h_M (by decide) rfl w_869 (by decide +kernel)) <|
  mj_c1 (k_iconst (by decide +kernel)) <|
  mj_c1 (k_ial (by decide +kernel)) <|
  mj_c1 (k_istoren (k := 2) (by decide +kernel) rfl (by decide)) <|
  mj_c1 (k_aloadn (k := 0) (by decide +kernel) rfl) <|
  mj_c1 (k_gR (idx := 64) h_M (by decide) rfl w_869 (by decide +kernel)) <|
  mj_c1 (k_iconst (by decide +kernel)) <|
  mj_c1 (k_ial (by decide +kernel)) <|
  mj_c1 (k_istoren (k := 3) (by decide +kernel) rfl (by decide)) <|
  mj_c1 (k_aloadn (k := 0) (by decide +kernel) rfl) <|
  mj_c1 (k_gR (idx := 64) h_M (by decide) rfl w_869 (by decide +kernel)) <|
  mj_c1 (k_iconst (by decide +kernel)) <|
  mj_c1 (k_ial (by decide +kernel)) <|
  mj_c1 (k_istore (by decide +kernel) (by decide)) <|
  mj_c1 (k_aloadn (k := 0) (by decide +kernel) rfl) <|
  mj_c1 (k_gR (idx := 64) h_M (by decide) rfl w_869 (by decide +kernel)) <|
  mj_c1 (k_iconst (by decide +kernel)) <|
  mj_c1 (k_ial (by decide +kernel)) <|
  mj_c1 (k_istore (by decide +kernel) (by decide)) <|
  mj_c1 (k_aloadn (k := 0) (by decide +kernel) rfl) <|
  mj_c1 (k_gR (idx := 64) h_M (by decide) rfl w_869 (by decide +kernel)) <|
  mj_c1 (k_iconst (by decide +kernel)) <|
  mj_c1 (k_ial (by decide +kernel)) <|
  mj_c1 (k_ifeq (off := 12) (by decide +kernel) (by decide)) <|
  mj_c1 (k_aloadn (k := 0) (by decide +kernel) rfl) <|
  mj_c1 (k_iconst (by decide +kernel)) <|
  mj_c1 (k_iconst (by decide +kernel)) <|
  mj_c1 (k_callV (idx := 114) (by decide +kernel) (fit_m_M_header_m_M_fail) rfl rfl w_960 w_962 v_51 (by decide) (by decide +kernel)) <|
  mj_c1 (k_goto (off := 90) (by decide +kernel) (by decide)) <|
  mj_c1 (k_iloadn (k := 2) (by decide +kernel) rfl) <|
  mj_c1 (k_sipush (by decide +kernel) (by decide)) <|
  mj_c1 (k_icgt (off := 44) (by decide +kernel) (by decide)) <|
  mj_c1 (k_iloadn (k := 3) (by decide +kernel) rfl) <|
  mj_c1 (k_bipush (by decide +kernel) (by decide)) <|
  mj_c1 (k_icgt (off := 38) (by decide +kernel) (by decide)) <|
  mj_c1 (k_iload (by decide +kernel)) <|
  mj_c1 (k_bipush (by decide +kernel) (by decide)) <|
  mj_c1 (k_icgt (off := 31) (by decide +kernel) (by decide)) <|
  mj_c1 (k_iload (by decide +kernel)) <|
  mj_c1 (k_sipush (by decide +kernel) (by decide)) <|
  mj_c1 (k_icgt (off := 23) (by decide +kernel) (by decide)) <|
  mj_c1 (k_iloadn (k := 2) (by decide +kernel) rfl) <|
  mj_c1 (k_iloadn (k := 3) (by decide +kernel) rfl) <|
  mj_c1 (k_iload (by decide +kernel)) <|
  mj_c1 (k_iadd (by decide +kernel)) <|
  mj_c1 (k_iclt (off := 15) (by decide +kernel) (by decide)) <|
  mj_c1 (k_iloadn (k := 1) (by decide +kernel) rfl) <|
  mj_c1 (k_ifeq (off := 20) (by decide +kernel) (by decide)) <|
  mj_c1 (k_iloadn (k := 2) (by decide +kernel) rfl) <|
  mj_c1 (k_iloadn (k := 3) (by decide +kernel) rfl) <|
  mj_c1 (k_iload (by decide +kernel)) <|
  mj_c1 (k_iadd (by decide +kernel)) <|
  mj_c1 (k_iceq (off := 12) (by decide +kernel) (by decide)) <|
  mj_c1 (k_aloadn (k := 0) (by decide +kernel) rfl) <|
  mj_c1 (k_iconst (by decide +kernel)) <|
  mj_c1 (k_iconst (by decide +kernel)) <|
  mj_c1 (k_callV (idx := 114) (by decide +kernel) (fit_m_M_header_m_M_fail) rfl rfl w_960 w_962 v_51 (by decide) (by decide +kernel)) <|
  mj_c1 (k_goto (off := 33) (by decide +kernel) (by decide)) <|
  mj_c1 (k_aloadn (k := 0) (by decide +kernel) rfl) <|
  mj_c1 (k_gR (idx := 26) h_M (by decide) rfl w_854 (by decide +kernel)) <|
  mj_c1 (k_iconst (by decide +kernel)) <|
  mj_c1 (k_iloadn (k := 2) (by decide +kernel) rfl) <|
  mj_c1 (k_ias (by decide +kernel)) <|
  mj_c1 (k_aloadn (k := 0) (by decide +kernel) rfl) <|
  mj_c1 (k_gR (idx := 16) h_M (by decide) rfl w_851 (by decide +kernel)) <|
  mj_c1 (k_iconst (by decide +kernel)) <|
  mj_c1 (k_iloadn (k := 3) (by decide +kernel) rfl) <|
  mj_c1 (k_ias (by decide +kernel)) <|
  mj_c1 (k_aloadn (k := 0) (by decide +kernel) rfl) <|
  mj_c1 (k_gR (idx := 23) h_M (by decide) rfl w_853 (by decide +kernel)) <|
  mj_c1 (k_iconst (by decide +kernel)) <|
  mj_c1 (k_iload (by decide +kernel)) <|
  mj_c1 (k_ias (by decide +kernel)) <|
  mj_c1 (k_aloadn (k := 0) (by decide +kernel) rfl) <|
  mj_c1 (k_gR (idx := 20) h_M (by decide) rfl w_852 (by decide +kernel)) <|
  mj_c1 (k_iconst (by decide +kernel)) <|
  mj_c1 (k_iload (by decide +kernel)) <|
  mj_c1 (k_ias (by decide +kernel)) <|
  mj_c1 (k_retv (by decide +kernel) rfl) mj_c0
def q_M_line : List (Nat × mj_Sem) := [(0, o_ic 0 1), (1, o_is 3 2), (2, o_il 3 3), (3, o_il 1 4), (4, o_icge 180 7), (7, o_al 0 8), (8, o_gI 6 21 11), (11, o_ifne 180 14), (14, o_al 0 15), (15, o_gR 6 24 18), (18, o_il 3 19), (19, o_al 0 20), (20, o_gI 6 20 23), (23, o_ias 24), (24, o_ic 0 25), (25, o_is 4 27), (27, o_al 0 28), (28, o_call m_M_here 1 0 0 31 (mj_rv 6)), (31, o_call m_M_isDigit 1 0 0 34 mj_rs), (34, o_ifne 47 37), (37, o_al 0 38), (38, o_il 2 39), (39, o_al 0 40), (40, o_gI 6 20 43), (43, o_call m_M_fail 3 0 0 46 (mj_rv 6)), (46, o_retv 0 0), (47, o_al 0 48), (48, o_call m_M_here 1 0 0 51 (mj_rv 6)), (51, o_ic 48 53), (53, o_icne 60 56), (56, o_ic 1 57), (57, o_goto 61), (60, o_ic 0 61), (61, o_is 5 63), (63, o_ic 0 64), (64, o_is 6 66), (66, o_al 0 67), (67, o_call m_M_here 1 0 0 70 (mj_rv 6)), (70, o_call m_M_isDigit 1 0 0 73 mj_rs), (73, o_ifeq 123 76), (76, o_il 6 78), (78, o_il 5 80), (80, o_ifeq 87 83), (83, o_ic 1 84), (84, o_goto 89), (87, o_ic 9 89), (89, o_icge 123 92), (92, o_ic 10 94), (94, o_il 4 96), (96, o_imul 97), (97, o_al 0 98), (98, o_call m_M_here 1 0 0 101 (mj_rv 6)), (101, o_iadd 102), (102, o_ic 48 104), (104, o_isub 105), (105, o_is 4 107), (107, o_inc 6 1 110), (110, o_al 0 111), (111, o_dup 112), (112, o_gI 6 20 115), (115, o_ic 1 116), (116, o_iadd 117), (117, o_pI 6 20 120), (120, o_goto 66), (123, o_al 0 124), (124, o_gR 6 23 127), (127, o_il 3 128), (128, o_il 4 130), (130, o_ias 131), (131, o_al 0 132), (132, o_call m_M_here 1 0 0 135 (mj_rv 6)), (135, o_il 3 136), (136, o_il 1 137), (137, o_ic 1 138), (138, o_isub 139), (139, o_icge 147 142), (142, o_ic 32 144), (144, o_goto 149), (147, o_ic 10 149), (149, o_iceq 164 152), (152, o_al 0 153), (153, o_il 2 154), (154, o_al 0 155), (155, o_gI 6 20 158), (158, o_call m_M_fail 3 0 0 161 (mj_rv 6)), (161, o_goto 174), (164, o_al 0 165), (165, o_dup 166), (166, o_gI 6 20 169), (169, o_ic 1 170), (170, o_iadd 171), (171, o_pI 6 20 174), (174, o_inc 3 1 177), (177, o_goto 2), (180, o_retv 0 0)]
set_option maxRecDepth 100000 in
theorem z_M_line : mj_Code (m_M_line) (q_M_line) :=
  mj_c1 (k_iconst (by decide +kernel)) <|
  mj_c1 (k_istoren (k := 3) (by decide +kernel) rfl (by decide)) <|
  mj_c1 (k_iloadn (k := 3) (by decide +kernel) rfl) <|
  mj_c1 (k_iloadn (k := 1) (by decide +kernel) rfl) <|
  mj_c1 (k_icge (off := 176) (by decide +kernel) (by decide)) <|
  mj_c1 (k_aloadn (k := 0) (by decide +kernel) rfl) <|
  mj_c1 (k_gI (idx := 97) h_M (by decide) rfl w_867 (by decide +kernel)) <|
  mj_c1 (k_ifne (off := 169) (by decide +kernel) (by decide)) <|
  mj_c1 (k_aloadn (k := 0) (by decide +kernel) rfl) <|
  mj_c1 (k_gR (idx := 67) h_M (by decide) rfl w_870 (by decide +kernel)) <|
  mj_c1 (k_iloadn (k := 3) (by decide +kernel) rfl) <|
  mj_c1 (k_aloadn (k := 0) (by decide +kernel) rfl) <|
  mj_c1 (k_gI (idx := 103) h_M (by decide) rfl w_866 (by decide +kernel)) <|
  mj_c1 (k_ias (by decide +kernel)) <|
  mj_c1 (k_iconst (by decide +kernel)) <|
  mj_c1 (k_istore (by decide +kernel) (by decide)) <|
  mj_c1 (k_aloadn (k := 0) (by decide +kernel) rfl) <|
  mj_c1 (k_callV (idx := 106) (by decide +kernel) (fit_m_M_line_m_M_here) rfl rfl w_976 w_978 v_55 (by decide) (by decide +kernel)) <|
  mj_c1 (k_callS (idx := 110) (by decide +kernel) (fit_m_M_line_m_M_isDigit) rfl w_980 w_981 (by decide) (by decide +kernel)) <|
  mj_c1 (k_ifne (off := 13) (by decide +kernel) (by decide)) <|
  mj_c1 (k_aloadn (k := 0) (by decide +kernel) rfl) <|
  mj_c1 (k_iloadn (k := 2) (by decide +kernel) rfl) <|
  mj_c1 (k_aloadn (k := 0) (by decide +kernel) rfl) <|
  mj_c1 (k_gI (idx := 103) h_M (by decide) rfl w_866 (by decide +kernel)) <|
  mj_c1 (k_callV (idx := 114) (by decide +kernel) (fit_m_M_line_m_M_fail) rfl rfl w_960 w_962 v_51 (by decide) (by decide +kernel)) <|
  mj_c1 (k_retv (by decide +kernel) rfl) <|
  mj_c1 (k_aloadn (k := 0) (by decide +kernel) rfl) <|
  mj_c1 (k_callV (idx := 106) (by decide +kernel) (fit_m_M_line_m_M_here) rfl rfl w_976 w_978 v_55 (by decide) (by decide +kernel)) <|
  mj_c1 (k_bipush (by decide +kernel) (by decide)) <|
  mj_c1 (k_icne (off := 7) (by decide +kernel) (by decide)) <|
  mj_c1 (k_iconst (by decide +kernel)) <|
  mj_c1 (k_goto (off := 4) (by decide +kernel) (by decide)) <|
  mj_c1 (k_iconst (by decide +kernel)) <|
  mj_c1 (k_istore (by decide +kernel) (by decide)) <|
  mj_c1 (k_iconst (by decide +kernel)) <|
  mj_c1 (k_istore (by decide +kernel) (by decide)) <|
  mj_c1 (k_aloadn (k := 0) (by decide +kernel) rfl) <|
  mj_c1 (k_callV (idx := 106) (by decide +kernel) (fit_m_M_line_m_M_here) rfl rfl w_976 w_978 v_55 (by decide) (by decide +kernel)) <|
  mj_c1 (k_callS (idx := 110) (by decide +kernel) (fit_m_M_line_m_M_isDigit) rfl w_980 w_981 (by decide) (by decide +kernel)) <|
  mj_c1 (k_ifeq (off := 50) (by decide +kernel) (by decide)) <|
  mj_c1 (k_iload (by decide +kernel)) <|
  mj_c1 (k_iload (by decide +kernel)) <|
  mj_c1 (k_ifeq (off := 7) (by decide +kernel) (by decide)) <|
  mj_c1 (k_iconst (by decide +kernel)) <|
  mj_c1 (k_goto (off := 5) (by decide +kernel) (by decide)) <|
  mj_c1 (k_bipush (by decide +kernel) (by decide)) <|
  mj_c1 (k_icge (off := 34) (by decide +kernel) (by decide)) <|
  mj_c1 (k_bipush (by decide +kernel) (by decide)) <|
  mj_c1 (k_iload (by decide +kernel)) <|
  mj_c1 (k_imul (by decide +kernel)) <|
  mj_c1 (k_aloadn (k := 0) (by decide +kernel) rfl) <|
  mj_c1 (k_callV (idx := 106) (by decide +kernel) (fit_m_M_line_m_M_here) rfl rfl w_976 w_978 v_55 (by decide) (by decide +kernel)) <|
  mj_c1 (k_iadd (by decide +kernel)) <|
  mj_c1 (k_bipush (by decide +kernel) (by decide)) <|
  mj_c1 (k_isub (by decide +kernel)) <|
  mj_c1 (k_istore (by decide +kernel) (by decide)) <|
  mj_c1 (k_iinc (by decide +kernel) (by decide)) <|
  mj_c1 (k_aloadn (k := 0) (by decide +kernel) rfl) <|
  mj_c1 (k_dup (by decide +kernel)) <|
  mj_c1 (k_gI (idx := 103) h_M (by decide) rfl w_866 (by decide +kernel)) <|
  mj_c1 (k_iconst (by decide +kernel)) <|
  mj_c1 (k_iadd (by decide +kernel)) <|
  mj_c1 (k_pI (idx := 103) h_M (by decide) rfl rfl w_866 rfl (by decide +kernel)) <|
  mj_c1 (k_goto (off := -54) (by decide +kernel) (by decide)) <|
  mj_c1 (k_aloadn (k := 0) (by decide +kernel) rfl) <|
  mj_c1 (k_gR (idx := 64) h_M (by decide) rfl w_869 (by decide +kernel)) <|
  mj_c1 (k_iloadn (k := 3) (by decide +kernel) rfl) <|
  mj_c1 (k_iload (by decide +kernel)) <|
  mj_c1 (k_ias (by decide +kernel)) <|
  mj_c1 (k_aloadn (k := 0) (by decide +kernel) rfl) <|
  mj_c1 (k_callV (idx := 106) (by decide +kernel) (fit_m_M_line_m_M_here) rfl rfl w_976 w_978 v_55 (by decide) (by decide +kernel)) <|
  mj_c1 (k_iloadn (k := 3) (by decide +kernel) rfl) <|
  mj_c1 (k_iloadn (k := 1) (by decide +kernel) rfl) <|
  mj_c1 (k_iconst (by decide +kernel)) <|
  mj_c1 (k_isub (by decide +kernel)) <|
  mj_c1 (k_icge (off := 8) (by decide +kernel) (by decide)) <|
  mj_c1 (k_bipush (by decide +kernel) (by decide)) <|
  mj_c1 (k_goto (off := 5) (by decide +kernel) (by decide)) <|
  mj_c1 (k_bipush (by decide +kernel) (by decide)) <|
  mj_c1 (k_iceq (off := 15) (by decide +kernel) (by decide)) <|
  mj_c1 (k_aloadn (k := 0) (by decide +kernel) rfl) <|
  mj_c1 (k_iloadn (k := 2) (by decide +kernel) rfl) <|
  mj_c1 (k_aloadn (k := 0) (by decide +kernel) rfl) <|
  mj_c1 (k_gI (idx := 103) h_M (by decide) rfl w_866 (by decide +kernel)) <|
  mj_c1 (k_callV (idx := 114) (by decide +kernel) (fit_m_M_line_m_M_fail) rfl rfl w_960 w_962 v_51 (by decide) (by decide +kernel)) <|
  mj_c1 (k_goto (off := 13) (by decide +kernel) (by decide)) <|
  mj_c1 (k_aloadn (k := 0) (by decide +kernel) rfl) <|
  mj_c1 (k_dup (by decide +kernel)) <|
  mj_c1 (k_gI (idx := 103) h_M (by decide) rfl w_866 (by decide +kernel)) <|
  mj_c1 (k_iconst (by decide +kernel)) <|
  mj_c1 (k_iadd (by decide +kernel)) <|
  mj_c1 (k_pI (idx := 103) h_M (by decide) rfl rfl w_866 rfl (by decide +kernel)) <|
  mj_c1 (k_iinc (by decide +kernel) (by decide)) <|
  mj_c1 (k_goto (off := -175) (by decide +kernel) (by decide)) <|
  mj_c1 (k_retv (by decide +kernel) rfl) mj_c0
def q_M_here : List (Nat × mj_Sem) := [(0, o_al 0 1), (1, o_gI 6 20 4), (4, o_al 0 5), (5, o_gI 6 2 8), (8, o_icge 27 11), (11, o_al 0 12), (12, o_gR 6 1 15), (15, o_al 0 16), (16, o_gI 6 20 19), (19, o_bal 20), (20, o_ic 255 23), (23, o_iand 24), (24, o_goto 28), (27, o_ic (-1) 28), (28, o_iret 0 0)]
set_option maxRecDepth 100000 in
theorem z_M_here : mj_Code (m_M_here) (q_M_here) :=
  mj_c1 (k_aloadn (k := 0) (by decide +kernel) rfl) <|
  mj_c1 (k_gI (idx := 103) h_M (by decide) rfl w_866 (by decide +kernel)) <|
  mj_c1 (k_aloadn (k := 0) (by decide +kernel) rfl) <|
  mj_c1 (k_gI (idx := 90) h_M (by decide) rfl w_848 (by decide +kernel)) <|
  mj_c1 (k_icge (off := 19) (by decide +kernel) (by decide)) <|
  mj_c1 (k_aloadn (k := 0) (by decide +kernel) rfl) <|
  mj_c1 (k_gR (idx := 7) h_M (by decide) rfl w_847 (by decide +kernel)) <|
  mj_c1 (k_aloadn (k := 0) (by decide +kernel) rfl) <|
  mj_c1 (k_gI (idx := 103) h_M (by decide) rfl w_866 (by decide +kernel)) <|
  mj_c1 (k_bal (by decide +kernel)) <|
  mj_c1 (k_sipush (by decide +kernel) (by decide)) <|
  mj_c1 (k_iand (by decide +kernel)) <|
  mj_c1 (k_goto (off := 4) (by decide +kernel) (by decide)) <|
  mj_c1 (k_iconst (by decide +kernel)) <|
  mj_c1 (k_iret (by decide +kernel) rfl) mj_c0
def q_M_isDigit : List (Nat × mj_Sem) := [(0, o_il 0 1), (1, o_ic 48 3), (3, o_iclt 16 6), (6, o_il 0 7), (7, o_ic 57 9), (9, o_icgt 16 12), (12, o_ic 1 13), (13, o_goto 17), (16, o_ic 0 17), (17, o_zret 0 0)]
set_option maxRecDepth 100000 in
theorem z_M_isDigit : mj_Code (m_M_isDigit) (q_M_isDigit) :=
  mj_c1 (k_iloadn (k := 0) (by decide +kernel) rfl) <|
  mj_c1 (k_bipush (by decide +kernel) (by decide)) <|
  mj_c1 (k_iclt (off := 13) (by decide +kernel) (by decide)) <|
  mj_c1 (k_iloadn (k := 0) (by decide +kernel) rfl) <|
  mj_c1 (k_bipush (by decide +kernel) (by decide)) <|
  mj_c1 (k_icgt (off := 7) (by decide +kernel) (by decide)) <|
  mj_c1 (k_iconst (by decide +kernel)) <|
  mj_c1 (k_goto (off := 4) (by decide +kernel) (by decide)) <|
  mj_c1 (k_iconst (by decide +kernel)) <|
  mj_c1 (k_zret (by decide +kernel) rfl) mj_c0
def q_M_readInputs : List (Nat × mj_Sem) := [(0, o_ic 0 1), (1, o_is 2 2), (2, o_il 2 3), (3, o_al 0 4), (4, o_gR 6 5 7), (7, o_ic 2 8), (8, o_ial 9), (9, o_icge 94 12), (12, o_al 0 13), (13, o_gI 6 21 16), (16, o_ifne 94 19), (19, o_il 1 20), (20, o_ifne 29 23), (23, o_al 0 24), (24, o_ic 1 25), (25, o_ic 5 26), (26, o_call m_M_line 3 0 0 29 (mj_rv 6)), (29, o_il 1 30), (30, o_ifeq 41 33), (33, o_ic 2 34), (34, o_il 2 35), (35, o_imul 36), (36, o_ic 2 37), (37, o_iadd 38), (38, o_goto 47), (41, o_al 0 42), (42, o_gR 6 23 45), (45, o_ic 0 46), (46, o_ial 47), (47, o_is 3 48), (48, o_al 0 49), (49, o_gI 6 21 52), (52, o_ifne 78 55), (55, o_al 0 56), (56, o_il 3 57), (57, o_ic 1 58), (58, o_il 2 59), (59, o_iadd 60), (60, o_call m_M_stands 3 0 0 63 (mj_rv 6)), (63, o_ifne 78 66), (66, o_al 0 67), (67, o_ic 6 69), (69, o_al 0 70), (70, o_gR 6 24 73), (73, o_ic 0 74), (74, o_ial 75), (75, o_call m_M_fail 3 0 0 78 (mj_rv 6)), (78, o_al 0 79), (79, o_gR 6 11 82), (82, o_ic 28 84), (84, o_il 2 85), (85, o_iadd 86), (86, o_il 3 87), (87, o_ias 88), (88, o_inc 2 1 91), (91, o_goto 2), (94, o_retv 0 0)]
set_option maxRecDepth 100000 in
theorem z_M_readInputs : mj_Code (m_M_readInputs) (q_M_readInputs) :=
  mj_c1 (k_iconst (by decide +kernel)) <|
  mj_c1 (k_istoren (k := 2) (by decide +kernel) rfl (by decide)) <|
  mj_c1 (k_iloadn (k := 2) (by decide +kernel) rfl) <|
  mj_c1 (k_aloadn (k := 0) (by decide +kernel) rfl) <|
  mj_c1 (k_gR (idx := 16) h_M (by decide) rfl w_851 (by decide +kernel)) <|
  mj_c1 (k_iconst (by decide +kernel)) <|
  mj_c1 (k_ial (by decide +kernel)) <|
  mj_c1 (k_icge (off := 85) (by decide +kernel) (by decide)) <|
  mj_c1 (k_aloadn (k := 0) (by decide +kernel) rfl) <|
  mj_c1 (k_gI (idx := 97) h_M (by decide) rfl w_867 (by decide +kernel)) <|
  mj_c1 (k_ifne (off := 78) (by decide +kernel) (by decide)) <|
  mj_c1 (k_iloadn (k := 1) (by decide +kernel) rfl) <|
  mj_c1 (k_ifne (off := 9) (by decide +kernel) (by decide)) <|
  mj_c1 (k_aloadn (k := 0) (by decide +kernel) rfl) <|
  mj_c1 (k_iconst (by decide +kernel)) <|
  mj_c1 (k_iconst (by decide +kernel)) <|
  mj_c1 (k_callV (idx := 118) (by decide +kernel) (fit_m_M_readInputs_m_M_line) rfl rfl w_972 w_974 v_54 (by decide) (by decide +kernel)) <|
  mj_c1 (k_iloadn (k := 1) (by decide +kernel) rfl) <|
  mj_c1 (k_ifeq (off := 11) (by decide +kernel) (by decide)) <|
  mj_c1 (k_iconst (by decide +kernel)) <|
  mj_c1 (k_iloadn (k := 2) (by decide +kernel) rfl) <|
  mj_c1 (k_imul (by decide +kernel)) <|
  mj_c1 (k_iconst (by decide +kernel)) <|
  mj_c1 (k_iadd (by decide +kernel)) <|
  mj_c1 (k_goto (off := 9) (by decide +kernel) (by decide)) <|
  mj_c1 (k_aloadn (k := 0) (by decide +kernel) rfl) <|
  mj_c1 (k_gR (idx := 64) h_M (by decide) rfl w_869 (by decide +kernel)) <|
  mj_c1 (k_iconst (by decide +kernel)) <|
  mj_c1 (k_ial (by decide +kernel)) <|
  mj_c1 (k_istoren (k := 3) (by decide +kernel) rfl (by decide)) <|
  mj_c1 (k_aloadn (k := 0) (by decide +kernel) rfl) <|
  mj_c1 (k_gI (idx := 97) h_M (by decide) rfl w_867 (by decide +kernel)) <|
  mj_c1 (k_ifne (off := 26) (by decide +kernel) (by decide)) <|
  mj_c1 (k_aloadn (k := 0) (by decide +kernel) rfl) <|
  mj_c1 (k_iloadn (k := 3) (by decide +kernel) rfl) <|
  mj_c1 (k_iconst (by decide +kernel)) <|
  mj_c1 (k_iloadn (k := 2) (by decide +kernel) rfl) <|
  mj_c1 (k_iadd (by decide +kernel)) <|
  mj_c1 (k_callV (idx := 121) (by decide +kernel) (fit_m_M_readInputs_m_M_stands) rfl rfl w_987 w_989 v_57 (by decide) (by decide +kernel)) <|
  mj_c1 (k_ifne (off := 15) (by decide +kernel) (by decide)) <|
  mj_c1 (k_aloadn (k := 0) (by decide +kernel) rfl) <|
  mj_c1 (k_bipush (by decide +kernel) (by decide)) <|
  mj_c1 (k_aloadn (k := 0) (by decide +kernel) rfl) <|
  mj_c1 (k_gR (idx := 67) h_M (by decide) rfl w_870 (by decide +kernel)) <|
  mj_c1 (k_iconst (by decide +kernel)) <|
  mj_c1 (k_ial (by decide +kernel)) <|
  mj_c1 (k_callV (idx := 114) (by decide +kernel) (fit_m_M_readInputs_m_M_fail) rfl rfl w_960 w_962 v_51 (by decide) (by decide +kernel)) <|
  mj_c1 (k_aloadn (k := 0) (by decide +kernel) rfl) <|
  mj_c1 (k_gR (idx := 35) h_M (by decide) rfl w_857 (by decide +kernel)) <|
  mj_c1 (k_bipush (by decide +kernel) (by decide)) <|
  mj_c1 (k_iloadn (k := 2) (by decide +kernel) rfl) <|
  mj_c1 (k_iadd (by decide +kernel)) <|
  mj_c1 (k_iloadn (k := 3) (by decide +kernel) rfl) <|
  mj_c1 (k_ias (by decide +kernel)) <|
  mj_c1 (k_iinc (by decide +kernel) (by decide)) <|
  mj_c1 (k_goto (off := -89) (by decide +kernel) (by decide)) <|
  mj_c1 (k_retv (by decide +kernel) rfl) mj_c0
def q_M_stands : List (Nat × mj_Sem) := [(0, o_il 1 1), (1, o_ic 2 2), (2, o_iclt 41 5), (5, o_il 1 6), (6, o_ic 2 7), (7, o_irem 8), (8, o_ic 1 9), (9, o_iceq 41 12), (12, o_il 1 13), (13, o_ic 2 14), (14, o_al 0 15), (15, o_gR 6 8 18), (18, o_ic 2 19), (19, o_ial 20), (20, o_imul 21), (21, o_ic 1 22), (22, o_iadd 23), (23, o_icgt 41 26), (26, o_al 0 27), (27, o_gR 6 16 30), (30, o_ic 2002 33), (33, o_il 1 34), (34, o_ic 2 35), (35, o_idiv 36), (36, o_iadd 37), (37, o_ial 38), (38, o_iflt 43 41), (41, o_ic 0 42), (42, o_zret 0 0), (43, o_al 0 44), (44, o_gR 6 16 47), (47, o_ic 2002 50), (50, o_il 1 51), (51, o_ic 2 52), (52, o_idiv 53), (53, o_iadd 54), (54, o_il 2 55), (55, o_ias 56), (56, o_ic 1 57), (57, o_zret 0 0)]
set_option maxRecDepth 100000 in
theorem z_M_stands : mj_Code (m_M_stands) (q_M_stands) :=
  mj_c1 (k_iloadn (k := 1) (by decide +kernel) rfl) <|
  mj_c1 (k_iconst (by decide +kernel)) <|
  mj_c1 (k_iclt (off := 39) (by decide +kernel) (by decide)) <|
  mj_c1 (k_iloadn (k := 1) (by decide +kernel) rfl) <|
  mj_c1 (k_iconst (by decide +kernel)) <|
  mj_c1 (k_irem (by decide +kernel)) <|
  mj_c1 (k_iconst (by decide +kernel)) <|
  mj_c1 (k_iceq (off := 32) (by decide +kernel) (by decide)) <|
  mj_c1 (k_iloadn (k := 1) (by decide +kernel) rfl) <|
  mj_c1 (k_iconst (by decide +kernel)) <|
  mj_c1 (k_aloadn (k := 0) (by decide +kernel) rfl) <|
  mj_c1 (k_gR (idx := 26) h_M (by decide) rfl w_854 (by decide +kernel)) <|
  mj_c1 (k_iconst (by decide +kernel)) <|
  mj_c1 (k_ial (by decide +kernel)) <|
  mj_c1 (k_imul (by decide +kernel)) <|
  mj_c1 (k_iconst (by decide +kernel)) <|
  mj_c1 (k_iadd (by decide +kernel)) <|
  mj_c1 (k_icgt (off := 18) (by decide +kernel) (by decide)) <|
  mj_c1 (k_aloadn (k := 0) (by decide +kernel) rfl) <|
  mj_c1 (k_gR (idx := 50) h_M (by decide) rfl w_862 (by decide +kernel)) <|
  mj_c1 (k_sipush (by decide +kernel) (by decide)) <|
  mj_c1 (k_iloadn (k := 1) (by decide +kernel) rfl) <|
  mj_c1 (k_iconst (by decide +kernel)) <|
  mj_c1 (k_idiv (by decide +kernel)) <|
  mj_c1 (k_iadd (by decide +kernel)) <|
  mj_c1 (k_ial (by decide +kernel)) <|
  mj_c1 (k_iflt (off := 5) (by decide +kernel) (by decide)) <|
  mj_c1 (k_iconst (by decide +kernel)) <|
  mj_c1 (k_zret (by decide +kernel) rfl) <|
  mj_c1 (k_aloadn (k := 0) (by decide +kernel) rfl) <|
  mj_c1 (k_gR (idx := 50) h_M (by decide) rfl w_862 (by decide +kernel)) <|
  mj_c1 (k_sipush (by decide +kernel) (by decide)) <|
  mj_c1 (k_iloadn (k := 1) (by decide +kernel) rfl) <|
  mj_c1 (k_iconst (by decide +kernel)) <|
  mj_c1 (k_idiv (by decide +kernel)) <|
  mj_c1 (k_iadd (by decide +kernel)) <|
  mj_c1 (k_iloadn (k := 2) (by decide +kernel) rfl) <|
  mj_c1 (k_ias (by decide +kernel)) <|
  mj_c1 (k_iconst (by decide +kernel)) <|
  mj_c1 (k_zret (by decide +kernel) rfl) mj_c0
def q_M_readOutputs : List (Nat × mj_Sem) := [(0, o_ic 0 1), (1, o_is 1 2), (2, o_il 1 3), (3, o_al 0 4), (4, o_gR 6 7 7), (7, o_ic 2 8), (8, o_ial 9), (9, o_icge 84 12), (12, o_al 0 13), (13, o_gI 6 21 16), (16, o_ifne 84 19), (19, o_al 0 20), (20, o_ic 1 21), (21, o_ic 5 22), (22, o_call m_M_line 3 0 0 25 (mj_rv 6)), (25, o_al 0 26), (26, o_gI 6 21 29), (29, o_ifne 63 32), (32, o_al 0 33), (33, o_gR 6 23 36), (36, o_ic 0 37), (37, o_ial 38), (38, o_ic 2 39), (39, o_al 0 40), (40, o_gR 6 8 43), (43, o_ic 2 44), (44, o_ial 45), (45, o_imul 46), (46, o_ic 1 47), (47, o_iadd 48), (48, o_icle 63 51), (51, o_al 0 52), (52, o_ic 6 54), (54, o_al 0 55), (55, o_gR 6 24 58), (58, o_ic 0 59), (59, o_ial 60), (60, o_call m_M_fail 3 0 0 63 (mj_rv 6)), (63, o_al 0 64), (64, o_gR 6 15 67), (67, o_ic 32 69), (69, o_il 1 70), (70, o_iadd 71), (71, o_al 0 72), (72, o_gR 6 23 75), (75, o_ic 0 76), (76, o_ial 77), (77, o_ias 78), (78, o_inc 1 1 81), (81, o_goto 2), (84, o_retv 0 0)]
set_option maxRecDepth 100000 in
theorem z_M_readOutputs : mj_Code (m_M_readOutputs) (q_M_readOutputs) :=
  mj_c1 (k_iconst (by decide +kernel)) <|
  mj_c1 (k_istoren (k := 1) (by decide +kernel) rfl (by decide)) <|
  mj_c1 (k_iloadn (k := 1) (by decide +kernel) rfl) <|
  mj_c1 (k_aloadn (k := 0) (by decide +kernel) rfl) <|
  mj_c1 (k_gR (idx := 23) h_M (by decide) rfl w_853 (by decide +kernel)) <|
  mj_c1 (k_iconst (by decide +kernel)) <|
  mj_c1 (k_ial (by decide +kernel)) <|
  mj_c1 (k_icge (off := 75) (by decide +kernel) (by decide)) <|
  mj_c1 (k_aloadn (k := 0) (by decide +kernel) rfl) <|
  mj_c1 (k_gI (idx := 97) h_M (by decide) rfl w_867 (by decide +kernel)) <|
  mj_c1 (k_ifne (off := 68) (by decide +kernel) (by decide)) <|
  mj_c1 (k_aloadn (k := 0) (by decide +kernel) rfl) <|
  mj_c1 (k_iconst (by decide +kernel)) <|
  mj_c1 (k_iconst (by decide +kernel)) <|
  mj_c1 (k_callV (idx := 118) (by decide +kernel) (fit_m_M_readOutputs_m_M_line) rfl rfl w_972 w_974 v_54 (by decide) (by decide +kernel)) <|
  mj_c1 (k_aloadn (k := 0) (by decide +kernel) rfl) <|
  mj_c1 (k_gI (idx := 97) h_M (by decide) rfl w_867 (by decide +kernel)) <|
  mj_c1 (k_ifne (off := 34) (by decide +kernel) (by decide)) <|
  mj_c1 (k_aloadn (k := 0) (by decide +kernel) rfl) <|
  mj_c1 (k_gR (idx := 64) h_M (by decide) rfl w_869 (by decide +kernel)) <|
  mj_c1 (k_iconst (by decide +kernel)) <|
  mj_c1 (k_ial (by decide +kernel)) <|
  mj_c1 (k_iconst (by decide +kernel)) <|
  mj_c1 (k_aloadn (k := 0) (by decide +kernel) rfl) <|
  mj_c1 (k_gR (idx := 26) h_M (by decide) rfl w_854 (by decide +kernel)) <|
  mj_c1 (k_iconst (by decide +kernel)) <|
  mj_c1 (k_ial (by decide +kernel)) <|
  mj_c1 (k_imul (by decide +kernel)) <|
  mj_c1 (k_iconst (by decide +kernel)) <|
  mj_c1 (k_iadd (by decide +kernel)) <|
  mj_c1 (k_icle (off := 15) (by decide +kernel) (by decide)) <|
  mj_c1 (k_aloadn (k := 0) (by decide +kernel) rfl) <|
  mj_c1 (k_bipush (by decide +kernel) (by decide)) <|
  mj_c1 (k_aloadn (k := 0) (by decide +kernel) rfl) <|
  mj_c1 (k_gR (idx := 67) h_M (by decide) rfl w_870 (by decide +kernel)) <|
  mj_c1 (k_iconst (by decide +kernel)) <|
  mj_c1 (k_ial (by decide +kernel)) <|
  mj_c1 (k_callV (idx := 114) (by decide +kernel) (fit_m_M_readOutputs_m_M_fail) rfl rfl w_960 w_962 v_51 (by decide) (by decide +kernel)) <|
  mj_c1 (k_aloadn (k := 0) (by decide +kernel) rfl) <|
  mj_c1 (k_gR (idx := 47) h_M (by decide) rfl w_861 (by decide +kernel)) <|
  mj_c1 (k_bipush (by decide +kernel) (by decide)) <|
  mj_c1 (k_iloadn (k := 1) (by decide +kernel) rfl) <|
  mj_c1 (k_iadd (by decide +kernel)) <|
  mj_c1 (k_aloadn (k := 0) (by decide +kernel) rfl) <|
  mj_c1 (k_gR (idx := 64) h_M (by decide) rfl w_869 (by decide +kernel)) <|
  mj_c1 (k_iconst (by decide +kernel)) <|
  mj_c1 (k_ial (by decide +kernel)) <|
  mj_c1 (k_ias (by decide +kernel)) <|
  mj_c1 (k_iinc (by decide +kernel) (by decide)) <|
  mj_c1 (k_goto (off := -79) (by decide +kernel) (by decide)) <|
  mj_c1 (k_retv (by decide +kernel) rfl) mj_c0
def q_M_readSteps : List (Nat × mj_Sem) := [(0, o_ic 0 1), (1, o_is 1 2), (2, o_il 1 3), (3, o_al 0 4), (4, o_gR 6 6 7), (7, o_ic 2 8), (8, o_ial 9), (9, o_icge 175 12), (12, o_al 0 13), (13, o_gI 6 21 16), (16, o_ifne 175 19), (19, o_ic 2 20), (20, o_al 0 21), (21, o_gR 6 5 24), (24, o_ic 2 25), (25, o_ial 26), (26, o_ic 1 27), (27, o_iadd 28), (28, o_il 1 29), (29, o_iadd 30), (30, o_imul 31), (31, o_is 2 32), (32, o_al 0 33), (33, o_il 2 34), (34, o_ic 15 36), (36, o_il 1 37), (37, o_iadd 38), (38, o_call m_M_stands 3 0 0 41 (mj_rv 6)), (41, o_is 3 42), (42, o_al 0 43), (43, o_gI 6 20 46), (46, o_is 4 48), (48, o_al 0 49), (49, o_call m_M_step 1 0 0 52 (mj_rv 6)), (52, o_is 5 54), (54, o_al 0 55), (55, o_gI 6 21 58), (58, o_ifne 80 61), (61, o_il 5 63), (63, o_ifeq 72 66), (66, o_il 5 68), (68, o_il 2 69), (69, o_icle 80 72), (72, o_al 0 73), (73, o_ic 6 75), (75, o_il 4 77), (77, o_call m_M_fail 3 0 0 80 (mj_rv 6)), (80, o_al 0 81), (81, o_gI 6 20 84), (84, o_is 4 86), (86, o_al 0 87), (87, o_gI 6 21 90), (90, o_ifne 100 93), (93, o_al 0 94), (94, o_call m_M_step 1 0 0 97 (mj_rv 6)), (97, o_goto 101), (100, o_ic 0 101), (101, o_is 6 103), (103, o_al 0 104), (104, o_gI 6 21 107), (107, o_ifne 127 110), (110, o_il 6 112), (112, o_il 2 113), (113, o_il 5 115), (115, o_isub 116), (116, o_icle 127 119), (119, o_al 0 120), (120, o_ic 6 122), (122, o_il 4 124), (124, o_call m_M_fail 3 0 0 127 (mj_rv 6)), (127, o_al 0 128), (128, o_gR 6 12 131), (131, o_ic 600 134), (134, o_il 1 135), (135, o_iadd 136), (136, o_il 2 137), (137, o_ias 138), (138, o_al 0 139), (139, o_gR 6 13 142), (142, o_ic 600 145), (145, o_il 1 146), (146, o_iadd 147), (147, o_il 2 148), (148, o_il 5 150), (150, o_isub 151), (151, o_ias 152), (152, o_al 0 153), (153, o_gR 6 14 156), (156, o_ic 600 159), (159, o_il 1 160), (160, o_iadd 161), (161, o_il 2 162), (162, o_il 5 164), (164, o_isub 165), (165, o_il 6 167), (167, o_isub 168), (168, o_ias 169), (169, o_inc 1 1 172), (172, o_goto 2), (175, o_retv 0 0)]
set_option maxRecDepth 100000 in
theorem z_M_readSteps : mj_Code (m_M_readSteps) (q_M_readSteps) :=
  mj_c1 (k_iconst (by decide +kernel)) <|
  mj_c1 (k_istoren (k := 1) (by decide +kernel) rfl (by decide)) <|
  mj_c1 (k_iloadn (k := 1) (by decide +kernel) rfl) <|
  mj_c1 (k_aloadn (k := 0) (by decide +kernel) rfl) <|
  mj_c1 (k_gR (idx := 20) h_M (by decide) rfl w_852 (by decide +kernel)) <|
  mj_c1 (k_iconst (by decide +kernel)) <|
  mj_c1 (k_ial (by decide +kernel)) <|
  mj_c1 (k_icge (off := 166) (by decide +kernel) (by decide)) <|
  mj_c1 (k_aloadn (k := 0) (by decide +kernel) rfl) <|
  mj_c1 (k_gI (idx := 97) h_M (by decide) rfl w_867 (by decide +kernel)) <|
  mj_c1 (k_ifne (off := 159) (by decide +kernel) (by decide)) <|
  mj_c1 (k_iconst (by decide +kernel)) <|
  mj_c1 (k_aloadn (k := 0) (by decide +kernel) rfl) <|
  mj_c1 (k_gR (idx := 16) h_M (by decide) rfl w_851 (by decide +kernel)) <|
  mj_c1 (k_iconst (by decide +kernel)) <|
  mj_c1 (k_ial (by decide +kernel)) <|
  mj_c1 (k_iconst (by decide +kernel)) <|
  mj_c1 (k_iadd (by decide +kernel)) <|
  mj_c1 (k_iloadn (k := 1) (by decide +kernel) rfl) <|
  mj_c1 (k_iadd (by decide +kernel)) <|
  mj_c1 (k_imul (by decide +kernel)) <|
  mj_c1 (k_istoren (k := 2) (by decide +kernel) rfl (by decide)) <|
  mj_c1 (k_aloadn (k := 0) (by decide +kernel) rfl) <|
  mj_c1 (k_iloadn (k := 2) (by decide +kernel) rfl) <|
  mj_c1 (k_bipush (by decide +kernel) (by decide)) <|
  mj_c1 (k_iloadn (k := 1) (by decide +kernel) rfl) <|
  mj_c1 (k_iadd (by decide +kernel)) <|
  mj_c1 (k_callV (idx := 121) (by decide +kernel) (fit_m_M_readSteps_m_M_stands) rfl rfl w_987 w_989 v_57 (by decide) (by decide +kernel)) <|
  mj_c1 (k_istoren (k := 3) (by decide +kernel) rfl (by decide)) <|
  mj_c1 (k_aloadn (k := 0) (by decide +kernel) rfl) <|
  mj_c1 (k_gI (idx := 103) h_M (by decide) rfl w_866 (by decide +kernel)) <|
  mj_c1 (k_istore (by decide +kernel) (by decide)) <|
  mj_c1 (k_aloadn (k := 0) (by decide +kernel) rfl) <|
  mj_c1 (k_callV (idx := 125) (by decide +kernel) (fit_m_M_readSteps_m_M_step) rfl rfl w_999 w_1001 v_60 (by decide) (by decide +kernel)) <|
  mj_c1 (k_istore (by decide +kernel) (by decide)) <|
  mj_c1 (k_aloadn (k := 0) (by decide +kernel) rfl) <|
  mj_c1 (k_gI (idx := 97) h_M (by decide) rfl w_867 (by decide +kernel)) <|
  mj_c1 (k_ifne (off := 22) (by decide +kernel) (by decide)) <|
  mj_c1 (k_iload (by decide +kernel)) <|
  mj_c1 (k_ifeq (off := 9) (by decide +kernel) (by decide)) <|
  mj_c1 (k_iload (by decide +kernel)) <|
  mj_c1 (k_iloadn (k := 2) (by decide +kernel) rfl) <|
  mj_c1 (k_icle (off := 11) (by decide +kernel) (by decide)) <|
  mj_c1 (k_aloadn (k := 0) (by decide +kernel) rfl) <|
  mj_c1 (k_bipush (by decide +kernel) (by decide)) <|
  mj_c1 (k_iload (by decide +kernel)) <|
  mj_c1 (k_callV (idx := 114) (by decide +kernel) (fit_m_M_readSteps_m_M_fail) rfl rfl w_960 w_962 v_51 (by decide) (by decide +kernel)) <|
  mj_c1 (k_aloadn (k := 0) (by decide +kernel) rfl) <|
  mj_c1 (k_gI (idx := 103) h_M (by decide) rfl w_866 (by decide +kernel)) <|
  mj_c1 (k_istore (by decide +kernel) (by decide)) <|
  mj_c1 (k_aloadn (k := 0) (by decide +kernel) rfl) <|
  mj_c1 (k_gI (idx := 97) h_M (by decide) rfl w_867 (by decide +kernel)) <|
  mj_c1 (k_ifne (off := 10) (by decide +kernel) (by decide)) <|
  mj_c1 (k_aloadn (k := 0) (by decide +kernel) rfl) <|
  mj_c1 (k_callV (idx := 125) (by decide +kernel) (fit_m_M_readSteps_m_M_step) rfl rfl w_999 w_1001 v_60 (by decide) (by decide +kernel)) <|
  mj_c1 (k_goto (off := 4) (by decide +kernel) (by decide)) <|
  mj_c1 (k_iconst (by decide +kernel)) <|
  mj_c1 (k_istore (by decide +kernel) (by decide)) <|
  mj_c1 (k_aloadn (k := 0) (by decide +kernel) rfl) <|
  mj_c1 (k_gI (idx := 97) h_M (by decide) rfl w_867 (by decide +kernel)) <|
  mj_c1 (k_ifne (off := 20) (by decide +kernel) (by decide)) <|
  mj_c1 (k_iload (by decide +kernel)) <|
  mj_c1 (k_iloadn (k := 2) (by decide +kernel) rfl) <|
  mj_c1 (k_iload (by decide +kernel)) <|
  mj_c1 (k_isub (by decide +kernel)) <|
  mj_c1 (k_icle (off := 11) (by decide +kernel) (by decide)) <|
  mj_c1 (k_aloadn (k := 0) (by decide +kernel) rfl) <|
  mj_c1 (k_bipush (by decide +kernel) (by decide)) <|
  mj_c1 (k_iload (by decide +kernel)) <|
  mj_c1 (k_callV (idx := 114) (by decide +kernel) (fit_m_M_readSteps_m_M_fail) rfl rfl w_960 w_962 v_51 (by decide) (by decide +kernel)) <|
  mj_c1 (k_aloadn (k := 0) (by decide +kernel) rfl) <|
  mj_c1 (k_gR (idx := 38) h_M (by decide) rfl w_858 (by decide +kernel)) <|
  mj_c1 (k_sipush (by decide +kernel) (by decide)) <|
  mj_c1 (k_iloadn (k := 1) (by decide +kernel) rfl) <|
  mj_c1 (k_iadd (by decide +kernel)) <|
  mj_c1 (k_iloadn (k := 2) (by decide +kernel) rfl) <|
  mj_c1 (k_ias (by decide +kernel)) <|
  mj_c1 (k_aloadn (k := 0) (by decide +kernel) rfl) <|
  mj_c1 (k_gR (idx := 41) h_M (by decide) rfl w_859 (by decide +kernel)) <|
  mj_c1 (k_sipush (by decide +kernel) (by decide)) <|
  mj_c1 (k_iloadn (k := 1) (by decide +kernel) rfl) <|
  mj_c1 (k_iadd (by decide +kernel)) <|
  mj_c1 (k_iloadn (k := 2) (by decide +kernel) rfl) <|
  mj_c1 (k_iload (by decide +kernel)) <|
  mj_c1 (k_isub (by decide +kernel)) <|
  mj_c1 (k_ias (by decide +kernel)) <|
  mj_c1 (k_aloadn (k := 0) (by decide +kernel) rfl) <|
  mj_c1 (k_gR (idx := 44) h_M (by decide) rfl w_860 (by decide +kernel)) <|
  mj_c1 (k_sipush (by decide +kernel) (by decide)) <|
  mj_c1 (k_iloadn (k := 1) (by decide +kernel) rfl) <|
  mj_c1 (k_iadd (by decide +kernel)) <|
  mj_c1 (k_iloadn (k := 2) (by decide +kernel) rfl) <|
  mj_c1 (k_iload (by decide +kernel)) <|
  mj_c1 (k_isub (by decide +kernel)) <|
  mj_c1 (k_iload (by decide +kernel)) <|
  mj_c1 (k_isub (by decide +kernel)) <|
  mj_c1 (k_ias (by decide +kernel)) <|
  mj_c1 (k_iinc (by decide +kernel) (by decide)) <|
  mj_c1 (k_goto (off := -170) (by decide +kernel) (by decide)) <|
  mj_c1 (k_retv (by decide +kernel) rfl) mj_c0
def q_M_step : List (Nat × mj_Sem) := [(0, o_al 0 1), (1, o_call m_M_here 1 0 0 4 (mj_rv 6)), (4, o_is 1 5), (5, o_il 1 6), (6, o_ifge 20 9), (9, o_al 0 10), (10, o_ic 5 11), (11, o_al 0 12), (12, o_gI 6 20 15), (15, o_call m_M_fail 3 0 0 18 (mj_rv 6)), (18, o_ic (-1) 19), (19, o_iret 0 0), (20, o_al 0 21), (21, o_dup 22), (22, o_gI 6 20 25), (25, o_ic 1 26), (26, o_iadd 27), (27, o_pI 6 20 30), (30, o_il 1 31), (31, o_ic 128 34), (34, o_icge 39 37), (37, o_il 1 38), (38, o_iret 0 0), (39, o_al 0 40), (40, o_call m_M_here 1 0 0 43 (mj_rv 6)), (43, o_is 2 44), (44, o_il 2 45), (45, o_ic 1 46), (46, o_iclt 55 49), (49, o_il 2 50), (50, o_ic 127 52), (52, o_icle 66 55), (55, o_al 0 56), (56, o_ic 5 57), (57, o_al 0 58), (58, o_gI 6 20 61), (61, o_call m_M_fail 3 0 0 64 (mj_rv 6)), (64, o_ic (-1) 65), (65, o_iret 0 0), (66, o_al 0 67), (67, o_dup 68), (68, o_gI 6 20 71), (71, o_ic 1 72), (72, o_iadd 73), (73, o_pI 6 20 76), (76, o_il 1 77), (77, o_ic 128 80), (80, o_isub 81), (81, o_ic 128 84), (84, o_il 2 85), (85, o_imul 86), (86, o_iadd 87), (87, o_iret 0 0)]
set_option maxRecDepth 100000 in
theorem z_M_step : mj_Code (m_M_step) (q_M_step) :=
  mj_c1 (k_aloadn (k := 0) (by decide +kernel) rfl) <|
  mj_c1 (k_callV (idx := 106) (by decide +kernel) (fit_m_M_step_m_M_here) rfl rfl w_976 w_978 v_55 (by decide) (by decide +kernel)) <|
  mj_c1 (k_istoren (k := 1) (by decide +kernel) rfl (by decide)) <|
  mj_c1 (k_iloadn (k := 1) (by decide +kernel) rfl) <|
  mj_c1 (k_ifge (off := 14) (by decide +kernel) (by decide)) <|
  mj_c1 (k_aloadn (k := 0) (by decide +kernel) rfl) <|
  mj_c1 (k_iconst (by decide +kernel)) <|
  mj_c1 (k_aloadn (k := 0) (by decide +kernel) rfl) <|
  mj_c1 (k_gI (idx := 103) h_M (by decide) rfl w_866 (by decide +kernel)) <|
  mj_c1 (k_callV (idx := 114) (by decide +kernel) (fit_m_M_step_m_M_fail) rfl rfl w_960 w_962 v_51 (by decide) (by decide +kernel)) <|
  mj_c1 (k_iconst (by decide +kernel)) <|
  mj_c1 (k_iret (by decide +kernel) rfl) <|
  mj_c1 (k_aloadn (k := 0) (by decide +kernel) rfl) <|
  mj_c1 (k_dup (by decide +kernel)) <|
  mj_c1 (k_gI (idx := 103) h_M (by decide) rfl w_866 (by decide +kernel)) <|
  mj_c1 (k_iconst (by decide +kernel)) <|
  mj_c1 (k_iadd (by decide +kernel)) <|
  mj_c1 (k_pI (idx := 103) h_M (by decide) rfl rfl w_866 rfl (by decide +kernel)) <|
  mj_c1 (k_iloadn (k := 1) (by decide +kernel) rfl) <|
  mj_c1 (k_sipush (by decide +kernel) (by decide)) <|
  mj_c1 (k_icge (off := 5) (by decide +kernel) (by decide)) <|
  mj_c1 (k_iloadn (k := 1) (by decide +kernel) rfl) <|
  mj_c1 (k_iret (by decide +kernel) rfl) <|
  mj_c1 (k_aloadn (k := 0) (by decide +kernel) rfl) <|
  mj_c1 (k_callV (idx := 106) (by decide +kernel) (fit_m_M_step_m_M_here) rfl rfl w_976 w_978 v_55 (by decide) (by decide +kernel)) <|
  mj_c1 (k_istoren (k := 2) (by decide +kernel) rfl (by decide)) <|
  mj_c1 (k_iloadn (k := 2) (by decide +kernel) rfl) <|
  mj_c1 (k_iconst (by decide +kernel)) <|
  mj_c1 (k_iclt (off := 9) (by decide +kernel) (by decide)) <|
  mj_c1 (k_iloadn (k := 2) (by decide +kernel) rfl) <|
  mj_c1 (k_bipush (by decide +kernel) (by decide)) <|
  mj_c1 (k_icle (off := 14) (by decide +kernel) (by decide)) <|
  mj_c1 (k_aloadn (k := 0) (by decide +kernel) rfl) <|
  mj_c1 (k_iconst (by decide +kernel)) <|
  mj_c1 (k_aloadn (k := 0) (by decide +kernel) rfl) <|
  mj_c1 (k_gI (idx := 103) h_M (by decide) rfl w_866 (by decide +kernel)) <|
  mj_c1 (k_callV (idx := 114) (by decide +kernel) (fit_m_M_step_m_M_fail) rfl rfl w_960 w_962 v_51 (by decide) (by decide +kernel)) <|
  mj_c1 (k_iconst (by decide +kernel)) <|
  mj_c1 (k_iret (by decide +kernel) rfl) <|
  mj_c1 (k_aloadn (k := 0) (by decide +kernel) rfl) <|
  mj_c1 (k_dup (by decide +kernel)) <|
  mj_c1 (k_gI (idx := 103) h_M (by decide) rfl w_866 (by decide +kernel)) <|
  mj_c1 (k_iconst (by decide +kernel)) <|
  mj_c1 (k_iadd (by decide +kernel)) <|
  mj_c1 (k_pI (idx := 103) h_M (by decide) rfl rfl w_866 rfl (by decide +kernel)) <|
  mj_c1 (k_iloadn (k := 1) (by decide +kernel) rfl) <|
  mj_c1 (k_sipush (by decide +kernel) (by decide)) <|
  mj_c1 (k_isub (by decide +kernel)) <|
  mj_c1 (k_sipush (by decide +kernel) (by decide)) <|
  mj_c1 (k_iloadn (k := 2) (by decide +kernel) rfl) <|
  mj_c1 (k_imul (by decide +kernel)) <|
  mj_c1 (k_iadd (by decide +kernel)) <|
  mj_c1 (k_iret (by decide +kernel) rfl) mj_c0
def q_M_readGates : List (Nat × mj_Sem) := [(0, o_ic 0 1), (1, o_is 1 2), (2, o_il 1 3), (3, o_al 0 4), (4, o_gR 6 6 7), (7, o_ic 2 8), (8, o_ial 9), (9, o_icge 167 12), (12, o_al 0 13), (13, o_gI 6 21 16), (16, o_ifne 167 19), (19, o_al 0 20), (20, o_ic 3 21), (21, o_ic 5 22), (22, o_call m_M_line 3 0 0 25 (mj_rv 6)), (25, o_al 0 26), (26, o_gI 6 21 29), (29, o_ifle 33 32), (32, o_retv 0 0), (33, o_al 0 34), (34, o_al 0 35), (35, o_gR 6 23 38), (38, o_ic 0 39), (39, o_ial 40), (40, o_ic 15 42), (42, o_il 1 43), (43, o_iadd 44), (44, o_call m_M_stands 3 0 0 47 (mj_rv 6)), (47, o_ifne 62 50), (50, o_al 0 51), (51, o_ic 6 53), (53, o_al 0 54), (54, o_gR 6 24 57), (57, o_ic 0 58), (58, o_ial 59), (59, o_call m_M_fail 3 0 0 62 (mj_rv 6)), (62, o_ic 1 63), (63, o_is 2 64), (64, o_il 2 65), (65, o_ic 3 66), (66, o_icge 113 69), (69, o_al 0 70), (70, o_gI 6 21 73), (73, o_ifne 113 76), (76, o_al 0 77), (77, o_gR 6 23 80), (80, o_il 2 81), (81, o_ial 82), (82, o_ic 2 83), (83, o_al 0 84), (84, o_gR 6 8 87), (87, o_ic 2 88), (88, o_ial 89), (89, o_imul 90), (90, o_ic 1 91), (91, o_iadd 92), (92, o_icle 107 95), (95, o_al 0 96), (96, o_ic 6 98), (98, o_al 0 99), (99, o_gR 6 24 102), (102, o_il 2 103), (103, o_ial 104), (104, o_call m_M_fail 3 0 0 107 (mj_rv 6)), (107, o_inc 2 1 110), (110, o_goto 64), (113, o_al 0 114), (114, o_gR 6 12 117), (117, o_ic 600 120), (120, o_il 1 121), (121, o_iadd 122), (122, o_al 0 123), (123, o_gR 6 23 126), (126, o_ic 0 127), (127, o_ial 128), (128, o_ias 129), (129, o_al 0 130), (130, o_gR 6 13 133), (133, o_ic 600 136), (136, o_il 1 137), (137, o_iadd 138), (138, o_al 0 139), (139, o_gR 6 23 142), (142, o_ic 1 143), (143, o_ial 144), (144, o_ias 145), (145, o_al 0 146), (146, o_gR 6 14 149), (149, o_ic 600 152), (152, o_il 1 153), (153, o_iadd 154), (154, o_al 0 155), (155, o_gR 6 23 158), (158, o_ic 2 159), (159, o_ial 160), (160, o_ias 161), (161, o_inc 1 1 164), (164, o_goto 2), (167, o_retv 0 0)]
set_option maxRecDepth 100000 in
theorem z_M_readGates : mj_Code (m_M_readGates) (q_M_readGates) :=
  mj_c1 (k_iconst (by decide +kernel)) <|
  mj_c1 (k_istoren (k := 1) (by decide +kernel) rfl (by decide)) <|
  mj_c1 (k_iloadn (k := 1) (by decide +kernel) rfl) <|
  mj_c1 (k_aloadn (k := 0) (by decide +kernel) rfl) <|
  mj_c1 (k_gR (idx := 20) h_M (by decide) rfl w_852 (by decide +kernel)) <|
  mj_c1 (k_iconst (by decide +kernel)) <|
  mj_c1 (k_ial (by decide +kernel)) <|
  mj_c1 (k_icge (off := 158) (by decide +kernel) (by decide)) <|
  mj_c1 (k_aloadn (k := 0) (by decide +kernel) rfl) <|
  mj_c1 (k_gI (idx := 97) h_M (by decide) rfl w_867 (by decide +kernel)) <|
  mj_c1 (k_ifne (off := 151) (by decide +kernel) (by decide)) <|
  mj_c1 (k_aloadn (k := 0) (by decide +kernel) rfl) <|
  mj_c1 (k_iconst (by decide +kernel)) <|
  mj_c1 (k_iconst (by decide +kernel)) <|
  mj_c1 (k_callV (idx := 118) (by decide +kernel) (fit_m_M_readGates_m_M_line) rfl rfl w_972 w_974 v_54 (by decide) (by decide +kernel)) <|
  mj_c1 (k_aloadn (k := 0) (by decide +kernel) rfl) <|
  mj_c1 (k_gI (idx := 97) h_M (by decide) rfl w_867 (by decide +kernel)) <|
  mj_c1 (k_ifle (off := 4) (by decide +kernel) (by decide)) <|
  mj_c1 (k_retv (by decide +kernel) rfl) <|
  mj_c1 (k_aloadn (k := 0) (by decide +kernel) rfl) <|
  mj_c1 (k_aloadn (k := 0) (by decide +kernel) rfl) <|
  mj_c1 (k_gR (idx := 64) h_M (by decide) rfl w_869 (by decide +kernel)) <|
  mj_c1 (k_iconst (by decide +kernel)) <|
  mj_c1 (k_ial (by decide +kernel)) <|
  mj_c1 (k_bipush (by decide +kernel) (by decide)) <|
  mj_c1 (k_iloadn (k := 1) (by decide +kernel) rfl) <|
  mj_c1 (k_iadd (by decide +kernel)) <|
  mj_c1 (k_callV (idx := 121) (by decide +kernel) (fit_m_M_readGates_m_M_stands) rfl rfl w_987 w_989 v_57 (by decide) (by decide +kernel)) <|
  mj_c1 (k_ifne (off := 15) (by decide +kernel) (by decide)) <|
  mj_c1 (k_aloadn (k := 0) (by decide +kernel) rfl) <|
  mj_c1 (k_bipush (by decide +kernel) (by decide)) <|
  mj_c1 (k_aloadn (k := 0) (by decide +kernel) rfl) <|
  mj_c1 (k_gR (idx := 67) h_M (by decide) rfl w_870 (by decide +kernel)) <|
  mj_c1 (k_iconst (by decide +kernel)) <|
  mj_c1 (k_ial (by decide +kernel)) <|
  mj_c1 (k_callV (idx := 114) (by decide +kernel) (fit_m_M_readGates_m_M_fail) rfl rfl w_960 w_962 v_51 (by decide) (by decide +kernel)) <|
  mj_c1 (k_iconst (by decide +kernel)) <|
  mj_c1 (k_istoren (k := 2) (by decide +kernel) rfl (by decide)) <|
  mj_c1 (k_iloadn (k := 2) (by decide +kernel) rfl) <|
  mj_c1 (k_iconst (by decide +kernel)) <|
  mj_c1 (k_icge (off := 47) (by decide +kernel) (by decide)) <|
  mj_c1 (k_aloadn (k := 0) (by decide +kernel) rfl) <|
  mj_c1 (k_gI (idx := 97) h_M (by decide) rfl w_867 (by decide +kernel)) <|
  mj_c1 (k_ifne (off := 40) (by decide +kernel) (by decide)) <|
  mj_c1 (k_aloadn (k := 0) (by decide +kernel) rfl) <|
  mj_c1 (k_gR (idx := 64) h_M (by decide) rfl w_869 (by decide +kernel)) <|
  mj_c1 (k_iloadn (k := 2) (by decide +kernel) rfl) <|
  mj_c1 (k_ial (by decide +kernel)) <|
  mj_c1 (k_iconst (by decide +kernel)) <|
  mj_c1 (k_aloadn (k := 0) (by decide +kernel) rfl) <|
  mj_c1 (k_gR (idx := 26) h_M (by decide) rfl w_854 (by decide +kernel)) <|
  mj_c1 (k_iconst (by decide +kernel)) <|
  mj_c1 (k_ial (by decide +kernel)) <|
  mj_c1 (k_imul (by decide +kernel)) <|
  mj_c1 (k_iconst (by decide +kernel)) <|
  mj_c1 (k_iadd (by decide +kernel)) <|
  mj_c1 (k_icle (off := 15) (by decide +kernel) (by decide)) <|
  mj_c1 (k_aloadn (k := 0) (by decide +kernel) rfl) <|
  mj_c1 (k_bipush (by decide +kernel) (by decide)) <|
  mj_c1 (k_aloadn (k := 0) (by decide +kernel) rfl) <|
  mj_c1 (k_gR (idx := 67) h_M (by decide) rfl w_870 (by decide +kernel)) <|
  mj_c1 (k_iloadn (k := 2) (by decide +kernel) rfl) <|
  mj_c1 (k_ial (by decide +kernel)) <|
  mj_c1 (k_callV (idx := 114) (by decide +kernel) (fit_m_M_readGates_m_M_fail) rfl rfl w_960 w_962 v_51 (by decide) (by decide +kernel)) <|
  mj_c1 (k_iinc (by decide +kernel) (by decide)) <|
  mj_c1 (k_goto (off := -46) (by decide +kernel) (by decide)) <|
  mj_c1 (k_aloadn (k := 0) (by decide +kernel) rfl) <|
  mj_c1 (k_gR (idx := 38) h_M (by decide) rfl w_858 (by decide +kernel)) <|
  mj_c1 (k_sipush (by decide +kernel) (by decide)) <|
  mj_c1 (k_iloadn (k := 1) (by decide +kernel) rfl) <|
  mj_c1 (k_iadd (by decide +kernel)) <|
  mj_c1 (k_aloadn (k := 0) (by decide +kernel) rfl) <|
  mj_c1 (k_gR (idx := 64) h_M (by decide) rfl w_869 (by decide +kernel)) <|
  mj_c1 (k_iconst (by decide +kernel)) <|
  mj_c1 (k_ial (by decide +kernel)) <|
  mj_c1 (k_ias (by decide +kernel)) <|
  mj_c1 (k_aloadn (k := 0) (by decide +kernel) rfl) <|
  mj_c1 (k_gR (idx := 41) h_M (by decide) rfl w_859 (by decide +kernel)) <|
  mj_c1 (k_sipush (by decide +kernel) (by decide)) <|
  mj_c1 (k_iloadn (k := 1) (by decide +kernel) rfl) <|
  mj_c1 (k_iadd (by decide +kernel)) <|
  mj_c1 (k_aloadn (k := 0) (by decide +kernel) rfl) <|
  mj_c1 (k_gR (idx := 64) h_M (by decide) rfl w_869 (by decide +kernel)) <|
  mj_c1 (k_iconst (by decide +kernel)) <|
  mj_c1 (k_ial (by decide +kernel)) <|
  mj_c1 (k_ias (by decide +kernel)) <|
  mj_c1 (k_aloadn (k := 0) (by decide +kernel) rfl) <|
  mj_c1 (k_gR (idx := 44) h_M (by decide) rfl w_860 (by decide +kernel)) <|
  mj_c1 (k_sipush (by decide +kernel) (by decide)) <|
  mj_c1 (k_iloadn (k := 1) (by decide +kernel) rfl) <|
  mj_c1 (k_iadd (by decide +kernel)) <|
  mj_c1 (k_aloadn (k := 0) (by decide +kernel) rfl) <|
  mj_c1 (k_gR (idx := 64) h_M (by decide) rfl w_869 (by decide +kernel)) <|
  mj_c1 (k_iconst (by decide +kernel)) <|
  mj_c1 (k_ial (by decide +kernel)) <|
  mj_c1 (k_ias (by decide +kernel)) <|
  mj_c1 (k_iinc (by decide +kernel) (by decide)) <|
  mj_c1 (k_goto (off := -162) (by decide +kernel) (by decide)) <|
  mj_c1 (k_retv (by decide +kernel) rfl) mj_c0
def q_M_connect : List (Nat × mj_Sem) := [(0, o_ic (-1) 1), (1, o_is 1 2), (2, o_ic 0 3), (3, o_is 2 4), (4, o_il 2 5), (5, o_al 0 6), (6, o_gR 6 7 9), (9, o_ic 2 10), (10, o_ial 11), (11, o_icge 35 14), (14, o_al 0 15), (15, o_il 1 16), (16, o_al 0 17), (17, o_gR 6 15 20), (20, o_ic 32 22), (22, o_il 2 23), (23, o_iadd 24), (24, o_ial 25), (25, o_call m_M_lesser 3 0 0 28 (mj_rv 6)), (28, o_is 1 29), (29, o_inc 2 1 32), (32, o_goto 4), (35, o_ic 0 36), (36, o_is 2 37), (37, o_il 2 38), (38, o_al 0 39), (39, o_gR 6 6 42), (42, o_ic 2 43), (43, o_ial 44), (44, o_icge 83 47), (47, o_al 0 48), (48, o_al 0 49), (49, o_il 1 50), (50, o_al 0 51), (51, o_gR 6 13 54), (54, o_ic 600 57), (57, o_il 2 58), (58, o_iadd 59), (59, o_ial 60), (60, o_call m_M_lesser 3 0 0 63 (mj_rv 6)), (63, o_al 0 64), (64, o_gR 6 14 67), (67, o_ic 600 70), (70, o_il 2 71), (71, o_iadd 72), (72, o_ial 73), (73, o_call m_M_lesser 3 0 0 76 (mj_rv 6)), (76, o_is 1 77), (77, o_inc 2 1 80), (80, o_goto 37), (83, o_il 1 84), (84, o_iflt 95 87), (87, o_al 0 88), (88, o_ic 7 90), (90, o_il 1 91), (91, o_call m_M_fail 3 0 0 94 (mj_rv 6)), (94, o_retv 0 0), (95, o_al 0 96), (96, o_call m_M_arrange 1 0 0 99 (mj_rv 6)), (99, o_al 0 100), (100, o_gR 6 6 103), (103, o_ic 2 104), (104, o_ial 105), (105, o_icne 109 108), (108, o_retv 0 0), (109, o_ic (-1) 110), (110, o_is 2 111), (111, o_ic 0 112), (112, o_is 3 113), (113, o_il 3 114), (114, o_al 0 115), (115, o_gR 6 6 118), (118, o_ic 2 119), (119, o_ial 120), (120, o_icge 164 123), (123, o_al 0 124), (124, o_gR 6 12 127), (127, o_ic 600 130), (130, o_il 3 131), (131, o_iadd 132), (132, o_ial 133), (133, o_ic 2 134), (134, o_idiv 135), (135, o_is 4 137), (137, o_al 0 138), (138, o_il 3 139), (139, o_call m_M_comesBack 2 0 0 142 (mj_rv 6)), (142, o_ifeq 158 145), (145, o_il 2 146), (146, o_iflt 155 149), (149, o_il 4 151), (151, o_il 2 152), (152, o_icge 158 155), (155, o_il 4 157), (157, o_is 2 158), (158, o_inc 3 1 161), (161, o_goto 113), (164, o_al 0 165), (165, o_ic 8 167), (167, o_il 2 168), (168, o_call m_M_fail 3 0 0 171 (mj_rv 6)), (171, o_retv 0 0)]
set_option maxRecDepth 100000 in
theorem z_M_connect : mj_Code (m_M_connect) (q_M_connect) :=
  mj_c1 (k_iconst (by decide +kernel)) <|
  mj_c1 (k_istoren (k := 1) (by decide +kernel) rfl (by decide)) <|
  mj_c1 (k_iconst (by decide +kernel)) <|
  mj_c1 (k_istoren (k := 2) (by decide +kernel) rfl (by decide)) <|
  mj_c1 (k_iloadn (k := 2) (by decide +kernel) rfl) <|
  mj_c1 (k_aloadn (k := 0) (by decide +kernel) rfl) <|
  mj_c1 (k_gR (idx := 23) h_M (by decide) rfl w_853 (by decide +kernel)) <|
  mj_c1 (k_iconst (by decide +kernel)) <|
  mj_c1 (k_ial (by decide +kernel)) <|
  mj_c1 (k_icge (off := 24) (by decide +kernel) (by decide)) <|
  mj_c1 (k_aloadn (k := 0) (by decide +kernel) rfl) <|
  mj_c1 (k_iloadn (k := 1) (by decide +kernel) rfl) <|
  mj_c1 (k_aloadn (k := 0) (by decide +kernel) rfl) <|
  mj_c1 (k_gR (idx := 47) h_M (by decide) rfl w_861 (by decide +kernel)) <|
  mj_c1 (k_bipush (by decide +kernel) (by decide)) <|
  mj_c1 (k_iloadn (k := 2) (by decide +kernel) rfl) <|
  mj_c1 (k_iadd (by decide +kernel)) <|
  mj_c1 (k_ial (by decide +kernel)) <|
  mj_c1 (k_callV (idx := 131) (by decide +kernel) (fit_m_M_connect_m_M_lesser) rfl rfl w_1011 w_1013 v_63 (by decide) (by decide +kernel)) <|
  mj_c1 (k_istoren (k := 1) (by decide +kernel) rfl (by decide)) <|
  mj_c1 (k_iinc (by decide +kernel) (by decide)) <|
  mj_c1 (k_goto (off := -28) (by decide +kernel) (by decide)) <|
  mj_c1 (k_iconst (by decide +kernel)) <|
  mj_c1 (k_istoren (k := 2) (by decide +kernel) rfl (by decide)) <|
  mj_c1 (k_iloadn (k := 2) (by decide +kernel) rfl) <|
  mj_c1 (k_aloadn (k := 0) (by decide +kernel) rfl) <|
  mj_c1 (k_gR (idx := 20) h_M (by decide) rfl w_852 (by decide +kernel)) <|
  mj_c1 (k_iconst (by decide +kernel)) <|
  mj_c1 (k_ial (by decide +kernel)) <|
  mj_c1 (k_icge (off := 39) (by decide +kernel) (by decide)) <|
  mj_c1 (k_aloadn (k := 0) (by decide +kernel) rfl) <|
  mj_c1 (k_aloadn (k := 0) (by decide +kernel) rfl) <|
  mj_c1 (k_iloadn (k := 1) (by decide +kernel) rfl) <|
  mj_c1 (k_aloadn (k := 0) (by decide +kernel) rfl) <|
  mj_c1 (k_gR (idx := 41) h_M (by decide) rfl w_859 (by decide +kernel)) <|
  mj_c1 (k_sipush (by decide +kernel) (by decide)) <|
  mj_c1 (k_iloadn (k := 2) (by decide +kernel) rfl) <|
  mj_c1 (k_iadd (by decide +kernel)) <|
  mj_c1 (k_ial (by decide +kernel)) <|
  mj_c1 (k_callV (idx := 131) (by decide +kernel) (fit_m_M_connect_m_M_lesser) rfl rfl w_1011 w_1013 v_63 (by decide) (by decide +kernel)) <|
  mj_c1 (k_aloadn (k := 0) (by decide +kernel) rfl) <|
  mj_c1 (k_gR (idx := 44) h_M (by decide) rfl w_860 (by decide +kernel)) <|
  mj_c1 (k_sipush (by decide +kernel) (by decide)) <|
  mj_c1 (k_iloadn (k := 2) (by decide +kernel) rfl) <|
  mj_c1 (k_iadd (by decide +kernel)) <|
  mj_c1 (k_ial (by decide +kernel)) <|
  mj_c1 (k_callV (idx := 131) (by decide +kernel) (fit_m_M_connect_m_M_lesser) rfl rfl w_1011 w_1013 v_63 (by decide) (by decide +kernel)) <|
  mj_c1 (k_istoren (k := 1) (by decide +kernel) rfl (by decide)) <|
  mj_c1 (k_iinc (by decide +kernel) (by decide)) <|
  mj_c1 (k_goto (off := -43) (by decide +kernel) (by decide)) <|
  mj_c1 (k_iloadn (k := 1) (by decide +kernel) rfl) <|
  mj_c1 (k_iflt (off := 11) (by decide +kernel) (by decide)) <|
  mj_c1 (k_aloadn (k := 0) (by decide +kernel) rfl) <|
  mj_c1 (k_bipush (by decide +kernel) (by decide)) <|
  mj_c1 (k_iloadn (k := 1) (by decide +kernel) rfl) <|
  mj_c1 (k_callV (idx := 114) (by decide +kernel) (fit_m_M_connect_m_M_fail) rfl rfl w_960 w_962 v_51 (by decide) (by decide +kernel)) <|
  mj_c1 (k_retv (by decide +kernel) rfl) <|
  mj_c1 (k_aloadn (k := 0) (by decide +kernel) rfl) <|
  mj_c1 (k_callV (idx := 135) (by decide +kernel) (fit_m_M_connect_m_M_arrange) rfl rfl w_1019 w_1021 v_65 (by decide) (by decide +kernel)) <|
  mj_c1 (k_aloadn (k := 0) (by decide +kernel) rfl) <|
  mj_c1 (k_gR (idx := 20) h_M (by decide) rfl w_852 (by decide +kernel)) <|
  mj_c1 (k_iconst (by decide +kernel)) <|
  mj_c1 (k_ial (by decide +kernel)) <|
  mj_c1 (k_icne (off := 4) (by decide +kernel) (by decide)) <|
  mj_c1 (k_retv (by decide +kernel) rfl) <|
  mj_c1 (k_iconst (by decide +kernel)) <|
  mj_c1 (k_istoren (k := 2) (by decide +kernel) rfl (by decide)) <|
  mj_c1 (k_iconst (by decide +kernel)) <|
  mj_c1 (k_istoren (k := 3) (by decide +kernel) rfl (by decide)) <|
  mj_c1 (k_iloadn (k := 3) (by decide +kernel) rfl) <|
  mj_c1 (k_aloadn (k := 0) (by decide +kernel) rfl) <|
  mj_c1 (k_gR (idx := 20) h_M (by decide) rfl w_852 (by decide +kernel)) <|
  mj_c1 (k_iconst (by decide +kernel)) <|
  mj_c1 (k_ial (by decide +kernel)) <|
  mj_c1 (k_icge (off := 44) (by decide +kernel) (by decide)) <|
  mj_c1 (k_aloadn (k := 0) (by decide +kernel) rfl) <|
  mj_c1 (k_gR (idx := 38) h_M (by decide) rfl w_858 (by decide +kernel)) <|
  mj_c1 (k_sipush (by decide +kernel) (by decide)) <|
  mj_c1 (k_iloadn (k := 3) (by decide +kernel) rfl) <|
  mj_c1 (k_iadd (by decide +kernel)) <|
  mj_c1 (k_ial (by decide +kernel)) <|
  mj_c1 (k_iconst (by decide +kernel)) <|
  mj_c1 (k_idiv (by decide +kernel)) <|
  mj_c1 (k_istore (by decide +kernel) (by decide)) <|
  mj_c1 (k_aloadn (k := 0) (by decide +kernel) rfl) <|
  mj_c1 (k_iloadn (k := 3) (by decide +kernel) rfl) <|
  mj_c1 (k_callV (idx := 138) (by decide +kernel) (fit_m_M_connect_m_M_comesBack) rfl rfl w_1027 w_1029 v_67 (by decide) (by decide +kernel)) <|
  mj_c1 (k_ifeq (off := 16) (by decide +kernel) (by decide)) <|
  mj_c1 (k_iloadn (k := 2) (by decide +kernel) rfl) <|
  mj_c1 (k_iflt (off := 9) (by decide +kernel) (by decide)) <|
  mj_c1 (k_iload (by decide +kernel)) <|
  mj_c1 (k_iloadn (k := 2) (by decide +kernel) rfl) <|
  mj_c1 (k_icge (off := 6) (by decide +kernel) (by decide)) <|
  mj_c1 (k_iload (by decide +kernel)) <|
  mj_c1 (k_istoren (k := 2) (by decide +kernel) rfl (by decide)) <|
  mj_c1 (k_iinc (by decide +kernel) (by decide)) <|
  mj_c1 (k_goto (off := -48) (by decide +kernel) (by decide)) <|
  mj_c1 (k_aloadn (k := 0) (by decide +kernel) rfl) <|
  mj_c1 (k_bipush (by decide +kernel) (by decide)) <|
  mj_c1 (k_iloadn (k := 2) (by decide +kernel) rfl) <|
  mj_c1 (k_callV (idx := 114) (by decide +kernel) (fit_m_M_connect_m_M_fail) rfl rfl w_960 w_962 v_51 (by decide) (by decide +kernel)) <|
  mj_c1 (k_retv (by decide +kernel) rfl) mj_c0
def q_M_lesser : List (Nat × mj_Sem) := [(0, o_al 0 1), (1, o_il 2 2), (2, o_call m_M_lacks 2 0 0 5 (mj_rv 6)), (5, o_ifeq 25 8), (8, o_il 1 9), (9, o_iflt 19 12), (12, o_il 2 13), (13, o_ic 2 14), (14, o_idiv 15), (15, o_il 1 16), (16, o_icge 25 19), (19, o_il 2 20), (20, o_ic 2 21), (21, o_idiv 22), (22, o_goto 26), (25, o_il 1 26), (26, o_iret 0 0)]
set_option maxRecDepth 100000 in
theorem z_M_lesser : mj_Code (m_M_lesser) (q_M_lesser) :=
  mj_c1 (k_aloadn (k := 0) (by decide +kernel) rfl) <|
  mj_c1 (k_iloadn (k := 2) (by decide +kernel) rfl) <|
  mj_c1 (k_callV (idx := 128) (by decide +kernel) (fit_m_M_lesser_m_M_lacks) rfl rfl w_1015 w_1017 v_64 (by decide) (by decide +kernel)) <|
  mj_c1 (k_ifeq (off := 20) (by decide +kernel) (by decide)) <|
  mj_c1 (k_iloadn (k := 1) (by decide +kernel) rfl) <|
  mj_c1 (k_iflt (off := 10) (by decide +kernel) (by decide)) <|
  mj_c1 (k_iloadn (k := 2) (by decide +kernel) rfl) <|
  mj_c1 (k_iconst (by decide +kernel)) <|
  mj_c1 (k_idiv (by decide +kernel)) <|
  mj_c1 (k_iloadn (k := 1) (by decide +kernel) rfl) <|
  mj_c1 (k_icge (off := 9) (by decide +kernel) (by decide)) <|
  mj_c1 (k_iloadn (k := 2) (by decide +kernel) rfl) <|
  mj_c1 (k_iconst (by decide +kernel)) <|
  mj_c1 (k_idiv (by decide +kernel)) <|
  mj_c1 (k_goto (off := 4) (by decide +kernel) (by decide)) <|
  mj_c1 (k_iloadn (k := 1) (by decide +kernel) rfl) <|
  mj_c1 (k_iret (by decide +kernel) rfl) mj_c0
def q_M_lacks : List (Nat × mj_Sem) := [(0, o_il 1 1), (1, o_ic 1 2), (2, o_icle 24 5), (5, o_al 0 6), (6, o_gR 6 16 9), (9, o_ic 2002 12), (12, o_il 1 13), (13, o_ic 2 14), (14, o_idiv 15), (15, o_iadd 16), (16, o_ial 17), (17, o_ifge 24 20), (20, o_ic 1 21), (21, o_goto 25), (24, o_ic 0 25), (25, o_zret 0 0)]
set_option maxRecDepth 100000 in
theorem z_M_lacks : mj_Code (m_M_lacks) (q_M_lacks) :=
  mj_c1 (k_iloadn (k := 1) (by decide +kernel) rfl) <|
  mj_c1 (k_iconst (by decide +kernel)) <|
  mj_c1 (k_icle (off := 22) (by decide +kernel) (by decide)) <|
  mj_c1 (k_aloadn (k := 0) (by decide +kernel) rfl) <|
  mj_c1 (k_gR (idx := 50) h_M (by decide) rfl w_862 (by decide +kernel)) <|
  mj_c1 (k_sipush (by decide +kernel) (by decide)) <|
  mj_c1 (k_iloadn (k := 1) (by decide +kernel) rfl) <|
  mj_c1 (k_iconst (by decide +kernel)) <|
  mj_c1 (k_idiv (by decide +kernel)) <|
  mj_c1 (k_iadd (by decide +kernel)) <|
  mj_c1 (k_ial (by decide +kernel)) <|
  mj_c1 (k_ifge (off := 7) (by decide +kernel) (by decide)) <|
  mj_c1 (k_iconst (by decide +kernel)) <|
  mj_c1 (k_goto (off := 4) (by decide +kernel) (by decide)) <|
  mj_c1 (k_iconst (by decide +kernel)) <|
  mj_c1 (k_zret (by decide +kernel) rfl) mj_c0
def q_M_arrange : List (Nat × mj_Sem) := [(0, o_ic 600 3), (3, o_is 1 4), (4, o_ic 0 5), (5, o_is 2 6), (6, o_il 2 7), (7, o_ic 315 10), (10, o_icge 40 13), (13, o_al 0 14), (14, o_gR 6 17 17), (17, o_ic 630 20), (20, o_il 2 21), (21, o_iadd 22), (22, o_il 2 23), (23, o_ic 15 25), (25, o_icge 32 28), (28, o_ic 0 29), (29, o_goto 33), (32, o_ic (-1) 33), (33, o_ias 34), (34, o_inc 2 1 37), (37, o_goto 6), (40, o_ic 0 41), (41, o_is 2 42), (42, o_ic 1 43), (43, o_is 3 44), (44, o_il 3 45), (45, o_ifeq 179 48), (48, o_ic 0 49), (49, o_is 3 50), (50, o_ic 0 51), (51, o_is 4 53), (53, o_il 4 55), (55, o_al 0 56), (56, o_gR 6 6 59), (59, o_ic 2 60), (60, o_ial 61), (61, o_icge 176 64), (64, o_al 0 65), (65, o_gR 6 17 68), (68, o_ic 630 71), (71, o_al 0 72), (72, o_ic 2 73), (73, o_al 0 74), (74, o_gR 6 13 77), (77, o_il 1 78), (78, o_il 4 80), (80, o_iadd 81), (81, o_ial 82), (82, o_call m_M_rowAt 3 0 0 85 (mj_rv 6)), (85, o_iadd 86), (86, o_ial 87), (87, o_is 5 89), (89, o_al 0 90), (90, o_gR 6 17 93), (93, o_ic 630 96), (96, o_al 0 97), (97, o_ic 2 98), (98, o_al 0 99), (99, o_gR 6 14 102), (102, o_il 1 103), (103, o_il 4 105), (105, o_iadd 106), (106, o_ial 107), (107, o_call m_M_rowAt 3 0 0 110 (mj_rv 6)), (110, o_iadd 111), (111, o_ial 112), (112, o_is 6 114), (114, o_al 0 115), (115, o_gR 6 17 118), (118, o_ic 645 121), (121, o_il 4 123), (123, o_iadd 124), (124, o_ial 125), (125, o_ifge 170 128), (128, o_il 5 130), (130, o_iflt 170 133), (133, o_il 6 135), (135, o_ifge 141 138), (138, o_goto 170), (141, o_al 0 142), (142, o_gR 6 17 145), (145, o_ic 645 148), (148, o_il 4 150), (150, o_iadd 151), (151, o_ic 1 152), (152, o_il 5 154), (154, o_il 6 156), (156, o_icle 164 159), (159, o_il 5 161), (161, o_goto 166), (164, o_il 6 166), (166, o_iadd 167), (167, o_ias 168), (168, o_ic 1 169), (169, o_is 3 170), (170, o_inc 4 1 173), (173, o_goto 53), (176, o_goto 44), (179, o_ic 1 180), (180, o_is 4 182), (182, o_il 4 184), (184, o_al 0 185), (185, o_gR 6 6 188), (188, o_ic 2 189), (189, o_ial 190), (190, o_icgt 251 193), (193, o_ic 0 194), (194, o_is 5 196), (196, o_il 5 198), (198, o_al 0 199), (199, o_gR 6 6 202), (202, o_ic 2 203), (203, o_ial 204), (204, o_icge 245 207), (207, o_al 0 208), (208, o_gR 6 17 211), (211, o_ic 645 214), (214, o_il 5 216), (216, o_iadd 217), (217, o_ial 218), (218, o_il 4 220), (220, o_iceq 226 223), (223, o_goto 239), (226, o_al 0 227), (227, o_gR 6 18 230), (230, o_il 1 231), (231, o_il 2 232), (232, o_iadd 233), (233, o_il 5 235), (235, o_ias 236), (236, o_inc 2 1 239), (239, o_inc 5 1 242), (242, o_goto 196), (245, o_inc 4 1 248), (248, o_goto 182), (251, o_il 2 252), (252, o_iret 0 0)]
set_option maxRecDepth 100000 in
theorem z_M_arrange : mj_Code (m_M_arrange) (q_M_arrange) :=
  mj_c1 (k_sipush (by decide +kernel) (by decide)) <|
  mj_c1 (k_istoren (k := 1) (by decide +kernel) rfl (by decide)) <|
  mj_c1 (k_iconst (by decide +kernel)) <|
  mj_c1 (k_istoren (k := 2) (by decide +kernel) rfl (by decide)) <|
  mj_c1 (k_iloadn (k := 2) (by decide +kernel) rfl) <|
  mj_c1 (k_sipush (by decide +kernel) (by decide)) <|
  mj_c1 (k_icge (off := 30) (by decide +kernel) (by decide)) <|
  mj_c1 (k_aloadn (k := 0) (by decide +kernel) rfl) <|
  mj_c1 (k_gR (idx := 53) h_M (by decide) rfl w_863 (by decide +kernel)) <|
  mj_c1 (k_sipush (by decide +kernel) (by decide)) <|
  mj_c1 (k_iloadn (k := 2) (by decide +kernel) rfl) <|
  mj_c1 (k_iadd (by decide +kernel)) <|
  mj_c1 (k_iloadn (k := 2) (by decide +kernel) rfl) <|
  mj_c1 (k_bipush (by decide +kernel) (by decide)) <|
  mj_c1 (k_icge (off := 7) (by decide +kernel) (by decide)) <|
  mj_c1 (k_iconst (by decide +kernel)) <|
  mj_c1 (k_goto (off := 4) (by decide +kernel) (by decide)) <|
  mj_c1 (k_iconst (by decide +kernel)) <|
  mj_c1 (k_ias (by decide +kernel)) <|
  mj_c1 (k_iinc (by decide +kernel) (by decide)) <|
  mj_c1 (k_goto (off := -31) (by decide +kernel) (by decide)) <|
  mj_c1 (k_iconst (by decide +kernel)) <|
  mj_c1 (k_istoren (k := 2) (by decide +kernel) rfl (by decide)) <|
  mj_c1 (k_iconst (by decide +kernel)) <|
  mj_c1 (k_istoren (k := 3) (by decide +kernel) rfl (by decide)) <|
  mj_c1 (k_iloadn (k := 3) (by decide +kernel) rfl) <|
  mj_c1 (k_ifeq (off := 134) (by decide +kernel) (by decide)) <|
  mj_c1 (k_iconst (by decide +kernel)) <|
  mj_c1 (k_istoren (k := 3) (by decide +kernel) rfl (by decide)) <|
  mj_c1 (k_iconst (by decide +kernel)) <|
  mj_c1 (k_istore (by decide +kernel) (by decide)) <|
  mj_c1 (k_iload (by decide +kernel)) <|
  mj_c1 (k_aloadn (k := 0) (by decide +kernel) rfl) <|
  mj_c1 (k_gR (idx := 20) h_M (by decide) rfl w_852 (by decide +kernel)) <|
  mj_c1 (k_iconst (by decide +kernel)) <|
  mj_c1 (k_ial (by decide +kernel)) <|
  mj_c1 (k_icge (off := 115) (by decide +kernel) (by decide)) <|
  mj_c1 (k_aloadn (k := 0) (by decide +kernel) rfl) <|
  mj_c1 (k_gR (idx := 53) h_M (by decide) rfl w_863 (by decide +kernel)) <|
  mj_c1 (k_sipush (by decide +kernel) (by decide)) <|
  mj_c1 (k_aloadn (k := 0) (by decide +kernel) rfl) <|
  mj_c1 (k_iconst (by decide +kernel)) <|
  mj_c1 (k_aloadn (k := 0) (by decide +kernel) rfl) <|
  mj_c1 (k_gR (idx := 41) h_M (by decide) rfl w_859 (by decide +kernel)) <|
  mj_c1 (k_iloadn (k := 1) (by decide +kernel) rfl) <|
  mj_c1 (k_iload (by decide +kernel)) <|
  mj_c1 (k_iadd (by decide +kernel)) <|
  mj_c1 (k_ial (by decide +kernel)) <|
  mj_c1 (k_callV (idx := 141) (by decide +kernel) (fit_m_M_arrange_m_M_rowAt) rfl rfl w_1023 w_1025 v_66 (by decide) (by decide +kernel)) <|
  mj_c1 (k_iadd (by decide +kernel)) <|
  mj_c1 (k_ial (by decide +kernel)) <|
  mj_c1 (k_istore (by decide +kernel) (by decide)) <|
  mj_c1 (k_aloadn (k := 0) (by decide +kernel) rfl) <|
  mj_c1 (k_gR (idx := 53) h_M (by decide) rfl w_863 (by decide +kernel)) <|
  mj_c1 (k_sipush (by decide +kernel) (by decide)) <|
  mj_c1 (k_aloadn (k := 0) (by decide +kernel) rfl) <|
  mj_c1 (k_iconst (by decide +kernel)) <|
  mj_c1 (k_aloadn (k := 0) (by decide +kernel) rfl) <|
  mj_c1 (k_gR (idx := 44) h_M (by decide) rfl w_860 (by decide +kernel)) <|
  mj_c1 (k_iloadn (k := 1) (by decide +kernel) rfl) <|
  mj_c1 (k_iload (by decide +kernel)) <|
  mj_c1 (k_iadd (by decide +kernel)) <|
  mj_c1 (k_ial (by decide +kernel)) <|
  mj_c1 (k_callV (idx := 141) (by decide +kernel) (fit_m_M_arrange_m_M_rowAt) rfl rfl w_1023 w_1025 v_66 (by decide) (by decide +kernel)) <|
  mj_c1 (k_iadd (by decide +kernel)) <|
  mj_c1 (k_ial (by decide +kernel)) <|
  mj_c1 (k_istore (by decide +kernel) (by decide)) <|
  mj_c1 (k_aloadn (k := 0) (by decide +kernel) rfl) <|
  mj_c1 (k_gR (idx := 53) h_M (by decide) rfl w_863 (by decide +kernel)) <|
  mj_c1 (k_sipush (by decide +kernel) (by decide)) <|
  mj_c1 (k_iload (by decide +kernel)) <|
  mj_c1 (k_iadd (by decide +kernel)) <|
  mj_c1 (k_ial (by decide +kernel)) <|
  mj_c1 (k_ifge (off := 45) (by decide +kernel) (by decide)) <|
  mj_c1 (k_iload (by decide +kernel)) <|
  mj_c1 (k_iflt (off := 40) (by decide +kernel) (by decide)) <|
  mj_c1 (k_iload (by decide +kernel)) <|
  mj_c1 (k_ifge (off := 6) (by decide +kernel) (by decide)) <|
  mj_c1 (k_goto (off := 32) (by decide +kernel) (by decide)) <|
  mj_c1 (k_aloadn (k := 0) (by decide +kernel) rfl) <|
  mj_c1 (k_gR (idx := 53) h_M (by decide) rfl w_863 (by decide +kernel)) <|
  mj_c1 (k_sipush (by decide +kernel) (by decide)) <|
  mj_c1 (k_iload (by decide +kernel)) <|
  mj_c1 (k_iadd (by decide +kernel)) <|
  mj_c1 (k_iconst (by decide +kernel)) <|
  mj_c1 (k_iload (by decide +kernel)) <|
  mj_c1 (k_iload (by decide +kernel)) <|
  mj_c1 (k_icle (off := 8) (by decide +kernel) (by decide)) <|
  mj_c1 (k_iload (by decide +kernel)) <|
  mj_c1 (k_goto (off := 5) (by decide +kernel) (by decide)) <|
  mj_c1 (k_iload (by decide +kernel)) <|
  mj_c1 (k_iadd (by decide +kernel)) <|
  mj_c1 (k_ias (by decide +kernel)) <|
  mj_c1 (k_iconst (by decide +kernel)) <|
  mj_c1 (k_istoren (k := 3) (by decide +kernel) rfl (by decide)) <|
  mj_c1 (k_iinc (by decide +kernel) (by decide)) <|
  mj_c1 (k_goto (off := -120) (by decide +kernel) (by decide)) <|
  mj_c1 (k_goto (off := -132) (by decide +kernel) (by decide)) <|
  mj_c1 (k_iconst (by decide +kernel)) <|
  mj_c1 (k_istore (by decide +kernel) (by decide)) <|
  mj_c1 (k_iload (by decide +kernel)) <|
  mj_c1 (k_aloadn (k := 0) (by decide +kernel) rfl) <|
  mj_c1 (k_gR (idx := 20) h_M (by decide) rfl w_852 (by decide +kernel)) <|
  mj_c1 (k_iconst (by decide +kernel)) <|
  mj_c1 (k_ial (by decide +kernel)) <|
  mj_c1 (k_icgt (off := 61) (by decide +kernel) (by decide)) <|
  mj_c1 (k_iconst (by decide +kernel)) <|
  mj_c1 (k_istore (by decide +kernel) (by decide)) <|
  mj_c1 (k_iload (by decide +kernel)) <|
  mj_c1 (k_aloadn (k := 0) (by decide +kernel) rfl) <|
  mj_c1 (k_gR (idx := 20) h_M (by decide) rfl w_852 (by decide +kernel)) <|
  mj_c1 (k_iconst (by decide +kernel)) <|
  mj_c1 (k_ial (by decide +kernel)) <|
  mj_c1 (k_icge (off := 41) (by decide +kernel) (by decide)) <|
  mj_c1 (k_aloadn (k := 0) (by decide +kernel) rfl) <|
  mj_c1 (k_gR (idx := 53) h_M (by decide) rfl w_863 (by decide +kernel)) <|
  mj_c1 (k_sipush (by decide +kernel) (by decide)) <|
  mj_c1 (k_iload (by decide +kernel)) <|
  mj_c1 (k_iadd (by decide +kernel)) <|
  mj_c1 (k_ial (by decide +kernel)) <|
  mj_c1 (k_iload (by decide +kernel)) <|
  mj_c1 (k_iceq (off := 6) (by decide +kernel) (by decide)) <|
  mj_c1 (k_goto (off := 16) (by decide +kernel) (by decide)) <|
  mj_c1 (k_aloadn (k := 0) (by decide +kernel) rfl) <|
  mj_c1 (k_gR (idx := 56) h_M (by decide) rfl w_864 (by decide +kernel)) <|
  mj_c1 (k_iloadn (k := 1) (by decide +kernel) rfl) <|
  mj_c1 (k_iloadn (k := 2) (by decide +kernel) rfl) <|
  mj_c1 (k_iadd (by decide +kernel)) <|
  mj_c1 (k_iload (by decide +kernel)) <|
  mj_c1 (k_ias (by decide +kernel)) <|
  mj_c1 (k_iinc (by decide +kernel) (by decide)) <|
  mj_c1 (k_iinc (by decide +kernel) (by decide)) <|
  mj_c1 (k_goto (off := -46) (by decide +kernel) (by decide)) <|
  mj_c1 (k_iinc (by decide +kernel) (by decide)) <|
  mj_c1 (k_goto (off := -66) (by decide +kernel) (by decide)) <|
  mj_c1 (k_iloadn (k := 2) (by decide +kernel) rfl) <|
  mj_c1 (k_iret (by decide +kernel) rfl) mj_c0
def q_M_rowAt : List (Nat × mj_Sem) := [(0, o_al 0 1), (1, o_gR 6 16 4), (4, o_ic 1001 7), (7, o_il 1 8), (8, o_imul 9), (9, o_il 2 10), (10, o_ic 2 11), (11, o_idiv 12), (12, o_iadd 13), (13, o_ial 14), (14, o_iret 0 0)]
set_option maxRecDepth 100000 in
theorem z_M_rowAt : mj_Code (m_M_rowAt) (q_M_rowAt) :=
  mj_c1 (k_aloadn (k := 0) (by decide +kernel) rfl) <|
  mj_c1 (k_gR (idx := 50) h_M (by decide) rfl w_862 (by decide +kernel)) <|
  mj_c1 (k_sipush (by decide +kernel) (by decide)) <|
  mj_c1 (k_iloadn (k := 1) (by decide +kernel) rfl) <|
  mj_c1 (k_imul (by decide +kernel)) <|
  mj_c1 (k_iloadn (k := 2) (by decide +kernel) rfl) <|
  mj_c1 (k_iconst (by decide +kernel)) <|
  mj_c1 (k_idiv (by decide +kernel)) <|
  mj_c1 (k_iadd (by decide +kernel)) <|
  mj_c1 (k_ial (by decide +kernel)) <|
  mj_c1 (k_iret (by decide +kernel) rfl) mj_c0
def q_M_comesBack : List (Nat × mj_Sem) := [(0, o_ic 0 1), (1, o_is 2 2), (2, o_il 2 3), (3, o_ic 315 6), (6, o_icge 22 9), (9, o_al 0 10), (10, o_gR 6 25 13), (13, o_il 2 14), (14, o_ic 0 15), (15, o_zas 16), (16, o_inc 2 1 19), (19, o_goto 2), (22, o_al 0 23), (23, o_gR 6 25 26), (26, o_al 0 27), (27, o_ic 2 28), (28, o_al 0 29), (29, o_gR 6 13 32), (32, o_ic 600 35), (35, o_il 1 36), (36, o_iadd 37), (37, o_ial 38), (38, o_call m_M_rowAt 3 0 0 41 (mj_rv 6)), (41, o_ic 1 42), (42, o_zas 43), (43, o_al 0 44), (44, o_gR 6 25 47), (47, o_al 0 48), (48, o_ic 2 49), (49, o_al 0 50), (50, o_gR 6 14 53), (53, o_ic 600 56), (56, o_il 1 57), (57, o_iadd 58), (58, o_ial 59), (59, o_call m_M_rowAt 3 0 0 62 (mj_rv 6)), (62, o_ic 1 63), (63, o_zas 64), (64, o_ic 1 65), (65, o_is 2 66), (66, o_il 2 67), (67, o_ifeq 188 70), (70, o_ic 0 71), (71, o_is 2 72), (72, o_ic 0 73), (73, o_is 3 74), (74, o_il 3 75), (75, o_al 0 76), (76, o_gR 6 6 79), (79, o_ic 2 80), (80, o_ial 81), (81, o_icge 185 84), (84, o_al 0 85), (85, o_gR 6 25 88), (88, o_ic 15 90), (90, o_il 3 91), (91, o_iadd 92), (92, o_zal 93), (93, o_ifne 99 96), (96, o_goto 179), (99, o_al 0 100), (100, o_ic 2 101), (101, o_al 0 102), (102, o_gR 6 13 105), (105, o_ic 600 108), (108, o_il 3 109), (109, o_iadd 110), (110, o_ial 111), (111, o_call m_M_rowAt 3 0 0 114 (mj_rv 6)), (114, o_is 4 116), (116, o_al 0 117), (117, o_ic 2 118), (118, o_al 0 119), (119, o_gR 6 14 122), (122, o_ic 600 125), (125, o_il 3 126), (126, o_iadd 127), (127, o_ial 128), (128, o_call m_M_rowAt 3 0 0 131 (mj_rv 6)), (131, o_is 5 133), (133, o_il 2 134), (134, o_ifne 157 137), (137, o_al 0 138), (138, o_gR 6 25 141), (141, o_il 4 143), (143, o_zal 144), (144, o_ifeq 157 147), (147, o_al 0 148), (148, o_gR 6 25 151), (151, o_il 5 153), (153, o_zal 154), (154, o_ifne 161 157), (157, o_ic 1 158), (158, o_goto 162), (161, o_ic 0 162), (162, o_is 2 163), (163, o_al 0 164), (164, o_gR 6 25 167), (167, o_il 4 169), (169, o_ic 1 170), (170, o_zas 171), (171, o_al 0 172), (172, o_gR 6 25 175), (175, o_il 5 177), (177, o_ic 1 178), (178, o_zas 179), (179, o_inc 3 1 182), (182, o_goto 74), (185, o_goto 66), (188, o_al 0 189), (189, o_gR 6 25 192), (192, o_ic 15 194), (194, o_il 1 195), (195, o_iadd 196), (196, o_zal 197), (197, o_zret 0 0)]
set_option maxRecDepth 100000 in
theorem z_M_comesBack : mj_Code (m_M_comesBack) (q_M_comesBack) :=
  mj_c1 (k_iconst (by decide +kernel)) <|
  mj_c1 (k_istoren (k := 2) (by decide +kernel) rfl (by decide)) <|
  mj_c1 (k_iloadn (k := 2) (by decide +kernel) rfl) <|
  mj_c1 (k_sipush (by decide +kernel) (by decide)) <|
  mj_c1 (k_icge (off := 16) (by decide +kernel) (by decide)) <|
  mj_c1 (k_aloadn (k := 0) (by decide +kernel) rfl) <|
  mj_c1 (k_gR (idx := 70) h_M (by decide) rfl w_871 (by decide +kernel)) <|
  mj_c1 (k_iloadn (k := 2) (by decide +kernel) rfl) <|
  mj_c1 (k_iconst (by decide +kernel)) <|
  mj_c1 (k_zas (by decide +kernel)) <|
  mj_c1 (k_iinc (by decide +kernel) (by decide)) <|
  mj_c1 (k_goto (off := -17) (by decide +kernel) (by decide)) <|
  mj_c1 (k_aloadn (k := 0) (by decide +kernel) rfl) <|
  mj_c1 (k_gR (idx := 70) h_M (by decide) rfl w_871 (by decide +kernel)) <|
  mj_c1 (k_aloadn (k := 0) (by decide +kernel) rfl) <|
  mj_c1 (k_iconst (by decide +kernel)) <|
  mj_c1 (k_aloadn (k := 0) (by decide +kernel) rfl) <|
  mj_c1 (k_gR (idx := 41) h_M (by decide) rfl w_859 (by decide +kernel)) <|
  mj_c1 (k_sipush (by decide +kernel) (by decide)) <|
  mj_c1 (k_iloadn (k := 1) (by decide +kernel) rfl) <|
  mj_c1 (k_iadd (by decide +kernel)) <|
  mj_c1 (k_ial (by decide +kernel)) <|
  mj_c1 (k_callV (idx := 141) (by decide +kernel) (fit_m_M_comesBack_m_M_rowAt) rfl rfl w_1023 w_1025 v_66 (by decide) (by decide +kernel)) <|
  mj_c1 (k_iconst (by decide +kernel)) <|
  mj_c1 (k_zas (by decide +kernel)) <|
  mj_c1 (k_aloadn (k := 0) (by decide +kernel) rfl) <|
  mj_c1 (k_gR (idx := 70) h_M (by decide) rfl w_871 (by decide +kernel)) <|
  mj_c1 (k_aloadn (k := 0) (by decide +kernel) rfl) <|
  mj_c1 (k_iconst (by decide +kernel)) <|
  mj_c1 (k_aloadn (k := 0) (by decide +kernel) rfl) <|
  mj_c1 (k_gR (idx := 44) h_M (by decide) rfl w_860 (by decide +kernel)) <|
  mj_c1 (k_sipush (by decide +kernel) (by decide)) <|
  mj_c1 (k_iloadn (k := 1) (by decide +kernel) rfl) <|
  mj_c1 (k_iadd (by decide +kernel)) <|
  mj_c1 (k_ial (by decide +kernel)) <|
  mj_c1 (k_callV (idx := 141) (by decide +kernel) (fit_m_M_comesBack_m_M_rowAt) rfl rfl w_1023 w_1025 v_66 (by decide) (by decide +kernel)) <|
  mj_c1 (k_iconst (by decide +kernel)) <|
  mj_c1 (k_zas (by decide +kernel)) <|
  mj_c1 (k_iconst (by decide +kernel)) <|
  mj_c1 (k_istoren (k := 2) (by decide +kernel) rfl (by decide)) <|
  mj_c1 (k_iloadn (k := 2) (by decide +kernel) rfl) <|
  mj_c1 (k_ifeq (off := 121) (by decide +kernel) (by decide)) <|
  mj_c1 (k_iconst (by decide +kernel)) <|
  mj_c1 (k_istoren (k := 2) (by decide +kernel) rfl (by decide)) <|
  mj_c1 (k_iconst (by decide +kernel)) <|
  mj_c1 (k_istoren (k := 3) (by decide +kernel) rfl (by decide)) <|
  mj_c1 (k_iloadn (k := 3) (by decide +kernel) rfl) <|
  mj_c1 (k_aloadn (k := 0) (by decide +kernel) rfl) <|
  mj_c1 (k_gR (idx := 20) h_M (by decide) rfl w_852 (by decide +kernel)) <|
  mj_c1 (k_iconst (by decide +kernel)) <|
  mj_c1 (k_ial (by decide +kernel)) <|
  mj_c1 (k_icge (off := 104) (by decide +kernel) (by decide)) <|
  mj_c1 (k_aloadn (k := 0) (by decide +kernel) rfl) <|
  mj_c1 (k_gR (idx := 70) h_M (by decide) rfl w_871 (by decide +kernel)) <|
  mj_c1 (k_bipush (by decide +kernel) (by decide)) <|
  mj_c1 (k_iloadn (k := 3) (by decide +kernel) rfl) <|
  mj_c1 (k_iadd (by decide +kernel)) <|
  mj_c1 (k_zal (by decide +kernel)) <|
  mj_c1 (k_ifne (off := 6) (by decide +kernel) (by decide)) <|
  mj_c1 (k_goto (off := 83) (by decide +kernel) (by decide)) <|
  mj_c1 (k_aloadn (k := 0) (by decide +kernel) rfl) <|
  mj_c1 (k_iconst (by decide +kernel)) <|
  mj_c1 (k_aloadn (k := 0) (by decide +kernel) rfl) <|
  mj_c1 (k_gR (idx := 41) h_M (by decide) rfl w_859 (by decide +kernel)) <|
  mj_c1 (k_sipush (by decide +kernel) (by decide)) <|
  mj_c1 (k_iloadn (k := 3) (by decide +kernel) rfl) <|
  mj_c1 (k_iadd (by decide +kernel)) <|
  mj_c1 (k_ial (by decide +kernel)) <|
  mj_c1 (k_callV (idx := 141) (by decide +kernel) (fit_m_M_comesBack_m_M_rowAt) rfl rfl w_1023 w_1025 v_66 (by decide) (by decide +kernel)) <|
  mj_c1 (k_istore (by decide +kernel) (by decide)) <|
  mj_c1 (k_aloadn (k := 0) (by decide +kernel) rfl) <|
  mj_c1 (k_iconst (by decide +kernel)) <|
  mj_c1 (k_aloadn (k := 0) (by decide +kernel) rfl) <|
  mj_c1 (k_gR (idx := 44) h_M (by decide) rfl w_860 (by decide +kernel)) <|
  mj_c1 (k_sipush (by decide +kernel) (by decide)) <|
  mj_c1 (k_iloadn (k := 3) (by decide +kernel) rfl) <|
  mj_c1 (k_iadd (by decide +kernel)) <|
  mj_c1 (k_ial (by decide +kernel)) <|
  mj_c1 (k_callV (idx := 141) (by decide +kernel) (fit_m_M_comesBack_m_M_rowAt) rfl rfl w_1023 w_1025 v_66 (by decide) (by decide +kernel)) <|
  mj_c1 (k_istore (by decide +kernel) (by decide)) <|
  mj_c1 (k_iloadn (k := 2) (by decide +kernel) rfl) <|
  mj_c1 (k_ifne (off := 23) (by decide +kernel) (by decide)) <|
  mj_c1 (k_aloadn (k := 0) (by decide +kernel) rfl) <|
  mj_c1 (k_gR (idx := 70) h_M (by decide) rfl w_871 (by decide +kernel)) <|
  mj_c1 (k_iload (by decide +kernel)) <|
  mj_c1 (k_zal (by decide +kernel)) <|
  mj_c1 (k_ifeq (off := 13) (by decide +kernel) (by decide)) <|
  mj_c1 (k_aloadn (k := 0) (by decide +kernel) rfl) <|
  mj_c1 (k_gR (idx := 70) h_M (by decide) rfl w_871 (by decide +kernel)) <|
  mj_c1 (k_iload (by decide +kernel)) <|
  mj_c1 (k_zal (by decide +kernel)) <|
  mj_c1 (k_ifne (off := 7) (by decide +kernel) (by decide)) <|
  mj_c1 (k_iconst (by decide +kernel)) <|
  mj_c1 (k_goto (off := 4) (by decide +kernel) (by decide)) <|
  mj_c1 (k_iconst (by decide +kernel)) <|
  mj_c1 (k_istoren (k := 2) (by decide +kernel) rfl (by decide)) <|
  mj_c1 (k_aloadn (k := 0) (by decide +kernel) rfl) <|
  mj_c1 (k_gR (idx := 70) h_M (by decide) rfl w_871 (by decide +kernel)) <|
  mj_c1 (k_iload (by decide +kernel)) <|
  mj_c1 (k_iconst (by decide +kernel)) <|
  mj_c1 (k_zas (by decide +kernel)) <|
  mj_c1 (k_aloadn (k := 0) (by decide +kernel) rfl) <|
  mj_c1 (k_gR (idx := 70) h_M (by decide) rfl w_871 (by decide +kernel)) <|
  mj_c1 (k_iload (by decide +kernel)) <|
  mj_c1 (k_iconst (by decide +kernel)) <|
  mj_c1 (k_zas (by decide +kernel)) <|
  mj_c1 (k_iinc (by decide +kernel) (by decide)) <|
  mj_c1 (k_goto (off := -108) (by decide +kernel) (by decide)) <|
  mj_c1 (k_goto (off := -119) (by decide +kernel) (by decide)) <|
  mj_c1 (k_aloadn (k := 0) (by decide +kernel) rfl) <|
  mj_c1 (k_gR (idx := 70) h_M (by decide) rfl w_871 (by decide +kernel)) <|
  mj_c1 (k_bipush (by decide +kernel) (by decide)) <|
  mj_c1 (k_iloadn (k := 1) (by decide +kernel) rfl) <|
  mj_c1 (k_iadd (by decide +kernel)) <|
  mj_c1 (k_zal (by decide +kernel)) <|
  mj_c1 (k_zret (by decide +kernel) rfl) mj_c0
def q_M_take : List (Nat × mj_Sem) := [(0, o_al 0 1), (1, o_gR 6 5 4), (4, o_il 1 5), (5, o_al 0 6), (6, o_gR 6 5 9), (9, o_ic 2 10), (10, o_ial 11), (11, o_ias 12), (12, o_al 0 13), (13, o_gR 6 6 16), (16, o_il 1 17), (17, o_al 0 18), (18, o_gR 6 6 21), (21, o_ic 2 22), (22, o_ial 23), (23, o_ias 24), (24, o_al 0 25), (25, o_gR 6 7 28), (28, o_il 1 29), (29, o_al 0 30), (30, o_gR 6 7 33), (33, o_ic 2 34), (34, o_ial 35), (35, o_ias 36), (36, o_al 0 37), (37, o_gR 6 8 40), (40, o_il 1 41), (41, o_al 0 42), (42, o_gR 6 8 45), (45, o_ic 2 46), (46, o_ial 47), (47, o_ias 48), (48, o_ic 0 49), (49, o_is 2 50), (50, o_il 2 51), (51, o_ic 14 53), (53, o_icge 82 56), (56, o_al 0 57), (57, o_gR 6 11 60), (60, o_ic 14 62), (62, o_il 1 63), (63, o_imul 64), (64, o_il 2 65), (65, o_iadd 66), (66, o_al 0 67), (67, o_gR 6 11 70), (70, o_ic 28 72), (72, o_il 2 73), (73, o_iadd 74), (74, o_ial 75), (75, o_ias 76), (76, o_inc 2 1 79), (79, o_goto 50), (82, o_ic 0 83), (83, o_is 2 84), (84, o_il 2 85), (85, o_ic 16 87), (87, o_icge 116 90), (90, o_al 0 91), (91, o_gR 6 15 94), (94, o_ic 16 96), (96, o_il 1 97), (97, o_imul 98), (98, o_il 2 99), (99, o_iadd 100), (100, o_al 0 101), (101, o_gR 6 15 104), (104, o_ic 32 106), (106, o_il 2 107), (107, o_iadd 108), (108, o_ial 109), (109, o_ias 110), (110, o_inc 2 1 113), (113, o_goto 84), (116, o_ic 0 117), (117, o_is 2 118), (118, o_il 2 119), (119, o_ic 300 122), (122, o_icge 219 125), (125, o_al 0 126), (126, o_gR 6 12 129), (129, o_ic 300 132), (132, o_il 1 133), (133, o_imul 134), (134, o_il 2 135), (135, o_iadd 136), (136, o_al 0 137), (137, o_gR 6 12 140), (140, o_ic 600 143), (143, o_il 2 144), (144, o_iadd 145), (145, o_ial 146), (146, o_ias 147), (147, o_al 0 148), (148, o_gR 6 13 151), (151, o_ic 300 154), (154, o_il 1 155), (155, o_imul 156), (156, o_il 2 157), (157, o_iadd 158), (158, o_al 0 159), (159, o_gR 6 13 162), (162, o_ic 600 165), (165, o_il 2 166), (166, o_iadd 167), (167, o_ial 168), (168, o_ias 169), (169, o_al 0 170), (170, o_gR 6 14 173), (173, o_ic 300 176), (176, o_il 1 177), (177, o_imul 178), (178, o_il 2 179), (179, o_iadd 180), (180, o_al 0 181), (181, o_gR 6 14 184), (184, o_ic 600 187), (187, o_il 2 188), (188, o_iadd 189), (189, o_ial 190), (190, o_ias 191), (191, o_al 0 192), (192, o_gR 6 18 195), (195, o_ic 300 198), (198, o_il 1 199), (199, o_imul 200), (200, o_il 2 201), (201, o_iadd 202), (202, o_al 0 203), (203, o_gR 6 18 206), (206, o_ic 600 209), (209, o_il 2 210), (210, o_iadd 211), (211, o_ial 212), (212, o_ias 213), (213, o_inc 2 1 216), (216, o_goto 118), (219, o_ic 0 220), (220, o_is 2 221), (221, o_il 2 222), (222, o_ic 1000 225), (225, o_icgt 256 228), (228, o_al 0 229), (229, o_gR 6 16 232), (232, o_ic 1001 235), (235, o_il 1 236), (236, o_imul 237), (237, o_il 2 238), (238, o_iadd 239), (239, o_al 0 240), (240, o_gR 6 16 243), (243, o_ic 2002 246), (246, o_il 2 247), (247, o_iadd 248), (248, o_ial 249), (249, o_ias 250), (250, o_inc 2 1 253), (253, o_goto 221), (256, o_ic 0 257), (257, o_is 2 258), (258, o_il 2 259), (259, o_ic 315 262), (262, o_icge 293 265), (265, o_al 0 266), (266, o_gR 6 17 269), (269, o_ic 315 272), (272, o_il 1 273), (273, o_imul 274), (274, o_il 2 275), (275, o_iadd 276), (276, o_al 0 277), (277, o_gR 6 17 280), (280, o_ic 630 283), (283, o_il 2 284), (284, o_iadd 285), (285, o_ial 286), (286, o_ias 287), (287, o_inc 2 1 290), (290, o_goto 258), (293, o_al 0 294), (294, o_il 1 295), (295, o_call m_M_fillTables 2 0 0 298 (mj_rv 6)), (298, o_retv 0 0)]
set_option maxRecDepth 100000 in
theorem z_M_take : mj_Code (m_M_take) (q_M_take) :=
  mj_c1 (k_aloadn (k := 0) (by decide +kernel) rfl) <|
  mj_c1 (k_gR (idx := 16) h_M (by decide) rfl w_851 (by decide +kernel)) <|
  mj_c1 (k_iloadn (k := 1) (by decide +kernel) rfl) <|
  mj_c1 (k_aloadn (k := 0) (by decide +kernel) rfl) <|
  mj_c1 (k_gR (idx := 16) h_M (by decide) rfl w_851 (by decide +kernel)) <|
  mj_c1 (k_iconst (by decide +kernel)) <|
  mj_c1 (k_ial (by decide +kernel)) <|
  mj_c1 (k_ias (by decide +kernel)) <|
  mj_c1 (k_aloadn (k := 0) (by decide +kernel) rfl) <|
  mj_c1 (k_gR (idx := 20) h_M (by decide) rfl w_852 (by decide +kernel)) <|
  mj_c1 (k_iloadn (k := 1) (by decide +kernel) rfl) <|
  mj_c1 (k_aloadn (k := 0) (by decide +kernel) rfl) <|
  mj_c1 (k_gR (idx := 20) h_M (by decide) rfl w_852 (by decide +kernel)) <|
  mj_c1 (k_iconst (by decide +kernel)) <|
  mj_c1 (k_ial (by decide +kernel)) <|
  mj_c1 (k_ias (by decide +kernel)) <|
  mj_c1 (k_aloadn (k := 0) (by decide +kernel) rfl) <|
  mj_c1 (k_gR (idx := 23) h_M (by decide) rfl w_853 (by decide +kernel)) <|
  mj_c1 (k_iloadn (k := 1) (by decide +kernel) rfl) <|
  mj_c1 (k_aloadn (k := 0) (by decide +kernel) rfl) <|
  mj_c1 (k_gR (idx := 23) h_M (by decide) rfl w_853 (by decide +kernel)) <|
  mj_c1 (k_iconst (by decide +kernel)) <|
  mj_c1 (k_ial (by decide +kernel)) <|
  mj_c1 (k_ias (by decide +kernel)) <|
  mj_c1 (k_aloadn (k := 0) (by decide +kernel) rfl) <|
  mj_c1 (k_gR (idx := 26) h_M (by decide) rfl w_854 (by decide +kernel)) <|
  mj_c1 (k_iloadn (k := 1) (by decide +kernel) rfl) <|
  mj_c1 (k_aloadn (k := 0) (by decide +kernel) rfl) <|
  mj_c1 (k_gR (idx := 26) h_M (by decide) rfl w_854 (by decide +kernel)) <|
  mj_c1 (k_iconst (by decide +kernel)) <|
  mj_c1 (k_ial (by decide +kernel)) <|
  mj_c1 (k_ias (by decide +kernel)) <|
  mj_c1 (k_iconst (by decide +kernel)) <|
  mj_c1 (k_istoren (k := 2) (by decide +kernel) rfl (by decide)) <|
  mj_c1 (k_iloadn (k := 2) (by decide +kernel) rfl) <|
  mj_c1 (k_bipush (by decide +kernel) (by decide)) <|
  mj_c1 (k_icge (off := 29) (by decide +kernel) (by decide)) <|
  mj_c1 (k_aloadn (k := 0) (by decide +kernel) rfl) <|
  mj_c1 (k_gR (idx := 35) h_M (by decide) rfl w_857 (by decide +kernel)) <|
  mj_c1 (k_bipush (by decide +kernel) (by decide)) <|
  mj_c1 (k_iloadn (k := 1) (by decide +kernel) rfl) <|
  mj_c1 (k_imul (by decide +kernel)) <|
  mj_c1 (k_iloadn (k := 2) (by decide +kernel) rfl) <|
  mj_c1 (k_iadd (by decide +kernel)) <|
  mj_c1 (k_aloadn (k := 0) (by decide +kernel) rfl) <|
  mj_c1 (k_gR (idx := 35) h_M (by decide) rfl w_857 (by decide +kernel)) <|
  mj_c1 (k_bipush (by decide +kernel) (by decide)) <|
  mj_c1 (k_iloadn (k := 2) (by decide +kernel) rfl) <|
  mj_c1 (k_iadd (by decide +kernel)) <|
  mj_c1 (k_ial (by decide +kernel)) <|
  mj_c1 (k_ias (by decide +kernel)) <|
  mj_c1 (k_iinc (by decide +kernel) (by decide)) <|
  mj_c1 (k_goto (off := -29) (by decide +kernel) (by decide)) <|
  mj_c1 (k_iconst (by decide +kernel)) <|
  mj_c1 (k_istoren (k := 2) (by decide +kernel) rfl (by decide)) <|
  mj_c1 (k_iloadn (k := 2) (by decide +kernel) rfl) <|
  mj_c1 (k_bipush (by decide +kernel) (by decide)) <|
  mj_c1 (k_icge (off := 29) (by decide +kernel) (by decide)) <|
  mj_c1 (k_aloadn (k := 0) (by decide +kernel) rfl) <|
  mj_c1 (k_gR (idx := 47) h_M (by decide) rfl w_861 (by decide +kernel)) <|
  mj_c1 (k_bipush (by decide +kernel) (by decide)) <|
  mj_c1 (k_iloadn (k := 1) (by decide +kernel) rfl) <|
  mj_c1 (k_imul (by decide +kernel)) <|
  mj_c1 (k_iloadn (k := 2) (by decide +kernel) rfl) <|
  mj_c1 (k_iadd (by decide +kernel)) <|
  mj_c1 (k_aloadn (k := 0) (by decide +kernel) rfl) <|
  mj_c1 (k_gR (idx := 47) h_M (by decide) rfl w_861 (by decide +kernel)) <|
  mj_c1 (k_bipush (by decide +kernel) (by decide)) <|
  mj_c1 (k_iloadn (k := 2) (by decide +kernel) rfl) <|
  mj_c1 (k_iadd (by decide +kernel)) <|
  mj_c1 (k_ial (by decide +kernel)) <|
  mj_c1 (k_ias (by decide +kernel)) <|
  mj_c1 (k_iinc (by decide +kernel) (by decide)) <|
  mj_c1 (k_goto (off := -29) (by decide +kernel) (by decide)) <|
  mj_c1 (k_iconst (by decide +kernel)) <|
  mj_c1 (k_istoren (k := 2) (by decide +kernel) rfl (by decide)) <|
  mj_c1 (k_iloadn (k := 2) (by decide +kernel) rfl) <|
  mj_c1 (k_sipush (by decide +kernel) (by decide)) <|
  mj_c1 (k_icge (off := 97) (by decide +kernel) (by decide)) <|
  mj_c1 (k_aloadn (k := 0) (by decide +kernel) rfl) <|
  mj_c1 (k_gR (idx := 38) h_M (by decide) rfl w_858 (by decide +kernel)) <|
  mj_c1 (k_sipush (by decide +kernel) (by decide)) <|
  mj_c1 (k_iloadn (k := 1) (by decide +kernel) rfl) <|
  mj_c1 (k_imul (by decide +kernel)) <|
  mj_c1 (k_iloadn (k := 2) (by decide +kernel) rfl) <|
  mj_c1 (k_iadd (by decide +kernel)) <|
  mj_c1 (k_aloadn (k := 0) (by decide +kernel) rfl) <|
  mj_c1 (k_gR (idx := 38) h_M (by decide) rfl w_858 (by decide +kernel)) <|
  mj_c1 (k_sipush (by decide +kernel) (by decide)) <|
  mj_c1 (k_iloadn (k := 2) (by decide +kernel) rfl) <|
  mj_c1 (k_iadd (by decide +kernel)) <|
  mj_c1 (k_ial (by decide +kernel)) <|
  mj_c1 (k_ias (by decide +kernel)) <|
  mj_c1 (k_aloadn (k := 0) (by decide +kernel) rfl) <|
  mj_c1 (k_gR (idx := 41) h_M (by decide) rfl w_859 (by decide +kernel)) <|
  mj_c1 (k_sipush (by decide +kernel) (by decide)) <|
  mj_c1 (k_iloadn (k := 1) (by decide +kernel) rfl) <|
  mj_c1 (k_imul (by decide +kernel)) <|
  mj_c1 (k_iloadn (k := 2) (by decide +kernel) rfl) <|
  mj_c1 (k_iadd (by decide +kernel)) <|
  mj_c1 (k_aloadn (k := 0) (by decide +kernel) rfl) <|
  mj_c1 (k_gR (idx := 41) h_M (by decide) rfl w_859 (by decide +kernel)) <|
  mj_c1 (k_sipush (by decide +kernel) (by decide)) <|
  mj_c1 (k_iloadn (k := 2) (by decide +kernel) rfl) <|
  mj_c1 (k_iadd (by decide +kernel)) <|
  mj_c1 (k_ial (by decide +kernel)) <|
  mj_c1 (k_ias (by decide +kernel)) <|
  mj_c1 (k_aloadn (k := 0) (by decide +kernel) rfl) <|
  mj_c1 (k_gR (idx := 44) h_M (by decide) rfl w_860 (by decide +kernel)) <|
  mj_c1 (k_sipush (by decide +kernel) (by decide)) <|
  mj_c1 (k_iloadn (k := 1) (by decide +kernel) rfl) <|
  mj_c1 (k_imul (by decide +kernel)) <|
  mj_c1 (k_iloadn (k := 2) (by decide +kernel) rfl) <|
  mj_c1 (k_iadd (by decide +kernel)) <|
  mj_c1 (k_aloadn (k := 0) (by decide +kernel) rfl) <|
  mj_c1 (k_gR (idx := 44) h_M (by decide) rfl w_860 (by decide +kernel)) <|
  mj_c1 (k_sipush (by decide +kernel) (by decide)) <|
  mj_c1 (k_iloadn (k := 2) (by decide +kernel) rfl) <|
  mj_c1 (k_iadd (by decide +kernel)) <|
  mj_c1 (k_ial (by decide +kernel)) <|
  mj_c1 (k_ias (by decide +kernel)) <|
  mj_c1 (k_aloadn (k := 0) (by decide +kernel) rfl) <|
  mj_c1 (k_gR (idx := 56) h_M (by decide) rfl w_864 (by decide +kernel)) <|
  mj_c1 (k_sipush (by decide +kernel) (by decide)) <|
  mj_c1 (k_iloadn (k := 1) (by decide +kernel) rfl) <|
  mj_c1 (k_imul (by decide +kernel)) <|
  mj_c1 (k_iloadn (k := 2) (by decide +kernel) rfl) <|
  mj_c1 (k_iadd (by decide +kernel)) <|
  mj_c1 (k_aloadn (k := 0) (by decide +kernel) rfl) <|
  mj_c1 (k_gR (idx := 56) h_M (by decide) rfl w_864 (by decide +kernel)) <|
  mj_c1 (k_sipush (by decide +kernel) (by decide)) <|
  mj_c1 (k_iloadn (k := 2) (by decide +kernel) rfl) <|
  mj_c1 (k_iadd (by decide +kernel)) <|
  mj_c1 (k_ial (by decide +kernel)) <|
  mj_c1 (k_ias (by decide +kernel)) <|
  mj_c1 (k_iinc (by decide +kernel) (by decide)) <|
  mj_c1 (k_goto (off := -98) (by decide +kernel) (by decide)) <|
  mj_c1 (k_iconst (by decide +kernel)) <|
  mj_c1 (k_istoren (k := 2) (by decide +kernel) rfl (by decide)) <|
  mj_c1 (k_iloadn (k := 2) (by decide +kernel) rfl) <|
  mj_c1 (k_sipush (by decide +kernel) (by decide)) <|
  mj_c1 (k_icgt (off := 31) (by decide +kernel) (by decide)) <|
  mj_c1 (k_aloadn (k := 0) (by decide +kernel) rfl) <|
  mj_c1 (k_gR (idx := 50) h_M (by decide) rfl w_862 (by decide +kernel)) <|
  mj_c1 (k_sipush (by decide +kernel) (by decide)) <|
  mj_c1 (k_iloadn (k := 1) (by decide +kernel) rfl) <|
  mj_c1 (k_imul (by decide +kernel)) <|
  mj_c1 (k_iloadn (k := 2) (by decide +kernel) rfl) <|
  mj_c1 (k_iadd (by decide +kernel)) <|
  mj_c1 (k_aloadn (k := 0) (by decide +kernel) rfl) <|
  mj_c1 (k_gR (idx := 50) h_M (by decide) rfl w_862 (by decide +kernel)) <|
  mj_c1 (k_sipush (by decide +kernel) (by decide)) <|
  mj_c1 (k_iloadn (k := 2) (by decide +kernel) rfl) <|
  mj_c1 (k_iadd (by decide +kernel)) <|
  mj_c1 (k_ial (by decide +kernel)) <|
  mj_c1 (k_ias (by decide +kernel)) <|
  mj_c1 (k_iinc (by decide +kernel) (by decide)) <|
  mj_c1 (k_goto (off := -32) (by decide +kernel) (by decide)) <|
  mj_c1 (k_iconst (by decide +kernel)) <|
  mj_c1 (k_istoren (k := 2) (by decide +kernel) rfl (by decide)) <|
  mj_c1 (k_iloadn (k := 2) (by decide +kernel) rfl) <|
  mj_c1 (k_sipush (by decide +kernel) (by decide)) <|
  mj_c1 (k_icge (off := 31) (by decide +kernel) (by decide)) <|
  mj_c1 (k_aloadn (k := 0) (by decide +kernel) rfl) <|
  mj_c1 (k_gR (idx := 53) h_M (by decide) rfl w_863 (by decide +kernel)) <|
  mj_c1 (k_sipush (by decide +kernel) (by decide)) <|
  mj_c1 (k_iloadn (k := 1) (by decide +kernel) rfl) <|
  mj_c1 (k_imul (by decide +kernel)) <|
  mj_c1 (k_iloadn (k := 2) (by decide +kernel) rfl) <|
  mj_c1 (k_iadd (by decide +kernel)) <|
  mj_c1 (k_aloadn (k := 0) (by decide +kernel) rfl) <|
  mj_c1 (k_gR (idx := 53) h_M (by decide) rfl w_863 (by decide +kernel)) <|
  mj_c1 (k_sipush (by decide +kernel) (by decide)) <|
  mj_c1 (k_iloadn (k := 2) (by decide +kernel) rfl) <|
  mj_c1 (k_iadd (by decide +kernel)) <|
  mj_c1 (k_ial (by decide +kernel)) <|
  mj_c1 (k_ias (by decide +kernel)) <|
  mj_c1 (k_iinc (by decide +kernel) (by decide)) <|
  mj_c1 (k_goto (off := -32) (by decide +kernel) (by decide)) <|
  mj_c1 (k_aloadn (k := 0) (by decide +kernel) rfl) <|
  mj_c1 (k_iloadn (k := 1) (by decide +kernel) rfl) <|
  mj_c1 (k_callV (idx := 176) (by decide +kernel) (fit_m_M_take_m_M_fillTables) rfl rfl w_1035 w_1037 v_69 (by decide) (by decide +kernel)) <|
  mj_c1 (k_retv (by decide +kernel) rfl) mj_c0
def q_M_fillTables : List (Nat × mj_Sem) := [(0, o_ic 0 1), (1, o_is 2 2), (2, o_il 2 3), (3, o_al 0 4), (4, o_gR 6 5 7), (7, o_il 1 8), (8, o_ial 9), (9, o_icge 102 12), (12, o_ic 0 13), (13, o_is 3 14), (14, o_il 3 15), (15, o_al 0 16), (16, o_il 1 17), (17, o_call m_M_words 2 0 0 20 (mj_rv 6)), (20, o_icge 96 23), (23, o_lc 0#64 24), (24, o_ls 4 26), (26, o_ic 0 27), (27, o_is 6 29), (29, o_il 6 31), (31, o_ic 64 33), (33, o_icge 62 36), (36, o_ll 4 38), (38, o_ic 64 40), (40, o_il 3 41), (41, o_imul 42), (42, o_il 6 44), (44, o_iadd 45), (45, o_il 2 46), (46, o_ishr 47), (47, o_ic 1 48), (48, o_iand 49), (49, o_i2l 50), (50, o_il 6 52), (52, o_lshl 53), (53, o_lor 54), (54, o_ls 4 56), (56, o_inc 6 1 59), (59, o_goto 29), (62, o_al 0 63), (63, o_gR 6 19 66), (66, o_ic 256 69), (69, o_ic 315 72), (72, o_il 1 73), (73, o_imul 74), (74, o_ic 1 75), (75, o_iadd 76), (76, o_il 2 77), (77, o_iadd 78), (78, o_imul 79), (79, o_il 3 80), (80, o_iadd 81), (81, o_ll 4 83), (83, o_al 0 84), (84, o_il 1 85), (85, o_call m_M_mask 2 0 0 88 (mj_rv 6)), (88, o_land 89), (89, o_las 90), (90, o_inc 3 1 93), (93, o_goto 14), (96, o_inc 2 1 99), (99, o_goto 2), (102, o_ic 0 103), (103, o_is 2 104), (104, o_il 2 105), (105, o_al 0 106), (106, o_gR 6 6 109), (109, o_il 1 110), (110, o_ial 111), (111, o_icge 213 114), (114, o_al 0 115), (115, o_gR 6 18 118), (118, o_ic 300 121), (121, o_il 1 122), (122, o_imul 123), (123, o_il 2 124), (124, o_iadd 125), (125, o_ial 126), (126, o_is 3 127), (127, o_ic 0 128), (128, o_is 4 130), (130, o_il 4 132), (132, o_al 0 133), (133, o_il 1 134), (134, o_call m_M_words 2 0 0 137 (mj_rv 6)), (137, o_icge 207 140), (140, o_al 0 141), (141, o_gR 6 19 144), (144, o_ic 256 147), (147, o_ic 315 150), (150, o_il 1 151), (151, o_imul 152), (152, o_ic 15 154), (154, o_iadd 155), (155, o_il 3 156), (156, o_iadd 157), (157, o_imul 158), (158, o_il 4 160), (160, o_iadd 161), (161, o_al 0 162), (162, o_il 1 163), (163, o_al 0 164), (164, o_gR 6 13 167), (167, o_ic 300 170), (170, o_il 1 171), (171, o_imul 172), (172, o_il 3 173), (173, o_iadd 174), (174, o_ial 175), (175, o_il 4 177), (177, o_call m_M_word 4 0 0 180 (mj_rv 6)), (180, o_al 0 181), (181, o_il 1 182), (182, o_al 0 183), (183, o_gR 6 14 186), (186, o_ic 300 189), (189, o_il 1 190), (190, o_imul 191), (191, o_il 3 192), (192, o_iadd 193), (193, o_ial 194), (194, o_il 4 196), (196, o_call m_M_word 4 0 0 199 (mj_rv 6)), (199, o_land 200), (200, o_las 201), (201, o_inc 4 1 204), (204, o_goto 130), (207, o_inc 2 1 210), (210, o_goto 104), (213, o_retv 0 0)]
set_option maxRecDepth 100000 in
theorem z_M_fillTables : mj_Code (m_M_fillTables) (q_M_fillTables) :=
  mj_c1 (k_iconst (by decide +kernel)) <|
  mj_c1 (k_istoren (k := 2) (by decide +kernel) rfl (by decide)) <|
  mj_c1 (k_iloadn (k := 2) (by decide +kernel) rfl) <|
  mj_c1 (k_aloadn (k := 0) (by decide +kernel) rfl) <|
  mj_c1 (k_gR (idx := 16) h_M (by decide) rfl w_851 (by decide +kernel)) <|
  mj_c1 (k_iloadn (k := 1) (by decide +kernel) rfl) <|
  mj_c1 (k_ial (by decide +kernel)) <|
  mj_c1 (k_icge (off := 93) (by decide +kernel) (by decide)) <|
  mj_c1 (k_iconst (by decide +kernel)) <|
  mj_c1 (k_istoren (k := 3) (by decide +kernel) rfl (by decide)) <|
  mj_c1 (k_iloadn (k := 3) (by decide +kernel) rfl) <|
  mj_c1 (k_aloadn (k := 0) (by decide +kernel) rfl) <|
  mj_c1 (k_iloadn (k := 1) (by decide +kernel) rfl) <|
  mj_c1 (k_callV (idx := 179) (by decide +kernel) (fit_m_M_fillTables_m_M_words) rfl rfl w_1039 w_1041 v_70 (by decide) (by decide +kernel)) <|
  mj_c1 (k_icge (off := 76) (by decide +kernel) (by decide)) <|
  mj_c1 (k_lconst (k := 0) (by decide +kernel) (by decide)) <|
  mj_c1 (k_lstore (by decide +kernel) (by decide)) <|
  mj_c1 (k_iconst (by decide +kernel)) <|
  mj_c1 (k_istore (by decide +kernel) (by decide)) <|
  mj_c1 (k_iload (by decide +kernel)) <|
  mj_c1 (k_bipush (by decide +kernel) (by decide)) <|
  mj_c1 (k_icge (off := 29) (by decide +kernel) (by decide)) <|
  mj_c1 (k_lload (by decide +kernel)) <|
  mj_c1 (k_bipush (by decide +kernel) (by decide)) <|
  mj_c1 (k_iloadn (k := 3) (by decide +kernel) rfl) <|
  mj_c1 (k_imul (by decide +kernel)) <|
  mj_c1 (k_iload (by decide +kernel)) <|
  mj_c1 (k_iadd (by decide +kernel)) <|
  mj_c1 (k_iloadn (k := 2) (by decide +kernel) rfl) <|
  mj_c1 (k_ishr (by decide +kernel)) <|
  mj_c1 (k_iconst (by decide +kernel)) <|
  mj_c1 (k_iand (by decide +kernel)) <|
  mj_c1 (k_i2l (by decide +kernel)) <|
  mj_c1 (k_iload (by decide +kernel)) <|
  mj_c1 (k_lshl (by decide +kernel)) <|
  mj_c1 (k_lor (by decide +kernel)) <|
  mj_c1 (k_lstore (by decide +kernel) (by decide)) <|
  mj_c1 (k_iinc (by decide +kernel) (by decide)) <|
  mj_c1 (k_goto (off := -30) (by decide +kernel) (by decide)) <|
  mj_c1 (k_aloadn (k := 0) (by decide +kernel) rfl) <|
  mj_c1 (k_gR (idx := 60) h_M (by decide) rfl w_865 (by decide +kernel)) <|
  mj_c1 (k_sipush (by decide +kernel) (by decide)) <|
  mj_c1 (k_sipush (by decide +kernel) (by decide)) <|
  mj_c1 (k_iloadn (k := 1) (by decide +kernel) rfl) <|
  mj_c1 (k_imul (by decide +kernel)) <|
  mj_c1 (k_iconst (by decide +kernel)) <|
  mj_c1 (k_iadd (by decide +kernel)) <|
  mj_c1 (k_iloadn (k := 2) (by decide +kernel) rfl) <|
  mj_c1 (k_iadd (by decide +kernel)) <|
  mj_c1 (k_imul (by decide +kernel)) <|
  mj_c1 (k_iloadn (k := 3) (by decide +kernel) rfl) <|
  mj_c1 (k_iadd (by decide +kernel)) <|
  mj_c1 (k_lload (by decide +kernel)) <|
  mj_c1 (k_aloadn (k := 0) (by decide +kernel) rfl) <|
  mj_c1 (k_iloadn (k := 1) (by decide +kernel) rfl) <|
  mj_c1 (k_callV (idx := 183) (by decide +kernel) (fit_m_M_fillTables_m_M_mask) rfl rfl w_1043 w_1045 v_71 (by decide) (by decide +kernel)) <|
  mj_c1 (k_land (by decide +kernel)) <|
  mj_c1 (k_las (by decide +kernel)) <|
  mj_c1 (k_iinc (by decide +kernel) (by decide)) <|
  mj_c1 (k_goto (off := -79) (by decide +kernel) (by decide)) <|
  mj_c1 (k_iinc (by decide +kernel) (by decide)) <|
  mj_c1 (k_goto (off := -97) (by decide +kernel) (by decide)) <|
  mj_c1 (k_iconst (by decide +kernel)) <|
  mj_c1 (k_istoren (k := 2) (by decide +kernel) rfl (by decide)) <|
  mj_c1 (k_iloadn (k := 2) (by decide +kernel) rfl) <|
  mj_c1 (k_aloadn (k := 0) (by decide +kernel) rfl) <|
  mj_c1 (k_gR (idx := 20) h_M (by decide) rfl w_852 (by decide +kernel)) <|
  mj_c1 (k_iloadn (k := 1) (by decide +kernel) rfl) <|
  mj_c1 (k_ial (by decide +kernel)) <|
  mj_c1 (k_icge (off := 102) (by decide +kernel) (by decide)) <|
  mj_c1 (k_aloadn (k := 0) (by decide +kernel) rfl) <|
  mj_c1 (k_gR (idx := 56) h_M (by decide) rfl w_864 (by decide +kernel)) <|
  mj_c1 (k_sipush (by decide +kernel) (by decide)) <|
  mj_c1 (k_iloadn (k := 1) (by decide +kernel) rfl) <|
  mj_c1 (k_imul (by decide +kernel)) <|
  mj_c1 (k_iloadn (k := 2) (by decide +kernel) rfl) <|
  mj_c1 (k_iadd (by decide +kernel)) <|
  mj_c1 (k_ial (by decide +kernel)) <|
  mj_c1 (k_istoren (k := 3) (by decide +kernel) rfl (by decide)) <|
  mj_c1 (k_iconst (by decide +kernel)) <|
  mj_c1 (k_istore (by decide +kernel) (by decide)) <|
  mj_c1 (k_iload (by decide +kernel)) <|
  mj_c1 (k_aloadn (k := 0) (by decide +kernel) rfl) <|
  mj_c1 (k_iloadn (k := 1) (by decide +kernel) rfl) <|
  mj_c1 (k_callV (idx := 179) (by decide +kernel) (fit_m_M_fillTables_m_M_words) rfl rfl w_1039 w_1041 v_70 (by decide) (by decide +kernel)) <|
  mj_c1 (k_icge (off := 70) (by decide +kernel) (by decide)) <|
  mj_c1 (k_aloadn (k := 0) (by decide +kernel) rfl) <|
  mj_c1 (k_gR (idx := 60) h_M (by decide) rfl w_865 (by decide +kernel)) <|
  mj_c1 (k_sipush (by decide +kernel) (by decide)) <|
  mj_c1 (k_sipush (by decide +kernel) (by decide)) <|
  mj_c1 (k_iloadn (k := 1) (by decide +kernel) rfl) <|
  mj_c1 (k_imul (by decide +kernel)) <|
  mj_c1 (k_bipush (by decide +kernel) (by decide)) <|
  mj_c1 (k_iadd (by decide +kernel)) <|
  mj_c1 (k_iloadn (k := 3) (by decide +kernel) rfl) <|
  mj_c1 (k_iadd (by decide +kernel)) <|
  mj_c1 (k_imul (by decide +kernel)) <|
  mj_c1 (k_iload (by decide +kernel)) <|
  mj_c1 (k_iadd (by decide +kernel)) <|
  mj_c1 (k_aloadn (k := 0) (by decide +kernel) rfl) <|
  mj_c1 (k_iloadn (k := 1) (by decide +kernel) rfl) <|
  mj_c1 (k_aloadn (k := 0) (by decide +kernel) rfl) <|
  mj_c1 (k_gR (idx := 41) h_M (by decide) rfl w_859 (by decide +kernel)) <|
  mj_c1 (k_sipush (by decide +kernel) (by decide)) <|
  mj_c1 (k_iloadn (k := 1) (by decide +kernel) rfl) <|
  mj_c1 (k_imul (by decide +kernel)) <|
  mj_c1 (k_iloadn (k := 3) (by decide +kernel) rfl) <|
  mj_c1 (k_iadd (by decide +kernel)) <|
  mj_c1 (k_ial (by decide +kernel)) <|
  mj_c1 (k_iload (by decide +kernel)) <|
  mj_c1 (k_callV (idx := 187) (by decide +kernel) (fit_m_M_fillTables_m_M_word) rfl rfl w_1048 w_1050 v_72 (by decide) (by decide +kernel)) <|
  mj_c1 (k_aloadn (k := 0) (by decide +kernel) rfl) <|
  mj_c1 (k_iloadn (k := 1) (by decide +kernel) rfl) <|
  mj_c1 (k_aloadn (k := 0) (by decide +kernel) rfl) <|
  mj_c1 (k_gR (idx := 44) h_M (by decide) rfl w_860 (by decide +kernel)) <|
  mj_c1 (k_sipush (by decide +kernel) (by decide)) <|
  mj_c1 (k_iloadn (k := 1) (by decide +kernel) rfl) <|
  mj_c1 (k_imul (by decide +kernel)) <|
  mj_c1 (k_iloadn (k := 3) (by decide +kernel) rfl) <|
  mj_c1 (k_iadd (by decide +kernel)) <|
  mj_c1 (k_ial (by decide +kernel)) <|
  mj_c1 (k_iload (by decide +kernel)) <|
  mj_c1 (k_callV (idx := 187) (by decide +kernel) (fit_m_M_fillTables_m_M_word) rfl rfl w_1048 w_1050 v_72 (by decide) (by decide +kernel)) <|
  mj_c1 (k_land (by decide +kernel)) <|
  mj_c1 (k_las (by decide +kernel)) <|
  mj_c1 (k_iinc (by decide +kernel) (by decide)) <|
  mj_c1 (k_goto (off := -74) (by decide +kernel) (by decide)) <|
  mj_c1 (k_iinc (by decide +kernel) (by decide)) <|
  mj_c1 (k_goto (off := -106) (by decide +kernel) (by decide)) <|
  mj_c1 (k_retv (by decide +kernel) rfl) mj_c0
def q_M_words : List (Nat × mj_Sem) := [(0, o_al 0 1), (1, o_gR 6 5 4), (4, o_il 1 5), (5, o_ial 6), (6, o_ic 7 8), (8, o_icge 15 11), (11, o_ic 1 12), (12, o_goto 26), (15, o_ic 1 16), (16, o_al 0 17), (17, o_gR 6 5 20), (20, o_il 1 21), (21, o_ial 22), (22, o_ic 6 24), (24, o_isub 25), (25, o_ishl 26), (26, o_iret 0 0)]
set_option maxRecDepth 100000 in
theorem z_M_words : mj_Code (m_M_words) (q_M_words) :=
  mj_c1 (k_aloadn (k := 0) (by decide +kernel) rfl) <|
  mj_c1 (k_gR (idx := 16) h_M (by decide) rfl w_851 (by decide +kernel)) <|
  mj_c1 (k_iloadn (k := 1) (by decide +kernel) rfl) <|
  mj_c1 (k_ial (by decide +kernel)) <|
  mj_c1 (k_bipush (by decide +kernel) (by decide)) <|
  mj_c1 (k_icge (off := 7) (by decide +kernel) (by decide)) <|
  mj_c1 (k_iconst (by decide +kernel)) <|
  mj_c1 (k_goto (off := 14) (by decide +kernel) (by decide)) <|
  mj_c1 (k_iconst (by decide +kernel)) <|
  mj_c1 (k_aloadn (k := 0) (by decide +kernel) rfl) <|
  mj_c1 (k_gR (idx := 16) h_M (by decide) rfl w_851 (by decide +kernel)) <|
  mj_c1 (k_iloadn (k := 1) (by decide +kernel) rfl) <|
  mj_c1 (k_ial (by decide +kernel)) <|
  mj_c1 (k_bipush (by decide +kernel) (by decide)) <|
  mj_c1 (k_isub (by decide +kernel)) <|
  mj_c1 (k_ishl (by decide +kernel)) <|
  mj_c1 (k_iret (by decide +kernel) rfl) mj_c0
def q_M_mask : List (Nat × mj_Sem) := [(0, o_al 0 1), (1, o_gR 6 5 4), (4, o_il 1 5), (5, o_ial 6), (6, o_ic 5 7), (7, o_icle 16 10), (10, o_lc 0xFFFFFFFFFFFFFFFF#64 13), (13, o_goto 28), (16, o_lc 1#64 17), (17, o_ic 1 18), (18, o_al 0 19), (19, o_gR 6 5 22), (22, o_il 1 23), (23, o_ial 24), (24, o_ishl 25), (25, o_lshl 26), (26, o_lc 1#64 27), (27, o_lsub 28), (28, o_lret 0 0)]
set_option maxRecDepth 100000 in
theorem z_M_mask : mj_Code (m_M_mask) (q_M_mask) :=
  mj_c1 (k_aloadn (k := 0) (by decide +kernel) rfl) <|
  mj_c1 (k_gR (idx := 16) h_M (by decide) rfl w_851 (by decide +kernel)) <|
  mj_c1 (k_iloadn (k := 1) (by decide +kernel) rfl) <|
  mj_c1 (k_ial (by decide +kernel)) <|
  mj_c1 (k_iconst (by decide +kernel)) <|
  mj_c1 (k_icle (off := 9) (by decide +kernel) (by decide)) <|
  mj_c1 (k_ldc2 (idx := 191) (by decide +kernel) w_1047) <|
  mj_c1 (k_goto (off := 15) (by decide +kernel) (by decide)) <|
  mj_c1 (k_lconst (k := 1) (by decide +kernel) (by decide)) <|
  mj_c1 (k_iconst (by decide +kernel)) <|
  mj_c1 (k_aloadn (k := 0) (by decide +kernel) rfl) <|
  mj_c1 (k_gR (idx := 16) h_M (by decide) rfl w_851 (by decide +kernel)) <|
  mj_c1 (k_iloadn (k := 1) (by decide +kernel) rfl) <|
  mj_c1 (k_ial (by decide +kernel)) <|
  mj_c1 (k_ishl (by decide +kernel)) <|
  mj_c1 (k_lshl (by decide +kernel)) <|
  mj_c1 (k_lconst (k := 1) (by decide +kernel) (by decide)) <|
  mj_c1 (k_lsub (by decide +kernel)) <|
  mj_c1 (k_lret (by decide +kernel) rfl) mj_c0
def q_M_word : List (Nat × mj_Sem) := [(0, o_al 0 1), (1, o_gR 6 19 4), (4, o_ic 256 7), (7, o_ic 315 10), (10, o_il 1 11), (11, o_imul 12), (12, o_al 0 13), (13, o_il 1 14), (14, o_il 2 15), (15, o_call m_M_rowAt 3 0 0 18 (mj_rv 6)), (18, o_iadd 19), (19, o_imul 20), (20, o_il 3 21), (21, o_iadd 22), (22, o_lal 23), (23, o_ls 4 25), (25, o_il 2 26), (26, o_ic 2 27), (27, o_irem 28), (28, o_ic 1 29), (29, o_icne 47 32), (32, o_ll 4 34), (34, o_lc 0xFFFFFFFFFFFFFFFF#64 37), (37, o_lxor 38), (38, o_al 0 39), (39, o_il 1 40), (40, o_call m_M_mask 2 0 0 43 (mj_rv 6)), (43, o_land 44), (44, o_goto 49), (47, o_ll 4 49), (49, o_lret 0 0)]
set_option maxRecDepth 100000 in
theorem z_M_word : mj_Code (m_M_word) (q_M_word) :=
  mj_c1 (k_aloadn (k := 0) (by decide +kernel) rfl) <|
  mj_c1 (k_gR (idx := 60) h_M (by decide) rfl w_865 (by decide +kernel)) <|
  mj_c1 (k_sipush (by decide +kernel) (by decide)) <|
  mj_c1 (k_sipush (by decide +kernel) (by decide)) <|
  mj_c1 (k_iloadn (k := 1) (by decide +kernel) rfl) <|
  mj_c1 (k_imul (by decide +kernel)) <|
  mj_c1 (k_aloadn (k := 0) (by decide +kernel) rfl) <|
  mj_c1 (k_iloadn (k := 1) (by decide +kernel) rfl) <|
  mj_c1 (k_iloadn (k := 2) (by decide +kernel) rfl) <|
  mj_c1 (k_callV (idx := 141) (by decide +kernel) (fit_m_M_word_m_M_rowAt) rfl rfl w_1023 w_1025 v_66 (by decide) (by decide +kernel)) <|
  mj_c1 (k_iadd (by decide +kernel)) <|
  mj_c1 (k_imul (by decide +kernel)) <|
  mj_c1 (k_iloadn (k := 3) (by decide +kernel) rfl) <|
  mj_c1 (k_iadd (by decide +kernel)) <|
  mj_c1 (k_lal (by decide +kernel)) <|
  mj_c1 (k_lstore (by decide +kernel) (by decide)) <|
  mj_c1 (k_iloadn (k := 2) (by decide +kernel) rfl) <|
  mj_c1 (k_iconst (by decide +kernel)) <|
  mj_c1 (k_irem (by decide +kernel)) <|
  mj_c1 (k_iconst (by decide +kernel)) <|
  mj_c1 (k_icne (off := 18) (by decide +kernel) (by decide)) <|
  mj_c1 (k_lload (by decide +kernel)) <|
  mj_c1 (k_ldc2 (idx := 191) (by decide +kernel) w_1047) <|
  mj_c1 (k_lxor (by decide +kernel)) <|
  mj_c1 (k_aloadn (k := 0) (by decide +kernel) rfl) <|
  mj_c1 (k_iloadn (k := 1) (by decide +kernel) rfl) <|
  mj_c1 (k_callV (idx := 183) (by decide +kernel) (fit_m_M_word_m_M_mask) rfl rfl w_1043 w_1045 v_71 (by decide) (by decide +kernel)) <|
  mj_c1 (k_land (by decide +kernel)) <|
  mj_c1 (k_goto (off := 5) (by decide +kernel) (by decide)) <|
  mj_c1 (k_lload (by decide +kernel)) <|
  mj_c1 (k_lret (by decide +kernel) rfl) mj_c0
def q_M_literal : List (Nat × mj_Sem) := [(0, o_il 1 1), (1, o_call m_M_isCircuit 1 0 0 4 mj_rs), (4, o_ifne 11 7), (7, o_ic 1 8), (8, o_goto 12), (11, o_ic 0 12), (12, o_is 4 14), (14, o_il 4 16), (16, o_ifeq 23 19), (19, o_ic 0 20), (20, o_goto 65), (23, o_il 2 24), (24, o_ifne 36 27), (27, o_al 0 28), (28, o_gR 6 5 31), (31, o_il 1 32), (32, o_ial 33), (33, o_goto 65), (36, o_il 2 37), (37, o_ic 1 38), (38, o_icne 50 41), (41, o_al 0 42), (42, o_gR 6 6 45), (45, o_il 1 46), (46, o_ial 47), (47, o_goto 65), (50, o_il 2 51), (51, o_ic 2 52), (52, o_icne 64 55), (55, o_al 0 56), (56, o_gR 6 7 59), (59, o_il 1 60), (60, o_ial 61), (61, o_goto 65), (64, o_ic 0 65), (65, o_is 5 67), (67, o_al 0 68), (68, o_il 4 70), (70, o_il 3 71), (71, o_iflt 80 74), (74, o_il 3 75), (75, o_il 5 77), (77, o_iclt 84 80), (80, o_ic 1 81), (81, o_goto 85), (84, o_ic 0 85), (85, o_call m_M_throwing 3 0 0 88 (mj_rv 6)), (88, o_ifeq 93 91), (91, o_ic 0 92), (92, o_iret 0 0), (93, o_il 2 94), (94, o_ifne 111 97), (97, o_al 0 98), (98, o_gR 6 11 101), (101, o_ic 14 103), (103, o_il 1 104), (104, o_imul 105), (105, o_il 3 106), (106, o_iadd 107), (107, o_ial 108), (108, o_goto 142), (111, o_il 2 112), (112, o_ic 1 113), (113, o_icne 131 116), (116, o_al 0 117), (117, o_gR 6 12 120), (120, o_ic 300 123), (123, o_il 1 124), (124, o_imul 125), (125, o_il 3 126), (126, o_iadd 127), (127, o_ial 128), (128, o_goto 142), (131, o_al 0 132), (132, o_gR 6 15 135), (135, o_ic 16 137), (137, o_il 1 138), (138, o_imul 139), (139, o_il 3 140), (140, o_iadd 141), (141, o_ial 142), (142, o_iret 0 0)]
set_option maxRecDepth 100000 in
theorem z_M_literal : mj_Code (m_M_literal) (q_M_literal) :=
  mj_c1 (k_iloadn (k := 1) (by decide +kernel) rfl) <|
  mj_c1 (k_callS (idx := 166) (by decide +kernel) (fit_m_M_literal_m_M_isCircuit) rfl w_953 w_954 (by decide) (by decide +kernel)) <|
  mj_c1 (k_ifne (off := 7) (by decide +kernel) (by decide)) <|
  mj_c1 (k_iconst (by decide +kernel)) <|
  mj_c1 (k_goto (off := 4) (by decide +kernel) (by decide)) <|
  mj_c1 (k_iconst (by decide +kernel)) <|
  mj_c1 (k_istore (by decide +kernel) (by decide)) <|
  mj_c1 (k_iload (by decide +kernel)) <|
  mj_c1 (k_ifeq (off := 7) (by decide +kernel) (by decide)) <|
  mj_c1 (k_iconst (by decide +kernel)) <|
  mj_c1 (k_goto (off := 45) (by decide +kernel) (by decide)) <|
  mj_c1 (k_iloadn (k := 2) (by decide +kernel) rfl) <|
  mj_c1 (k_ifne (off := 12) (by decide +kernel) (by decide)) <|
  mj_c1 (k_aloadn (k := 0) (by decide +kernel) rfl) <|
  mj_c1 (k_gR (idx := 16) h_M (by decide) rfl w_851 (by decide +kernel)) <|
  mj_c1 (k_iloadn (k := 1) (by decide +kernel) rfl) <|
  mj_c1 (k_ial (by decide +kernel)) <|
  mj_c1 (k_goto (off := 32) (by decide +kernel) (by decide)) <|
  mj_c1 (k_iloadn (k := 2) (by decide +kernel) rfl) <|
  mj_c1 (k_iconst (by decide +kernel)) <|
  mj_c1 (k_icne (off := 12) (by decide +kernel) (by decide)) <|
  mj_c1 (k_aloadn (k := 0) (by decide +kernel) rfl) <|
  mj_c1 (k_gR (idx := 20) h_M (by decide) rfl w_852 (by decide +kernel)) <|
  mj_c1 (k_iloadn (k := 1) (by decide +kernel) rfl) <|
  mj_c1 (k_ial (by decide +kernel)) <|
  mj_c1 (k_goto (off := 18) (by decide +kernel) (by decide)) <|
  mj_c1 (k_iloadn (k := 2) (by decide +kernel) rfl) <|
  mj_c1 (k_iconst (by decide +kernel)) <|
  mj_c1 (k_icne (off := 12) (by decide +kernel) (by decide)) <|
  mj_c1 (k_aloadn (k := 0) (by decide +kernel) rfl) <|
  mj_c1 (k_gR (idx := 23) h_M (by decide) rfl w_853 (by decide +kernel)) <|
  mj_c1 (k_iloadn (k := 1) (by decide +kernel) rfl) <|
  mj_c1 (k_ial (by decide +kernel)) <|
  mj_c1 (k_goto (off := 4) (by decide +kernel) (by decide)) <|
  mj_c1 (k_iconst (by decide +kernel)) <|
  mj_c1 (k_istore (by decide +kernel) (by decide)) <|
  mj_c1 (k_aloadn (k := 0) (by decide +kernel) rfl) <|
  mj_c1 (k_iload (by decide +kernel)) <|
  mj_c1 (k_iloadn (k := 3) (by decide +kernel) rfl) <|
  mj_c1 (k_iflt (off := 9) (by decide +kernel) (by decide)) <|
  mj_c1 (k_iloadn (k := 3) (by decide +kernel) rfl) <|
  mj_c1 (k_iload (by decide +kernel)) <|
  mj_c1 (k_iclt (off := 7) (by decide +kernel) (by decide)) <|
  mj_c1 (k_iconst (by decide +kernel)) <|
  mj_c1 (k_goto (off := 4) (by decide +kernel) (by decide)) <|
  mj_c1 (k_iconst (by decide +kernel)) <|
  mj_c1 (k_callV (idx := 93) (by decide +kernel) (fit_m_M_literal_m_M_throwing) rfl rfl w_945 w_947 v_49 (by decide) (by decide +kernel)) <|
  mj_c1 (k_ifeq (off := 5) (by decide +kernel) (by decide)) <|
  mj_c1 (k_iconst (by decide +kernel)) <|
  mj_c1 (k_iret (by decide +kernel) rfl) <|
  mj_c1 (k_iloadn (k := 2) (by decide +kernel) rfl) <|
  mj_c1 (k_ifne (off := 17) (by decide +kernel) (by decide)) <|
  mj_c1 (k_aloadn (k := 0) (by decide +kernel) rfl) <|
  mj_c1 (k_gR (idx := 35) h_M (by decide) rfl w_857 (by decide +kernel)) <|
  mj_c1 (k_bipush (by decide +kernel) (by decide)) <|
  mj_c1 (k_iloadn (k := 1) (by decide +kernel) rfl) <|
  mj_c1 (k_imul (by decide +kernel)) <|
  mj_c1 (k_iloadn (k := 3) (by decide +kernel) rfl) <|
  mj_c1 (k_iadd (by decide +kernel)) <|
  mj_c1 (k_ial (by decide +kernel)) <|
  mj_c1 (k_goto (off := 34) (by decide +kernel) (by decide)) <|
  mj_c1 (k_iloadn (k := 2) (by decide +kernel) rfl) <|
  mj_c1 (k_iconst (by decide +kernel)) <|
  mj_c1 (k_icne (off := 18) (by decide +kernel) (by decide)) <|
  mj_c1 (k_aloadn (k := 0) (by decide +kernel) rfl) <|
  mj_c1 (k_gR (idx := 38) h_M (by decide) rfl w_858 (by decide +kernel)) <|
  mj_c1 (k_sipush (by decide +kernel) (by decide)) <|
  mj_c1 (k_iloadn (k := 1) (by decide +kernel) rfl) <|
  mj_c1 (k_imul (by decide +kernel)) <|
  mj_c1 (k_iloadn (k := 3) (by decide +kernel) rfl) <|
  mj_c1 (k_iadd (by decide +kernel)) <|
  mj_c1 (k_ial (by decide +kernel)) <|
  mj_c1 (k_goto (off := 14) (by decide +kernel) (by decide)) <|
  mj_c1 (k_aloadn (k := 0) (by decide +kernel) rfl) <|
  mj_c1 (k_gR (idx := 47) h_M (by decide) rfl w_861 (by decide +kernel)) <|
  mj_c1 (k_bipush (by decide +kernel) (by decide)) <|
  mj_c1 (k_iloadn (k := 1) (by decide +kernel) rfl) <|
  mj_c1 (k_imul (by decide +kernel)) <|
  mj_c1 (k_iloadn (k := 3) (by decide +kernel) rfl) <|
  mj_c1 (k_iadd (by decide +kernel)) <|
  mj_c1 (k_ial (by decide +kernel)) <|
  mj_c1 (k_iret (by decide +kernel) rfl) mj_c0
def q_M_value : List (Nat × mj_Sem) := [(0, o_al 0 1), (1, o_il 1 2), (2, o_call m_M_isCircuit 1 0 0 5 mj_rs), (5, o_ifeq 26 8), (8, o_al 0 9), (9, o_il 1 10), (10, o_il 2 11), (11, o_call m_M_isLiteral 3 0 0 14 (mj_rv 6)), (14, o_ifeq 26 17), (17, o_al 0 18), (18, o_il 1 19), (19, o_il 3 20), (20, o_call m_M_isVector 3 0 0 23 (mj_rv 6)), (23, o_ifne 30 26), (26, o_ic 1 27), (27, o_goto 31), (30, o_ic 0 31), (31, o_ic 0 32), (32, o_call m_M_throwing 3 0 0 35 (mj_rv 6)), (35, o_ifeq 40 38), (38, o_ic 0 39), (39, o_iret 0 0), (40, o_al 0 41), (41, o_il 1 42), (42, o_il 2 43), (43, o_il 3 44), (44, o_call m_M_bit 4 0 0 47 (mj_rv 6)), (47, o_iret 0 0)]
set_option maxRecDepth 100000 in
theorem z_M_value : mj_Code (m_M_value) (q_M_value) :=
  mj_c1 (k_aloadn (k := 0) (by decide +kernel) rfl) <|
  mj_c1 (k_iloadn (k := 1) (by decide +kernel) rfl) <|
  mj_c1 (k_callS (idx := 166) (by decide +kernel) (fit_m_M_value_m_M_isCircuit) rfl w_953 w_954 (by decide) (by decide +kernel)) <|
  mj_c1 (k_ifeq (off := 21) (by decide +kernel) (by decide)) <|
  mj_c1 (k_aloadn (k := 0) (by decide +kernel) rfl) <|
  mj_c1 (k_iloadn (k := 1) (by decide +kernel) rfl) <|
  mj_c1 (k_iloadn (k := 2) (by decide +kernel) rfl) <|
  mj_c1 (k_callV (idx := 193) (by decide +kernel) (fit_m_M_value_m_M_isLiteral) rfl rfl w_1060 w_1062 v_73 (by decide) (by decide +kernel)) <|
  mj_c1 (k_ifeq (off := 12) (by decide +kernel) (by decide)) <|
  mj_c1 (k_aloadn (k := 0) (by decide +kernel) rfl) <|
  mj_c1 (k_iloadn (k := 1) (by decide +kernel) rfl) <|
  mj_c1 (k_iloadn (k := 3) (by decide +kernel) rfl) <|
  mj_c1 (k_callV (idx := 196) (by decide +kernel) (fit_m_M_value_m_M_isVector) rfl rfl w_1064 w_1066 v_74 (by decide) (by decide +kernel)) <|
  mj_c1 (k_ifne (off := 7) (by decide +kernel) (by decide)) <|
  mj_c1 (k_iconst (by decide +kernel)) <|
  mj_c1 (k_goto (off := 4) (by decide +kernel) (by decide)) <|
  mj_c1 (k_iconst (by decide +kernel)) <|
  mj_c1 (k_iconst (by decide +kernel)) <|
  mj_c1 (k_callV (idx := 93) (by decide +kernel) (fit_m_M_value_m_M_throwing) rfl rfl w_945 w_947 v_49 (by decide) (by decide +kernel)) <|
  mj_c1 (k_ifeq (off := 5) (by decide +kernel) (by decide)) <|
  mj_c1 (k_iconst (by decide +kernel)) <|
  mj_c1 (k_iret (by decide +kernel) rfl) <|
  mj_c1 (k_aloadn (k := 0) (by decide +kernel) rfl) <|
  mj_c1 (k_iloadn (k := 1) (by decide +kernel) rfl) <|
  mj_c1 (k_iloadn (k := 2) (by decide +kernel) rfl) <|
  mj_c1 (k_iloadn (k := 3) (by decide +kernel) rfl) <|
  mj_c1 (k_callV (idx := 199) (by decide +kernel) (fit_m_M_value_m_M_bit) rfl rfl w_1068 w_1070 v_75 (by decide) (by decide +kernel)) <|
  mj_c1 (k_iret (by decide +kernel) rfl) mj_c0
def q_M_isLiteral : List (Nat × mj_Sem) := [(0, o_il 2 1), (1, o_iflt 24 4), (4, o_il 2 5), (5, o_ic 2001 8), (8, o_icgt 24 11), (11, o_al 0 12), (12, o_il 1 13), (13, o_il 2 14), (14, o_call m_M_rowAt 3 0 0 17 (mj_rv 6)), (17, o_iflt 24 20), (20, o_ic 1 21), (21, o_goto 25), (24, o_ic 0 25), (25, o_zret 0 0)]
set_option maxRecDepth 100000 in
theorem z_M_isLiteral : mj_Code (m_M_isLiteral) (q_M_isLiteral) :=
  mj_c1 (k_iloadn (k := 2) (by decide +kernel) rfl) <|
  mj_c1 (k_iflt (off := 23) (by decide +kernel) (by decide)) <|
  mj_c1 (k_iloadn (k := 2) (by decide +kernel) rfl) <|
  mj_c1 (k_sipush (by decide +kernel) (by decide)) <|
  mj_c1 (k_icgt (off := 16) (by decide +kernel) (by decide)) <|
  mj_c1 (k_aloadn (k := 0) (by decide +kernel) rfl) <|
  mj_c1 (k_iloadn (k := 1) (by decide +kernel) rfl) <|
  mj_c1 (k_iloadn (k := 2) (by decide +kernel) rfl) <|
  mj_c1 (k_callV (idx := 141) (by decide +kernel) (fit_m_M_isLiteral_m_M_rowAt) rfl rfl w_1023 w_1025 v_66 (by decide) (by decide +kernel)) <|
  mj_c1 (k_iflt (off := 7) (by decide +kernel) (by decide)) <|
  mj_c1 (k_iconst (by decide +kernel)) <|
  mj_c1 (k_goto (off := 4) (by decide +kernel) (by decide)) <|
  mj_c1 (k_iconst (by decide +kernel)) <|
  mj_c1 (k_zret (by decide +kernel) rfl) mj_c0
def q_M_isVector : List (Nat × mj_Sem) := [(0, o_il 2 1), (1, o_iflt 20 4), (4, o_il 2 5), (5, o_ic 1 6), (6, o_al 0 7), (7, o_gR 6 5 10), (10, o_il 1 11), (11, o_ial 12), (12, o_ishl 13), (13, o_icge 20 16), (16, o_ic 1 17), (17, o_goto 21), (20, o_ic 0 21), (21, o_zret 0 0)]
set_option maxRecDepth 100000 in
theorem z_M_isVector : mj_Code (m_M_isVector) (q_M_isVector) :=
  mj_c1 (k_iloadn (k := 2) (by decide +kernel) rfl) <|
  mj_c1 (k_iflt (off := 19) (by decide +kernel) (by decide)) <|
  mj_c1 (k_iloadn (k := 2) (by decide +kernel) rfl) <|
  mj_c1 (k_iconst (by decide +kernel)) <|
  mj_c1 (k_aloadn (k := 0) (by decide +kernel) rfl) <|
  mj_c1 (k_gR (idx := 16) h_M (by decide) rfl w_851 (by decide +kernel)) <|
  mj_c1 (k_iloadn (k := 1) (by decide +kernel) rfl) <|
  mj_c1 (k_ial (by decide +kernel)) <|
  mj_c1 (k_ishl (by decide +kernel)) <|
  mj_c1 (k_icge (off := 7) (by decide +kernel) (by decide)) <|
  mj_c1 (k_iconst (by decide +kernel)) <|
  mj_c1 (k_goto (off := 4) (by decide +kernel) (by decide)) <|
  mj_c1 (k_iconst (by decide +kernel)) <|
  mj_c1 (k_zret (by decide +kernel) rfl) mj_c0
def q_M_bit : List (Nat × mj_Sem) := [(0, o_al 0 1), (1, o_il 1 2), (2, o_il 2 3), (3, o_il 3 4), (4, o_ic 6 6), (6, o_ishr 7), (7, o_call m_M_word 4 0 0 10 (mj_rv 6)), (10, o_il 3 11), (11, o_ic 63 13), (13, o_iand 14), (14, o_lushr 15), (15, o_lc 1#64 16), (16, o_land 17), (17, o_l2i 18), (18, o_iret 0 0)]
set_option maxRecDepth 100000 in
theorem z_M_bit : mj_Code (m_M_bit) (q_M_bit) :=
  mj_c1 (k_aloadn (k := 0) (by decide +kernel) rfl) <|
  mj_c1 (k_iloadn (k := 1) (by decide +kernel) rfl) <|
  mj_c1 (k_iloadn (k := 2) (by decide +kernel) rfl) <|
  mj_c1 (k_iloadn (k := 3) (by decide +kernel) rfl) <|
  mj_c1 (k_bipush (by decide +kernel) (by decide)) <|
  mj_c1 (k_ishr (by decide +kernel)) <|
  mj_c1 (k_callV (idx := 187) (by decide +kernel) (fit_m_M_bit_m_M_word) rfl rfl w_1048 w_1050 v_72 (by decide) (by decide +kernel)) <|
  mj_c1 (k_iloadn (k := 3) (by decide +kernel) rfl) <|
  mj_c1 (k_bipush (by decide +kernel) (by decide)) <|
  mj_c1 (k_iand (by decide +kernel)) <|
  mj_c1 (k_lushr (by decide +kernel)) <|
  mj_c1 (k_lconst (k := 1) (by decide +kernel) (by decide)) <|
  mj_c1 (k_land (by decide +kernel)) <|
  mj_c1 (k_l2i (by decide +kernel)) <|
  mj_c1 (k_iret (by decide +kernel) rfl) mj_c0
def q_M_compare : List (Nat × mj_Sem) := [(0, o_al 0 1), (1, o_al 0 2), (2, o_call m_M_match 1 0 0 5 (mj_rv 6)), (5, o_ifne 12 8), (8, o_ic 1 9), (9, o_goto 13), (12, o_ic 0 13), (13, o_ic 0 14), (14, o_call m_M_throwing 3 0 0 17 (mj_rv 6)), (17, o_ifeq 22 20), (20, o_ic 0 21), (21, o_iret 0 0), (22, o_al 0 23), (23, o_gR 6 7 26), (26, o_ic 0 27), (27, o_ial 28), (28, o_al 0 29), (29, o_gR 6 7 32), (32, o_ic 1 33), (33, o_ial 34), (34, o_iceq 40 37), (37, o_ic (-2) 39), (39, o_iret 0 0), (40, o_ic 0 41), (41, o_is 1 42), (42, o_il 1 43), (43, o_al 0 44), (44, o_gR 6 7 47), (47, o_ic 0 48), (48, o_ial 49), (49, o_icge 84 52), (52, o_al 0 53), (53, o_ic 0 54), (54, o_al 0 55), (55, o_gR 6 15 58), (58, o_il 1 59), (59, o_ial 60), (60, o_ic 1 61), (61, o_al 0 62), (62, o_gR 6 15 65), (65, o_ic 16 67), (67, o_il 1 68), (68, o_iadd 69), (69, o_ial 70), (70, o_call m_M_areSame 5 0 0 73 (mj_rv 6)), (73, o_ifne 78 76), (76, o_il 1 77), (77, o_iret 0 0), (78, o_inc 1 1 81), (81, o_goto 42), (84, o_ic (-1) 85), (85, o_iret 0 0)]
set_option maxRecDepth 100000 in
theorem z_M_compare : mj_Code (m_M_compare) (q_M_compare) :=
  mj_c1 (k_aloadn (k := 0) (by decide +kernel) rfl) <|
  mj_c1 (k_aloadn (k := 0) (by decide +kernel) rfl) <|
  mj_c1 (k_callV (idx := 203) (by decide +kernel) (fit_m_M_compare_m_M_match) rfl rfl w_1076 w_1078 v_76 (by decide) (by decide +kernel)) <|
  mj_c1 (k_ifne (off := 7) (by decide +kernel) (by decide)) <|
  mj_c1 (k_iconst (by decide +kernel)) <|
  mj_c1 (k_goto (off := 4) (by decide +kernel) (by decide)) <|
  mj_c1 (k_iconst (by decide +kernel)) <|
  mj_c1 (k_iconst (by decide +kernel)) <|
  mj_c1 (k_callV (idx := 93) (by decide +kernel) (fit_m_M_compare_m_M_throwing) rfl rfl w_945 w_947 v_49 (by decide) (by decide +kernel)) <|
  mj_c1 (k_ifeq (off := 5) (by decide +kernel) (by decide)) <|
  mj_c1 (k_iconst (by decide +kernel)) <|
  mj_c1 (k_iret (by decide +kernel) rfl) <|
  mj_c1 (k_aloadn (k := 0) (by decide +kernel) rfl) <|
  mj_c1 (k_gR (idx := 23) h_M (by decide) rfl w_853 (by decide +kernel)) <|
  mj_c1 (k_iconst (by decide +kernel)) <|
  mj_c1 (k_ial (by decide +kernel)) <|
  mj_c1 (k_aloadn (k := 0) (by decide +kernel) rfl) <|
  mj_c1 (k_gR (idx := 23) h_M (by decide) rfl w_853 (by decide +kernel)) <|
  mj_c1 (k_iconst (by decide +kernel)) <|
  mj_c1 (k_ial (by decide +kernel)) <|
  mj_c1 (k_iceq (off := 6) (by decide +kernel) (by decide)) <|
  mj_c1 (k_bipush (by decide +kernel) (by decide)) <|
  mj_c1 (k_iret (by decide +kernel) rfl) <|
  mj_c1 (k_iconst (by decide +kernel)) <|
  mj_c1 (k_istoren (k := 1) (by decide +kernel) rfl (by decide)) <|
  mj_c1 (k_iloadn (k := 1) (by decide +kernel) rfl) <|
  mj_c1 (k_aloadn (k := 0) (by decide +kernel) rfl) <|
  mj_c1 (k_gR (idx := 23) h_M (by decide) rfl w_853 (by decide +kernel)) <|
  mj_c1 (k_iconst (by decide +kernel)) <|
  mj_c1 (k_ial (by decide +kernel)) <|
  mj_c1 (k_icge (off := 35) (by decide +kernel) (by decide)) <|
  mj_c1 (k_aloadn (k := 0) (by decide +kernel) rfl) <|
  mj_c1 (k_iconst (by decide +kernel)) <|
  mj_c1 (k_aloadn (k := 0) (by decide +kernel) rfl) <|
  mj_c1 (k_gR (idx := 47) h_M (by decide) rfl w_861 (by decide +kernel)) <|
  mj_c1 (k_iloadn (k := 1) (by decide +kernel) rfl) <|
  mj_c1 (k_ial (by decide +kernel)) <|
  mj_c1 (k_iconst (by decide +kernel)) <|
  mj_c1 (k_aloadn (k := 0) (by decide +kernel) rfl) <|
  mj_c1 (k_gR (idx := 47) h_M (by decide) rfl w_861 (by decide +kernel)) <|
  mj_c1 (k_bipush (by decide +kernel) (by decide)) <|
  mj_c1 (k_iloadn (k := 1) (by decide +kernel) rfl) <|
  mj_c1 (k_iadd (by decide +kernel)) <|
  mj_c1 (k_ial (by decide +kernel)) <|
  mj_c1 (k_callV (idx := 207) (by decide +kernel) (fit_m_M_compare_m_M_areSame) rfl rfl w_1080 w_1082 v_77 (by decide) (by decide +kernel)) <|
  mj_c1 (k_ifne (off := 5) (by decide +kernel) (by decide)) <|
  mj_c1 (k_iloadn (k := 1) (by decide +kernel) rfl) <|
  mj_c1 (k_iret (by decide +kernel) rfl) <|
  mj_c1 (k_iinc (by decide +kernel) (by decide)) <|
  mj_c1 (k_goto (off := -39) (by decide +kernel) (by decide)) <|
  mj_c1 (k_iconst (by decide +kernel)) <|
  mj_c1 (k_iret (by decide +kernel) rfl) mj_c0
def q_M_match : List (Nat × mj_Sem) := [(0, o_al 0 1), (1, o_gR 6 5 4), (4, o_ic 0 5), (5, o_ial 6), (6, o_al 0 7), (7, o_gR 6 5 10), (10, o_ic 1 11), (11, o_ial 12), (12, o_icne 19 15), (15, o_ic 1 16), (16, o_goto 20), (19, o_ic 0 20), (20, o_zret 0 0)]
set_option maxRecDepth 100000 in
theorem z_M_match : mj_Code (m_M_match) (q_M_match) :=
  mj_c1 (k_aloadn (k := 0) (by decide +kernel) rfl) <|
  mj_c1 (k_gR (idx := 16) h_M (by decide) rfl w_851 (by decide +kernel)) <|
  mj_c1 (k_iconst (by decide +kernel)) <|
  mj_c1 (k_ial (by decide +kernel)) <|
  mj_c1 (k_aloadn (k := 0) (by decide +kernel) rfl) <|
  mj_c1 (k_gR (idx := 16) h_M (by decide) rfl w_851 (by decide +kernel)) <|
  mj_c1 (k_iconst (by decide +kernel)) <|
  mj_c1 (k_ial (by decide +kernel)) <|
  mj_c1 (k_icne (off := 7) (by decide +kernel) (by decide)) <|
  mj_c1 (k_iconst (by decide +kernel)) <|
  mj_c1 (k_goto (off := 4) (by decide +kernel) (by decide)) <|
  mj_c1 (k_iconst (by decide +kernel)) <|
  mj_c1 (k_zret (by decide +kernel) rfl) mj_c0
def q_M_areSame : List (Nat × mj_Sem) := [(0, o_ic 0 1), (1, o_is 5 3), (3, o_il 5 5), (5, o_al 0 6), (6, o_il 1 7), (7, o_call m_M_words 2 0 0 10 (mj_rv 6)), (10, o_icge 42 13), (13, o_al 0 14), (14, o_il 1 15), (15, o_il 2 16), (16, o_il 5 18), (18, o_call m_M_word 4 0 0 21 (mj_rv 6)), (21, o_al 0 22), (22, o_il 3 23), (23, o_il 4 25), (25, o_il 5 27), (27, o_call m_M_word 4 0 0 30 (mj_rv 6)), (30, o_lcmp 31), (31, o_ifeq 36 34), (34, o_ic 0 35), (35, o_zret 0 0), (36, o_inc 5 1 39), (39, o_goto 3), (42, o_ic 1 43), (43, o_zret 0 0)]
set_option maxRecDepth 100000 in
theorem z_M_areSame : mj_Code (m_M_areSame) (q_M_areSame) :=
  mj_c1 (k_iconst (by decide +kernel)) <|
  mj_c1 (k_istore (by decide +kernel) (by decide)) <|
  mj_c1 (k_iload (by decide +kernel)) <|
  mj_c1 (k_aloadn (k := 0) (by decide +kernel) rfl) <|
  mj_c1 (k_iloadn (k := 1) (by decide +kernel) rfl) <|
  mj_c1 (k_callV (idx := 179) (by decide +kernel) (fit_m_M_areSame_m_M_words) rfl rfl w_1039 w_1041 v_70 (by decide) (by decide +kernel)) <|
  mj_c1 (k_icge (off := 32) (by decide +kernel) (by decide)) <|
  mj_c1 (k_aloadn (k := 0) (by decide +kernel) rfl) <|
  mj_c1 (k_iloadn (k := 1) (by decide +kernel) rfl) <|
  mj_c1 (k_iloadn (k := 2) (by decide +kernel) rfl) <|
  mj_c1 (k_iload (by decide +kernel)) <|
  mj_c1 (k_callV (idx := 187) (by decide +kernel) (fit_m_M_areSame_m_M_word) rfl rfl w_1048 w_1050 v_72 (by decide) (by decide +kernel)) <|
  mj_c1 (k_aloadn (k := 0) (by decide +kernel) rfl) <|
  mj_c1 (k_iloadn (k := 3) (by decide +kernel) rfl) <|
  mj_c1 (k_iload (by decide +kernel)) <|
  mj_c1 (k_iload (by decide +kernel)) <|
  mj_c1 (k_callV (idx := 187) (by decide +kernel) (fit_m_M_areSame_m_M_word) rfl rfl w_1048 w_1050 v_72 (by decide) (by decide +kernel)) <|
  mj_c1 (k_lcmp (by decide +kernel)) <|
  mj_c1 (k_ifeq (off := 5) (by decide +kernel) (by decide)) <|
  mj_c1 (k_iconst (by decide +kernel)) <|
  mj_c1 (k_zret (by decide +kernel) rfl) <|
  mj_c1 (k_iinc (by decide +kernel) (by decide)) <|
  mj_c1 (k_goto (off := -36) (by decide +kernel) (by decide)) <|
  mj_c1 (k_iconst (by decide +kernel)) <|
  mj_c1 (k_zret (by decide +kernel) rfl) mj_c0
def q_M_witness : List (Nat × mj_Sem) := [(0, o_al 0 1), (1, o_al 0 2), (2, o_call m_M_match 1 0 0 5 (mj_rv 6)), (5, o_ifne 12 8), (8, o_ic 1 9), (9, o_goto 13), (12, o_ic 0 13), (13, o_il 1 14), (14, o_iflt 37 17), (17, o_il 1 18), (18, o_al 0 19), (19, o_gR 6 7 22), (22, o_ic 0 23), (23, o_ial 24), (24, o_icge 37 27), (27, o_il 1 28), (28, o_al 0 29), (29, o_gR 6 7 32), (32, o_ic 1 33), (33, o_ial 34), (34, o_iclt 41 37), (37, o_ic 1 38), (38, o_goto 42), (41, o_ic 0 42), (42, o_call m_M_throwing 3 0 0 45 (mj_rv 6)), (45, o_ifeq 50 48), (48, o_ic 0 49), (49, o_iret 0 0), (50, o_al 0 51), (51, o_il 1 52), (52, o_call m_M_difference 2 0 0 55 (mj_rv 6)), (55, o_iret 0 0)]
set_option maxRecDepth 100000 in
theorem z_M_witness : mj_Code (m_M_witness) (q_M_witness) :=
  mj_c1 (k_aloadn (k := 0) (by decide +kernel) rfl) <|
  mj_c1 (k_aloadn (k := 0) (by decide +kernel) rfl) <|
  mj_c1 (k_callV (idx := 203) (by decide +kernel) (fit_m_M_witness_m_M_match) rfl rfl w_1076 w_1078 v_76 (by decide) (by decide +kernel)) <|
  mj_c1 (k_ifne (off := 7) (by decide +kernel) (by decide)) <|
  mj_c1 (k_iconst (by decide +kernel)) <|
  mj_c1 (k_goto (off := 4) (by decide +kernel) (by decide)) <|
  mj_c1 (k_iconst (by decide +kernel)) <|
  mj_c1 (k_iloadn (k := 1) (by decide +kernel) rfl) <|
  mj_c1 (k_iflt (off := 23) (by decide +kernel) (by decide)) <|
  mj_c1 (k_iloadn (k := 1) (by decide +kernel) rfl) <|
  mj_c1 (k_aloadn (k := 0) (by decide +kernel) rfl) <|
  mj_c1 (k_gR (idx := 23) h_M (by decide) rfl w_853 (by decide +kernel)) <|
  mj_c1 (k_iconst (by decide +kernel)) <|
  mj_c1 (k_ial (by decide +kernel)) <|
  mj_c1 (k_icge (off := 13) (by decide +kernel) (by decide)) <|
  mj_c1 (k_iloadn (k := 1) (by decide +kernel) rfl) <|
  mj_c1 (k_aloadn (k := 0) (by decide +kernel) rfl) <|
  mj_c1 (k_gR (idx := 23) h_M (by decide) rfl w_853 (by decide +kernel)) <|
  mj_c1 (k_iconst (by decide +kernel)) <|
  mj_c1 (k_ial (by decide +kernel)) <|
  mj_c1 (k_iclt (off := 7) (by decide +kernel) (by decide)) <|
  mj_c1 (k_iconst (by decide +kernel)) <|
  mj_c1 (k_goto (off := 4) (by decide +kernel) (by decide)) <|
  mj_c1 (k_iconst (by decide +kernel)) <|
  mj_c1 (k_callV (idx := 93) (by decide +kernel) (fit_m_M_witness_m_M_throwing) rfl rfl w_945 w_947 v_49 (by decide) (by decide +kernel)) <|
  mj_c1 (k_ifeq (off := 5) (by decide +kernel) (by decide)) <|
  mj_c1 (k_iconst (by decide +kernel)) <|
  mj_c1 (k_iret (by decide +kernel) rfl) <|
  mj_c1 (k_aloadn (k := 0) (by decide +kernel) rfl) <|
  mj_c1 (k_iloadn (k := 1) (by decide +kernel) rfl) <|
  mj_c1 (k_callV (idx := 211) (by decide +kernel) (fit_m_M_witness_m_M_difference) rfl rfl w_1088 w_1090 v_78 (by decide) (by decide +kernel)) <|
  mj_c1 (k_iret (by decide +kernel) rfl) mj_c0
def q_M_difference : List (Nat × mj_Sem) := [(0, o_ic 0 1), (1, o_is 2 2), (2, o_il 2 3), (3, o_ic 1 4), (4, o_al 0 5), (5, o_gR 6 5 8), (8, o_ic 0 9), (9, o_ial 10), (10, o_ishl 11), (11, o_icge 52 14), (14, o_al 0 15), (15, o_ic 0 16), (16, o_al 0 17), (17, o_gR 6 15 20), (20, o_il 1 21), (21, o_ial 22), (22, o_il 2 23), (23, o_call m_M_bit 4 0 0 26 (mj_rv 6)), (26, o_al 0 27), (27, o_ic 1 28), (28, o_al 0 29), (29, o_gR 6 15 32), (32, o_ic 16 34), (34, o_il 1 35), (35, o_iadd 36), (36, o_ial 37), (37, o_il 2 38), (38, o_call m_M_bit 4 0 0 41 (mj_rv 6)), (41, o_iceq 46 44), (44, o_il 2 45), (45, o_iret 0 0), (46, o_inc 2 1 49), (49, o_goto 2), (52, o_ic (-1) 53), (53, o_iret 0 0)]
set_option maxRecDepth 100000 in
theorem z_M_difference : mj_Code (m_M_difference) (q_M_difference) :=
  mj_c1 (k_iconst (by decide +kernel)) <|
  mj_c1 (k_istoren (k := 2) (by decide +kernel) rfl (by decide)) <|
  mj_c1 (k_iloadn (k := 2) (by decide +kernel) rfl) <|
  mj_c1 (k_iconst (by decide +kernel)) <|
  mj_c1 (k_aloadn (k := 0) (by decide +kernel) rfl) <|
  mj_c1 (k_gR (idx := 16) h_M (by decide) rfl w_851 (by decide +kernel)) <|
  mj_c1 (k_iconst (by decide +kernel)) <|
  mj_c1 (k_ial (by decide +kernel)) <|
  mj_c1 (k_ishl (by decide +kernel)) <|
  mj_c1 (k_icge (off := 41) (by decide +kernel) (by decide)) <|
  mj_c1 (k_aloadn (k := 0) (by decide +kernel) rfl) <|
  mj_c1 (k_iconst (by decide +kernel)) <|
  mj_c1 (k_aloadn (k := 0) (by decide +kernel) rfl) <|
  mj_c1 (k_gR (idx := 47) h_M (by decide) rfl w_861 (by decide +kernel)) <|
  mj_c1 (k_iloadn (k := 1) (by decide +kernel) rfl) <|
  mj_c1 (k_ial (by decide +kernel)) <|
  mj_c1 (k_iloadn (k := 2) (by decide +kernel) rfl) <|
  mj_c1 (k_callV (idx := 199) (by decide +kernel) (fit_m_M_difference_m_M_bit) rfl rfl w_1068 w_1070 v_75 (by decide) (by decide +kernel)) <|
  mj_c1 (k_aloadn (k := 0) (by decide +kernel) rfl) <|
  mj_c1 (k_iconst (by decide +kernel)) <|
  mj_c1 (k_aloadn (k := 0) (by decide +kernel) rfl) <|
  mj_c1 (k_gR (idx := 47) h_M (by decide) rfl w_861 (by decide +kernel)) <|
  mj_c1 (k_bipush (by decide +kernel) (by decide)) <|
  mj_c1 (k_iloadn (k := 1) (by decide +kernel) rfl) <|
  mj_c1 (k_iadd (by decide +kernel)) <|
  mj_c1 (k_ial (by decide +kernel)) <|
  mj_c1 (k_iloadn (k := 2) (by decide +kernel) rfl) <|
  mj_c1 (k_callV (idx := 199) (by decide +kernel) (fit_m_M_difference_m_M_bit) rfl rfl w_1068 w_1070 v_75 (by decide) (by decide +kernel)) <|
  mj_c1 (k_iceq (off := 5) (by decide +kernel) (by decide)) <|
  mj_c1 (k_iloadn (k := 2) (by decide +kernel) rfl) <|
  mj_c1 (k_iret (by decide +kernel) rfl) <|
  mj_c1 (k_iinc (by decide +kernel) (by decide)) <|
  mj_c1 (k_goto (off := -47) (by decide +kernel) (by decide)) <|
  mj_c1 (k_iconst (by decide +kernel)) <|
  mj_c1 (k_iret (by decide +kernel) rfl) mj_c0
def q_M_least : List (Nat × mj_Sem) := [(0, o_al 0 1), (1, o_il 1 2), (2, o_call m_M_isCircuit 1 0 0 5 mj_rs), (5, o_ifeq 26 8), (8, o_al 0 9), (9, o_il 1 10), (10, o_il 2 11), (11, o_call m_M_isLiteral 3 0 0 14 (mj_rv 6)), (14, o_ifeq 26 17), (17, o_al 0 18), (18, o_il 1 19), (19, o_il 3 20), (20, o_call m_M_isVector 3 0 0 23 (mj_rv 6)), (23, o_ifne 30 26), (26, o_ic 1 27), (27, o_goto 31), (30, o_ic 0 31), (31, o_ic 0 32), (32, o_call m_M_throwing 3 0 0 35 (mj_rv 6)), (35, o_ifeq 40 38), (38, o_ic 0 39), (39, o_iret 0 0), (40, o_il 3 41), (41, o_is 4 43), (43, o_il 4 45), (45, o_ic 1 46), (46, o_al 0 47), (47, o_gR 6 5 50), (50, o_il 1 51), (51, o_ial 52), (52, o_ishl 53), (53, o_icge 77 56), (56, o_al 0 57), (57, o_il 1 58), (58, o_il 2 59), (59, o_il 4 61), (61, o_call m_M_bit 4 0 0 64 (mj_rv 6)), (64, o_ic 1 65), (65, o_icne 71 68), (68, o_il 4 70), (70, o_iret 0 0), (71, o_inc 4 1 74), (74, o_goto 43), (77, o_ic (-1) 78), (78, o_iret 0 0)]
set_option maxRecDepth 100000 in
theorem z_M_least : mj_Code (m_M_least) (q_M_least) :=
  mj_c1 (k_aloadn (k := 0) (by decide +kernel) rfl) <|
  mj_c1 (k_iloadn (k := 1) (by decide +kernel) rfl) <|
  mj_c1 (k_callS (idx := 166) (by decide +kernel) (fit_m_M_least_m_M_isCircuit) rfl w_953 w_954 (by decide) (by decide +kernel)) <|
  mj_c1 (k_ifeq (off := 21) (by decide +kernel) (by decide)) <|
  mj_c1 (k_aloadn (k := 0) (by decide +kernel) rfl) <|
  mj_c1 (k_iloadn (k := 1) (by decide +kernel) rfl) <|
  mj_c1 (k_iloadn (k := 2) (by decide +kernel) rfl) <|
  mj_c1 (k_callV (idx := 193) (by decide +kernel) (fit_m_M_least_m_M_isLiteral) rfl rfl w_1060 w_1062 v_73 (by decide) (by decide +kernel)) <|
  mj_c1 (k_ifeq (off := 12) (by decide +kernel) (by decide)) <|
  mj_c1 (k_aloadn (k := 0) (by decide +kernel) rfl) <|
  mj_c1 (k_iloadn (k := 1) (by decide +kernel) rfl) <|
  mj_c1 (k_iloadn (k := 3) (by decide +kernel) rfl) <|
  mj_c1 (k_callV (idx := 196) (by decide +kernel) (fit_m_M_least_m_M_isVector) rfl rfl w_1064 w_1066 v_74 (by decide) (by decide +kernel)) <|
  mj_c1 (k_ifne (off := 7) (by decide +kernel) (by decide)) <|
  mj_c1 (k_iconst (by decide +kernel)) <|
  mj_c1 (k_goto (off := 4) (by decide +kernel) (by decide)) <|
  mj_c1 (k_iconst (by decide +kernel)) <|
  mj_c1 (k_iconst (by decide +kernel)) <|
  mj_c1 (k_callV (idx := 93) (by decide +kernel) (fit_m_M_least_m_M_throwing) rfl rfl w_945 w_947 v_49 (by decide) (by decide +kernel)) <|
  mj_c1 (k_ifeq (off := 5) (by decide +kernel) (by decide)) <|
  mj_c1 (k_iconst (by decide +kernel)) <|
  mj_c1 (k_iret (by decide +kernel) rfl) <|
  mj_c1 (k_iloadn (k := 3) (by decide +kernel) rfl) <|
  mj_c1 (k_istore (by decide +kernel) (by decide)) <|
  mj_c1 (k_iload (by decide +kernel)) <|
  mj_c1 (k_iconst (by decide +kernel)) <|
  mj_c1 (k_aloadn (k := 0) (by decide +kernel) rfl) <|
  mj_c1 (k_gR (idx := 16) h_M (by decide) rfl w_851 (by decide +kernel)) <|
  mj_c1 (k_iloadn (k := 1) (by decide +kernel) rfl) <|
  mj_c1 (k_ial (by decide +kernel)) <|
  mj_c1 (k_ishl (by decide +kernel)) <|
  mj_c1 (k_icge (off := 24) (by decide +kernel) (by decide)) <|
  mj_c1 (k_aloadn (k := 0) (by decide +kernel) rfl) <|
  mj_c1 (k_iloadn (k := 1) (by decide +kernel) rfl) <|
  mj_c1 (k_iloadn (k := 2) (by decide +kernel) rfl) <|
  mj_c1 (k_iload (by decide +kernel)) <|
  mj_c1 (k_callV (idx := 199) (by decide +kernel) (fit_m_M_least_m_M_bit) rfl rfl w_1068 w_1070 v_75 (by decide) (by decide +kernel)) <|
  mj_c1 (k_iconst (by decide +kernel)) <|
  mj_c1 (k_icne (off := 6) (by decide +kernel) (by decide)) <|
  mj_c1 (k_iload (by decide +kernel)) <|
  mj_c1 (k_iret (by decide +kernel) rfl) <|
  mj_c1 (k_iinc (by decide +kernel) (by decide)) <|
  mj_c1 (k_goto (off := -31) (by decide +kernel) (by decide)) <|
  mj_c1 (k_iconst (by decide +kernel)) <|
  mj_c1 (k_iret (by decide +kernel) rfl) mj_c0
def q_M_greatest : List (Nat × mj_Sem) := [(0, o_al 0 1), (1, o_il 1 2), (2, o_call m_M_isCircuit 1 0 0 5 mj_rs), (5, o_ifeq 17 8), (8, o_al 0 9), (9, o_il 1 10), (10, o_il 2 11), (11, o_call m_M_isLiteral 3 0 0 14 (mj_rv 6)), (14, o_ifne 21 17), (17, o_ic 1 18), (18, o_goto 22), (21, o_ic 0 22), (22, o_ic 0 23), (23, o_call m_M_throwing 3 0 0 26 (mj_rv 6)), (26, o_ifeq 31 29), (29, o_ic 0 30), (30, o_iret 0 0), (31, o_ic 1 32), (32, o_al 0 33), (33, o_gR 6 5 36), (36, o_il 1 37), (37, o_ial 38), (38, o_ishl 39), (39, o_ic 1 40), (40, o_isub 41), (41, o_is 3 42), (42, o_il 3 43), (43, o_iflt 65 46), (46, o_al 0 47), (47, o_il 1 48), (48, o_il 2 49), (49, o_il 3 50), (50, o_call m_M_bit 4 0 0 53 (mj_rv 6)), (53, o_ic 1 54), (54, o_icne 59 57), (57, o_il 3 58), (58, o_iret 0 0), (59, o_inc 3 (-1) 62), (62, o_goto 42), (65, o_ic (-1) 66), (66, o_iret 0 0)]
set_option maxRecDepth 100000 in
theorem z_M_greatest : mj_Code (m_M_greatest) (q_M_greatest) :=
  mj_c1 (k_aloadn (k := 0) (by decide +kernel) rfl) <|
  mj_c1 (k_iloadn (k := 1) (by decide +kernel) rfl) <|
  mj_c1 (k_callS (idx := 166) (by decide +kernel) (fit_m_M_greatest_m_M_isCircuit) rfl w_953 w_954 (by decide) (by decide +kernel)) <|
  mj_c1 (k_ifeq (off := 12) (by decide +kernel) (by decide)) <|
  mj_c1 (k_aloadn (k := 0) (by decide +kernel) rfl) <|
  mj_c1 (k_iloadn (k := 1) (by decide +kernel) rfl) <|
  mj_c1 (k_iloadn (k := 2) (by decide +kernel) rfl) <|
  mj_c1 (k_callV (idx := 193) (by decide +kernel) (fit_m_M_greatest_m_M_isLiteral) rfl rfl w_1060 w_1062 v_73 (by decide) (by decide +kernel)) <|
  mj_c1 (k_ifne (off := 7) (by decide +kernel) (by decide)) <|
  mj_c1 (k_iconst (by decide +kernel)) <|
  mj_c1 (k_goto (off := 4) (by decide +kernel) (by decide)) <|
  mj_c1 (k_iconst (by decide +kernel)) <|
  mj_c1 (k_iconst (by decide +kernel)) <|
  mj_c1 (k_callV (idx := 93) (by decide +kernel) (fit_m_M_greatest_m_M_throwing) rfl rfl w_945 w_947 v_49 (by decide) (by decide +kernel)) <|
  mj_c1 (k_ifeq (off := 5) (by decide +kernel) (by decide)) <|
  mj_c1 (k_iconst (by decide +kernel)) <|
  mj_c1 (k_iret (by decide +kernel) rfl) <|
  mj_c1 (k_iconst (by decide +kernel)) <|
  mj_c1 (k_aloadn (k := 0) (by decide +kernel) rfl) <|
  mj_c1 (k_gR (idx := 16) h_M (by decide) rfl w_851 (by decide +kernel)) <|
  mj_c1 (k_iloadn (k := 1) (by decide +kernel) rfl) <|
  mj_c1 (k_ial (by decide +kernel)) <|
  mj_c1 (k_ishl (by decide +kernel)) <|
  mj_c1 (k_iconst (by decide +kernel)) <|
  mj_c1 (k_isub (by decide +kernel)) <|
  mj_c1 (k_istoren (k := 3) (by decide +kernel) rfl (by decide)) <|
  mj_c1 (k_iloadn (k := 3) (by decide +kernel) rfl) <|
  mj_c1 (k_iflt (off := 22) (by decide +kernel) (by decide)) <|
  mj_c1 (k_aloadn (k := 0) (by decide +kernel) rfl) <|
  mj_c1 (k_iloadn (k := 1) (by decide +kernel) rfl) <|
  mj_c1 (k_iloadn (k := 2) (by decide +kernel) rfl) <|
  mj_c1 (k_iloadn (k := 3) (by decide +kernel) rfl) <|
  mj_c1 (k_callV (idx := 199) (by decide +kernel) (fit_m_M_greatest_m_M_bit) rfl rfl w_1068 w_1070 v_75 (by decide) (by decide +kernel)) <|
  mj_c1 (k_iconst (by decide +kernel)) <|
  mj_c1 (k_icne (off := 5) (by decide +kernel) (by decide)) <|
  mj_c1 (k_iloadn (k := 3) (by decide +kernel) rfl) <|
  mj_c1 (k_iret (by decide +kernel) rfl) <|
  mj_c1 (k_iinc (by decide +kernel) (by decide)) <|
  mj_c1 (k_goto (off := -20) (by decide +kernel) (by decide)) <|
  mj_c1 (k_iconst (by decide +kernel)) <|
  mj_c1 (k_iret (by decide +kernel) rfl) mj_c0
def q_M_same : List (Nat × mj_Sem) := [(0, o_al 0 1), (1, o_al 0 2), (2, o_ic 0 3), (3, o_il 1 4), (4, o_call m_M_isLiteral 3 0 0 7 (mj_rv 6)), (7, o_ifeq 19 10), (10, o_al 0 11), (11, o_ic 1 12), (12, o_il 2 13), (13, o_call m_M_isLiteral 3 0 0 16 (mj_rv 6)), (16, o_ifne 23 19), (19, o_ic 1 20), (20, o_goto 24), (23, o_ic 0 24), (24, o_al 0 25), (25, o_call m_M_match 1 0 0 28 (mj_rv 6)), (28, o_ifne 35 31), (31, o_ic 1 32), (32, o_goto 36), (35, o_ic 0 36), (36, o_call m_M_throwing 3 0 0 39 (mj_rv 6)), (39, o_ifeq 44 42), (42, o_ic 0 43), (43, o_iret 0 0), (44, o_al 0 45), (45, o_ic 0 46), (46, o_il 1 47), (47, o_ic 1 48), (48, o_il 2 49), (49, o_call m_M_areSame 5 0 0 52 (mj_rv 6)), (52, o_ifeq 59 55), (55, o_ic 1 56), (56, o_goto 77), (59, o_al 0 60), (60, o_ic 0 61), (61, o_il 1 62), (62, o_ic 1 63), (63, o_il 2 64), (64, o_ic 1 65), (65, o_ixor 66), (66, o_call m_M_areSame 5 0 0 69 (mj_rv 6)), (69, o_ifeq 76 72), (72, o_ic (-1) 73), (73, o_goto 77), (76, o_ic 0 77), (77, o_iret 0 0)]
set_option maxRecDepth 100000 in
theorem z_M_same : mj_Code (m_M_same) (q_M_same) :=
  mj_c1 (k_aloadn (k := 0) (by decide +kernel) rfl) <|
  mj_c1 (k_aloadn (k := 0) (by decide +kernel) rfl) <|
  mj_c1 (k_iconst (by decide +kernel)) <|
  mj_c1 (k_iloadn (k := 1) (by decide +kernel) rfl) <|
  mj_c1 (k_callV (idx := 193) (by decide +kernel) (fit_m_M_same_m_M_isLiteral) rfl rfl w_1060 w_1062 v_73 (by decide) (by decide +kernel)) <|
  mj_c1 (k_ifeq (off := 12) (by decide +kernel) (by decide)) <|
  mj_c1 (k_aloadn (k := 0) (by decide +kernel) rfl) <|
  mj_c1 (k_iconst (by decide +kernel)) <|
  mj_c1 (k_iloadn (k := 2) (by decide +kernel) rfl) <|
  mj_c1 (k_callV (idx := 193) (by decide +kernel) (fit_m_M_same_m_M_isLiteral) rfl rfl w_1060 w_1062 v_73 (by decide) (by decide +kernel)) <|
  mj_c1 (k_ifne (off := 7) (by decide +kernel) (by decide)) <|
  mj_c1 (k_iconst (by decide +kernel)) <|
  mj_c1 (k_goto (off := 4) (by decide +kernel) (by decide)) <|
  mj_c1 (k_iconst (by decide +kernel)) <|
  mj_c1 (k_aloadn (k := 0) (by decide +kernel) rfl) <|
  mj_c1 (k_callV (idx := 203) (by decide +kernel) (fit_m_M_same_m_M_match) rfl rfl w_1076 w_1078 v_76 (by decide) (by decide +kernel)) <|
  mj_c1 (k_ifne (off := 7) (by decide +kernel) (by decide)) <|
  mj_c1 (k_iconst (by decide +kernel)) <|
  mj_c1 (k_goto (off := 4) (by decide +kernel) (by decide)) <|
  mj_c1 (k_iconst (by decide +kernel)) <|
  mj_c1 (k_callV (idx := 93) (by decide +kernel) (fit_m_M_same_m_M_throwing) rfl rfl w_945 w_947 v_49 (by decide) (by decide +kernel)) <|
  mj_c1 (k_ifeq (off := 5) (by decide +kernel) (by decide)) <|
  mj_c1 (k_iconst (by decide +kernel)) <|
  mj_c1 (k_iret (by decide +kernel) rfl) <|
  mj_c1 (k_aloadn (k := 0) (by decide +kernel) rfl) <|
  mj_c1 (k_iconst (by decide +kernel)) <|
  mj_c1 (k_iloadn (k := 1) (by decide +kernel) rfl) <|
  mj_c1 (k_iconst (by decide +kernel)) <|
  mj_c1 (k_iloadn (k := 2) (by decide +kernel) rfl) <|
  mj_c1 (k_callV (idx := 207) (by decide +kernel) (fit_m_M_same_m_M_areSame) rfl rfl w_1080 w_1082 v_77 (by decide) (by decide +kernel)) <|
  mj_c1 (k_ifeq (off := 7) (by decide +kernel) (by decide)) <|
  mj_c1 (k_iconst (by decide +kernel)) <|
  mj_c1 (k_goto (off := 21) (by decide +kernel) (by decide)) <|
  mj_c1 (k_aloadn (k := 0) (by decide +kernel) rfl) <|
  mj_c1 (k_iconst (by decide +kernel)) <|
  mj_c1 (k_iloadn (k := 1) (by decide +kernel) rfl) <|
  mj_c1 (k_iconst (by decide +kernel)) <|
  mj_c1 (k_iloadn (k := 2) (by decide +kernel) rfl) <|
  mj_c1 (k_iconst (by decide +kernel)) <|
  mj_c1 (k_ixor (by decide +kernel)) <|
  mj_c1 (k_callV (idx := 207) (by decide +kernel) (fit_m_M_same_m_M_areSame) rfl rfl w_1080 w_1082 v_77 (by decide) (by decide +kernel)) <|
  mj_c1 (k_ifeq (off := 7) (by decide +kernel) (by decide)) <|
  mj_c1 (k_iconst (by decide +kernel)) <|
  mj_c1 (k_goto (off := 4) (by decide +kernel) (by decide)) <|
  mj_c1 (k_iconst (by decide +kernel)) <|
  mj_c1 (k_iret (by decide +kernel) rfl) mj_c0
def q_M_implies : List (Nat × mj_Sem) := [(0, o_al 0 1), (1, o_il 1 2), (2, o_call m_M_isCircuit 1 0 0 5 mj_rs), (5, o_ifeq 26 8), (8, o_al 0 9), (9, o_il 1 10), (10, o_il 2 11), (11, o_call m_M_isLiteral 3 0 0 14 (mj_rv 6)), (14, o_ifeq 26 17), (17, o_al 0 18), (18, o_il 1 19), (19, o_il 3 20), (20, o_call m_M_isLiteral 3 0 0 23 (mj_rv 6)), (23, o_ifne 30 26), (26, o_ic 1 27), (27, o_goto 31), (30, o_ic 0 31), (31, o_ic 0 32), (32, o_call m_M_throwing 3 0 0 35 (mj_rv 6)), (35, o_ifeq 40 38), (38, o_ic 0 39), (39, o_zret 0 0), (40, o_ic 1 41), (41, o_is 4 43), (43, o_ic 0 44), (44, o_is 5 46), (46, o_il 5 48), (48, o_al 0 49), (49, o_il 1 50), (50, o_call m_M_words 2 0 0 53 (mj_rv 6)), (53, o_icge 100 56), (56, o_il 4 58), (58, o_ifeq 100 61), (61, o_al 0 62), (62, o_il 1 63), (63, o_il 2 64), (64, o_il 5 66), (66, o_call m_M_word 4 0 0 69 (mj_rv 6)), (69, o_al 0 70), (70, o_il 1 71), (71, o_il 3 72), (72, o_il 5 74), (74, o_call m_M_word 4 0 0 77 (mj_rv 6)), (77, o_lc 0xFFFFFFFFFFFFFFFF#64 80), (80, o_lxor 81), (81, o_land 82), (82, o_lc 0#64 83), (83, o_lcmp 84), (84, o_ifne 91 87), (87, o_ic 1 88), (88, o_goto 92), (91, o_ic 0 92), (92, o_is 4 94), (94, o_inc 5 1 97), (97, o_goto 46), (100, o_il 4 102), (102, o_zret 0 0)]
set_option maxRecDepth 100000 in
theorem z_M_implies : mj_Code (m_M_implies) (q_M_implies) :=
  mj_c1 (k_aloadn (k := 0) (by decide +kernel) rfl) <|
  mj_c1 (k_iloadn (k := 1) (by decide +kernel) rfl) <|
  mj_c1 (k_callS (idx := 166) (by decide +kernel) (fit_m_M_implies_m_M_isCircuit) rfl w_953 w_954 (by decide) (by decide +kernel)) <|
  mj_c1 (k_ifeq (off := 21) (by decide +kernel) (by decide)) <|
  mj_c1 (k_aloadn (k := 0) (by decide +kernel) rfl) <|
  mj_c1 (k_iloadn (k := 1) (by decide +kernel) rfl) <|
  mj_c1 (k_iloadn (k := 2) (by decide +kernel) rfl) <|
  mj_c1 (k_callV (idx := 193) (by decide +kernel) (fit_m_M_implies_m_M_isLiteral) rfl rfl w_1060 w_1062 v_73 (by decide) (by decide +kernel)) <|
  mj_c1 (k_ifeq (off := 12) (by decide +kernel) (by decide)) <|
  mj_c1 (k_aloadn (k := 0) (by decide +kernel) rfl) <|
  mj_c1 (k_iloadn (k := 1) (by decide +kernel) rfl) <|
  mj_c1 (k_iloadn (k := 3) (by decide +kernel) rfl) <|
  mj_c1 (k_callV (idx := 193) (by decide +kernel) (fit_m_M_implies_m_M_isLiteral) rfl rfl w_1060 w_1062 v_73 (by decide) (by decide +kernel)) <|
  mj_c1 (k_ifne (off := 7) (by decide +kernel) (by decide)) <|
  mj_c1 (k_iconst (by decide +kernel)) <|
  mj_c1 (k_goto (off := 4) (by decide +kernel) (by decide)) <|
  mj_c1 (k_iconst (by decide +kernel)) <|
  mj_c1 (k_iconst (by decide +kernel)) <|
  mj_c1 (k_callV (idx := 93) (by decide +kernel) (fit_m_M_implies_m_M_throwing) rfl rfl w_945 w_947 v_49 (by decide) (by decide +kernel)) <|
  mj_c1 (k_ifeq (off := 5) (by decide +kernel) (by decide)) <|
  mj_c1 (k_iconst (by decide +kernel)) <|
  mj_c1 (k_zret (by decide +kernel) rfl) <|
  mj_c1 (k_iconst (by decide +kernel)) <|
  mj_c1 (k_istore (by decide +kernel) (by decide)) <|
  mj_c1 (k_iconst (by decide +kernel)) <|
  mj_c1 (k_istore (by decide +kernel) (by decide)) <|
  mj_c1 (k_iload (by decide +kernel)) <|
  mj_c1 (k_aloadn (k := 0) (by decide +kernel) rfl) <|
  mj_c1 (k_iloadn (k := 1) (by decide +kernel) rfl) <|
  mj_c1 (k_callV (idx := 179) (by decide +kernel) (fit_m_M_implies_m_M_words) rfl rfl w_1039 w_1041 v_70 (by decide) (by decide +kernel)) <|
  mj_c1 (k_icge (off := 47) (by decide +kernel) (by decide)) <|
  mj_c1 (k_iload (by decide +kernel)) <|
  mj_c1 (k_ifeq (off := 42) (by decide +kernel) (by decide)) <|
  mj_c1 (k_aloadn (k := 0) (by decide +kernel) rfl) <|
  mj_c1 (k_iloadn (k := 1) (by decide +kernel) rfl) <|
  mj_c1 (k_iloadn (k := 2) (by decide +kernel) rfl) <|
  mj_c1 (k_iload (by decide +kernel)) <|
  mj_c1 (k_callV (idx := 187) (by decide +kernel) (fit_m_M_implies_m_M_word) rfl rfl w_1048 w_1050 v_72 (by decide) (by decide +kernel)) <|
  mj_c1 (k_aloadn (k := 0) (by decide +kernel) rfl) <|
  mj_c1 (k_iloadn (k := 1) (by decide +kernel) rfl) <|
  mj_c1 (k_iloadn (k := 3) (by decide +kernel) rfl) <|
  mj_c1 (k_iload (by decide +kernel)) <|
  mj_c1 (k_callV (idx := 187) (by decide +kernel) (fit_m_M_implies_m_M_word) rfl rfl w_1048 w_1050 v_72 (by decide) (by decide +kernel)) <|
  mj_c1 (k_ldc2 (idx := 191) (by decide +kernel) w_1047) <|
  mj_c1 (k_lxor (by decide +kernel)) <|
  mj_c1 (k_land (by decide +kernel)) <|
  mj_c1 (k_lconst (k := 0) (by decide +kernel) (by decide)) <|
  mj_c1 (k_lcmp (by decide +kernel)) <|
  mj_c1 (k_ifne (off := 7) (by decide +kernel) (by decide)) <|
  mj_c1 (k_iconst (by decide +kernel)) <|
  mj_c1 (k_goto (off := 4) (by decide +kernel) (by decide)) <|
  mj_c1 (k_iconst (by decide +kernel)) <|
  mj_c1 (k_istore (by decide +kernel) (by decide)) <|
  mj_c1 (k_iinc (by decide +kernel) (by decide)) <|
  mj_c1 (k_goto (off := -51) (by decide +kernel) (by decide)) <|
  mj_c1 (k_iload (by decide +kernel)) <|
  mj_c1 (k_zret (by decide +kernel) rfl) mj_c0
def q_M_depends : List (Nat × mj_Sem) := [(0, o_al 0 1), (1, o_il 1 2), (2, o_il 2 3), (3, o_il 3 4), (4, o_call m_M_lacksInput 4 0 0 7 (mj_rv 6)), (7, o_ifeq 12 10), (10, o_ic 0 11), (11, o_zret 0 0), (12, o_ic 0 13), (13, o_is 4 15), (15, o_il 4 17), (17, o_ic 1 18), (18, o_al 0 19), (19, o_gR 6 5 22), (22, o_il 1 23), (23, o_ial 24), (24, o_ishl 25), (25, o_icge 59 28), (28, o_al 0 29), (29, o_il 1 30), (30, o_il 2 31), (31, o_il 4 33), (33, o_call m_M_bit 4 0 0 36 (mj_rv 6)), (36, o_al 0 37), (37, o_il 1 38), (38, o_il 2 39), (39, o_il 4 41), (41, o_ic 1 42), (42, o_il 3 43), (43, o_ishl 44), (44, o_ixor 45), (45, o_call m_M_bit 4 0 0 48 (mj_rv 6)), (48, o_iceq 53 51), (51, o_ic 1 52), (52, o_zret 0 0), (53, o_inc 4 1 56), (56, o_goto 15), (59, o_ic 0 60), (60, o_zret 0 0)]
set_option maxRecDepth 100000 in
theorem z_M_depends : mj_Code (m_M_depends) (q_M_depends) :=
  mj_c1 (k_aloadn (k := 0) (by decide +kernel) rfl) <|
  mj_c1 (k_iloadn (k := 1) (by decide +kernel) rfl) <|
  mj_c1 (k_iloadn (k := 2) (by decide +kernel) rfl) <|
  mj_c1 (k_iloadn (k := 3) (by decide +kernel) rfl) <|
  mj_c1 (k_callV (idx := 214) (by decide +kernel) (fit_m_M_depends_m_M_lacksInput) rfl rfl w_1112 w_1114 v_79 (by decide) (by decide +kernel)) <|
  mj_c1 (k_ifeq (off := 5) (by decide +kernel) (by decide)) <|
  mj_c1 (k_iconst (by decide +kernel)) <|
  mj_c1 (k_zret (by decide +kernel) rfl) <|
  mj_c1 (k_iconst (by decide +kernel)) <|
  mj_c1 (k_istore (by decide +kernel) (by decide)) <|
  mj_c1 (k_iload (by decide +kernel)) <|
  mj_c1 (k_iconst (by decide +kernel)) <|
  mj_c1 (k_aloadn (k := 0) (by decide +kernel) rfl) <|
  mj_c1 (k_gR (idx := 16) h_M (by decide) rfl w_851 (by decide +kernel)) <|
  mj_c1 (k_iloadn (k := 1) (by decide +kernel) rfl) <|
  mj_c1 (k_ial (by decide +kernel)) <|
  mj_c1 (k_ishl (by decide +kernel)) <|
  mj_c1 (k_icge (off := 34) (by decide +kernel) (by decide)) <|
  mj_c1 (k_aloadn (k := 0) (by decide +kernel) rfl) <|
  mj_c1 (k_iloadn (k := 1) (by decide +kernel) rfl) <|
  mj_c1 (k_iloadn (k := 2) (by decide +kernel) rfl) <|
  mj_c1 (k_iload (by decide +kernel)) <|
  mj_c1 (k_callV (idx := 199) (by decide +kernel) (fit_m_M_depends_m_M_bit) rfl rfl w_1068 w_1070 v_75 (by decide) (by decide +kernel)) <|
  mj_c1 (k_aloadn (k := 0) (by decide +kernel) rfl) <|
  mj_c1 (k_iloadn (k := 1) (by decide +kernel) rfl) <|
  mj_c1 (k_iloadn (k := 2) (by decide +kernel) rfl) <|
  mj_c1 (k_iload (by decide +kernel)) <|
  mj_c1 (k_iconst (by decide +kernel)) <|
  mj_c1 (k_iloadn (k := 3) (by decide +kernel) rfl) <|
  mj_c1 (k_ishl (by decide +kernel)) <|
  mj_c1 (k_ixor (by decide +kernel)) <|
  mj_c1 (k_callV (idx := 199) (by decide +kernel) (fit_m_M_depends_m_M_bit) rfl rfl w_1068 w_1070 v_75 (by decide) (by decide +kernel)) <|
  mj_c1 (k_iceq (off := 5) (by decide +kernel) (by decide)) <|
  mj_c1 (k_iconst (by decide +kernel)) <|
  mj_c1 (k_zret (by decide +kernel) rfl) <|
  mj_c1 (k_iinc (by decide +kernel) (by decide)) <|
  mj_c1 (k_goto (off := -41) (by decide +kernel) (by decide)) <|
  mj_c1 (k_iconst (by decide +kernel)) <|
  mj_c1 (k_zret (by decide +kernel) rfl) mj_c0
def q_M_lacksInput : List (Nat × mj_Sem) := [(0, o_il 1 1), (1, o_call m_M_isCircuit 1 0 0 4 mj_rs), (4, o_ifeq 16 7), (7, o_al 0 8), (8, o_il 1 9), (9, o_il 2 10), (10, o_call m_M_isLiteral 3 0 0 13 (mj_rv 6)), (13, o_ifne 20 16), (16, o_ic 1 17), (17, o_goto 21), (20, o_ic 0 21), (21, o_is 4 23), (23, o_al 0 24), (24, o_il 4 26), (26, o_il 4 28), (28, o_ifne 49 31), (31, o_il 3 32), (32, o_iflt 45 35), (35, o_il 3 36), (36, o_al 0 37), (37, o_gR 6 5 40), (40, o_il 1 41), (41, o_ial 42), (42, o_iclt 49 45), (45, o_ic 1 46), (46, o_goto 50), (49, o_ic 0 50), (50, o_call m_M_throwing 3 0 0 53 (mj_rv 6)), (53, o_zret 0 0)]
set_option maxRecDepth 100000 in
theorem z_M_lacksInput : mj_Code (m_M_lacksInput) (q_M_lacksInput) :=
  mj_c1 (k_iloadn (k := 1) (by decide +kernel) rfl) <|
  mj_c1 (k_callS (idx := 166) (by decide +kernel) (fit_m_M_lacksInput_m_M_isCircuit) rfl w_953 w_954 (by decide) (by decide +kernel)) <|
  mj_c1 (k_ifeq (off := 12) (by decide +kernel) (by decide)) <|
  mj_c1 (k_aloadn (k := 0) (by decide +kernel) rfl) <|
  mj_c1 (k_iloadn (k := 1) (by decide +kernel) rfl) <|
  mj_c1 (k_iloadn (k := 2) (by decide +kernel) rfl) <|
  mj_c1 (k_callV (idx := 193) (by decide +kernel) (fit_m_M_lacksInput_m_M_isLiteral) rfl rfl w_1060 w_1062 v_73 (by decide) (by decide +kernel)) <|
  mj_c1 (k_ifne (off := 7) (by decide +kernel) (by decide)) <|
  mj_c1 (k_iconst (by decide +kernel)) <|
  mj_c1 (k_goto (off := 4) (by decide +kernel) (by decide)) <|
  mj_c1 (k_iconst (by decide +kernel)) <|
  mj_c1 (k_istore (by decide +kernel) (by decide)) <|
  mj_c1 (k_aloadn (k := 0) (by decide +kernel) rfl) <|
  mj_c1 (k_iload (by decide +kernel)) <|
  mj_c1 (k_iload (by decide +kernel)) <|
  mj_c1 (k_ifne (off := 21) (by decide +kernel) (by decide)) <|
  mj_c1 (k_iloadn (k := 3) (by decide +kernel) rfl) <|
  mj_c1 (k_iflt (off := 13) (by decide +kernel) (by decide)) <|
  mj_c1 (k_iloadn (k := 3) (by decide +kernel) rfl) <|
  mj_c1 (k_aloadn (k := 0) (by decide +kernel) rfl) <|
  mj_c1 (k_gR (idx := 16) h_M (by decide) rfl w_851 (by decide +kernel)) <|
  mj_c1 (k_iloadn (k := 1) (by decide +kernel) rfl) <|
  mj_c1 (k_ial (by decide +kernel)) <|
  mj_c1 (k_iclt (off := 7) (by decide +kernel) (by decide)) <|
  mj_c1 (k_iconst (by decide +kernel)) <|
  mj_c1 (k_goto (off := 4) (by decide +kernel) (by decide)) <|
  mj_c1 (k_iconst (by decide +kernel)) <|
  mj_c1 (k_callV (idx := 93) (by decide +kernel) (fit_m_M_lacksInput_m_M_throwing) rfl rfl w_945 w_947 v_49 (by decide) (by decide +kernel)) <|
  mj_c1 (k_zret (by decide +kernel) rfl) mj_c0
def q_M_rises : List (Nat × mj_Sem) := [(0, o_al 0 1), (1, o_il 1 2), (2, o_il 2 3), (3, o_il 3 4), (4, o_call m_M_lacksInput 4 0 0 7 (mj_rv 6)), (7, o_ifeq 12 10), (10, o_ic 0 11), (11, o_iret 0 0), (12, o_ic 1 13), (13, o_is 4 15), (15, o_ic 1 16), (16, o_is 5 18), (18, o_ic 0 19), (19, o_is 6 21), (21, o_il 6 23), (23, o_ic 1 24), (24, o_al 0 25), (25, o_gR 6 5 28), (28, o_il 1 29), (29, o_ial 30), (30, o_ishl 31), (31, o_icge 110 34), (34, o_il 6 36), (36, o_il 3 37), (37, o_ishr 38), (38, o_ic 1 39), (39, o_iand 40), (40, o_ic 1 41), (41, o_icne 47 44), (44, o_goto 104), (47, o_al 0 48), (48, o_il 1 49), (49, o_il 2 50), (50, o_il 6 52), (52, o_ic 1 53), (53, o_il 3 54), (54, o_ishl 55), (55, o_ior 56), (56, o_call m_M_bit 4 0 0 59 (mj_rv 6)), (59, o_al 0 60), (60, o_il 1 61), (61, o_il 2 62), (62, o_il 6 64), (64, o_call m_M_bit 4 0 0 67 (mj_rv 6)), (67, o_isub 68), (68, o_is 7 70), (70, o_il 4 72), (72, o_ifeq 84 75), (75, o_il 7 77), (77, o_iflt 84 80), (80, o_ic 1 81), (81, o_goto 85), (84, o_ic 0 85), (85, o_is 4 87), (87, o_il 5 89), (89, o_ifeq 101 92), (92, o_il 7 94), (94, o_ifgt 101 97), (97, o_ic 1 98), (98, o_goto 102), (101, o_ic 0 102), (102, o_is 5 104), (104, o_inc 6 1 107), (107, o_goto 21), (110, o_il 4 112), (112, o_ifeq 124 115), (115, o_il 5 117), (117, o_ifeq 124 120), (120, o_ic 2 121), (121, o_goto 143), (124, o_il 4 126), (126, o_ifeq 133 129), (129, o_ic 1 130), (130, o_goto 143), (133, o_il 5 135), (135, o_ifeq 142 138), (138, o_ic (-1) 139), (139, o_goto 143), (142, o_ic 0 143), (143, o_iret 0 0)]
set_option maxRecDepth 100000 in
theorem z_M_rises : mj_Code (m_M_rises) (q_M_rises) :=
  mj_c1 (k_aloadn (k := 0) (by decide +kernel) rfl) <|
  mj_c1 (k_iloadn (k := 1) (by decide +kernel) rfl) <|
  mj_c1 (k_iloadn (k := 2) (by decide +kernel) rfl) <|
  mj_c1 (k_iloadn (k := 3) (by decide +kernel) rfl) <|
  mj_c1 (k_callV (idx := 214) (by decide +kernel) (fit_m_M_rises_m_M_lacksInput) rfl rfl w_1112 w_1114 v_79 (by decide) (by decide +kernel)) <|
  mj_c1 (k_ifeq (off := 5) (by decide +kernel) (by decide)) <|
  mj_c1 (k_iconst (by decide +kernel)) <|
  mj_c1 (k_iret (by decide +kernel) rfl) <|
  mj_c1 (k_iconst (by decide +kernel)) <|
  mj_c1 (k_istore (by decide +kernel) (by decide)) <|
  mj_c1 (k_iconst (by decide +kernel)) <|
  mj_c1 (k_istore (by decide +kernel) (by decide)) <|
  mj_c1 (k_iconst (by decide +kernel)) <|
  mj_c1 (k_istore (by decide +kernel) (by decide)) <|
  mj_c1 (k_iload (by decide +kernel)) <|
  mj_c1 (k_iconst (by decide +kernel)) <|
  mj_c1 (k_aloadn (k := 0) (by decide +kernel) rfl) <|
  mj_c1 (k_gR (idx := 16) h_M (by decide) rfl w_851 (by decide +kernel)) <|
  mj_c1 (k_iloadn (k := 1) (by decide +kernel) rfl) <|
  mj_c1 (k_ial (by decide +kernel)) <|
  mj_c1 (k_ishl (by decide +kernel)) <|
  mj_c1 (k_icge (off := 79) (by decide +kernel) (by decide)) <|
  mj_c1 (k_iload (by decide +kernel)) <|
  mj_c1 (k_iloadn (k := 3) (by decide +kernel) rfl) <|
  mj_c1 (k_ishr (by decide +kernel)) <|
  mj_c1 (k_iconst (by decide +kernel)) <|
  mj_c1 (k_iand (by decide +kernel)) <|
  mj_c1 (k_iconst (by decide +kernel)) <|
  mj_c1 (k_icne (off := 6) (by decide +kernel) (by decide)) <|
  mj_c1 (k_goto (off := 60) (by decide +kernel) (by decide)) <|
  mj_c1 (k_aloadn (k := 0) (by decide +kernel) rfl) <|
  mj_c1 (k_iloadn (k := 1) (by decide +kernel) rfl) <|
  mj_c1 (k_iloadn (k := 2) (by decide +kernel) rfl) <|
  mj_c1 (k_iload (by decide +kernel)) <|
  mj_c1 (k_iconst (by decide +kernel)) <|
  mj_c1 (k_iloadn (k := 3) (by decide +kernel) rfl) <|
  mj_c1 (k_ishl (by decide +kernel)) <|
  mj_c1 (k_ior (by decide +kernel)) <|
  mj_c1 (k_callV (idx := 199) (by decide +kernel) (fit_m_M_rises_m_M_bit) rfl rfl w_1068 w_1070 v_75 (by decide) (by decide +kernel)) <|
  mj_c1 (k_aloadn (k := 0) (by decide +kernel) rfl) <|
  mj_c1 (k_iloadn (k := 1) (by decide +kernel) rfl) <|
  mj_c1 (k_iloadn (k := 2) (by decide +kernel) rfl) <|
  mj_c1 (k_iload (by decide +kernel)) <|
  mj_c1 (k_callV (idx := 199) (by decide +kernel) (fit_m_M_rises_m_M_bit) rfl rfl w_1068 w_1070 v_75 (by decide) (by decide +kernel)) <|
  mj_c1 (k_isub (by decide +kernel)) <|
  mj_c1 (k_istore (by decide +kernel) (by decide)) <|
  mj_c1 (k_iload (by decide +kernel)) <|
  mj_c1 (k_ifeq (off := 12) (by decide +kernel) (by decide)) <|
  mj_c1 (k_iload (by decide +kernel)) <|
  mj_c1 (k_iflt (off := 7) (by decide +kernel) (by decide)) <|
  mj_c1 (k_iconst (by decide +kernel)) <|
  mj_c1 (k_goto (off := 4) (by decide +kernel) (by decide)) <|
  mj_c1 (k_iconst (by decide +kernel)) <|
  mj_c1 (k_istore (by decide +kernel) (by decide)) <|
  mj_c1 (k_iload (by decide +kernel)) <|
  mj_c1 (k_ifeq (off := 12) (by decide +kernel) (by decide)) <|
  mj_c1 (k_iload (by decide +kernel)) <|
  mj_c1 (k_ifgt (off := 7) (by decide +kernel) (by decide)) <|
  mj_c1 (k_iconst (by decide +kernel)) <|
  mj_c1 (k_goto (off := 4) (by decide +kernel) (by decide)) <|
  mj_c1 (k_iconst (by decide +kernel)) <|
  mj_c1 (k_istore (by decide +kernel) (by decide)) <|
  mj_c1 (k_iinc (by decide +kernel) (by decide)) <|
  mj_c1 (k_goto (off := -86) (by decide +kernel) (by decide)) <|
  mj_c1 (k_iload (by decide +kernel)) <|
  mj_c1 (k_ifeq (off := 12) (by decide +kernel) (by decide)) <|
  mj_c1 (k_iload (by decide +kernel)) <|
  mj_c1 (k_ifeq (off := 7) (by decide +kernel) (by decide)) <|
  mj_c1 (k_iconst (by decide +kernel)) <|
  mj_c1 (k_goto (off := 22) (by decide +kernel) (by decide)) <|
  mj_c1 (k_iload (by decide +kernel)) <|
  mj_c1 (k_ifeq (off := 7) (by decide +kernel) (by decide)) <|
  mj_c1 (k_iconst (by decide +kernel)) <|
  mj_c1 (k_goto (off := 13) (by decide +kernel) (by decide)) <|
  mj_c1 (k_iload (by decide +kernel)) <|
  mj_c1 (k_ifeq (off := 7) (by decide +kernel) (by decide)) <|
  mj_c1 (k_iconst (by decide +kernel)) <|
  mj_c1 (k_goto (off := 4) (by decide +kernel) (by decide)) <|
  mj_c1 (k_iconst (by decide +kernel)) <|
  mj_c1 (k_iret (by decide +kernel) rfl) mj_c0
def q_M_leader : List (Nat × mj_Sem) := [(0, o_al 0 1), (1, o_il 1 2), (2, o_call m_M_isCircuit 1 0 0 5 mj_rs), (5, o_ifeq 17 8), (8, o_al 0 9), (9, o_il 1 10), (10, o_il 2 11), (11, o_call m_M_isLiteral 3 0 0 14 (mj_rv 6)), (14, o_ifne 21 17), (17, o_ic 1 18), (18, o_goto 22), (21, o_ic 0 22), (22, o_ic 0 23), (23, o_call m_M_throwing 3 0 0 26 (mj_rv 6)), (26, o_ifeq 33 29), (29, o_ic 0 30), (30, o_goto 39), (33, o_al 0 34), (34, o_il 1 35), (35, o_il 2 36), (36, o_call m_M_leaderOf 3 0 0 39 (mj_rv 6)), (39, o_iret 0 0)]
set_option maxRecDepth 100000 in
theorem z_M_leader : mj_Code (m_M_leader) (q_M_leader) :=
  mj_c1 (k_aloadn (k := 0) (by decide +kernel) rfl) <|
  mj_c1 (k_iloadn (k := 1) (by decide +kernel) rfl) <|
  mj_c1 (k_callS (idx := 166) (by decide +kernel) (fit_m_M_leader_m_M_isCircuit) rfl w_953 w_954 (by decide) (by decide +kernel)) <|
  mj_c1 (k_ifeq (off := 12) (by decide +kernel) (by decide)) <|
  mj_c1 (k_aloadn (k := 0) (by decide +kernel) rfl) <|
  mj_c1 (k_iloadn (k := 1) (by decide +kernel) rfl) <|
  mj_c1 (k_iloadn (k := 2) (by decide +kernel) rfl) <|
  mj_c1 (k_callV (idx := 193) (by decide +kernel) (fit_m_M_leader_m_M_isLiteral) rfl rfl w_1060 w_1062 v_73 (by decide) (by decide +kernel)) <|
  mj_c1 (k_ifne (off := 7) (by decide +kernel) (by decide)) <|
  mj_c1 (k_iconst (by decide +kernel)) <|
  mj_c1 (k_goto (off := 4) (by decide +kernel) (by decide)) <|
  mj_c1 (k_iconst (by decide +kernel)) <|
  mj_c1 (k_iconst (by decide +kernel)) <|
  mj_c1 (k_callV (idx := 93) (by decide +kernel) (fit_m_M_leader_m_M_throwing) rfl rfl w_945 w_947 v_49 (by decide) (by decide +kernel)) <|
  mj_c1 (k_ifeq (off := 7) (by decide +kernel) (by decide)) <|
  mj_c1 (k_iconst (by decide +kernel)) <|
  mj_c1 (k_goto (off := 9) (by decide +kernel) (by decide)) <|
  mj_c1 (k_aloadn (k := 0) (by decide +kernel) rfl) <|
  mj_c1 (k_iloadn (k := 1) (by decide +kernel) rfl) <|
  mj_c1 (k_iloadn (k := 2) (by decide +kernel) rfl) <|
  mj_c1 (k_callV (idx := 224) (by decide +kernel) (fit_m_M_leader_m_M_leaderOf) rfl rfl w_1124 w_1126 v_80 (by decide) (by decide +kernel)) <|
  mj_c1 (k_iret (by decide +kernel) rfl) mj_c0
def q_M_leaderOf : List (Nat × mj_Sem) := [(0, o_il 2 1), (1, o_is 3 2), (2, o_al 0 3), (3, o_gR 6 17 6), (6, o_ic 315 9), (9, o_il 1 10), (10, o_imul 11), (11, o_al 0 12), (12, o_il 1 13), (13, o_il 2 14), (14, o_call m_M_rowAt 3 0 0 17 (mj_rv 6)), (17, o_iadd 18), (18, o_ial 19), (19, o_is 4 21), (21, o_ic 0 22), (22, o_is 5 24), (24, o_il 5 26), (26, o_ic 315 29), (29, o_icge 143 32), (32, o_al 0 33), (33, o_il 1 34), (34, o_il 5 36), (36, o_call m_M_isRow 3 0 0 39 (mj_rv 6)), (39, o_ifne 45 42), (42, o_goto 137), (45, o_al 0 46), (46, o_gR 6 17 49), (49, o_ic 315 52), (52, o_il 1 53), (53, o_imul 54), (54, o_il 5 56), (56, o_iadd 57), (57, o_ial 58), (58, o_is 6 60), (60, o_ic 2 61), (61, o_al 0 62), (62, o_il 1 63), (63, o_il 5 65), (65, o_call m_M_variableOf 3 0 0 68 (mj_rv 6)), (68, o_imul 69), (69, o_is 7 71), (71, o_ic 0 72), (72, o_is 8 74), (74, o_il 8 76), (76, o_ic 2 77), (77, o_icge 137 80), (80, o_il 6 82), (82, o_il 4 84), (84, o_icgt 131 87), (87, o_il 6 89), (89, o_il 4 91), (91, o_icne 103 94), (94, o_il 7 96), (96, o_il 8 98), (98, o_iadd 99), (99, o_il 3 100), (100, o_icge 131 103), (103, o_al 0 104), (104, o_il 1 105), (105, o_il 2 106), (106, o_il 1 107), (107, o_il 7 109), (109, o_il 8 111), (111, o_iadd 112), (112, o_call m_M_areSame 5 0 0 115 (mj_rv 6)), (115, o_ifne 121 118), (118, o_goto 131), (121, o_il 6 123), (123, o_is 4 125), (125, o_il 7 127), (127, o_il 8 129), (129, o_iadd 130), (130, o_is 3 131), (131, o_inc 8 1 134), (134, o_goto 74), (137, o_inc 5 1 140), (140, o_goto 24), (143, o_il 3 144), (144, o_iret 0 0)]
set_option maxRecDepth 100000 in
theorem z_M_leaderOf : mj_Code (m_M_leaderOf) (q_M_leaderOf) :=
  mj_c1 (k_iloadn (k := 2) (by decide +kernel) rfl) <|
  mj_c1 (k_istoren (k := 3) (by decide +kernel) rfl (by decide)) <|
  mj_c1 (k_aloadn (k := 0) (by decide +kernel) rfl) <|
  mj_c1 (k_gR (idx := 53) h_M (by decide) rfl w_863 (by decide +kernel)) <|
  mj_c1 (k_sipush (by decide +kernel) (by decide)) <|
  mj_c1 (k_iloadn (k := 1) (by decide +kernel) rfl) <|
  mj_c1 (k_imul (by decide +kernel)) <|
  mj_c1 (k_aloadn (k := 0) (by decide +kernel) rfl) <|
  mj_c1 (k_iloadn (k := 1) (by decide +kernel) rfl) <|
  mj_c1 (k_iloadn (k := 2) (by decide +kernel) rfl) <|
  mj_c1 (k_callV (idx := 141) (by decide +kernel) (fit_m_M_leaderOf_m_M_rowAt) rfl rfl w_1023 w_1025 v_66 (by decide) (by decide +kernel)) <|
  mj_c1 (k_iadd (by decide +kernel)) <|
  mj_c1 (k_ial (by decide +kernel)) <|
  mj_c1 (k_istore (by decide +kernel) (by decide)) <|
  mj_c1 (k_iconst (by decide +kernel)) <|
  mj_c1 (k_istore (by decide +kernel) (by decide)) <|
  mj_c1 (k_iload (by decide +kernel)) <|
  mj_c1 (k_sipush (by decide +kernel) (by decide)) <|
  mj_c1 (k_icge (off := 114) (by decide +kernel) (by decide)) <|
  mj_c1 (k_aloadn (k := 0) (by decide +kernel) rfl) <|
  mj_c1 (k_iloadn (k := 1) (by decide +kernel) rfl) <|
  mj_c1 (k_iload (by decide +kernel)) <|
  mj_c1 (k_callV (idx := 218) (by decide +kernel) (fit_m_M_leaderOf_m_M_isRow) rfl rfl w_1128 w_1130 v_81 (by decide) (by decide +kernel)) <|
  mj_c1 (k_ifne (off := 6) (by decide +kernel) (by decide)) <|
  mj_c1 (k_goto (off := 95) (by decide +kernel) (by decide)) <|
  mj_c1 (k_aloadn (k := 0) (by decide +kernel) rfl) <|
  mj_c1 (k_gR (idx := 53) h_M (by decide) rfl w_863 (by decide +kernel)) <|
  mj_c1 (k_sipush (by decide +kernel) (by decide)) <|
  mj_c1 (k_iloadn (k := 1) (by decide +kernel) rfl) <|
  mj_c1 (k_imul (by decide +kernel)) <|
  mj_c1 (k_iload (by decide +kernel)) <|
  mj_c1 (k_iadd (by decide +kernel)) <|
  mj_c1 (k_ial (by decide +kernel)) <|
  mj_c1 (k_istore (by decide +kernel) (by decide)) <|
  mj_c1 (k_iconst (by decide +kernel)) <|
  mj_c1 (k_aloadn (k := 0) (by decide +kernel) rfl) <|
  mj_c1 (k_iloadn (k := 1) (by decide +kernel) rfl) <|
  mj_c1 (k_iload (by decide +kernel)) <|
  mj_c1 (k_callV (idx := 221) (by decide +kernel) (fit_m_M_leaderOf_m_M_variableOf) rfl rfl w_1132 w_1134 v_82 (by decide) (by decide +kernel)) <|
  mj_c1 (k_imul (by decide +kernel)) <|
  mj_c1 (k_istore (by decide +kernel) (by decide)) <|
  mj_c1 (k_iconst (by decide +kernel)) <|
  mj_c1 (k_istore (by decide +kernel) (by decide)) <|
  mj_c1 (k_iload (by decide +kernel)) <|
  mj_c1 (k_iconst (by decide +kernel)) <|
  mj_c1 (k_icge (off := 60) (by decide +kernel) (by decide)) <|
  mj_c1 (k_iload (by decide +kernel)) <|
  mj_c1 (k_iload (by decide +kernel)) <|
  mj_c1 (k_icgt (off := 47) (by decide +kernel) (by decide)) <|
  mj_c1 (k_iload (by decide +kernel)) <|
  mj_c1 (k_iload (by decide +kernel)) <|
  mj_c1 (k_icne (off := 12) (by decide +kernel) (by decide)) <|
  mj_c1 (k_iload (by decide +kernel)) <|
  mj_c1 (k_iload (by decide +kernel)) <|
  mj_c1 (k_iadd (by decide +kernel)) <|
  mj_c1 (k_iloadn (k := 3) (by decide +kernel) rfl) <|
  mj_c1 (k_icge (off := 31) (by decide +kernel) (by decide)) <|
  mj_c1 (k_aloadn (k := 0) (by decide +kernel) rfl) <|
  mj_c1 (k_iloadn (k := 1) (by decide +kernel) rfl) <|
  mj_c1 (k_iloadn (k := 2) (by decide +kernel) rfl) <|
  mj_c1 (k_iloadn (k := 1) (by decide +kernel) rfl) <|
  mj_c1 (k_iload (by decide +kernel)) <|
  mj_c1 (k_iload (by decide +kernel)) <|
  mj_c1 (k_iadd (by decide +kernel)) <|
  mj_c1 (k_callV (idx := 207) (by decide +kernel) (fit_m_M_leaderOf_m_M_areSame) rfl rfl w_1080 w_1082 v_77 (by decide) (by decide +kernel)) <|
  mj_c1 (k_ifne (off := 6) (by decide +kernel) (by decide)) <|
  mj_c1 (k_goto (off := 13) (by decide +kernel) (by decide)) <|
  mj_c1 (k_iload (by decide +kernel)) <|
  mj_c1 (k_istore (by decide +kernel) (by decide)) <|
  mj_c1 (k_iload (by decide +kernel)) <|
  mj_c1 (k_iload (by decide +kernel)) <|
  mj_c1 (k_iadd (by decide +kernel)) <|
  mj_c1 (k_istoren (k := 3) (by decide +kernel) rfl (by decide)) <|
  mj_c1 (k_iinc (by decide +kernel) (by decide)) <|
  mj_c1 (k_goto (off := -60) (by decide +kernel) (by decide)) <|
  mj_c1 (k_iinc (by decide +kernel) (by decide)) <|
  mj_c1 (k_goto (off := -116) (by decide +kernel) (by decide)) <|
  mj_c1 (k_iloadn (k := 3) (by decide +kernel) rfl) <|
  mj_c1 (k_iret (by decide +kernel) rfl) mj_c0
def q_M_isRow : List (Nat × mj_Sem) := [(0, o_il 2 1), (1, o_ifeq 37 4), (4, o_il 2 5), (5, o_ifle 18 8), (8, o_il 2 9), (9, o_al 0 10), (10, o_gR 6 5 13), (13, o_il 1 14), (14, o_ial 15), (15, o_icle 37 18), (18, o_il 2 19), (19, o_ic 15 21), (21, o_iclt 41 24), (24, o_il 2 25), (25, o_ic 15 27), (27, o_al 0 28), (28, o_gR 6 6 31), (31, o_il 1 32), (32, o_ial 33), (33, o_iadd 34), (34, o_icge 41 37), (37, o_ic 1 38), (38, o_goto 42), (41, o_ic 0 42), (42, o_zret 0 0)]
set_option maxRecDepth 100000 in
theorem z_M_isRow : mj_Code (m_M_isRow) (q_M_isRow) :=
  mj_c1 (k_iloadn (k := 2) (by decide +kernel) rfl) <|
  mj_c1 (k_ifeq (off := 36) (by decide +kernel) (by decide)) <|
  mj_c1 (k_iloadn (k := 2) (by decide +kernel) rfl) <|
  mj_c1 (k_ifle (off := 13) (by decide +kernel) (by decide)) <|
  mj_c1 (k_iloadn (k := 2) (by decide +kernel) rfl) <|
  mj_c1 (k_aloadn (k := 0) (by decide +kernel) rfl) <|
  mj_c1 (k_gR (idx := 16) h_M (by decide) rfl w_851 (by decide +kernel)) <|
  mj_c1 (k_iloadn (k := 1) (by decide +kernel) rfl) <|
  mj_c1 (k_ial (by decide +kernel)) <|
  mj_c1 (k_icle (off := 22) (by decide +kernel) (by decide)) <|
  mj_c1 (k_iloadn (k := 2) (by decide +kernel) rfl) <|
  mj_c1 (k_bipush (by decide +kernel) (by decide)) <|
  mj_c1 (k_iclt (off := 20) (by decide +kernel) (by decide)) <|
  mj_c1 (k_iloadn (k := 2) (by decide +kernel) rfl) <|
  mj_c1 (k_bipush (by decide +kernel) (by decide)) <|
  mj_c1 (k_aloadn (k := 0) (by decide +kernel) rfl) <|
  mj_c1 (k_gR (idx := 20) h_M (by decide) rfl w_852 (by decide +kernel)) <|
  mj_c1 (k_iloadn (k := 1) (by decide +kernel) rfl) <|
  mj_c1 (k_ial (by decide +kernel)) <|
  mj_c1 (k_iadd (by decide +kernel)) <|
  mj_c1 (k_icge (off := 7) (by decide +kernel) (by decide)) <|
  mj_c1 (k_iconst (by decide +kernel)) <|
  mj_c1 (k_goto (off := 4) (by decide +kernel) (by decide)) <|
  mj_c1 (k_iconst (by decide +kernel)) <|
  mj_c1 (k_zret (by decide +kernel) rfl) mj_c0
def q_M_variableOf : List (Nat × mj_Sem) := [(0, o_il 2 1), (1, o_ifne 8 4), (4, o_ic 0 5), (5, o_goto 49), (8, o_il 2 9), (9, o_ic 15 11), (11, o_icge 32 14), (14, o_al 0 15), (15, o_gR 6 11 18), (18, o_ic 14 20), (20, o_il 1 21), (21, o_imul 22), (22, o_il 2 23), (23, o_iadd 24), (24, o_ic 1 25), (25, o_isub 26), (26, o_ial 27), (27, o_ic 2 28), (28, o_idiv 29), (29, o_goto 49), (32, o_al 0 33), (33, o_gR 6 12 36), (36, o_ic 300 39), (39, o_il 1 40), (40, o_imul 41), (41, o_il 2 42), (42, o_iadd 43), (43, o_ic 15 45), (45, o_isub 46), (46, o_ial 47), (47, o_ic 2 48), (48, o_idiv 49), (49, o_iret 0 0)]
set_option maxRecDepth 100000 in
theorem z_M_variableOf : mj_Code (m_M_variableOf) (q_M_variableOf) :=
  mj_c1 (k_iloadn (k := 2) (by decide +kernel) rfl) <|
  mj_c1 (k_ifne (off := 7) (by decide +kernel) (by decide)) <|
  mj_c1 (k_iconst (by decide +kernel)) <|
  mj_c1 (k_goto (off := 44) (by decide +kernel) (by decide)) <|
  mj_c1 (k_iloadn (k := 2) (by decide +kernel) rfl) <|
  mj_c1 (k_bipush (by decide +kernel) (by decide)) <|
  mj_c1 (k_icge (off := 21) (by decide +kernel) (by decide)) <|
  mj_c1 (k_aloadn (k := 0) (by decide +kernel) rfl) <|
  mj_c1 (k_gR (idx := 35) h_M (by decide) rfl w_857 (by decide +kernel)) <|
  mj_c1 (k_bipush (by decide +kernel) (by decide)) <|
  mj_c1 (k_iloadn (k := 1) (by decide +kernel) rfl) <|
  mj_c1 (k_imul (by decide +kernel)) <|
  mj_c1 (k_iloadn (k := 2) (by decide +kernel) rfl) <|
  mj_c1 (k_iadd (by decide +kernel)) <|
  mj_c1 (k_iconst (by decide +kernel)) <|
  mj_c1 (k_isub (by decide +kernel)) <|
  mj_c1 (k_ial (by decide +kernel)) <|
  mj_c1 (k_iconst (by decide +kernel)) <|
  mj_c1 (k_idiv (by decide +kernel)) <|
  mj_c1 (k_goto (off := 20) (by decide +kernel) (by decide)) <|
  mj_c1 (k_aloadn (k := 0) (by decide +kernel) rfl) <|
  mj_c1 (k_gR (idx := 38) h_M (by decide) rfl w_858 (by decide +kernel)) <|
  mj_c1 (k_sipush (by decide +kernel) (by decide)) <|
  mj_c1 (k_iloadn (k := 1) (by decide +kernel) rfl) <|
  mj_c1 (k_imul (by decide +kernel)) <|
  mj_c1 (k_iloadn (k := 2) (by decide +kernel) rfl) <|
  mj_c1 (k_iadd (by decide +kernel)) <|
  mj_c1 (k_bipush (by decide +kernel) (by decide)) <|
  mj_c1 (k_isub (by decide +kernel)) <|
  mj_c1 (k_ial (by decide +kernel)) <|
  mj_c1 (k_iconst (by decide +kernel)) <|
  mj_c1 (k_idiv (by decide +kernel)) <|
  mj_c1 (k_iret (by decide +kernel) rfl) mj_c0
def q_M_functions : List (Nat × mj_Sem) := [(0, o_al 0 1), (1, o_il 1 2), (2, o_call m_M_isCircuit 1 0 0 5 mj_rs), (5, o_ifne 12 8), (8, o_ic 1 9), (9, o_goto 13), (12, o_ic 0 13), (13, o_ic 0 14), (14, o_call m_M_throwing 3 0 0 17 (mj_rv 6)), (17, o_ifeq 24 20), (20, o_ic 0 21), (21, o_goto 30), (24, o_al 0 25), (25, o_il 1 26), (26, o_il 1 27), (27, o_call m_M_different 3 0 0 30 (mj_rv 6)), (30, o_iret 0 0)]
set_option maxRecDepth 100000 in
theorem z_M_functions : mj_Code (m_M_functions) (q_M_functions) :=
  mj_c1 (k_aloadn (k := 0) (by decide +kernel) rfl) <|
  mj_c1 (k_iloadn (k := 1) (by decide +kernel) rfl) <|
  mj_c1 (k_callS (idx := 166) (by decide +kernel) (fit_m_M_functions_m_M_isCircuit) rfl w_953 w_954 (by decide) (by decide +kernel)) <|
  mj_c1 (k_ifne (off := 7) (by decide +kernel) (by decide)) <|
  mj_c1 (k_iconst (by decide +kernel)) <|
  mj_c1 (k_goto (off := 4) (by decide +kernel) (by decide)) <|
  mj_c1 (k_iconst (by decide +kernel)) <|
  mj_c1 (k_iconst (by decide +kernel)) <|
  mj_c1 (k_callV (idx := 93) (by decide +kernel) (fit_m_M_functions_m_M_throwing) rfl rfl w_945 w_947 v_49 (by decide) (by decide +kernel)) <|
  mj_c1 (k_ifeq (off := 7) (by decide +kernel) (by decide)) <|
  mj_c1 (k_iconst (by decide +kernel)) <|
  mj_c1 (k_goto (off := 9) (by decide +kernel) (by decide)) <|
  mj_c1 (k_aloadn (k := 0) (by decide +kernel) rfl) <|
  mj_c1 (k_iloadn (k := 1) (by decide +kernel) rfl) <|
  mj_c1 (k_iloadn (k := 1) (by decide +kernel) rfl) <|
  mj_c1 (k_callV (idx := 230) (by decide +kernel) (fit_m_M_functions_m_M_different) rfl rfl w_1140 w_1142 v_83 (by decide) (by decide +kernel)) <|
  mj_c1 (k_iret (by decide +kernel) rfl) mj_c0
def q_M_different : List (Nat × mj_Sem) := [(0, o_ic 0 1), (1, o_is 3 2), (2, o_il 1 3), (3, o_is 4 5), (5, o_il 4 7), (7, o_il 2 8), (8, o_icgt 65 11), (11, o_ic 0 12), (12, o_is 5 14), (14, o_il 5 16), (16, o_ic 315 19), (19, o_icge 59 22), (22, o_il 3 23), (23, o_al 0 24), (24, o_il 4 26), (26, o_il 5 28), (28, o_call m_M_isRow 3 0 0 31 (mj_rv 6)), (31, o_ifeq 50 34), (34, o_al 0 35), (35, o_il 4 37), (37, o_il 5 39), (39, o_il 1 40), (40, o_call m_M_isOld 4 0 0 43 (mj_rv 6)), (43, o_ifne 50 46), (46, o_ic 1 47), (47, o_goto 51), (50, o_ic 0 51), (51, o_iadd 52), (52, o_is 3 53), (53, o_inc 5 1 56), (56, o_goto 14), (59, o_inc 4 1 62), (62, o_goto 5), (65, o_il 3 66), (66, o_iret 0 0)]
set_option maxRecDepth 100000 in
theorem z_M_different : mj_Code (m_M_different) (q_M_different) :=
  mj_c1 (k_iconst (by decide +kernel)) <|
  mj_c1 (k_istoren (k := 3) (by decide +kernel) rfl (by decide)) <|
  mj_c1 (k_iloadn (k := 1) (by decide +kernel) rfl) <|
  mj_c1 (k_istore (by decide +kernel) (by decide)) <|
  mj_c1 (k_iload (by decide +kernel)) <|
  mj_c1 (k_iloadn (k := 2) (by decide +kernel) rfl) <|
  mj_c1 (k_icgt (off := 57) (by decide +kernel) (by decide)) <|
  mj_c1 (k_iconst (by decide +kernel)) <|
  mj_c1 (k_istore (by decide +kernel) (by decide)) <|
  mj_c1 (k_iload (by decide +kernel)) <|
  mj_c1 (k_sipush (by decide +kernel) (by decide)) <|
  mj_c1 (k_icge (off := 40) (by decide +kernel) (by decide)) <|
  mj_c1 (k_iloadn (k := 3) (by decide +kernel) rfl) <|
  mj_c1 (k_aloadn (k := 0) (by decide +kernel) rfl) <|
  mj_c1 (k_iload (by decide +kernel)) <|
  mj_c1 (k_iload (by decide +kernel)) <|
  mj_c1 (k_callV (idx := 218) (by decide +kernel) (fit_m_M_different_m_M_isRow) rfl rfl w_1128 w_1130 v_81 (by decide) (by decide +kernel)) <|
  mj_c1 (k_ifeq (off := 19) (by decide +kernel) (by decide)) <|
  mj_c1 (k_aloadn (k := 0) (by decide +kernel) rfl) <|
  mj_c1 (k_iload (by decide +kernel)) <|
  mj_c1 (k_iload (by decide +kernel)) <|
  mj_c1 (k_iloadn (k := 1) (by decide +kernel) rfl) <|
  mj_c1 (k_callV (idx := 227) (by decide +kernel) (fit_m_M_different_m_M_isOld) rfl rfl w_1144 w_1146 v_84 (by decide) (by decide +kernel)) <|
  mj_c1 (k_ifne (off := 7) (by decide +kernel) (by decide)) <|
  mj_c1 (k_iconst (by decide +kernel)) <|
  mj_c1 (k_goto (off := 4) (by decide +kernel) (by decide)) <|
  mj_c1 (k_iconst (by decide +kernel)) <|
  mj_c1 (k_iadd (by decide +kernel)) <|
  mj_c1 (k_istoren (k := 3) (by decide +kernel) rfl (by decide)) <|
  mj_c1 (k_iinc (by decide +kernel) (by decide)) <|
  mj_c1 (k_goto (off := -42) (by decide +kernel) (by decide)) <|
  mj_c1 (k_iinc (by decide +kernel) (by decide)) <|
  mj_c1 (k_goto (off := -57) (by decide +kernel) (by decide)) <|
  mj_c1 (k_iloadn (k := 3) (by decide +kernel) rfl) <|
  mj_c1 (k_iret (by decide +kernel) rfl) mj_c0
def q_M_isOld : List (Nat × mj_Sem) := [(0, o_ic 2 1), (1, o_al 0 2), (2, o_il 1 3), (3, o_il 2 4), (4, o_call m_M_variableOf 3 0 0 7 (mj_rv 6)), (7, o_imul 8), (8, o_is 4 10), (10, o_il 3 11), (11, o_is 5 13), (13, o_il 5 15), (15, o_il 1 16), (16, o_icgt 110 19), (19, o_ic 0 20), (20, o_is 6 22), (22, o_il 6 24), (24, o_il 5 26), (26, o_il 1 27), (27, o_icge 36 30), (30, o_ic 315 33), (33, o_goto 37), (36, o_il 2 37), (37, o_icge 104 40), (40, o_al 0 41), (41, o_il 5 43), (43, o_il 6 45), (45, o_call m_M_isRow 3 0 0 48 (mj_rv 6)), (48, o_ifne 54 51), (51, o_goto 98), (54, o_ic 2 55), (55, o_al 0 56), (56, o_il 5 58), (58, o_il 6 60), (60, o_call m_M_variableOf 3 0 0 63 (mj_rv 6)), (63, o_imul 64), (64, o_is 7 66), (66, o_al 0 67), (67, o_il 1 68), (68, o_il 4 70), (70, o_il 5 72), (72, o_il 7 74), (74, o_call m_M_areSame 5 0 0 77 (mj_rv 6)), (77, o_ifne 96 80), (80, o_al 0 81), (81, o_il 1 82), (82, o_il 4 84), (84, o_il 5 86), (86, o_il 7 88), (88, o_ic 1 89), (89, o_iadd 90), (90, o_call m_M_areSame 5 0 0 93 (mj_rv 6)), (93, o_ifeq 98 96), (96, o_ic 1 97), (97, o_zret 0 0), (98, o_inc 6 1 101), (101, o_goto 22), (104, o_inc 5 1 107), (107, o_goto 13), (110, o_ic 0 111), (111, o_zret 0 0)]
set_option maxRecDepth 100000 in
theorem z_M_isOld : mj_Code (m_M_isOld) (q_M_isOld) :=
  mj_c1 (k_iconst (by decide +kernel)) <|
  mj_c1 (k_aloadn (k := 0) (by decide +kernel) rfl) <|
  mj_c1 (k_iloadn (k := 1) (by decide +kernel) rfl) <|
  mj_c1 (k_iloadn (k := 2) (by decide +kernel) rfl) <|
  mj_c1 (k_callV (idx := 221) (by decide +kernel) (fit_m_M_isOld_m_M_variableOf) rfl rfl w_1132 w_1134 v_82 (by decide) (by decide +kernel)) <|
  mj_c1 (k_imul (by decide +kernel)) <|
  mj_c1 (k_istore (by decide +kernel) (by decide)) <|
  mj_c1 (k_iloadn (k := 3) (by decide +kernel) rfl) <|
  mj_c1 (k_istore (by decide +kernel) (by decide)) <|
  mj_c1 (k_iload (by decide +kernel)) <|
  mj_c1 (k_iloadn (k := 1) (by decide +kernel) rfl) <|
  mj_c1 (k_icgt (off := 94) (by decide +kernel) (by decide)) <|
  mj_c1 (k_iconst (by decide +kernel)) <|
  mj_c1 (k_istore (by decide +kernel) (by decide)) <|
  mj_c1 (k_iload (by decide +kernel)) <|
  mj_c1 (k_iload (by decide +kernel)) <|
  mj_c1 (k_iloadn (k := 1) (by decide +kernel) rfl) <|
  mj_c1 (k_icge (off := 9) (by decide +kernel) (by decide)) <|
  mj_c1 (k_sipush (by decide +kernel) (by decide)) <|
  mj_c1 (k_goto (off := 4) (by decide +kernel) (by decide)) <|
  mj_c1 (k_iloadn (k := 2) (by decide +kernel) rfl) <|
  mj_c1 (k_icge (off := 67) (by decide +kernel) (by decide)) <|
  mj_c1 (k_aloadn (k := 0) (by decide +kernel) rfl) <|
  mj_c1 (k_iload (by decide +kernel)) <|
  mj_c1 (k_iload (by decide +kernel)) <|
  mj_c1 (k_callV (idx := 218) (by decide +kernel) (fit_m_M_isOld_m_M_isRow) rfl rfl w_1128 w_1130 v_81 (by decide) (by decide +kernel)) <|
  mj_c1 (k_ifne (off := 6) (by decide +kernel) (by decide)) <|
  mj_c1 (k_goto (off := 47) (by decide +kernel) (by decide)) <|
  mj_c1 (k_iconst (by decide +kernel)) <|
  mj_c1 (k_aloadn (k := 0) (by decide +kernel) rfl) <|
  mj_c1 (k_iload (by decide +kernel)) <|
  mj_c1 (k_iload (by decide +kernel)) <|
  mj_c1 (k_callV (idx := 221) (by decide +kernel) (fit_m_M_isOld_m_M_variableOf) rfl rfl w_1132 w_1134 v_82 (by decide) (by decide +kernel)) <|
  mj_c1 (k_imul (by decide +kernel)) <|
  mj_c1 (k_istore (by decide +kernel) (by decide)) <|
  mj_c1 (k_aloadn (k := 0) (by decide +kernel) rfl) <|
  mj_c1 (k_iloadn (k := 1) (by decide +kernel) rfl) <|
  mj_c1 (k_iload (by decide +kernel)) <|
  mj_c1 (k_iload (by decide +kernel)) <|
  mj_c1 (k_iload (by decide +kernel)) <|
  mj_c1 (k_callV (idx := 207) (by decide +kernel) (fit_m_M_isOld_m_M_areSame) rfl rfl w_1080 w_1082 v_77 (by decide) (by decide +kernel)) <|
  mj_c1 (k_ifne (off := 19) (by decide +kernel) (by decide)) <|
  mj_c1 (k_aloadn (k := 0) (by decide +kernel) rfl) <|
  mj_c1 (k_iloadn (k := 1) (by decide +kernel) rfl) <|
  mj_c1 (k_iload (by decide +kernel)) <|
  mj_c1 (k_iload (by decide +kernel)) <|
  mj_c1 (k_iload (by decide +kernel)) <|
  mj_c1 (k_iconst (by decide +kernel)) <|
  mj_c1 (k_iadd (by decide +kernel)) <|
  mj_c1 (k_callV (idx := 207) (by decide +kernel) (fit_m_M_isOld_m_M_areSame) rfl rfl w_1080 w_1082 v_77 (by decide) (by decide +kernel)) <|
  mj_c1 (k_ifeq (off := 5) (by decide +kernel) (by decide)) <|
  mj_c1 (k_iconst (by decide +kernel)) <|
  mj_c1 (k_zret (by decide +kernel) rfl) <|
  mj_c1 (k_iinc (by decide +kernel) (by decide)) <|
  mj_c1 (k_goto (off := -79) (by decide +kernel) (by decide)) <|
  mj_c1 (k_iinc (by decide +kernel) (by decide)) <|
  mj_c1 (k_goto (off := -94) (by decide +kernel) (by decide)) <|
  mj_c1 (k_iconst (by decide +kernel)) <|
  mj_c1 (k_zret (by decide +kernel) rfl) mj_c0
def q_M_allFunctions : List (Nat × mj_Sem) := [(0, o_al 0 1), (1, o_al 0 2), (2, o_call m_M_match 1 0 0 5 (mj_rv 6)), (5, o_ifne 12 8), (8, o_ic 1 9), (9, o_goto 13), (12, o_ic 0 13), (13, o_ic 0 14), (14, o_call m_M_throwing 3 0 0 17 (mj_rv 6)), (17, o_ifeq 24 20), (20, o_ic 0 21), (21, o_goto 30), (24, o_al 0 25), (25, o_ic 0 26), (26, o_ic 1 27), (27, o_call m_M_different 3 0 0 30 (mj_rv 6)), (30, o_iret 0 0)]
set_option maxRecDepth 100000 in
theorem z_M_allFunctions : mj_Code (m_M_allFunctions) (q_M_allFunctions) :=
  mj_c1 (k_aloadn (k := 0) (by decide +kernel) rfl) <|
  mj_c1 (k_aloadn (k := 0) (by decide +kernel) rfl) <|
  mj_c1 (k_callV (idx := 203) (by decide +kernel) (fit_m_M_allFunctions_m_M_match) rfl rfl w_1076 w_1078 v_76 (by decide) (by decide +kernel)) <|
  mj_c1 (k_ifne (off := 7) (by decide +kernel) (by decide)) <|
  mj_c1 (k_iconst (by decide +kernel)) <|
  mj_c1 (k_goto (off := 4) (by decide +kernel) (by decide)) <|
  mj_c1 (k_iconst (by decide +kernel)) <|
  mj_c1 (k_iconst (by decide +kernel)) <|
  mj_c1 (k_callV (idx := 93) (by decide +kernel) (fit_m_M_allFunctions_m_M_throwing) rfl rfl w_945 w_947 v_49 (by decide) (by decide +kernel)) <|
  mj_c1 (k_ifeq (off := 7) (by decide +kernel) (by decide)) <|
  mj_c1 (k_iconst (by decide +kernel)) <|
  mj_c1 (k_goto (off := 9) (by decide +kernel) (by decide)) <|
  mj_c1 (k_aloadn (k := 0) (by decide +kernel) rfl) <|
  mj_c1 (k_iconst (by decide +kernel)) <|
  mj_c1 (k_iconst (by decide +kernel)) <|
  mj_c1 (k_callV (idx := 230) (by decide +kernel) (fit_m_M_allFunctions_m_M_different) rfl rfl w_1140 w_1142 v_83 (by decide) (by decide +kernel)) <|
  mj_c1 (k_iret (by decide +kernel) rfl) mj_c0
def q_M_write : List (Nat × mj_Sem) := [(0, o_al 0 1), (1, o_il 1 2), (2, o_call m_M_isCircuit 1 0 0 5 mj_rs), (5, o_ifne 12 8), (8, o_ic 1 9), (9, o_goto 13), (12, o_ic 0 13), (13, o_ic 0 14), (14, o_call m_M_throwing 3 0 0 17 (mj_rv 6)), (17, o_ifeq 22 20), (20, o_ic 0 21), (21, o_iret 0 0), (22, o_il 1 23), (23, o_is 4 25), (25, o_al 0 26), (26, o_il 4 28), (28, o_il 3 29), (29, o_call m_M_choose 3 0 0 32 (mj_rv 6)), (32, o_is 5 34), (34, o_al 0 35), (35, o_ic 0 36), (36, o_pI 6 4 39), (39, o_al 0 40), (40, o_ic 97 42), (42, o_call m_M_put 2 0 0 45 (mj_rv 6)), (45, o_al 0 46), (46, o_il 2 47), (47, o_ifeq 55 50), (50, o_ic 105 52), (52, o_goto 57), (55, o_ic 97 57), (57, o_call m_M_put 2 0 0 60 (mj_rv 6)), (60, o_al 0 61), (61, o_ic 103 63), (63, o_call m_M_put 2 0 0 66 (mj_rv 6)), (66, o_al 0 67), (67, o_ic 32 69), (69, o_call m_M_put 2 0 0 72 (mj_rv 6)), (72, o_al 0 73), (73, o_al 0 74), (74, o_gR 6 5 77), (77, o_il 4 79), (79, o_ial 80), (80, o_il 5 82), (82, o_iadd 83), (83, o_ic 32 85), (85, o_call m_M_putNumber 3 0 0 88 (mj_rv 6)), (88, o_al 0 89), (89, o_al 0 90), (90, o_gR 6 5 93), (93, o_il 4 95), (95, o_ial 96), (96, o_ic 32 98), (98, o_call m_M_putNumber 3 0 0 101 (mj_rv 6)), (101, o_al 0 102), (102, o_ic 0 103), (103, o_ic 32 105), (105, o_call m_M_putNumber 3 0 0 108 (mj_rv 6)), (108, o_al 0 109), (109, o_al 0 110), (110, o_gR 6 7 113), (113, o_il 4 115), (115, o_ial 116), (116, o_ic 32 118), (118, o_call m_M_putNumber 3 0 0 121 (mj_rv 6)), (121, o_al 0 122), (122, o_il 5 124), (124, o_ic 10 126), (126, o_call m_M_putNumber 3 0 0 129 (mj_rv 6)), (129, o_ic 0 130), (130, o_is 6 132), (132, o_il 6 134), (134, o_al 0 135), (135, o_gR 6 5 138), (138, o_il 4 140), (140, o_ial 141), (141, o_icge 179 144), (144, o_al 0 145), (145, o_gR 6 28 148), (148, o_ic 1 149), (149, o_il 6 151), (151, o_iadd 152), (152, o_il 6 154), (154, o_ic 1 155), (155, o_iadd 156), (156, o_ias 157), (157, o_il 2 158), (158, o_ifne 173 161), (161, o_al 0 162), (162, o_ic 2 163), (163, o_il 6 165), (165, o_imul 166), (166, o_ic 2 167), (167, o_iadd 168), (168, o_ic 10 170), (170, o_call m_M_putNumber 3 0 0 173 (mj_rv 6)), (173, o_inc 6 1 176), (176, o_goto 132), (179, o_ic 0 180), (180, o_is 6 182), (182, o_il 6 184), (184, o_il 5 186), (186, o_icge 225 189), (189, o_al 0 190), (190, o_il 4 192), (192, o_call m_M_nextGate 2 0 0 195 (mj_rv 6)), (195, o_is 7 197), (197, o_al 0 198), (198, o_gR 6 28 201), (201, o_ic 15 203), (203, o_il 7 205), (205, o_iadd 206), (206, o_al 0 207), (207, o_gR 6 5 210), (210, o_il 4 212), (212, o_ial 213), (213, o_ic 1 214), (214, o_iadd 215), (215, o_il 6 217), (217, o_iadd 218), (218, o_ias 219), (219, o_inc 6 1 222), (222, o_goto 182), (225, o_ic 0 226), (226, o_is 6 228), (228, o_il 6 230), (230, o_al 0 231), (231, o_gR 6 7 234), (234, o_il 4 236), (236, o_ial 237), (237, o_icge 271 240), (240, o_al 0 241), (241, o_al 0 242), (242, o_il 4 244), (244, o_al 0 245), (245, o_gR 6 15 248), (248, o_ic 16 250), (250, o_il 4 252), (252, o_imul 253), (253, o_il 6 255), (255, o_iadd 256), (256, o_ial 257), (257, o_call m_M_written 3 0 0 260 (mj_rv 6)), (260, o_ic 10 262), (262, o_call m_M_putNumber 3 0 0 265 (mj_rv 6)), (265, o_inc 6 1 268), (268, o_goto 228), (271, o_ic 0 272), (272, o_is 6 274), (274, o_il 6 276), (276, o_il 5 278), (278, o_icge 306 281), (281, o_al 0 282), (282, o_il 4 284), (284, o_al 0 285), (285, o_gR 6 5 288), (288, o_il 4 290), (290, o_ial 291), (291, o_ic 1 292), (292, o_iadd 293), (293, o_il 6 295), (295, o_iadd 296), (296, o_il 2 297), (297, o_call m_M_writeGate 4 0 0 300 (mj_rv 6)), (300, o_inc 6 1 303), (303, o_goto 274), (306, o_al 0 307), (307, o_gI 6 4 310), (310, o_iret 0 0)]
set_option maxRecDepth 100000 in
theorem z_M_write : mj_Code (m_M_write) (q_M_write) :=
  mj_c1 (k_aloadn (k := 0) (by decide +kernel) rfl) <|
  mj_c1 (k_iloadn (k := 1) (by decide +kernel) rfl) <|
  mj_c1 (k_callS (idx := 166) (by decide +kernel) (fit_m_M_write_m_M_isCircuit) rfl w_953 w_954 (by decide) (by decide +kernel)) <|
  mj_c1 (k_ifne (off := 7) (by decide +kernel) (by decide)) <|
  mj_c1 (k_iconst (by decide +kernel)) <|
  mj_c1 (k_goto (off := 4) (by decide +kernel) (by decide)) <|
  mj_c1 (k_iconst (by decide +kernel)) <|
  mj_c1 (k_iconst (by decide +kernel)) <|
  mj_c1 (k_callV (idx := 93) (by decide +kernel) (fit_m_M_write_m_M_throwing) rfl rfl w_945 w_947 v_49 (by decide) (by decide +kernel)) <|
  mj_c1 (k_ifeq (off := 5) (by decide +kernel) (by decide)) <|
  mj_c1 (k_iconst (by decide +kernel)) <|
  mj_c1 (k_iret (by decide +kernel) rfl) <|
  mj_c1 (k_iloadn (k := 1) (by decide +kernel) rfl) <|
  mj_c1 (k_istore (by decide +kernel) (by decide)) <|
  mj_c1 (k_aloadn (k := 0) (by decide +kernel) rfl) <|
  mj_c1 (k_iload (by decide +kernel)) <|
  mj_c1 (k_iloadn (k := 3) (by decide +kernel) rfl) <|
  mj_c1 (k_callV (idx := 242) (by decide +kernel) (fit_m_M_write_m_M_choose) rfl rfl w_1156 w_1158 v_85 (by decide) (by decide +kernel)) <|
  mj_c1 (k_istore (by decide +kernel) (by decide)) <|
  mj_c1 (k_aloadn (k := 0) (by decide +kernel) rfl) <|
  mj_c1 (k_iconst (by decide +kernel)) <|
  mj_c1 (k_pI (idx := 233) h_M (by decide) rfl rfl w_850 rfl (by decide +kernel)) <|
  mj_c1 (k_aloadn (k := 0) (by decide +kernel) rfl) <|
  mj_c1 (k_bipush (by decide +kernel) (by decide)) <|
  mj_c1 (k_callV (idx := 236) (by decide +kernel) (fit_m_M_write_m_M_put) rfl rfl w_1164 w_1166 v_87 (by decide) (by decide +kernel)) <|
  mj_c1 (k_aloadn (k := 0) (by decide +kernel) rfl) <|
  mj_c1 (k_iloadn (k := 2) (by decide +kernel) rfl) <|
  mj_c1 (k_ifeq (off := 8) (by decide +kernel) (by decide)) <|
  mj_c1 (k_bipush (by decide +kernel) (by decide)) <|
  mj_c1 (k_goto (off := 5) (by decide +kernel) (by decide)) <|
  mj_c1 (k_bipush (by decide +kernel) (by decide)) <|
  mj_c1 (k_callV (idx := 236) (by decide +kernel) (fit_m_M_write_m_M_put) rfl rfl w_1164 w_1166 v_87 (by decide) (by decide +kernel)) <|
  mj_c1 (k_aloadn (k := 0) (by decide +kernel) rfl) <|
  mj_c1 (k_bipush (by decide +kernel) (by decide)) <|
  mj_c1 (k_callV (idx := 236) (by decide +kernel) (fit_m_M_write_m_M_put) rfl rfl w_1164 w_1166 v_87 (by decide) (by decide +kernel)) <|
  mj_c1 (k_aloadn (k := 0) (by decide +kernel) rfl) <|
  mj_c1 (k_bipush (by decide +kernel) (by decide)) <|
  mj_c1 (k_callV (idx := 236) (by decide +kernel) (fit_m_M_write_m_M_put) rfl rfl w_1164 w_1166 v_87 (by decide) (by decide +kernel)) <|
  mj_c1 (k_aloadn (k := 0) (by decide +kernel) rfl) <|
  mj_c1 (k_aloadn (k := 0) (by decide +kernel) rfl) <|
  mj_c1 (k_gR (idx := 16) h_M (by decide) rfl w_851 (by decide +kernel)) <|
  mj_c1 (k_iload (by decide +kernel)) <|
  mj_c1 (k_ial (by decide +kernel)) <|
  mj_c1 (k_iload (by decide +kernel)) <|
  mj_c1 (k_iadd (by decide +kernel)) <|
  mj_c1 (k_bipush (by decide +kernel) (by decide)) <|
  mj_c1 (k_callV (idx := 246) (by decide +kernel) (fit_m_M_write_m_M_putNumber) rfl rfl w_1168 w_1170 v_88 (by decide) (by decide +kernel)) <|
  mj_c1 (k_aloadn (k := 0) (by decide +kernel) rfl) <|
  mj_c1 (k_aloadn (k := 0) (by decide +kernel) rfl) <|
  mj_c1 (k_gR (idx := 16) h_M (by decide) rfl w_851 (by decide +kernel)) <|
  mj_c1 (k_iload (by decide +kernel)) <|
  mj_c1 (k_ial (by decide +kernel)) <|
  mj_c1 (k_bipush (by decide +kernel) (by decide)) <|
  mj_c1 (k_callV (idx := 246) (by decide +kernel) (fit_m_M_write_m_M_putNumber) rfl rfl w_1168 w_1170 v_88 (by decide) (by decide +kernel)) <|
  mj_c1 (k_aloadn (k := 0) (by decide +kernel) rfl) <|
  mj_c1 (k_iconst (by decide +kernel)) <|
  mj_c1 (k_bipush (by decide +kernel) (by decide)) <|
  mj_c1 (k_callV (idx := 246) (by decide +kernel) (fit_m_M_write_m_M_putNumber) rfl rfl w_1168 w_1170 v_88 (by decide) (by decide +kernel)) <|
  mj_c1 (k_aloadn (k := 0) (by decide +kernel) rfl) <|
  mj_c1 (k_aloadn (k := 0) (by decide +kernel) rfl) <|
  mj_c1 (k_gR (idx := 23) h_M (by decide) rfl w_853 (by decide +kernel)) <|
  mj_c1 (k_iload (by decide +kernel)) <|
  mj_c1 (k_ial (by decide +kernel)) <|
  mj_c1 (k_bipush (by decide +kernel) (by decide)) <|
  mj_c1 (k_callV (idx := 246) (by decide +kernel) (fit_m_M_write_m_M_putNumber) rfl rfl w_1168 w_1170 v_88 (by decide) (by decide +kernel)) <|
  mj_c1 (k_aloadn (k := 0) (by decide +kernel) rfl) <|
  mj_c1 (k_iload (by decide +kernel)) <|
  mj_c1 (k_bipush (by decide +kernel) (by decide)) <|
  mj_c1 (k_callV (idx := 246) (by decide +kernel) (fit_m_M_write_m_M_putNumber) rfl rfl w_1168 w_1170 v_88 (by decide) (by decide +kernel)) <|
  mj_c1 (k_iconst (by decide +kernel)) <|
  mj_c1 (k_istore (by decide +kernel) (by decide)) <|
  mj_c1 (k_iload (by decide +kernel)) <|
  mj_c1 (k_aloadn (k := 0) (by decide +kernel) rfl) <|
  mj_c1 (k_gR (idx := 16) h_M (by decide) rfl w_851 (by decide +kernel)) <|
  mj_c1 (k_iload (by decide +kernel)) <|
  mj_c1 (k_ial (by decide +kernel)) <|
  mj_c1 (k_icge (off := 38) (by decide +kernel) (by decide)) <|
  mj_c1 (k_aloadn (k := 0) (by decide +kernel) rfl) <|
  mj_c1 (k_gR (idx := 80) h_M (by decide) rfl w_874 (by decide +kernel)) <|
  mj_c1 (k_iconst (by decide +kernel)) <|
  mj_c1 (k_iload (by decide +kernel)) <|
  mj_c1 (k_iadd (by decide +kernel)) <|
  mj_c1 (k_iload (by decide +kernel)) <|
  mj_c1 (k_iconst (by decide +kernel)) <|
  mj_c1 (k_iadd (by decide +kernel)) <|
  mj_c1 (k_ias (by decide +kernel)) <|
  mj_c1 (k_iloadn (k := 2) (by decide +kernel) rfl) <|
  mj_c1 (k_ifne (off := 15) (by decide +kernel) (by decide)) <|
  mj_c1 (k_aloadn (k := 0) (by decide +kernel) rfl) <|
  mj_c1 (k_iconst (by decide +kernel)) <|
  mj_c1 (k_iload (by decide +kernel)) <|
  mj_c1 (k_imul (by decide +kernel)) <|
  mj_c1 (k_iconst (by decide +kernel)) <|
  mj_c1 (k_iadd (by decide +kernel)) <|
  mj_c1 (k_bipush (by decide +kernel) (by decide)) <|
  mj_c1 (k_callV (idx := 246) (by decide +kernel) (fit_m_M_write_m_M_putNumber) rfl rfl w_1168 w_1170 v_88 (by decide) (by decide +kernel)) <|
  mj_c1 (k_iinc (by decide +kernel) (by decide)) <|
  mj_c1 (k_goto (off := -44) (by decide +kernel) (by decide)) <|
  mj_c1 (k_iconst (by decide +kernel)) <|
  mj_c1 (k_istore (by decide +kernel) (by decide)) <|
  mj_c1 (k_iload (by decide +kernel)) <|
  mj_c1 (k_iload (by decide +kernel)) <|
  mj_c1 (k_icge (off := 39) (by decide +kernel) (by decide)) <|
  mj_c1 (k_aloadn (k := 0) (by decide +kernel) rfl) <|
  mj_c1 (k_iload (by decide +kernel)) <|
  mj_c1 (k_callV (idx := 249) (by decide +kernel) (fit_m_M_write_m_M_nextGate) rfl rfl w_1172 w_1174 v_89 (by decide) (by decide +kernel)) <|
  mj_c1 (k_istore (by decide +kernel) (by decide)) <|
  mj_c1 (k_aloadn (k := 0) (by decide +kernel) rfl) <|
  mj_c1 (k_gR (idx := 80) h_M (by decide) rfl w_874 (by decide +kernel)) <|
  mj_c1 (k_bipush (by decide +kernel) (by decide)) <|
  mj_c1 (k_iload (by decide +kernel)) <|
  mj_c1 (k_iadd (by decide +kernel)) <|
  mj_c1 (k_aloadn (k := 0) (by decide +kernel) rfl) <|
  mj_c1 (k_gR (idx := 16) h_M (by decide) rfl w_851 (by decide +kernel)) <|
  mj_c1 (k_iload (by decide +kernel)) <|
  mj_c1 (k_ial (by decide +kernel)) <|
  mj_c1 (k_iconst (by decide +kernel)) <|
  mj_c1 (k_iadd (by decide +kernel)) <|
  mj_c1 (k_iload (by decide +kernel)) <|
  mj_c1 (k_iadd (by decide +kernel)) <|
  mj_c1 (k_ias (by decide +kernel)) <|
  mj_c1 (k_iinc (by decide +kernel) (by decide)) <|
  mj_c1 (k_goto (off := -40) (by decide +kernel) (by decide)) <|
  mj_c1 (k_iconst (by decide +kernel)) <|
  mj_c1 (k_istore (by decide +kernel) (by decide)) <|
  mj_c1 (k_iload (by decide +kernel)) <|
  mj_c1 (k_aloadn (k := 0) (by decide +kernel) rfl) <|
  mj_c1 (k_gR (idx := 23) h_M (by decide) rfl w_853 (by decide +kernel)) <|
  mj_c1 (k_iload (by decide +kernel)) <|
  mj_c1 (k_ial (by decide +kernel)) <|
  mj_c1 (k_icge (off := 34) (by decide +kernel) (by decide)) <|
  mj_c1 (k_aloadn (k := 0) (by decide +kernel) rfl) <|
  mj_c1 (k_aloadn (k := 0) (by decide +kernel) rfl) <|
  mj_c1 (k_iload (by decide +kernel)) <|
  mj_c1 (k_aloadn (k := 0) (by decide +kernel) rfl) <|
  mj_c1 (k_gR (idx := 47) h_M (by decide) rfl w_861 (by decide +kernel)) <|
  mj_c1 (k_bipush (by decide +kernel) (by decide)) <|
  mj_c1 (k_iload (by decide +kernel)) <|
  mj_c1 (k_imul (by decide +kernel)) <|
  mj_c1 (k_iload (by decide +kernel)) <|
  mj_c1 (k_iadd (by decide +kernel)) <|
  mj_c1 (k_ial (by decide +kernel)) <|
  mj_c1 (k_callV (idx := 252) (by decide +kernel) (fit_m_M_write_m_M_written) rfl rfl w_1176 w_1178 v_90 (by decide) (by decide +kernel)) <|
  mj_c1 (k_bipush (by decide +kernel) (by decide)) <|
  mj_c1 (k_callV (idx := 246) (by decide +kernel) (fit_m_M_write_m_M_putNumber) rfl rfl w_1168 w_1170 v_88 (by decide) (by decide +kernel)) <|
  mj_c1 (k_iinc (by decide +kernel) (by decide)) <|
  mj_c1 (k_goto (off := -40) (by decide +kernel) (by decide)) <|
  mj_c1 (k_iconst (by decide +kernel)) <|
  mj_c1 (k_istore (by decide +kernel) (by decide)) <|
  mj_c1 (k_iload (by decide +kernel)) <|
  mj_c1 (k_iload (by decide +kernel)) <|
  mj_c1 (k_icge (off := 28) (by decide +kernel) (by decide)) <|
  mj_c1 (k_aloadn (k := 0) (by decide +kernel) rfl) <|
  mj_c1 (k_iload (by decide +kernel)) <|
  mj_c1 (k_aloadn (k := 0) (by decide +kernel) rfl) <|
  mj_c1 (k_gR (idx := 16) h_M (by decide) rfl w_851 (by decide +kernel)) <|
  mj_c1 (k_iload (by decide +kernel)) <|
  mj_c1 (k_ial (by decide +kernel)) <|
  mj_c1 (k_iconst (by decide +kernel)) <|
  mj_c1 (k_iadd (by decide +kernel)) <|
  mj_c1 (k_iload (by decide +kernel)) <|
  mj_c1 (k_iadd (by decide +kernel)) <|
  mj_c1 (k_iloadn (k := 2) (by decide +kernel) rfl) <|
  mj_c1 (k_callV (idx := 255) (by decide +kernel) (fit_m_M_write_m_M_writeGate) rfl rfl w_1180 w_1182 v_91 (by decide) (by decide +kernel)) <|
  mj_c1 (k_iinc (by decide +kernel) (by decide)) <|
  mj_c1 (k_goto (off := -29) (by decide +kernel) (by decide)) <|
  mj_c1 (k_aloadn (k := 0) (by decide +kernel) rfl) <|
  mj_c1 (k_gI (idx := 233) h_M (by decide) rfl w_850 (by decide +kernel)) <|
  mj_c1 (k_iret (by decide +kernel) rfl) mj_c0
def q_M_choose : List (Nat × mj_Sem) := [(0, o_ic 0 1), (1, o_is 3 2), (2, o_il 3 3), (3, o_ic 315 6), (6, o_icge 79 9), (9, o_al 0 10), (10, o_gR 6 29 13), (13, o_il 3 14), (14, o_ic 0 15), (15, o_zas 16), (16, o_al 0 17), (17, o_gR 6 28 20), (20, o_il 3 21), (21, o_ic 0 22), (22, o_ias 23), (23, o_al 0 24), (24, o_gR 6 27 27), (27, o_il 3 28), (28, o_ic 0 29), (29, o_ias 30), (30, o_al 0 31), (31, o_il 1 32), (32, o_il 3 33), (33, o_call m_M_isRow 3 0 0 36 (mj_rv 6)), (36, o_ifeq 73 39), (39, o_al 0 40), (40, o_gR 6 26 43), (43, o_il 3 44), (44, o_il 2 45), (45, o_ifeq 64 48), (48, o_al 0 49), (49, o_il 1 50), (50, o_ic 2 51), (51, o_al 0 52), (52, o_il 1 53), (53, o_il 3 54), (54, o_call m_M_variableOf 3 0 0 57 (mj_rv 6)), (57, o_imul 58), (58, o_call m_M_leaderOf 3 0 0 61 (mj_rv 6)), (61, o_goto 72), (64, o_ic 2 65), (65, o_al 0 66), (66, o_il 1 67), (67, o_il 3 68), (68, o_call m_M_variableOf 3 0 0 71 (mj_rv 6)), (71, o_imul 72), (72, o_ias 73), (73, o_inc 3 1 76), (76, o_goto 2), (79, o_ic 0 80), (80, o_is 3 81), (81, o_il 3 82), (82, o_al 0 83), (83, o_gR 6 7 86), (86, o_il 1 87), (87, o_ial 88), (88, o_icge 124 91), (91, o_al 0 92), (92, o_gR 6 29 95), (95, o_al 0 96), (96, o_il 1 97), (97, o_al 0 98), (98, o_il 1 99), (99, o_al 0 100), (100, o_gR 6 15 103), (103, o_ic 16 105), (105, o_il 1 106), (106, o_imul 107), (107, o_il 3 108), (108, o_iadd 109), (109, o_ial 110), (110, o_call m_M_turned 3 0 0 113 (mj_rv 6)), (113, o_call m_M_rowAt 3 0 0 116 (mj_rv 6)), (116, o_ic 1 117), (117, o_zas 118), (118, o_inc 3 1 121), (121, o_goto 81), (124, o_al 0 125), (125, o_gR 6 6 128), (128, o_il 1 129), (129, o_ial 130), (130, o_ic 1 131), (131, o_isub 132), (132, o_is 3 133), (133, o_il 3 134), (134, o_iflt 228 137), (137, o_al 0 138), (138, o_gR 6 18 141), (141, o_ic 300 144), (144, o_il 1 145), (145, o_imul 146), (146, o_il 3 147), (147, o_iadd 148), (148, o_ial 149), (149, o_is 4 151), (151, o_al 0 152), (152, o_gR 6 29 155), (155, o_ic 15 157), (157, o_il 4 159), (159, o_iadd 160), (160, o_zal 161), (161, o_ifeq 222 164), (164, o_al 0 165), (165, o_gR 6 29 168), (168, o_al 0 169), (169, o_il 1 170), (170, o_al 0 171), (171, o_il 1 172), (172, o_al 0 173), (173, o_gR 6 13 176), (176, o_ic 300 179), (179, o_il 1 180), (180, o_imul 181), (181, o_il 4 183), (183, o_iadd 184), (184, o_ial 185), (185, o_call m_M_turned 3 0 0 188 (mj_rv 6)), (188, o_call m_M_rowAt 3 0 0 191 (mj_rv 6)), (191, o_ic 1 192), (192, o_zas 193), (193, o_al 0 194), (194, o_gR 6 29 197), (197, o_al 0 198), (198, o_il 1 199), (199, o_al 0 200), (200, o_il 1 201), (201, o_al 0 202), (202, o_gR 6 14 205), (205, o_ic 300 208), (208, o_il 1 209), (209, o_imul 210), (210, o_il 4 212), (212, o_iadd 213), (213, o_ial 214), (214, o_call m_M_turned 3 0 0 217 (mj_rv 6)), (217, o_call m_M_rowAt 3 0 0 220 (mj_rv 6)), (220, o_ic 1 221), (221, o_zas 222), (222, o_inc 3 (-1) 225), (225, o_goto 133), (228, o_ic 0 229), (229, o_is 3 230), (230, o_ic 0 231), (231, o_is 4 233), (233, o_il 4 235), (235, o_al 0 236), (236, o_gR 6 6 239), (239, o_il 1 240), (240, o_ial 241), (241, o_icge 372 244), (244, o_al 0 245), (245, o_gR 6 18 248), (248, o_ic 300 251), (251, o_il 1 252), (252, o_imul 253), (253, o_il 4 255), (255, o_iadd 256), (256, o_ial 257), (257, o_is 5 259), (259, o_al 0 260), (260, o_gR 6 27 263), (263, o_al 0 264), (264, o_il 1 265), (265, o_al 0 266), (266, o_il 1 267), (267, o_al 0 268), (268, o_gR 6 13 271), (271, o_ic 300 274), (274, o_il 1 275), (275, o_imul 276), (276, o_il 5 278), (278, o_iadd 279), (279, o_ial 280), (280, o_call m_M_turned 3 0 0 283 (mj_rv 6)), (283, o_call m_M_rowAt 3 0 0 286 (mj_rv 6)), (286, o_ial 287), (287, o_is 6 289), (289, o_al 0 290), (290, o_gR 6 27 293), (293, o_al 0 294), (294, o_il 1 295), (295, o_al 0 296), (296, o_il 1 297), (297, o_al 0 298), (298, o_gR 6 14 301), (301, o_ic 300 304), (304, o_il 1 305), (305, o_imul 306), (306, o_il 5 308), (308, o_iadd 309), (309, o_ial 310), (310, o_call m_M_turned 3 0 0 313 (mj_rv 6)), (313, o_call m_M_rowAt 3 0 0 316 (mj_rv 6)), (316, o_ial 317), (317, o_is 7 319), (319, o_al 0 320), (320, o_gR 6 27 323), (323, o_ic 15 325), (325, o_il 5 327), (327, o_iadd 328), (328, o_ic 1 329), (329, o_il 6 331), (331, o_il 7 333), (333, o_icle 341 336), (336, o_il 6 338), (338, o_goto 343), (341, o_il 7 343), (343, o_iadd 344), (344, o_ias 345), (345, o_il 3 346), (346, o_al 0 347), (347, o_gR 6 29 350), (350, o_ic 15 352), (352, o_il 5 354), (354, o_iadd 355), (355, o_zal 356), (356, o_ifeq 363 359), (359, o_ic 1 360), (360, o_goto 364), (363, o_ic 0 364), (364, o_iadd 365), (365, o_is 3 366), (366, o_inc 4 1 369), (369, o_goto 233), (372, o_il 3 373), (373, o_iret 0 0)]
set_option maxRecDepth 100000 in
theorem z_M_choose : mj_Code (m_M_choose) (q_M_choose) :=
  mj_c1 (k_iconst (by decide +kernel)) <|
  mj_c1 (k_istoren (k := 3) (by decide +kernel) rfl (by decide)) <|
  mj_c1 (k_iloadn (k := 3) (by decide +kernel) rfl) <|
  mj_c1 (k_sipush (by decide +kernel) (by decide)) <|
  mj_c1 (k_icge (off := 73) (by decide +kernel) (by decide)) <|
  mj_c1 (k_aloadn (k := 0) (by decide +kernel) rfl) <|
  mj_c1 (k_gR (idx := 83) h_M (by decide) rfl w_875 (by decide +kernel)) <|
  mj_c1 (k_iloadn (k := 3) (by decide +kernel) rfl) <|
  mj_c1 (k_iconst (by decide +kernel)) <|
  mj_c1 (k_zas (by decide +kernel)) <|
  mj_c1 (k_aloadn (k := 0) (by decide +kernel) rfl) <|
  mj_c1 (k_gR (idx := 80) h_M (by decide) rfl w_874 (by decide +kernel)) <|
  mj_c1 (k_iloadn (k := 3) (by decide +kernel) rfl) <|
  mj_c1 (k_iconst (by decide +kernel)) <|
  mj_c1 (k_ias (by decide +kernel)) <|
  mj_c1 (k_aloadn (k := 0) (by decide +kernel) rfl) <|
  mj_c1 (k_gR (idx := 77) h_M (by decide) rfl w_873 (by decide +kernel)) <|
  mj_c1 (k_iloadn (k := 3) (by decide +kernel) rfl) <|
  mj_c1 (k_iconst (by decide +kernel)) <|
  mj_c1 (k_ias (by decide +kernel)) <|
  mj_c1 (k_aloadn (k := 0) (by decide +kernel) rfl) <|
  mj_c1 (k_iloadn (k := 1) (by decide +kernel) rfl) <|
  mj_c1 (k_iloadn (k := 3) (by decide +kernel) rfl) <|
  mj_c1 (k_callV (idx := 218) (by decide +kernel) (fit_m_M_choose_m_M_isRow) rfl rfl w_1128 w_1130 v_81 (by decide) (by decide +kernel)) <|
  mj_c1 (k_ifeq (off := 37) (by decide +kernel) (by decide)) <|
  mj_c1 (k_aloadn (k := 0) (by decide +kernel) rfl) <|
  mj_c1 (k_gR (idx := 74) h_M (by decide) rfl w_872 (by decide +kernel)) <|
  mj_c1 (k_iloadn (k := 3) (by decide +kernel) rfl) <|
  mj_c1 (k_iloadn (k := 2) (by decide +kernel) rfl) <|
  mj_c1 (k_ifeq (off := 19) (by decide +kernel) (by decide)) <|
  mj_c1 (k_aloadn (k := 0) (by decide +kernel) rfl) <|
  mj_c1 (k_iloadn (k := 1) (by decide +kernel) rfl) <|
  mj_c1 (k_iconst (by decide +kernel)) <|
  mj_c1 (k_aloadn (k := 0) (by decide +kernel) rfl) <|
  mj_c1 (k_iloadn (k := 1) (by decide +kernel) rfl) <|
  mj_c1 (k_iloadn (k := 3) (by decide +kernel) rfl) <|
  mj_c1 (k_callV (idx := 221) (by decide +kernel) (fit_m_M_choose_m_M_variableOf) rfl rfl w_1132 w_1134 v_82 (by decide) (by decide +kernel)) <|
  mj_c1 (k_imul (by decide +kernel)) <|
  mj_c1 (k_callV (idx := 224) (by decide +kernel) (fit_m_M_choose_m_M_leaderOf) rfl rfl w_1124 w_1126 v_80 (by decide) (by decide +kernel)) <|
  mj_c1 (k_goto (off := 11) (by decide +kernel) (by decide)) <|
  mj_c1 (k_iconst (by decide +kernel)) <|
  mj_c1 (k_aloadn (k := 0) (by decide +kernel) rfl) <|
  mj_c1 (k_iloadn (k := 1) (by decide +kernel) rfl) <|
  mj_c1 (k_iloadn (k := 3) (by decide +kernel) rfl) <|
  mj_c1 (k_callV (idx := 221) (by decide +kernel) (fit_m_M_choose_m_M_variableOf) rfl rfl w_1132 w_1134 v_82 (by decide) (by decide +kernel)) <|
  mj_c1 (k_imul (by decide +kernel)) <|
  mj_c1 (k_ias (by decide +kernel)) <|
  mj_c1 (k_iinc (by decide +kernel) (by decide)) <|
  mj_c1 (k_goto (off := -74) (by decide +kernel) (by decide)) <|
  mj_c1 (k_iconst (by decide +kernel)) <|
  mj_c1 (k_istoren (k := 3) (by decide +kernel) rfl (by decide)) <|
  mj_c1 (k_iloadn (k := 3) (by decide +kernel) rfl) <|
  mj_c1 (k_aloadn (k := 0) (by decide +kernel) rfl) <|
  mj_c1 (k_gR (idx := 23) h_M (by decide) rfl w_853 (by decide +kernel)) <|
  mj_c1 (k_iloadn (k := 1) (by decide +kernel) rfl) <|
  mj_c1 (k_ial (by decide +kernel)) <|
  mj_c1 (k_icge (off := 36) (by decide +kernel) (by decide)) <|
  mj_c1 (k_aloadn (k := 0) (by decide +kernel) rfl) <|
  mj_c1 (k_gR (idx := 83) h_M (by decide) rfl w_875 (by decide +kernel)) <|
  mj_c1 (k_aloadn (k := 0) (by decide +kernel) rfl) <|
  mj_c1 (k_iloadn (k := 1) (by decide +kernel) rfl) <|
  mj_c1 (k_aloadn (k := 0) (by decide +kernel) rfl) <|
  mj_c1 (k_iloadn (k := 1) (by decide +kernel) rfl) <|
  mj_c1 (k_aloadn (k := 0) (by decide +kernel) rfl) <|
  mj_c1 (k_gR (idx := 47) h_M (by decide) rfl w_861 (by decide +kernel)) <|
  mj_c1 (k_bipush (by decide +kernel) (by decide)) <|
  mj_c1 (k_iloadn (k := 1) (by decide +kernel) rfl) <|
  mj_c1 (k_imul (by decide +kernel)) <|
  mj_c1 (k_iloadn (k := 3) (by decide +kernel) rfl) <|
  mj_c1 (k_iadd (by decide +kernel)) <|
  mj_c1 (k_ial (by decide +kernel)) <|
  mj_c1 (k_callV (idx := 239) (by decide +kernel) (fit_m_M_choose_m_M_turned) rfl rfl w_1160 w_1162 v_86 (by decide) (by decide +kernel)) <|
  mj_c1 (k_callV (idx := 141) (by decide +kernel) (fit_m_M_choose_m_M_rowAt) rfl rfl w_1023 w_1025 v_66 (by decide) (by decide +kernel)) <|
  mj_c1 (k_iconst (by decide +kernel)) <|
  mj_c1 (k_zas (by decide +kernel)) <|
  mj_c1 (k_iinc (by decide +kernel) (by decide)) <|
  mj_c1 (k_goto (off := -40) (by decide +kernel) (by decide)) <|
  mj_c1 (k_aloadn (k := 0) (by decide +kernel) rfl) <|
  mj_c1 (k_gR (idx := 20) h_M (by decide) rfl w_852 (by decide +kernel)) <|
  mj_c1 (k_iloadn (k := 1) (by decide +kernel) rfl) <|
  mj_c1 (k_ial (by decide +kernel)) <|
  mj_c1 (k_iconst (by decide +kernel)) <|
  mj_c1 (k_isub (by decide +kernel)) <|
  mj_c1 (k_istoren (k := 3) (by decide +kernel) rfl (by decide)) <|
  mj_c1 (k_iloadn (k := 3) (by decide +kernel) rfl) <|
  mj_c1 (k_iflt (off := 94) (by decide +kernel) (by decide)) <|
  mj_c1 (k_aloadn (k := 0) (by decide +kernel) rfl) <|
  mj_c1 (k_gR (idx := 56) h_M (by decide) rfl w_864 (by decide +kernel)) <|
  mj_c1 (k_sipush (by decide +kernel) (by decide)) <|
  mj_c1 (k_iloadn (k := 1) (by decide +kernel) rfl) <|
  mj_c1 (k_imul (by decide +kernel)) <|
  mj_c1 (k_iloadn (k := 3) (by decide +kernel) rfl) <|
  mj_c1 (k_iadd (by decide +kernel)) <|
  mj_c1 (k_ial (by decide +kernel)) <|
  mj_c1 (k_istore (by decide +kernel) (by decide)) <|
  mj_c1 (k_aloadn (k := 0) (by decide +kernel) rfl) <|
  mj_c1 (k_gR (idx := 83) h_M (by decide) rfl w_875 (by decide +kernel)) <|
  mj_c1 (k_bipush (by decide +kernel) (by decide)) <|
  mj_c1 (k_iload (by decide +kernel)) <|
  mj_c1 (k_iadd (by decide +kernel)) <|
  mj_c1 (k_zal (by decide +kernel)) <|
  mj_c1 (k_ifeq (off := 61) (by decide +kernel) (by decide)) <|
  mj_c1 (k_aloadn (k := 0) (by decide +kernel) rfl) <|
  mj_c1 (k_gR (idx := 83) h_M (by decide) rfl w_875 (by decide +kernel)) <|
  mj_c1 (k_aloadn (k := 0) (by decide +kernel) rfl) <|
  mj_c1 (k_iloadn (k := 1) (by decide +kernel) rfl) <|
  mj_c1 (k_aloadn (k := 0) (by decide +kernel) rfl) <|
  mj_c1 (k_iloadn (k := 1) (by decide +kernel) rfl) <|
  mj_c1 (k_aloadn (k := 0) (by decide +kernel) rfl) <|
  mj_c1 (k_gR (idx := 41) h_M (by decide) rfl w_859 (by decide +kernel)) <|
  mj_c1 (k_sipush (by decide +kernel) (by decide)) <|
  mj_c1 (k_iloadn (k := 1) (by decide +kernel) rfl) <|
  mj_c1 (k_imul (by decide +kernel)) <|
  mj_c1 (k_iload (by decide +kernel)) <|
  mj_c1 (k_iadd (by decide +kernel)) <|
  mj_c1 (k_ial (by decide +kernel)) <|
  mj_c1 (k_callV (idx := 239) (by decide +kernel) (fit_m_M_choose_m_M_turned) rfl rfl w_1160 w_1162 v_86 (by decide) (by decide +kernel)) <|
  mj_c1 (k_callV (idx := 141) (by decide +kernel) (fit_m_M_choose_m_M_rowAt) rfl rfl w_1023 w_1025 v_66 (by decide) (by decide +kernel)) <|
  mj_c1 (k_iconst (by decide +kernel)) <|
  mj_c1 (k_zas (by decide +kernel)) <|
  mj_c1 (k_aloadn (k := 0) (by decide +kernel) rfl) <|
  mj_c1 (k_gR (idx := 83) h_M (by decide) rfl w_875 (by decide +kernel)) <|
  mj_c1 (k_aloadn (k := 0) (by decide +kernel) rfl) <|
  mj_c1 (k_iloadn (k := 1) (by decide +kernel) rfl) <|
  mj_c1 (k_aloadn (k := 0) (by decide +kernel) rfl) <|
  mj_c1 (k_iloadn (k := 1) (by decide +kernel) rfl) <|
  mj_c1 (k_aloadn (k := 0) (by decide +kernel) rfl) <|
  mj_c1 (k_gR (idx := 44) h_M (by decide) rfl w_860 (by decide +kernel)) <|
  mj_c1 (k_sipush (by decide +kernel) (by decide)) <|
  mj_c1 (k_iloadn (k := 1) (by decide +kernel) rfl) <|
  mj_c1 (k_imul (by decide +kernel)) <|
  mj_c1 (k_iload (by decide +kernel)) <|
  mj_c1 (k_iadd (by decide +kernel)) <|
  mj_c1 (k_ial (by decide +kernel)) <|
  mj_c1 (k_callV (idx := 239) (by decide +kernel) (fit_m_M_choose_m_M_turned) rfl rfl w_1160 w_1162 v_86 (by decide) (by decide +kernel)) <|
  mj_c1 (k_callV (idx := 141) (by decide +kernel) (fit_m_M_choose_m_M_rowAt) rfl rfl w_1023 w_1025 v_66 (by decide) (by decide +kernel)) <|
  mj_c1 (k_iconst (by decide +kernel)) <|
  mj_c1 (k_zas (by decide +kernel)) <|
  mj_c1 (k_iinc (by decide +kernel) (by decide)) <|
  mj_c1 (k_goto (off := -92) (by decide +kernel) (by decide)) <|
  mj_c1 (k_iconst (by decide +kernel)) <|
  mj_c1 (k_istoren (k := 3) (by decide +kernel) rfl (by decide)) <|
  mj_c1 (k_iconst (by decide +kernel)) <|
  mj_c1 (k_istore (by decide +kernel) (by decide)) <|
  mj_c1 (k_iload (by decide +kernel)) <|
  mj_c1 (k_aloadn (k := 0) (by decide +kernel) rfl) <|
  mj_c1 (k_gR (idx := 20) h_M (by decide) rfl w_852 (by decide +kernel)) <|
  mj_c1 (k_iloadn (k := 1) (by decide +kernel) rfl) <|
  mj_c1 (k_ial (by decide +kernel)) <|
  mj_c1 (k_icge (off := 131) (by decide +kernel) (by decide)) <|
  mj_c1 (k_aloadn (k := 0) (by decide +kernel) rfl) <|
  mj_c1 (k_gR (idx := 56) h_M (by decide) rfl w_864 (by decide +kernel)) <|
  mj_c1 (k_sipush (by decide +kernel) (by decide)) <|
  mj_c1 (k_iloadn (k := 1) (by decide +kernel) rfl) <|
  mj_c1 (k_imul (by decide +kernel)) <|
  mj_c1 (k_iload (by decide +kernel)) <|
  mj_c1 (k_iadd (by decide +kernel)) <|
  mj_c1 (k_ial (by decide +kernel)) <|
  mj_c1 (k_istore (by decide +kernel) (by decide)) <|
  mj_c1 (k_aloadn (k := 0) (by decide +kernel) rfl) <|
  mj_c1 (k_gR (idx := 77) h_M (by decide) rfl w_873 (by decide +kernel)) <|
  mj_c1 (k_aloadn (k := 0) (by decide +kernel) rfl) <|
  mj_c1 (k_iloadn (k := 1) (by decide +kernel) rfl) <|
  mj_c1 (k_aloadn (k := 0) (by decide +kernel) rfl) <|
  mj_c1 (k_iloadn (k := 1) (by decide +kernel) rfl) <|
  mj_c1 (k_aloadn (k := 0) (by decide +kernel) rfl) <|
  mj_c1 (k_gR (idx := 41) h_M (by decide) rfl w_859 (by decide +kernel)) <|
  mj_c1 (k_sipush (by decide +kernel) (by decide)) <|
  mj_c1 (k_iloadn (k := 1) (by decide +kernel) rfl) <|
  mj_c1 (k_imul (by decide +kernel)) <|
  mj_c1 (k_iload (by decide +kernel)) <|
  mj_c1 (k_iadd (by decide +kernel)) <|
  mj_c1 (k_ial (by decide +kernel)) <|
  mj_c1 (k_callV (idx := 239) (by decide +kernel) (fit_m_M_choose_m_M_turned) rfl rfl w_1160 w_1162 v_86 (by decide) (by decide +kernel)) <|
  mj_c1 (k_callV (idx := 141) (by decide +kernel) (fit_m_M_choose_m_M_rowAt) rfl rfl w_1023 w_1025 v_66 (by decide) (by decide +kernel)) <|
  mj_c1 (k_ial (by decide +kernel)) <|
  mj_c1 (k_istore (by decide +kernel) (by decide)) <|
  mj_c1 (k_aloadn (k := 0) (by decide +kernel) rfl) <|
  mj_c1 (k_gR (idx := 77) h_M (by decide) rfl w_873 (by decide +kernel)) <|
  mj_c1 (k_aloadn (k := 0) (by decide +kernel) rfl) <|
  mj_c1 (k_iloadn (k := 1) (by decide +kernel) rfl) <|
  mj_c1 (k_aloadn (k := 0) (by decide +kernel) rfl) <|
  mj_c1 (k_iloadn (k := 1) (by decide +kernel) rfl) <|
  mj_c1 (k_aloadn (k := 0) (by decide +kernel) rfl) <|
  mj_c1 (k_gR (idx := 44) h_M (by decide) rfl w_860 (by decide +kernel)) <|
  mj_c1 (k_sipush (by decide +kernel) (by decide)) <|
  mj_c1 (k_iloadn (k := 1) (by decide +kernel) rfl) <|
  mj_c1 (k_imul (by decide +kernel)) <|
  mj_c1 (k_iload (by decide +kernel)) <|
  mj_c1 (k_iadd (by decide +kernel)) <|
  mj_c1 (k_ial (by decide +kernel)) <|
  mj_c1 (k_callV (idx := 239) (by decide +kernel) (fit_m_M_choose_m_M_turned) rfl rfl w_1160 w_1162 v_86 (by decide) (by decide +kernel)) <|
  mj_c1 (k_callV (idx := 141) (by decide +kernel) (fit_m_M_choose_m_M_rowAt) rfl rfl w_1023 w_1025 v_66 (by decide) (by decide +kernel)) <|
  mj_c1 (k_ial (by decide +kernel)) <|
  mj_c1 (k_istore (by decide +kernel) (by decide)) <|
  mj_c1 (k_aloadn (k := 0) (by decide +kernel) rfl) <|
  mj_c1 (k_gR (idx := 77) h_M (by decide) rfl w_873 (by decide +kernel)) <|
  mj_c1 (k_bipush (by decide +kernel) (by decide)) <|
  mj_c1 (k_iload (by decide +kernel)) <|
  mj_c1 (k_iadd (by decide +kernel)) <|
  mj_c1 (k_iconst (by decide +kernel)) <|
  mj_c1 (k_iload (by decide +kernel)) <|
  mj_c1 (k_iload (by decide +kernel)) <|
  mj_c1 (k_icle (off := 8) (by decide +kernel) (by decide)) <|
  mj_c1 (k_iload (by decide +kernel)) <|
  mj_c1 (k_goto (off := 5) (by decide +kernel) (by decide)) <|
  mj_c1 (k_iload (by decide +kernel)) <|
  mj_c1 (k_iadd (by decide +kernel)) <|
  mj_c1 (k_ias (by decide +kernel)) <|
  mj_c1 (k_iloadn (k := 3) (by decide +kernel) rfl) <|
  mj_c1 (k_aloadn (k := 0) (by decide +kernel) rfl) <|
  mj_c1 (k_gR (idx := 83) h_M (by decide) rfl w_875 (by decide +kernel)) <|
  mj_c1 (k_bipush (by decide +kernel) (by decide)) <|
  mj_c1 (k_iload (by decide +kernel)) <|
  mj_c1 (k_iadd (by decide +kernel)) <|
  mj_c1 (k_zal (by decide +kernel)) <|
  mj_c1 (k_ifeq (off := 7) (by decide +kernel) (by decide)) <|
  mj_c1 (k_iconst (by decide +kernel)) <|
  mj_c1 (k_goto (off := 4) (by decide +kernel) (by decide)) <|
  mj_c1 (k_iconst (by decide +kernel)) <|
  mj_c1 (k_iadd (by decide +kernel)) <|
  mj_c1 (k_istoren (k := 3) (by decide +kernel) rfl (by decide)) <|
  mj_c1 (k_iinc (by decide +kernel) (by decide)) <|
  mj_c1 (k_goto (off := -136) (by decide +kernel) (by decide)) <|
  mj_c1 (k_iloadn (k := 3) (by decide +kernel) rfl) <|
  mj_c1 (k_iret (by decide +kernel) rfl) mj_c0
def q_M_turned : List (Nat × mj_Sem) := [(0, o_al 0 1), (1, o_gR 6 26 4), (4, o_al 0 5), (5, o_il 1 6), (6, o_il 2 7), (7, o_call m_M_rowAt 3 0 0 10 (mj_rv 6)), (10, o_ial 11), (11, o_il 2 12), (12, o_ic 1 13), (13, o_iand 14), (14, o_ixor 15), (15, o_iret 0 0)]
set_option maxRecDepth 100000 in
theorem z_M_turned : mj_Code (m_M_turned) (q_M_turned) :=
  mj_c1 (k_aloadn (k := 0) (by decide +kernel) rfl) <|
  mj_c1 (k_gR (idx := 74) h_M (by decide) rfl w_872 (by decide +kernel)) <|
  mj_c1 (k_aloadn (k := 0) (by decide +kernel) rfl) <|
  mj_c1 (k_iloadn (k := 1) (by decide +kernel) rfl) <|
  mj_c1 (k_iloadn (k := 2) (by decide +kernel) rfl) <|
  mj_c1 (k_callV (idx := 141) (by decide +kernel) (fit_m_M_turned_m_M_rowAt) rfl rfl w_1023 w_1025 v_66 (by decide) (by decide +kernel)) <|
  mj_c1 (k_ial (by decide +kernel)) <|
  mj_c1 (k_iloadn (k := 2) (by decide +kernel) rfl) <|
  mj_c1 (k_iconst (by decide +kernel)) <|
  mj_c1 (k_iand (by decide +kernel)) <|
  mj_c1 (k_ixor (by decide +kernel)) <|
  mj_c1 (k_iret (by decide +kernel) rfl) mj_c0
def q_M_put : List (Nat × mj_Sem) := [(0, o_al 0 1), (1, o_gR 6 3 4), (4, o_al 0 5), (5, o_gI 6 4 8), (8, o_il 1 9), (9, o_i2b 10), (10, o_bas 11), (11, o_al 0 12), (12, o_dup 13), (13, o_gI 6 4 16), (16, o_ic 1 17), (17, o_iadd 18), (18, o_pI 6 4 21), (21, o_retv 0 0)]
set_option maxRecDepth 100000 in
theorem z_M_put : mj_Code (m_M_put) (q_M_put) :=
  mj_c1 (k_aloadn (k := 0) (by decide +kernel) rfl) <|
  mj_c1 (k_gR (idx := 13) h_M (by decide) rfl w_849 (by decide +kernel)) <|
  mj_c1 (k_aloadn (k := 0) (by decide +kernel) rfl) <|
  mj_c1 (k_gI (idx := 233) h_M (by decide) rfl w_850 (by decide +kernel)) <|
  mj_c1 (k_iloadn (k := 1) (by decide +kernel) rfl) <|
  mj_c1 (k_i2b (by decide +kernel)) <|
  mj_c1 (k_bas (by decide +kernel)) <|
  mj_c1 (k_aloadn (k := 0) (by decide +kernel) rfl) <|
  mj_c1 (k_dup (by decide +kernel)) <|
  mj_c1 (k_gI (idx := 233) h_M (by decide) rfl w_850 (by decide +kernel)) <|
  mj_c1 (k_iconst (by decide +kernel)) <|
  mj_c1 (k_iadd (by decide +kernel)) <|
  mj_c1 (k_pI (idx := 233) h_M (by decide) rfl rfl w_850 rfl (by decide +kernel)) <|
  mj_c1 (k_retv (by decide +kernel) rfl) mj_c0
def q_M_putNumber : List (Nat × mj_Sem) := [(0, o_ic 1000 3), (3, o_is 3 4), (4, o_il 3 5), (5, o_ifle 39 8), (8, o_il 1 9), (9, o_il 3 10), (10, o_icge 18 13), (13, o_il 3 14), (14, o_ic 1 15), (15, o_icne 31 18), (18, o_al 0 19), (19, o_ic 48 21), (21, o_il 1 22), (22, o_il 3 23), (23, o_idiv 24), (24, o_ic 10 26), (26, o_irem 27), (27, o_iadd 28), (28, o_call m_M_put 2 0 0 31 (mj_rv 6)), (31, o_il 3 32), (32, o_ic 10 34), (34, o_idiv 35), (35, o_is 3 36), (36, o_goto 4), (39, o_al 0 40), (40, o_il 2 41), (41, o_call m_M_put 2 0 0 44 (mj_rv 6)), (44, o_retv 0 0)]
set_option maxRecDepth 100000 in
theorem z_M_putNumber : mj_Code (m_M_putNumber) (q_M_putNumber) :=
  mj_c1 (k_sipush (by decide +kernel) (by decide)) <|
  mj_c1 (k_istoren (k := 3) (by decide +kernel) rfl (by decide)) <|
  mj_c1 (k_iloadn (k := 3) (by decide +kernel) rfl) <|
  mj_c1 (k_ifle (off := 34) (by decide +kernel) (by decide)) <|
  mj_c1 (k_iloadn (k := 1) (by decide +kernel) rfl) <|
  mj_c1 (k_iloadn (k := 3) (by decide +kernel) rfl) <|
  mj_c1 (k_icge (off := 8) (by decide +kernel) (by decide)) <|
  mj_c1 (k_iloadn (k := 3) (by decide +kernel) rfl) <|
  mj_c1 (k_iconst (by decide +kernel)) <|
  mj_c1 (k_icne (off := 16) (by decide +kernel) (by decide)) <|
  mj_c1 (k_aloadn (k := 0) (by decide +kernel) rfl) <|
  mj_c1 (k_bipush (by decide +kernel) (by decide)) <|
  mj_c1 (k_iloadn (k := 1) (by decide +kernel) rfl) <|
  mj_c1 (k_iloadn (k := 3) (by decide +kernel) rfl) <|
  mj_c1 (k_idiv (by decide +kernel)) <|
  mj_c1 (k_bipush (by decide +kernel) (by decide)) <|
  mj_c1 (k_irem (by decide +kernel)) <|
  mj_c1 (k_iadd (by decide +kernel)) <|
  mj_c1 (k_callV (idx := 236) (by decide +kernel) (fit_m_M_putNumber_m_M_put) rfl rfl w_1164 w_1166 v_87 (by decide) (by decide +kernel)) <|
  mj_c1 (k_iloadn (k := 3) (by decide +kernel) rfl) <|
  mj_c1 (k_bipush (by decide +kernel) (by decide)) <|
  mj_c1 (k_idiv (by decide +kernel)) <|
  mj_c1 (k_istoren (k := 3) (by decide +kernel) rfl (by decide)) <|
  mj_c1 (k_goto (off := -32) (by decide +kernel) (by decide)) <|
  mj_c1 (k_aloadn (k := 0) (by decide +kernel) rfl) <|
  mj_c1 (k_iloadn (k := 2) (by decide +kernel) rfl) <|
  mj_c1 (k_callV (idx := 236) (by decide +kernel) (fit_m_M_putNumber_m_M_put) rfl rfl w_1164 w_1166 v_87 (by decide) (by decide +kernel)) <|
  mj_c1 (k_retv (by decide +kernel) rfl) mj_c0
def q_M_nextGate : List (Nat × mj_Sem) := [(0, o_ic (-1) 1), (1, o_is 2 2), (2, o_ic 0 3), (3, o_is 3 4), (4, o_il 3 5), (5, o_al 0 6), (6, o_gR 6 6 9), (9, o_il 1 10), (10, o_ial 11), (11, o_icge 122 14), (14, o_al 0 15), (15, o_gR 6 29 18), (18, o_ic 15 20), (20, o_il 3 21), (21, o_iadd 22), (22, o_zal 23), (23, o_ifeq 116 26), (26, o_al 0 27), (27, o_gR 6 28 30), (30, o_ic 15 32), (32, o_il 3 33), (33, o_iadd 34), (34, o_ial 35), (35, o_ifle 41 38), (38, o_goto 116), (41, o_il 2 42), (42, o_iflt 114 45), (45, o_al 0 46), (46, o_gR 6 27 49), (49, o_ic 15 51), (51, o_il 3 52), (52, o_iadd 53), (53, o_ial 54), (54, o_al 0 55), (55, o_gR 6 27 58), (58, o_ic 15 60), (60, o_il 2 61), (61, o_iadd 62), (62, o_ial 63), (63, o_iclt 114 66), (66, o_al 0 67), (67, o_gR 6 27 70), (70, o_ic 15 72), (72, o_il 3 73), (73, o_iadd 74), (74, o_ial 75), (75, o_al 0 76), (76, o_gR 6 27 79), (79, o_ic 15 81), (81, o_il 2 82), (82, o_iadd 83), (83, o_ial 84), (84, o_icne 116 87), (87, o_al 0 88), (88, o_gR 6 12 91), (91, o_ic 300 94), (94, o_il 1 95), (95, o_imul 96), (96, o_il 3 97), (97, o_iadd 98), (98, o_ial 99), (99, o_al 0 100), (100, o_gR 6 12 103), (103, o_ic 300 106), (106, o_il 1 107), (107, o_imul 108), (108, o_il 2 109), (109, o_iadd 110), (110, o_ial 111), (111, o_icge 116 114), (114, o_il 3 115), (115, o_is 2 116), (116, o_inc 3 1 119), (119, o_goto 4), (122, o_il 2 123), (123, o_iret 0 0)]
set_option maxRecDepth 100000 in
theorem z_M_nextGate : mj_Code (m_M_nextGate) (q_M_nextGate) :=
  mj_c1 (k_iconst (by decide +kernel)) <|
  mj_c1 (k_istoren (k := 2) (by decide +kernel) rfl (by decide)) <|
  mj_c1 (k_iconst (by decide +kernel)) <|
  mj_c1 (k_istoren (k := 3) (by decide +kernel) rfl (by decide)) <|
  mj_c1 (k_iloadn (k := 3) (by decide +kernel) rfl) <|
  mj_c1 (k_aloadn (k := 0) (by decide +kernel) rfl) <|
  mj_c1 (k_gR (idx := 20) h_M (by decide) rfl w_852 (by decide +kernel)) <|
  mj_c1 (k_iloadn (k := 1) (by decide +kernel) rfl) <|
  mj_c1 (k_ial (by decide +kernel)) <|
  mj_c1 (k_icge (off := 111) (by decide +kernel) (by decide)) <|
  mj_c1 (k_aloadn (k := 0) (by decide +kernel) rfl) <|
  mj_c1 (k_gR (idx := 83) h_M (by decide) rfl w_875 (by decide +kernel)) <|
  mj_c1 (k_bipush (by decide +kernel) (by decide)) <|
  mj_c1 (k_iloadn (k := 3) (by decide +kernel) rfl) <|
  mj_c1 (k_iadd (by decide +kernel)) <|
  mj_c1 (k_zal (by decide +kernel)) <|
  mj_c1 (k_ifeq (off := 93) (by decide +kernel) (by decide)) <|
  mj_c1 (k_aloadn (k := 0) (by decide +kernel) rfl) <|
  mj_c1 (k_gR (idx := 80) h_M (by decide) rfl w_874 (by decide +kernel)) <|
  mj_c1 (k_bipush (by decide +kernel) (by decide)) <|
  mj_c1 (k_iloadn (k := 3) (by decide +kernel) rfl) <|
  mj_c1 (k_iadd (by decide +kernel)) <|
  mj_c1 (k_ial (by decide +kernel)) <|
  mj_c1 (k_ifle (off := 6) (by decide +kernel) (by decide)) <|
  mj_c1 (k_goto (off := 78) (by decide +kernel) (by decide)) <|
  mj_c1 (k_iloadn (k := 2) (by decide +kernel) rfl) <|
  mj_c1 (k_iflt (off := 72) (by decide +kernel) (by decide)) <|
  mj_c1 (k_aloadn (k := 0) (by decide +kernel) rfl) <|
  mj_c1 (k_gR (idx := 77) h_M (by decide) rfl w_873 (by decide +kernel)) <|
  mj_c1 (k_bipush (by decide +kernel) (by decide)) <|
  mj_c1 (k_iloadn (k := 3) (by decide +kernel) rfl) <|
  mj_c1 (k_iadd (by decide +kernel)) <|
  mj_c1 (k_ial (by decide +kernel)) <|
  mj_c1 (k_aloadn (k := 0) (by decide +kernel) rfl) <|
  mj_c1 (k_gR (idx := 77) h_M (by decide) rfl w_873 (by decide +kernel)) <|
  mj_c1 (k_bipush (by decide +kernel) (by decide)) <|
  mj_c1 (k_iloadn (k := 2) (by decide +kernel) rfl) <|
  mj_c1 (k_iadd (by decide +kernel)) <|
  mj_c1 (k_ial (by decide +kernel)) <|
  mj_c1 (k_iclt (off := 51) (by decide +kernel) (by decide)) <|
  mj_c1 (k_aloadn (k := 0) (by decide +kernel) rfl) <|
  mj_c1 (k_gR (idx := 77) h_M (by decide) rfl w_873 (by decide +kernel)) <|
  mj_c1 (k_bipush (by decide +kernel) (by decide)) <|
  mj_c1 (k_iloadn (k := 3) (by decide +kernel) rfl) <|
  mj_c1 (k_iadd (by decide +kernel)) <|
  mj_c1 (k_ial (by decide +kernel)) <|
  mj_c1 (k_aloadn (k := 0) (by decide +kernel) rfl) <|
  mj_c1 (k_gR (idx := 77) h_M (by decide) rfl w_873 (by decide +kernel)) <|
  mj_c1 (k_bipush (by decide +kernel) (by decide)) <|
  mj_c1 (k_iloadn (k := 2) (by decide +kernel) rfl) <|
  mj_c1 (k_iadd (by decide +kernel)) <|
  mj_c1 (k_ial (by decide +kernel)) <|
  mj_c1 (k_icne (off := 32) (by decide +kernel) (by decide)) <|
  mj_c1 (k_aloadn (k := 0) (by decide +kernel) rfl) <|
  mj_c1 (k_gR (idx := 38) h_M (by decide) rfl w_858 (by decide +kernel)) <|
  mj_c1 (k_sipush (by decide +kernel) (by decide)) <|
  mj_c1 (k_iloadn (k := 1) (by decide +kernel) rfl) <|
  mj_c1 (k_imul (by decide +kernel)) <|
  mj_c1 (k_iloadn (k := 3) (by decide +kernel) rfl) <|
  mj_c1 (k_iadd (by decide +kernel)) <|
  mj_c1 (k_ial (by decide +kernel)) <|
  mj_c1 (k_aloadn (k := 0) (by decide +kernel) rfl) <|
  mj_c1 (k_gR (idx := 38) h_M (by decide) rfl w_858 (by decide +kernel)) <|
  mj_c1 (k_sipush (by decide +kernel) (by decide)) <|
  mj_c1 (k_iloadn (k := 1) (by decide +kernel) rfl) <|
  mj_c1 (k_imul (by decide +kernel)) <|
  mj_c1 (k_iloadn (k := 2) (by decide +kernel) rfl) <|
  mj_c1 (k_iadd (by decide +kernel)) <|
  mj_c1 (k_ial (by decide +kernel)) <|
  mj_c1 (k_icge (off := 5) (by decide +kernel) (by decide)) <|
  mj_c1 (k_iloadn (k := 3) (by decide +kernel) rfl) <|
  mj_c1 (k_istoren (k := 2) (by decide +kernel) rfl (by decide)) <|
  mj_c1 (k_iinc (by decide +kernel) (by decide)) <|
  mj_c1 (k_goto (off := -115) (by decide +kernel) (by decide)) <|
  mj_c1 (k_iloadn (k := 2) (by decide +kernel) rfl) <|
  mj_c1 (k_iret (by decide +kernel) rfl) mj_c0
def q_M_written : List (Nat × mj_Sem) := [(0, o_al 0 1), (1, o_il 1 2), (2, o_il 2 3), (3, o_call m_M_turned 3 0 0 6 (mj_rv 6)), (6, o_is 3 7), (7, o_ic 2 8), (8, o_al 0 9), (9, o_gR 6 28 12), (12, o_al 0 13), (13, o_il 1 14), (14, o_il 3 15), (15, o_call m_M_rowAt 3 0 0 18 (mj_rv 6)), (18, o_ial 19), (19, o_imul 20), (20, o_il 3 21), (21, o_ic 2 22), (22, o_irem 23), (23, o_iadd 24), (24, o_iret 0 0)]
set_option maxRecDepth 100000 in
theorem z_M_written : mj_Code (m_M_written) (q_M_written) :=
  mj_c1 (k_aloadn (k := 0) (by decide +kernel) rfl) <|
  mj_c1 (k_iloadn (k := 1) (by decide +kernel) rfl) <|
  mj_c1 (k_iloadn (k := 2) (by decide +kernel) rfl) <|
  mj_c1 (k_callV (idx := 239) (by decide +kernel) (fit_m_M_written_m_M_turned) rfl rfl w_1160 w_1162 v_86 (by decide) (by decide +kernel)) <|
  mj_c1 (k_istoren (k := 3) (by decide +kernel) rfl (by decide)) <|
  mj_c1 (k_iconst (by decide +kernel)) <|
  mj_c1 (k_aloadn (k := 0) (by decide +kernel) rfl) <|
  mj_c1 (k_gR (idx := 80) h_M (by decide) rfl w_874 (by decide +kernel)) <|
  mj_c1 (k_aloadn (k := 0) (by decide +kernel) rfl) <|
  mj_c1 (k_iloadn (k := 1) (by decide +kernel) rfl) <|
  mj_c1 (k_iloadn (k := 3) (by decide +kernel) rfl) <|
  mj_c1 (k_callV (idx := 141) (by decide +kernel) (fit_m_M_written_m_M_rowAt) rfl rfl w_1023 w_1025 v_66 (by decide) (by decide +kernel)) <|
  mj_c1 (k_ial (by decide +kernel)) <|
  mj_c1 (k_imul (by decide +kernel)) <|
  mj_c1 (k_iloadn (k := 3) (by decide +kernel) rfl) <|
  mj_c1 (k_iconst (by decide +kernel)) <|
  mj_c1 (k_irem (by decide +kernel)) <|
  mj_c1 (k_iadd (by decide +kernel)) <|
  mj_c1 (k_iret (by decide +kernel) rfl) mj_c0
def q_M_writeGate : List (Nat × mj_Sem) := [(0, o_ic 0 1), (1, o_is 4 3), (3, o_al 0 4), (4, o_gR 6 28 7), (7, o_ic 15 9), (9, o_il 4 11), (11, o_iadd 12), (12, o_ial 13), (13, o_il 2 14), (14, o_iceq 23 17), (17, o_inc 4 1 20), (20, o_goto 3), (23, o_al 0 24), (24, o_il 1 25), (25, o_al 0 26), (26, o_gR 6 13 29), (29, o_ic 300 32), (32, o_il 1 33), (33, o_imul 34), (34, o_il 4 36), (36, o_iadd 37), (37, o_ial 38), (38, o_call m_M_written 3 0 0 41 (mj_rv 6)), (41, o_is 5 43), (43, o_al 0 44), (44, o_il 1 45), (45, o_al 0 46), (46, o_gR 6 14 49), (49, o_ic 300 52), (52, o_il 1 53), (53, o_imul 54), (54, o_il 4 56), (56, o_iadd 57), (57, o_ial 58), (58, o_call m_M_written 3 0 0 61 (mj_rv 6)), (61, o_is 6 63), (63, o_il 5 65), (65, o_il 6 67), (67, o_icle 75 70), (70, o_il 5 72), (72, o_goto 77), (75, o_il 6 77), (77, o_is 7 79), (79, o_il 5 81), (81, o_il 6 83), (83, o_icle 91 86), (86, o_il 6 88), (88, o_goto 93), (91, o_il 5 93), (93, o_is 8 95), (95, o_il 3 96), (96, o_ifeq 121 99), (99, o_al 0 100), (100, o_ic 2 101), (101, o_il 2 102), (102, o_imul 103), (103, o_il 7 105), (105, o_isub 106), (106, o_call m_M_putStep 2 0 0 109 (mj_rv 6)), (109, o_al 0 110), (110, o_il 7 112), (112, o_il 8 114), (114, o_isub 115), (115, o_call m_M_putStep 2 0 0 118 (mj_rv 6)), (118, o_goto 146), (121, o_al 0 122), (122, o_ic 2 123), (123, o_il 2 124), (124, o_imul 125), (125, o_ic 32 127), (127, o_call m_M_putNumber 3 0 0 130 (mj_rv 6)), (130, o_al 0 131), (131, o_il 7 133), (133, o_ic 32 135), (135, o_call m_M_putNumber 3 0 0 138 (mj_rv 6)), (138, o_al 0 139), (139, o_il 8 141), (141, o_ic 10 143), (143, o_call m_M_putNumber 3 0 0 146 (mj_rv 6)), (146, o_retv 0 0)]
set_option maxRecDepth 100000 in
theorem z_M_writeGate : mj_Code (m_M_writeGate) (q_M_writeGate) :=
  mj_c1 (k_iconst (by decide +kernel)) <|
  mj_c1 (k_istore (by decide +kernel) (by decide)) <|
  mj_c1 (k_aloadn (k := 0) (by decide +kernel) rfl) <|
  mj_c1 (k_gR (idx := 80) h_M (by decide) rfl w_874 (by decide +kernel)) <|
  mj_c1 (k_bipush (by decide +kernel) (by decide)) <|
  mj_c1 (k_iload (by decide +kernel)) <|
  mj_c1 (k_iadd (by decide +kernel)) <|
  mj_c1 (k_ial (by decide +kernel)) <|
  mj_c1 (k_iloadn (k := 2) (by decide +kernel) rfl) <|
  mj_c1 (k_iceq (off := 9) (by decide +kernel) (by decide)) <|
  mj_c1 (k_iinc (by decide +kernel) (by decide)) <|
  mj_c1 (k_goto (off := -17) (by decide +kernel) (by decide)) <|
  mj_c1 (k_aloadn (k := 0) (by decide +kernel) rfl) <|
  mj_c1 (k_iloadn (k := 1) (by decide +kernel) rfl) <|
  mj_c1 (k_aloadn (k := 0) (by decide +kernel) rfl) <|
  mj_c1 (k_gR (idx := 41) h_M (by decide) rfl w_859 (by decide +kernel)) <|
  mj_c1 (k_sipush (by decide +kernel) (by decide)) <|
  mj_c1 (k_iloadn (k := 1) (by decide +kernel) rfl) <|
  mj_c1 (k_imul (by decide +kernel)) <|
  mj_c1 (k_iload (by decide +kernel)) <|
  mj_c1 (k_iadd (by decide +kernel)) <|
  mj_c1 (k_ial (by decide +kernel)) <|
  mj_c1 (k_callV (idx := 252) (by decide +kernel) (fit_m_M_writeGate_m_M_written) rfl rfl w_1176 w_1178 v_90 (by decide) (by decide +kernel)) <|
  mj_c1 (k_istore (by decide +kernel) (by decide)) <|
  mj_c1 (k_aloadn (k := 0) (by decide +kernel) rfl) <|
  mj_c1 (k_iloadn (k := 1) (by decide +kernel) rfl) <|
  mj_c1 (k_aloadn (k := 0) (by decide +kernel) rfl) <|
  mj_c1 (k_gR (idx := 44) h_M (by decide) rfl w_860 (by decide +kernel)) <|
  mj_c1 (k_sipush (by decide +kernel) (by decide)) <|
  mj_c1 (k_iloadn (k := 1) (by decide +kernel) rfl) <|
  mj_c1 (k_imul (by decide +kernel)) <|
  mj_c1 (k_iload (by decide +kernel)) <|
  mj_c1 (k_iadd (by decide +kernel)) <|
  mj_c1 (k_ial (by decide +kernel)) <|
  mj_c1 (k_callV (idx := 252) (by decide +kernel) (fit_m_M_writeGate_m_M_written) rfl rfl w_1176 w_1178 v_90 (by decide) (by decide +kernel)) <|
  mj_c1 (k_istore (by decide +kernel) (by decide)) <|
  mj_c1 (k_iload (by decide +kernel)) <|
  mj_c1 (k_iload (by decide +kernel)) <|
  mj_c1 (k_icle (off := 8) (by decide +kernel) (by decide)) <|
  mj_c1 (k_iload (by decide +kernel)) <|
  mj_c1 (k_goto (off := 5) (by decide +kernel) (by decide)) <|
  mj_c1 (k_iload (by decide +kernel)) <|
  mj_c1 (k_istore (by decide +kernel) (by decide)) <|
  mj_c1 (k_iload (by decide +kernel)) <|
  mj_c1 (k_iload (by decide +kernel)) <|
  mj_c1 (k_icle (off := 8) (by decide +kernel) (by decide)) <|
  mj_c1 (k_iload (by decide +kernel)) <|
  mj_c1 (k_goto (off := 5) (by decide +kernel) (by decide)) <|
  mj_c1 (k_iload (by decide +kernel)) <|
  mj_c1 (k_istore (by decide +kernel) (by decide)) <|
  mj_c1 (k_iloadn (k := 3) (by decide +kernel) rfl) <|
  mj_c1 (k_ifeq (off := 25) (by decide +kernel) (by decide)) <|
  mj_c1 (k_aloadn (k := 0) (by decide +kernel) rfl) <|
  mj_c1 (k_iconst (by decide +kernel)) <|
  mj_c1 (k_iloadn (k := 2) (by decide +kernel) rfl) <|
  mj_c1 (k_imul (by decide +kernel)) <|
  mj_c1 (k_iload (by decide +kernel)) <|
  mj_c1 (k_isub (by decide +kernel)) <|
  mj_c1 (k_callV (idx := 259) (by decide +kernel) (fit_m_M_writeGate_m_M_putStep) rfl rfl w_1184 w_1186 v_92 (by decide) (by decide +kernel)) <|
  mj_c1 (k_aloadn (k := 0) (by decide +kernel) rfl) <|
  mj_c1 (k_iload (by decide +kernel)) <|
  mj_c1 (k_iload (by decide +kernel)) <|
  mj_c1 (k_isub (by decide +kernel)) <|
  mj_c1 (k_callV (idx := 259) (by decide +kernel) (fit_m_M_writeGate_m_M_putStep) rfl rfl w_1184 w_1186 v_92 (by decide) (by decide +kernel)) <|
  mj_c1 (k_goto (off := 28) (by decide +kernel) (by decide)) <|
  mj_c1 (k_aloadn (k := 0) (by decide +kernel) rfl) <|
  mj_c1 (k_iconst (by decide +kernel)) <|
  mj_c1 (k_iloadn (k := 2) (by decide +kernel) rfl) <|
  mj_c1 (k_imul (by decide +kernel)) <|
  mj_c1 (k_bipush (by decide +kernel) (by decide)) <|
  mj_c1 (k_callV (idx := 246) (by decide +kernel) (fit_m_M_writeGate_m_M_putNumber) rfl rfl w_1168 w_1170 v_88 (by decide) (by decide +kernel)) <|
  mj_c1 (k_aloadn (k := 0) (by decide +kernel) rfl) <|
  mj_c1 (k_iload (by decide +kernel)) <|
  mj_c1 (k_bipush (by decide +kernel) (by decide)) <|
  mj_c1 (k_callV (idx := 246) (by decide +kernel) (fit_m_M_writeGate_m_M_putNumber) rfl rfl w_1168 w_1170 v_88 (by decide) (by decide +kernel)) <|
  mj_c1 (k_aloadn (k := 0) (by decide +kernel) rfl) <|
  mj_c1 (k_iload (by decide +kernel)) <|
  mj_c1 (k_bipush (by decide +kernel) (by decide)) <|
  mj_c1 (k_callV (idx := 246) (by decide +kernel) (fit_m_M_writeGate_m_M_putNumber) rfl rfl w_1168 w_1170 v_88 (by decide) (by decide +kernel)) <|
  mj_c1 (k_retv (by decide +kernel) rfl) mj_c0
def q_M_putStep : List (Nat × mj_Sem) := [(0, o_il 1 1), (1, o_ic 128 4), (4, o_icge 13 7), (7, o_al 0 8), (8, o_il 1 9), (9, o_call m_M_put 2 0 0 12 (mj_rv 6)), (12, o_retv 0 0), (13, o_al 0 14), (14, o_ic 128 17), (17, o_il 1 18), (18, o_ic 128 21), (21, o_irem 22), (22, o_iadd 23), (23, o_call m_M_put 2 0 0 26 (mj_rv 6)), (26, o_al 0 27), (27, o_il 1 28), (28, o_ic 128 31), (31, o_idiv 32), (32, o_call m_M_put 2 0 0 35 (mj_rv 6)), (35, o_retv 0 0)]
set_option maxRecDepth 100000 in
theorem z_M_putStep : mj_Code (m_M_putStep) (q_M_putStep) :=
  mj_c1 (k_iloadn (k := 1) (by decide +kernel) rfl) <|
  mj_c1 (k_sipush (by decide +kernel) (by decide)) <|
  mj_c1 (k_icge (off := 9) (by decide +kernel) (by decide)) <|
  mj_c1 (k_aloadn (k := 0) (by decide +kernel) rfl) <|
  mj_c1 (k_iloadn (k := 1) (by decide +kernel) rfl) <|
  mj_c1 (k_callV (idx := 236) (by decide +kernel) (fit_m_M_putStep_m_M_put) rfl rfl w_1164 w_1166 v_87 (by decide) (by decide +kernel)) <|
  mj_c1 (k_retv (by decide +kernel) rfl) <|
  mj_c1 (k_aloadn (k := 0) (by decide +kernel) rfl) <|
  mj_c1 (k_sipush (by decide +kernel) (by decide)) <|
  mj_c1 (k_iloadn (k := 1) (by decide +kernel) rfl) <|
  mj_c1 (k_sipush (by decide +kernel) (by decide)) <|
  mj_c1 (k_irem (by decide +kernel)) <|
  mj_c1 (k_iadd (by decide +kernel)) <|
  mj_c1 (k_callV (idx := 236) (by decide +kernel) (fit_m_M_putStep_m_M_put) rfl rfl w_1164 w_1166 v_87 (by decide) (by decide +kernel)) <|
  mj_c1 (k_aloadn (k := 0) (by decide +kernel) rfl) <|
  mj_c1 (k_iloadn (k := 1) (by decide +kernel) rfl) <|
  mj_c1 (k_sipush (by decide +kernel) (by decide)) <|
  mj_c1 (k_idiv (by decide +kernel)) <|
  mj_c1 (k_callV (idx := 236) (by decide +kernel) (fit_m_M_putStep_m_M_put) rfl rfl w_1164 w_1166 v_87 (by decide) (by decide +kernel)) <|
  mj_c1 (k_retv (by decide +kernel) rfl) mj_c0
def q_M_out : List (Nat × mj_Sem) := [(0, o_al 0 1), (1, o_il 1 2), (2, o_iflt 13 5), (5, o_il 1 6), (6, o_al 0 7), (7, o_gI 6 4 10), (10, o_iclt 17 13), (13, o_ic 1 14), (14, o_goto 18), (17, o_ic 0 18), (18, o_ic 0 19), (19, o_call m_M_throwing 3 0 0 22 (mj_rv 6)), (22, o_ifeq 27 25), (25, o_lc 0#64 26), (26, o_lret 0 0), (27, o_lc 0#64 28), (28, o_ls 2 29), (29, o_ic 7 31), (31, o_is 4 33), (33, o_il 4 35), (35, o_iflt 79 38), (38, o_ll 2 39), (39, o_ic 8 41), (41, o_lshl 42), (42, o_il 1 43), (43, o_il 4 45), (45, o_iadd 46), (46, o_al 0 47), (47, o_gI 6 4 50), (50, o_icge 69 53), (53, o_al 0 54), (54, o_gR 6 3 57), (57, o_il 1 58), (58, o_il 4 60), (60, o_iadd 61), (61, o_bal 62), (62, o_ic 255 65), (65, o_iand 66), (66, o_goto 70), (69, o_ic 0 70), (70, o_i2l 71), (71, o_lor 72), (72, o_ls 2 73), (73, o_inc 4 (-1) 76), (76, o_goto 33), (79, o_ll 2 80), (80, o_lret 0 0)]
set_option maxRecDepth 100000 in
theorem z_M_out : mj_Code (m_M_out) (q_M_out) :=
  mj_c1 (k_aloadn (k := 0) (by decide +kernel) rfl) <|
  mj_c1 (k_iloadn (k := 1) (by decide +kernel) rfl) <|
  mj_c1 (k_iflt (off := 11) (by decide +kernel) (by decide)) <|
  mj_c1 (k_iloadn (k := 1) (by decide +kernel) rfl) <|
  mj_c1 (k_aloadn (k := 0) (by decide +kernel) rfl) <|
  mj_c1 (k_gI (idx := 233) h_M (by decide) rfl w_850 (by decide +kernel)) <|
  mj_c1 (k_iclt (off := 7) (by decide +kernel) (by decide)) <|
  mj_c1 (k_iconst (by decide +kernel)) <|
  mj_c1 (k_goto (off := 4) (by decide +kernel) (by decide)) <|
  mj_c1 (k_iconst (by decide +kernel)) <|
  mj_c1 (k_iconst (by decide +kernel)) <|
  mj_c1 (k_callV (idx := 93) (by decide +kernel) (fit_m_M_out_m_M_throwing) rfl rfl w_945 w_947 v_49 (by decide) (by decide +kernel)) <|
  mj_c1 (k_ifeq (off := 5) (by decide +kernel) (by decide)) <|
  mj_c1 (k_lconst (k := 0) (by decide +kernel) (by decide)) <|
  mj_c1 (k_lret (by decide +kernel) rfl) <|
  mj_c1 (k_lconst (k := 0) (by decide +kernel) (by decide)) <|
  mj_c1 (k_lstoren (k := 2) (by decide +kernel) rfl (by decide)) <|
  mj_c1 (k_bipush (by decide +kernel) (by decide)) <|
  mj_c1 (k_istore (by decide +kernel) (by decide)) <|
  mj_c1 (k_iload (by decide +kernel)) <|
  mj_c1 (k_iflt (off := 44) (by decide +kernel) (by decide)) <|
  mj_c1 (k_lloadn (k := 2) (by decide +kernel) rfl) <|
  mj_c1 (k_bipush (by decide +kernel) (by decide)) <|
  mj_c1 (k_lshl (by decide +kernel)) <|
  mj_c1 (k_iloadn (k := 1) (by decide +kernel) rfl) <|
  mj_c1 (k_iload (by decide +kernel)) <|
  mj_c1 (k_iadd (by decide +kernel)) <|
  mj_c1 (k_aloadn (k := 0) (by decide +kernel) rfl) <|
  mj_c1 (k_gI (idx := 233) h_M (by decide) rfl w_850 (by decide +kernel)) <|
  mj_c1 (k_icge (off := 19) (by decide +kernel) (by decide)) <|
  mj_c1 (k_aloadn (k := 0) (by decide +kernel) rfl) <|
  mj_c1 (k_gR (idx := 13) h_M (by decide) rfl w_849 (by decide +kernel)) <|
  mj_c1 (k_iloadn (k := 1) (by decide +kernel) rfl) <|
  mj_c1 (k_iload (by decide +kernel)) <|
  mj_c1 (k_iadd (by decide +kernel)) <|
  mj_c1 (k_bal (by decide +kernel)) <|
  mj_c1 (k_sipush (by decide +kernel) (by decide)) <|
  mj_c1 (k_iand (by decide +kernel)) <|
  mj_c1 (k_goto (off := 4) (by decide +kernel) (by decide)) <|
  mj_c1 (k_iconst (by decide +kernel)) <|
  mj_c1 (k_i2l (by decide +kernel)) <|
  mj_c1 (k_lor (by decide +kernel)) <|
  mj_c1 (k_lstoren (k := 2) (by decide +kernel) rfl (by decide)) <|
  mj_c1 (k_iinc (by decide +kernel) (by decide)) <|
  mj_c1 (k_goto (off := -43) (by decide +kernel) (by decide)) <|
  mj_c1 (k_lloadn (k := 2) (by decide +kernel) rfl) <|
  mj_c1 (k_lret (by decide +kernel) rfl) mj_c0
def q_M_look : List (Nat × mj_Sem) := [(0, o_al 0 1), (1, o_il 1 2), (2, o_call m_M_isCircuit 1 0 0 5 mj_rs), (5, o_ifeq 18 8), (8, o_il 2 9), (9, o_iflt 18 12), (12, o_il 2 13), (13, o_ic 8 15), (15, o_icle 22 18), (18, o_ic 1 19), (19, o_goto 23), (22, o_ic 0 23), (23, o_ic 0 24), (24, o_call m_M_throwing 3 0 0 27 (mj_rv 6)), (27, o_ifeq 32 30), (30, o_ic 0 31), (31, o_iret 0 0), (32, o_il 1 33), (33, o_is 3 34), (34, o_ic 0 35), (35, o_is 4 37), (37, o_ic 0 38), (38, o_is 5 40), (40, o_il 5 42), (42, o_al 0 43), (43, o_gR 6 7 46), (46, o_il 3 47), (47, o_ial 48), (48, o_icge 103 51), (51, o_al 0 52), (52, o_gR 6 17 55), (55, o_ic 315 58), (58, o_il 3 59), (59, o_imul 60), (60, o_al 0 61), (61, o_il 3 62), (62, o_al 0 63), (63, o_gR 6 15 66), (66, o_ic 16 68), (68, o_il 3 69), (69, o_imul 70), (70, o_il 5 72), (72, o_iadd 73), (73, o_ial 74), (74, o_call m_M_rowAt 3 0 0 77 (mj_rv 6)), (77, o_iadd 78), (78, o_ial 79), (79, o_is 6 81), (81, o_il 6 83), (83, o_il 4 85), (85, o_icle 93 88), (88, o_il 6 90), (90, o_goto 95), (93, o_il 4 95), (95, o_is 4 97), (97, o_inc 5 1 100), (100, o_goto 40), (103, o_il 2 104), (104, o_tsw [152, 159, 166, 173, 180, 187, 194, 197] 202), (152, o_al 0 153), (153, o_gR 6 5 156), (156, o_il 3 157), (157, o_ial 158), (158, o_iret 0 0), (159, o_al 0 160), (160, o_gR 6 6 163), (163, o_il 3 164), (164, o_ial 165), (165, o_iret 0 0), (166, o_al 0 167), (167, o_gR 6 7 170), (170, o_il 3 171), (171, o_ial 172), (172, o_iret 0 0), (173, o_al 0 174), (174, o_gR 6 8 177), (177, o_il 3 178), (178, o_ial 179), (179, o_iret 0 0), (180, o_al 0 181), (181, o_gR 6 9 184), (184, o_il 3 185), (185, o_ial 186), (186, o_iret 0 0), (187, o_al 0 188), (188, o_gR 6 10 191), (191, o_il 3 192), (192, o_ial 193), (193, o_iret 0 0), (194, o_il 4 196), (196, o_iret 0 0), (197, o_al 0 198), (198, o_gI 6 2 201), (201, o_iret 0 0), (202, o_al 0 203), (203, o_gI 6 4 206), (206, o_iret 0 0)]
set_option maxRecDepth 100000 in
theorem z_M_look : mj_Code (m_M_look) (q_M_look) :=
  mj_c1 (k_aloadn (k := 0) (by decide +kernel) rfl) <|
  mj_c1 (k_iloadn (k := 1) (by decide +kernel) rfl) <|
  mj_c1 (k_callS (idx := 166) (by decide +kernel) (fit_m_M_look_m_M_isCircuit) rfl w_953 w_954 (by decide) (by decide +kernel)) <|
  mj_c1 (k_ifeq (off := 13) (by decide +kernel) (by decide)) <|
  mj_c1 (k_iloadn (k := 2) (by decide +kernel) rfl) <|
  mj_c1 (k_iflt (off := 9) (by decide +kernel) (by decide)) <|
  mj_c1 (k_iloadn (k := 2) (by decide +kernel) rfl) <|
  mj_c1 (k_bipush (by decide +kernel) (by decide)) <|
  mj_c1 (k_icle (off := 7) (by decide +kernel) (by decide)) <|
  mj_c1 (k_iconst (by decide +kernel)) <|
  mj_c1 (k_goto (off := 4) (by decide +kernel) (by decide)) <|
  mj_c1 (k_iconst (by decide +kernel)) <|
  mj_c1 (k_iconst (by decide +kernel)) <|
  mj_c1 (k_callV (idx := 93) (by decide +kernel) (fit_m_M_look_m_M_throwing) rfl rfl w_945 w_947 v_49 (by decide) (by decide +kernel)) <|
  mj_c1 (k_ifeq (off := 5) (by decide +kernel) (by decide)) <|
  mj_c1 (k_iconst (by decide +kernel)) <|
  mj_c1 (k_iret (by decide +kernel) rfl) <|
  mj_c1 (k_iloadn (k := 1) (by decide +kernel) rfl) <|
  mj_c1 (k_istoren (k := 3) (by decide +kernel) rfl (by decide)) <|
  mj_c1 (k_iconst (by decide +kernel)) <|
  mj_c1 (k_istore (by decide +kernel) (by decide)) <|
  mj_c1 (k_iconst (by decide +kernel)) <|
  mj_c1 (k_istore (by decide +kernel) (by decide)) <|
  mj_c1 (k_iload (by decide +kernel)) <|
  mj_c1 (k_aloadn (k := 0) (by decide +kernel) rfl) <|
  mj_c1 (k_gR (idx := 23) h_M (by decide) rfl w_853 (by decide +kernel)) <|
  mj_c1 (k_iloadn (k := 3) (by decide +kernel) rfl) <|
  mj_c1 (k_ial (by decide +kernel)) <|
  mj_c1 (k_icge (off := 55) (by decide +kernel) (by decide)) <|
  mj_c1 (k_aloadn (k := 0) (by decide +kernel) rfl) <|
  mj_c1 (k_gR (idx := 53) h_M (by decide) rfl w_863 (by decide +kernel)) <|
  mj_c1 (k_sipush (by decide +kernel) (by decide)) <|
  mj_c1 (k_iloadn (k := 3) (by decide +kernel) rfl) <|
  mj_c1 (k_imul (by decide +kernel)) <|
  mj_c1 (k_aloadn (k := 0) (by decide +kernel) rfl) <|
  mj_c1 (k_iloadn (k := 3) (by decide +kernel) rfl) <|
  mj_c1 (k_aloadn (k := 0) (by decide +kernel) rfl) <|
  mj_c1 (k_gR (idx := 47) h_M (by decide) rfl w_861 (by decide +kernel)) <|
  mj_c1 (k_bipush (by decide +kernel) (by decide)) <|
  mj_c1 (k_iloadn (k := 3) (by decide +kernel) rfl) <|
  mj_c1 (k_imul (by decide +kernel)) <|
  mj_c1 (k_iload (by decide +kernel)) <|
  mj_c1 (k_iadd (by decide +kernel)) <|
  mj_c1 (k_ial (by decide +kernel)) <|
  mj_c1 (k_callV (idx := 141) (by decide +kernel) (fit_m_M_look_m_M_rowAt) rfl rfl w_1023 w_1025 v_66 (by decide) (by decide +kernel)) <|
  mj_c1 (k_iadd (by decide +kernel)) <|
  mj_c1 (k_ial (by decide +kernel)) <|
  mj_c1 (k_istore (by decide +kernel) (by decide)) <|
  mj_c1 (k_iload (by decide +kernel)) <|
  mj_c1 (k_iload (by decide +kernel)) <|
  mj_c1 (k_icle (off := 8) (by decide +kernel) (by decide)) <|
  mj_c1 (k_iload (by decide +kernel)) <|
  mj_c1 (k_goto (off := 5) (by decide +kernel) (by decide)) <|
  mj_c1 (k_iload (by decide +kernel)) <|
  mj_c1 (k_istore (by decide +kernel) (by decide)) <|
  mj_c1 (k_iinc (by decide +kernel) (by decide)) <|
  mj_c1 (k_goto (off := -60) (by decide +kernel) (by decide)) <|
  mj_c1 (k_iloadn (k := 2) (by decide +kernel) rfl) <|
  mj_c1 (k_tsw (d := 98) (lo := 0) (hi := 7) (offs := #[48, 55, 62, 69, 76, 83, 90, 93]) (len := 48) (by decide +kernel) rfl rfl (by decide) (by decide +kernel)) <|
  mj_c1 (k_aloadn (k := 0) (by decide +kernel) rfl) <|
  mj_c1 (k_gR (idx := 16) h_M (by decide) rfl w_851 (by decide +kernel)) <|
  mj_c1 (k_iloadn (k := 3) (by decide +kernel) rfl) <|
  mj_c1 (k_ial (by decide +kernel)) <|
  mj_c1 (k_iret (by decide +kernel) rfl) <|
  mj_c1 (k_aloadn (k := 0) (by decide +kernel) rfl) <|
  mj_c1 (k_gR (idx := 20) h_M (by decide) rfl w_852 (by decide +kernel)) <|
  mj_c1 (k_iloadn (k := 3) (by decide +kernel) rfl) <|
  mj_c1 (k_ial (by decide +kernel)) <|
  mj_c1 (k_iret (by decide +kernel) rfl) <|
  mj_c1 (k_aloadn (k := 0) (by decide +kernel) rfl) <|
  mj_c1 (k_gR (idx := 23) h_M (by decide) rfl w_853 (by decide +kernel)) <|
  mj_c1 (k_iloadn (k := 3) (by decide +kernel) rfl) <|
  mj_c1 (k_ial (by decide +kernel)) <|
  mj_c1 (k_iret (by decide +kernel) rfl) <|
  mj_c1 (k_aloadn (k := 0) (by decide +kernel) rfl) <|
  mj_c1 (k_gR (idx := 26) h_M (by decide) rfl w_854 (by decide +kernel)) <|
  mj_c1 (k_iloadn (k := 3) (by decide +kernel) rfl) <|
  mj_c1 (k_ial (by decide +kernel)) <|
  mj_c1 (k_iret (by decide +kernel) rfl) <|
  mj_c1 (k_aloadn (k := 0) (by decide +kernel) rfl) <|
  mj_c1 (k_gR (idx := 29) h_M (by decide) rfl w_855 (by decide +kernel)) <|
  mj_c1 (k_iloadn (k := 3) (by decide +kernel) rfl) <|
  mj_c1 (k_ial (by decide +kernel)) <|
  mj_c1 (k_iret (by decide +kernel) rfl) <|
  mj_c1 (k_aloadn (k := 0) (by decide +kernel) rfl) <|
  mj_c1 (k_gR (idx := 32) h_M (by decide) rfl w_856 (by decide +kernel)) <|
  mj_c1 (k_iloadn (k := 3) (by decide +kernel) rfl) <|
  mj_c1 (k_ial (by decide +kernel)) <|
  mj_c1 (k_iret (by decide +kernel) rfl) <|
  mj_c1 (k_iload (by decide +kernel)) <|
  mj_c1 (k_iret (by decide +kernel) rfl) <|
  mj_c1 (k_aloadn (k := 0) (by decide +kernel) rfl) <|
  mj_c1 (k_gI (idx := 90) h_M (by decide) rfl w_848 (by decide +kernel)) <|
  mj_c1 (k_iret (by decide +kernel) rfl) <|
  mj_c1 (k_aloadn (k := 0) (by decide +kernel) rfl) <|
  mj_c1 (k_gI (idx := 233) h_M (by decide) rfl w_850 (by decide +kernel)) <|
  mj_c1 (k_iret (by decide +kernel) rfl) mj_c0
