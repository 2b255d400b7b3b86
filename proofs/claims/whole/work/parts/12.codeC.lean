def q_C_init : List (Nat × mj_Sem) := [(0, o_al 0 1), (1, o_oi 4), (4, o_al 0 5), (5, o_new 3 13 13 84672 8), (8, o_dup 9), (9, o_call m_N_init 1 13 84672 12 mj_ri), (12, o_pR 1 0 15), (15, o_al 0 16), (16, o_ic 80640 18), (18, o_na 3 13 84672 20), (20, o_pR 1 4 23), (23, o_al 0 24), (24, o_ic 315 27), (27, o_na 3 13 84672 29), (29, o_pR 1 5 32), (32, o_al 0 33), (33, o_ic 315 36), (36, o_na 0 13 84672 38), (38, o_pR 1 6 41), (41, o_al 0 42), (42, o_ic 512 45), (45, o_na 0 13 84672 47), (47, o_pR 1 7 50), (50, o_retv 13 84672)]
set_option maxRecDepth 100000 in
theorem z_C_init : mj_Code (m_C_init) (q_C_init) :=
  mj_c1 (k_aloadn (k := 0) (by decide +kernel) rfl) <|
  mj_c1 (k_oi (idx := 5) (by decide +kernel) w_31 w_24 w_25 (by decide) (by decide)) <|
  mj_c1 (k_aloadn (k := 0) (by decide +kernel) rfl) <|
  mj_c1 (k_new (idx := 11) (by decide +kernel) h_N (by decide) w_32 w_33 w_3) <|
  mj_c1 (k_dup (by decide +kernel)) <|
  mj_c1 (k_callI (idx := 13) (by decide +kernel) (fit_m_C_init_m_N_init) rfl w_34 w_35 w_36 rfl (by decide) (by decide +kernel)) <|
  mj_c1 (k_pR (idx := 14) h_C (by decide) rfl (Or.inl ⟨_, rfl⟩) w_120 rfl (by decide +kernel)) <|
  mj_c1 (k_aloadn (k := 0) (by decide +kernel) rfl) <|
  mj_c1 (k_ldc (idx := 18) (by decide +kernel) w_119) <|
  mj_c1 (k_na (at0 := .long) (by decide +kernel) rfl (Or.inr (Or.inr (Or.inr ⟨rfl, rfl⟩))) w_154) <|
  mj_c1 (k_pRF (idx := 19) h_C (by decide) rfl (Or.inr ⟨_, rfl⟩) w_127 rfl rfl rfl (by decide +kernel)) <|
  mj_c1 (k_aloadn (k := 0) (by decide +kernel) rfl) <|
  mj_c1 (k_sipush (by decide +kernel) (by decide)) <|
  mj_c1 (k_na (at0 := .long) (by decide +kernel) rfl (Or.inr (Or.inr (Or.inr ⟨rfl, rfl⟩))) w_154) <|
  mj_c1 (k_pRF (idx := 23) h_C (by decide) rfl (Or.inr ⟨_, rfl⟩) w_128 rfl rfl rfl (by decide +kernel)) <|
  mj_c1 (k_aloadn (k := 0) (by decide +kernel) rfl) <|
  mj_c1 (k_sipush (by decide +kernel) (by decide)) <|
  mj_c1 (k_na (at0 := .int) (by decide +kernel) rfl (Or.inl ⟨rfl, rfl⟩) w_118) <|
  mj_c1 (k_pRF (idx := 26) h_C (by decide) rfl (Or.inr ⟨_, rfl⟩) w_129 rfl rfl rfl (by decide +kernel)) <|
  mj_c1 (k_aloadn (k := 0) (by decide +kernel) rfl) <|
  mj_c1 (k_sipush (by decide +kernel) (by decide)) <|
  mj_c1 (k_na (at0 := .int) (by decide +kernel) rfl (Or.inl ⟨rfl, rfl⟩) w_118) <|
  mj_c1 (k_pRF (idx := 30) h_C (by decide) rfl (Or.inr ⟨_, rfl⟩) w_130 rfl rfl rfl (by decide +kernel)) <|
  mj_c1 (k_retv (by decide +kernel) rfl) mj_c0
def q_C_settle : List (Nat × mj_Sem) := [(0, o_al 0 1), (1, o_gR 1 0 4), (4, o_gI 3 10 7), (7, o_ic 6 9), (9, o_icge 16 12), (12, o_ic 1 13), (13, o_goto 17), (16, o_ic 0 17), (17, o_is 1 18), (18, o_al 0 19), (19, o_il 1 20), (20, o_ifeq 27 23), (23, o_ic 1 24), (24, o_goto 39), (27, o_ic 1 28), (28, o_al 0 29), (29, o_gR 1 0 32), (32, o_gI 3 10 35), (35, o_ic 6 37), (37, o_isub 38), (38, o_ishl 39), (39, o_pI 1 8 42), (42, o_al 0 43), (43, o_il 1 44), (44, o_ifeq 63 47), (47, o_lc 1#64 48), (48, o_ic 1 49), (49, o_al 0 50), (50, o_gR 1 0 53), (53, o_gI 3 10 56), (56, o_ishl 57), (57, o_lshl 58), (58, o_lc 1#64 59), (59, o_lsub 60), (60, o_goto 66), (63, o_lc 0xFFFFFFFFFFFFFFFF#64 66), (66, o_pL 1 9 69), (69, o_al 0 70), (70, o_ic 0 71), (71, o_pI 1 3 74), (74, o_al 0 75), (75, o_gR 1 7 78), (78, o_ic (-1) 79), (79, o_call m_A_fill 2 0 0 82 mj_rs), (82, o_al 0 83), (83, o_ic 0 84), (84, o_call m_C_enter 2 0 0 87 (mj_rv 1)), (87, o_ic 0 88), (88, o_is 2 89), (89, o_il 2 90), (90, o_al 0 91), (91, o_gR 1 0 94), (94, o_gI 3 10 97), (97, o_icge 118 100), (100, o_al 0 101), (101, o_il 2 102), (102, o_call m_C_fillInput 2 0 0 105 (mj_rv 1)), (105, o_al 0 106), (106, o_ic 1 107), (107, o_il 2 108), (108, o_iadd 109), (109, o_call m_C_enter 2 0 0 112 (mj_rv 1)), (112, o_inc 2 1 115), (115, o_goto 89), (118, o_ic 0 119), (119, o_is 2 120), (120, o_il 2 121), (121, o_al 0 122), (122, o_gR 1 0 125), (125, o_gI 3 11 128), (128, o_icge 163 131), (131, o_al 0 132), (132, o_al 0 133), (133, o_gR 1 0 136), (136, o_gR 3 6 139), (139, o_il 2 140), (140, o_ial 141), (141, o_call m_C_fillGate 2 0 0 144 (mj_rv 1)), (144, o_al 0 145), (145, o_al 0 146), (146, o_gR 1 0 149), (149, o_gR 3 6 152), (152, o_il 2 153), (153, o_ial 154), (154, o_call m_C_enter 2 0 0 157 (mj_rv 1)), (157, o_inc 2 1 160), (160, o_goto 120), (163, o_retv 0 0)]
set_option maxRecDepth 100000 in
theorem z_C_settle : mj_Code (m_C_settle) (q_C_settle) :=
  mj_c1 (k_aloadn (k := 0) (by decide +kernel) rfl) <|
  mj_c1 (k_gR (idx := 14) h_C (by decide) rfl w_120 (by decide +kernel)) <|
  mj_c1 (k_gI (idx := 33) h_N (by decide) rfl w_77 (by decide +kernel)) <|
  mj_c1 (k_bipush (by decide +kernel) (by decide)) <|
  mj_c1 (k_icge (off := 7) (by decide +kernel) (by decide)) <|
  mj_c1 (k_iconst (by decide +kernel)) <|
  mj_c1 (k_goto (off := 4) (by decide +kernel) (by decide)) <|
  mj_c1 (k_iconst (by decide +kernel)) <|
  mj_c1 (k_istoren (k := 1) (by decide +kernel) rfl (by decide)) <|
  mj_c1 (k_aloadn (k := 0) (by decide +kernel) rfl) <|
  mj_c1 (k_iloadn (k := 1) (by decide +kernel) rfl) <|
  mj_c1 (k_ifeq (off := 7) (by decide +kernel) (by decide)) <|
  mj_c1 (k_iconst (by decide +kernel)) <|
  mj_c1 (k_goto (off := 15) (by decide +kernel) (by decide)) <|
  mj_c1 (k_iconst (by decide +kernel)) <|
  mj_c1 (k_aloadn (k := 0) (by decide +kernel) rfl) <|
  mj_c1 (k_gR (idx := 14) h_C (by decide) rfl w_120 (by decide +kernel)) <|
  mj_c1 (k_gI (idx := 33) h_N (by decide) rfl w_77 (by decide +kernel)) <|
  mj_c1 (k_bipush (by decide +kernel) (by decide)) <|
  mj_c1 (k_isub (by decide +kernel)) <|
  mj_c1 (k_ishl (by decide +kernel)) <|
  mj_c1 (k_pI (idx := 37) h_C (by decide) rfl rfl w_131 rfl (by decide +kernel)) <|
  mj_c1 (k_aloadn (k := 0) (by decide +kernel) rfl) <|
  mj_c1 (k_iloadn (k := 1) (by decide +kernel) rfl) <|
  mj_c1 (k_ifeq (off := 19) (by decide +kernel) (by decide)) <|
  mj_c1 (k_lconst (k := 1) (by decide +kernel) (by decide)) <|
  mj_c1 (k_iconst (by decide +kernel)) <|
  mj_c1 (k_aloadn (k := 0) (by decide +kernel) rfl) <|
  mj_c1 (k_gR (idx := 14) h_C (by decide) rfl w_120 (by decide +kernel)) <|
  mj_c1 (k_gI (idx := 33) h_N (by decide) rfl w_77 (by decide +kernel)) <|
  mj_c1 (k_ishl (by decide +kernel)) <|
  mj_c1 (k_lshl (by decide +kernel)) <|
  mj_c1 (k_lconst (k := 1) (by decide +kernel) (by decide)) <|
  mj_c1 (k_lsub (by decide +kernel)) <|
  mj_c1 (k_goto (off := 6) (by decide +kernel) (by decide)) <|
  mj_c1 (k_ldc2 (idx := 40) (by decide +kernel) w_159) <|
  mj_c1 (k_pL (idx := 42) h_C (by decide) rfl rfl w_132 rfl (by decide +kernel)) <|
  mj_c1 (k_aloadn (k := 0) (by decide +kernel) rfl) <|
  mj_c1 (k_iconst (by decide +kernel)) <|
  mj_c1 (k_pI (idx := 46) h_C (by decide) rfl rfl w_125 rfl (by decide +kernel)) <|
  mj_c1 (k_aloadn (k := 0) (by decide +kernel) rfl) <|
  mj_c1 (k_gR (idx := 30) h_C (by decide) rfl w_130 (by decide +kernel)) <|
  mj_c1 (k_iconst (by decide +kernel)) <|
  mj_c1 (k_callS (idx := 49) (by decide +kernel) (fit_m_C_settle_m_A_fill) rfl w_160 w_43 (by decide) (by decide +kernel)) <|
  mj_c1 (k_aloadn (k := 0) (by decide +kernel) rfl) <|
  mj_c1 (k_iconst (by decide +kernel)) <|
  mj_c1 (k_callV (idx := 55) (by decide +kernel) (fit_m_C_settle_m_C_enter) rfl rfl w_161 w_163 v_0 (by decide) (by decide +kernel)) <|
  mj_c1 (k_iconst (by decide +kernel)) <|
  mj_c1 (k_istoren (k := 2) (by decide +kernel) rfl (by decide)) <|
  mj_c1 (k_iloadn (k := 2) (by decide +kernel) rfl) <|
  mj_c1 (k_aloadn (k := 0) (by decide +kernel) rfl) <|
  mj_c1 (k_gR (idx := 14) h_C (by decide) rfl w_120 (by decide +kernel)) <|
  mj_c1 (k_gI (idx := 33) h_N (by decide) rfl w_77 (by decide +kernel)) <|
  mj_c1 (k_icge (off := 21) (by decide +kernel) (by decide)) <|
  mj_c1 (k_aloadn (k := 0) (by decide +kernel) rfl) <|
  mj_c1 (k_iloadn (k := 2) (by decide +kernel) rfl) <|
  mj_c1 (k_callV (idx := 59) (by decide +kernel) (fit_m_C_settle_m_C_fillInput) rfl rfl w_182 w_184 v_4 (by decide) (by decide +kernel)) <|
  mj_c1 (k_aloadn (k := 0) (by decide +kernel) rfl) <|
  mj_c1 (k_iconst (by decide +kernel)) <|
  mj_c1 (k_iloadn (k := 2) (by decide +kernel) rfl) <|
  mj_c1 (k_iadd (by decide +kernel)) <|
  mj_c1 (k_callV (idx := 55) (by decide +kernel) (fit_m_C_settle_m_C_enter) rfl rfl w_161 w_163 v_0 (by decide) (by decide +kernel)) <|
  mj_c1 (k_iinc (by decide +kernel) (by decide)) <|
  mj_c1 (k_goto (off := -26) (by decide +kernel) (by decide)) <|
  mj_c1 (k_iconst (by decide +kernel)) <|
  mj_c1 (k_istoren (k := 2) (by decide +kernel) rfl (by decide)) <|
  mj_c1 (k_iloadn (k := 2) (by decide +kernel) rfl) <|
  mj_c1 (k_aloadn (k := 0) (by decide +kernel) rfl) <|
  mj_c1 (k_gR (idx := 14) h_C (by decide) rfl w_120 (by decide +kernel)) <|
  mj_c1 (k_gI (idx := 62) h_N (by decide) rfl w_83 (by decide +kernel)) <|
  mj_c1 (k_icge (off := 35) (by decide +kernel) (by decide)) <|
  mj_c1 (k_aloadn (k := 0) (by decide +kernel) rfl) <|
  mj_c1 (k_aloadn (k := 0) (by decide +kernel) rfl) <|
  mj_c1 (k_gR (idx := 14) h_C (by decide) rfl w_120 (by decide +kernel)) <|
  mj_c1 (k_gR (idx := 65) h_N (by decide) rfl w_68 (by decide +kernel)) <|
  mj_c1 (k_iloadn (k := 2) (by decide +kernel) rfl) <|
  mj_c1 (k_ial (by decide +kernel)) <|
  mj_c1 (k_callV (idx := 68) (by decide +kernel) (fit_m_C_settle_m_C_fillGate) rfl rfl w_188 w_190 v_5 (by decide) (by decide +kernel)) <|
  mj_c1 (k_aloadn (k := 0) (by decide +kernel) rfl) <|
  mj_c1 (k_aloadn (k := 0) (by decide +kernel) rfl) <|
  mj_c1 (k_gR (idx := 14) h_C (by decide) rfl w_120 (by decide +kernel)) <|
  mj_c1 (k_gR (idx := 65) h_N (by decide) rfl w_68 (by decide +kernel)) <|
  mj_c1 (k_iloadn (k := 2) (by decide +kernel) rfl) <|
  mj_c1 (k_ial (by decide +kernel)) <|
  mj_c1 (k_callV (idx := 55) (by decide +kernel) (fit_m_C_settle_m_C_enter) rfl rfl w_161 w_163 v_0 (by decide) (by decide +kernel)) <|
  mj_c1 (k_iinc (by decide +kernel) (by decide)) <|
  mj_c1 (k_goto (off := -40) (by decide +kernel) (by decide)) <|
  mj_c1 (k_retv (by decide +kernel) rfl) mj_c0
def q_C_enter : List (Nat × mj_Sem) := [(0, o_al 0 1), (1, o_gR 1 5 4), (4, o_il 1 5), (5, o_al 0 6), (6, o_il 1 7), (7, o_call m_C_hashOf 2 0 0 10 (mj_rv 1)), (10, o_las 11), (11, o_al 0 12), (12, o_al 0 13), (13, o_il 1 14), (14, o_call m_C_bucketFor 3 0 0 17 (mj_rv 1)), (17, o_is 2 18), (18, o_al 0 19), (19, o_gR 1 7 22), (22, o_il 2 23), (23, o_ial 24), (24, o_is 3 25), (25, o_il 3 26), (26, o_ic (-1) 27), (27, o_icne 65 30), (30, o_al 0 31), (31, o_gR 1 7 34), (34, o_il 2 35), (35, o_il 1 36), (36, o_ias 37), (37, o_al 0 38), (38, o_gR 1 6 41), (41, o_il 1 42), (42, o_al 0 43), (43, o_gR 1 0 46), (46, o_gR 3 1 49), (49, o_il 1 50), (50, o_ial 51), (51, o_ias 52), (52, o_al 0 53), (53, o_dup 54), (54, o_gI 1 3 57), (57, o_ic 1 58), (58, o_iadd 59), (59, o_pI 1 3 62), (62, o_goto 89), (65, o_al 0 66), (66, o_gR 1 6 69), (69, o_il 1 70), (70, o_al 0 71), (71, o_gR 1 6 74), (74, o_il 3 75), (75, o_ial 76), (76, o_al 0 77), (77, o_il 3 78), (78, o_call m_C_startBit 2 0 0 81 (mj_rv 1)), (81, o_ixor 82), (82, o_al 0 83), (83, o_il 1 84), (84, o_call m_C_startBit 2 0 0 87 (mj_rv 1)), (87, o_ixor 88), (88, o_ias 89), (89, o_retv 0 0)]
set_option maxRecDepth 100000 in
theorem z_C_enter : mj_Code (m_C_enter) (q_C_enter) :=
  mj_c1 (k_aloadn (k := 0) (by decide +kernel) rfl) <|
  mj_c1 (k_gR (idx := 23) h_C (by decide) rfl w_128 (by decide +kernel)) <|
  mj_c1 (k_iloadn (k := 1) (by decide +kernel) rfl) <|
  mj_c1 (k_aloadn (k := 0) (by decide +kernel) rfl) <|
  mj_c1 (k_iloadn (k := 1) (by decide +kernel) rfl) <|
  mj_c1 (k_callV (idx := 88) (by decide +kernel) (fit_m_C_enter_m_C_hashOf) rfl rfl w_165 w_167 v_1 (by decide) (by decide +kernel)) <|
  mj_c1 (k_las (by decide +kernel)) <|
  mj_c1 (k_aloadn (k := 0) (by decide +kernel) rfl) <|
  mj_c1 (k_aloadn (k := 0) (by decide +kernel) rfl) <|
  mj_c1 (k_iloadn (k := 1) (by decide +kernel) rfl) <|
  mj_c1 (k_callV (idx := 91) (by decide +kernel) (fit_m_C_enter_m_C_bucketFor) rfl rfl w_174 w_176 v_3 (by decide) (by decide +kernel)) <|
  mj_c1 (k_istoren (k := 2) (by decide +kernel) rfl (by decide)) <|
  mj_c1 (k_aloadn (k := 0) (by decide +kernel) rfl) <|
  mj_c1 (k_gR (idx := 30) h_C (by decide) rfl w_130 (by decide +kernel)) <|
  mj_c1 (k_iloadn (k := 2) (by decide +kernel) rfl) <|
  mj_c1 (k_ial (by decide +kernel)) <|
  mj_c1 (k_istoren (k := 3) (by decide +kernel) rfl (by decide)) <|
  mj_c1 (k_iloadn (k := 3) (by decide +kernel) rfl) <|
  mj_c1 (k_iconst (by decide +kernel)) <|
  mj_c1 (k_icne (off := 38) (by decide +kernel) (by decide)) <|
  mj_c1 (k_aloadn (k := 0) (by decide +kernel) rfl) <|
  mj_c1 (k_gR (idx := 30) h_C (by decide) rfl w_130 (by decide +kernel)) <|
  mj_c1 (k_iloadn (k := 2) (by decide +kernel) rfl) <|
  mj_c1 (k_iloadn (k := 1) (by decide +kernel) rfl) <|
  mj_c1 (k_ias (by decide +kernel)) <|
  mj_c1 (k_aloadn (k := 0) (by decide +kernel) rfl) <|
  mj_c1 (k_gR (idx := 26) h_C (by decide) rfl w_129 (by decide +kernel)) <|
  mj_c1 (k_iloadn (k := 1) (by decide +kernel) rfl) <|
  mj_c1 (k_aloadn (k := 0) (by decide +kernel) rfl) <|
  mj_c1 (k_gR (idx := 14) h_C (by decide) rfl w_120 (by decide +kernel)) <|
  mj_c1 (k_gR (idx := 95) h_N (by decide) rfl w_50 (by decide +kernel)) <|
  mj_c1 (k_iloadn (k := 1) (by decide +kernel) rfl) <|
  mj_c1 (k_ial (by decide +kernel)) <|
  mj_c1 (k_ias (by decide +kernel)) <|
  mj_c1 (k_aloadn (k := 0) (by decide +kernel) rfl) <|
  mj_c1 (k_dup (by decide +kernel)) <|
  mj_c1 (k_gI (idx := 46) h_C (by decide) rfl w_125 (by decide +kernel)) <|
  mj_c1 (k_iconst (by decide +kernel)) <|
  mj_c1 (k_iadd (by decide +kernel)) <|
  mj_c1 (k_pI (idx := 46) h_C (by decide) rfl rfl w_125 rfl (by decide +kernel)) <|
  mj_c1 (k_goto (off := 27) (by decide +kernel) (by decide)) <|
  mj_c1 (k_aloadn (k := 0) (by decide +kernel) rfl) <|
  mj_c1 (k_gR (idx := 26) h_C (by decide) rfl w_129 (by decide +kernel)) <|
  mj_c1 (k_iloadn (k := 1) (by decide +kernel) rfl) <|
  mj_c1 (k_aloadn (k := 0) (by decide +kernel) rfl) <|
  mj_c1 (k_gR (idx := 26) h_C (by decide) rfl w_129 (by decide +kernel)) <|
  mj_c1 (k_iloadn (k := 3) (by decide +kernel) rfl) <|
  mj_c1 (k_ial (by decide +kernel)) <|
  mj_c1 (k_aloadn (k := 0) (by decide +kernel) rfl) <|
  mj_c1 (k_iloadn (k := 3) (by decide +kernel) rfl) <|
  mj_c1 (k_callV (idx := 98) (by decide +kernel) (fit_m_C_enter_m_C_startBit) rfl rfl w_169 w_171 v_2 (by decide) (by decide +kernel)) <|
  mj_c1 (k_ixor (by decide +kernel)) <|
  mj_c1 (k_aloadn (k := 0) (by decide +kernel) rfl) <|
  mj_c1 (k_iloadn (k := 1) (by decide +kernel) rfl) <|
  mj_c1 (k_callV (idx := 98) (by decide +kernel) (fit_m_C_enter_m_C_startBit) rfl rfl w_169 w_171 v_2 (by decide) (by decide +kernel)) <|
  mj_c1 (k_ixor (by decide +kernel)) <|
  mj_c1 (k_ias (by decide +kernel)) <|
  mj_c1 (k_retv (by decide +kernel) rfl) mj_c0
def q_C_hashOf : List (Nat × mj_Sem) := [(0, o_il 1 1), (1, o_ic 256 4), (4, o_imul 5), (5, o_is 2 6), (6, o_al 0 7), (7, o_il 1 8), (8, o_call m_C_startBit 2 0 0 11 (mj_rv 1)), (11, o_ifne 18 14), (14, o_lc 0#64 15), (15, o_goto 22), (18, o_al 0 19), (19, o_gL 1 9 22), (22, o_ls 3 23), (23, o_lc 0#64 24), (24, o_ls 5 26), (26, o_ic 0 27), (27, o_is 7 29), (29, o_il 7 31), (31, o_al 0 32), (32, o_gI 1 8 35), (35, o_icge 74 38), (38, o_ll 5 40), (40, o_al 0 41), (41, o_gR 1 4 44), (44, o_il 2 45), (45, o_il 7 47), (47, o_iadd 48), (48, o_lal 49), (49, o_lxor 50), (50, o_ll 3 51), (51, o_lxor 52), (52, o_lc 0x9E3779B97F4A7C15#64 55), (55, o_lmul 56), (56, o_ls 5 58), (58, o_ll 5 60), (60, o_ll 5 62), (62, o_ic 29 64), (64, o_lushr 65), (65, o_lxor 66), (66, o_ls 5 68), (68, o_inc 7 1 71), (71, o_goto 29), (74, o_ll 5 76), (76, o_lret 0 0)]
set_option maxRecDepth 100000 in
theorem z_C_hashOf : mj_Code (m_C_hashOf) (q_C_hashOf) :=
  mj_c1 (k_iloadn (k := 1) (by decide +kernel) rfl) <|
  mj_c1 (k_sipush (by decide +kernel) (by decide)) <|
  mj_c1 (k_imul (by decide +kernel)) <|
  mj_c1 (k_istoren (k := 2) (by decide +kernel) rfl (by decide)) <|
  mj_c1 (k_aloadn (k := 0) (by decide +kernel) rfl) <|
  mj_c1 (k_iloadn (k := 1) (by decide +kernel) rfl) <|
  mj_c1 (k_callV (idx := 98) (by decide +kernel) (fit_m_C_hashOf_m_C_startBit) rfl rfl w_169 w_171 v_2 (by decide) (by decide +kernel)) <|
  mj_c1 (k_ifne (off := 7) (by decide +kernel) (by decide)) <|
  mj_c1 (k_lconst (k := 0) (by decide +kernel) (by decide)) <|
  mj_c1 (k_goto (off := 7) (by decide +kernel) (by decide)) <|
  mj_c1 (k_aloadn (k := 0) (by decide +kernel) rfl) <|
  mj_c1 (k_gL (idx := 42) h_C (by decide) rfl w_132 (by decide +kernel)) <|
  mj_c1 (k_lstoren (k := 3) (by decide +kernel) rfl (by decide)) <|
  mj_c1 (k_lconst (k := 0) (by decide +kernel) (by decide)) <|
  mj_c1 (k_lstore (by decide +kernel) (by decide)) <|
  mj_c1 (k_iconst (by decide +kernel)) <|
  mj_c1 (k_istore (by decide +kernel) (by decide)) <|
  mj_c1 (k_iload (by decide +kernel)) <|
  mj_c1 (k_aloadn (k := 0) (by decide +kernel) rfl) <|
  mj_c1 (k_gI (idx := 37) h_C (by decide) rfl w_131 (by decide +kernel)) <|
  mj_c1 (k_icge (off := 39) (by decide +kernel) (by decide)) <|
  mj_c1 (k_lload (by decide +kernel)) <|
  mj_c1 (k_aloadn (k := 0) (by decide +kernel) rfl) <|
  mj_c1 (k_gR (idx := 19) h_C (by decide) rfl w_127 (by decide +kernel)) <|
  mj_c1 (k_iloadn (k := 2) (by decide +kernel) rfl) <|
  mj_c1 (k_iload (by decide +kernel)) <|
  mj_c1 (k_iadd (by decide +kernel)) <|
  mj_c1 (k_lal (by decide +kernel)) <|
  mj_c1 (k_lxor (by decide +kernel)) <|
  mj_c1 (k_lloadn (k := 3) (by decide +kernel) rfl) <|
  mj_c1 (k_lxor (by decide +kernel)) <|
  mj_c1 (k_ldc2 (idx := 101) (by decide +kernel) w_173) <|
  mj_c1 (k_lmul (by decide +kernel)) <|
  mj_c1 (k_lstore (by decide +kernel) (by decide)) <|
  mj_c1 (k_lload (by decide +kernel)) <|
  mj_c1 (k_lload (by decide +kernel)) <|
  mj_c1 (k_bipush (by decide +kernel) (by decide)) <|
  mj_c1 (k_lushr (by decide +kernel)) <|
  mj_c1 (k_lxor (by decide +kernel)) <|
  mj_c1 (k_lstore (by decide +kernel) (by decide)) <|
  mj_c1 (k_iinc (by decide +kernel) (by decide)) <|
  mj_c1 (k_goto (off := -42) (by decide +kernel) (by decide)) <|
  mj_c1 (k_lload (by decide +kernel)) <|
  mj_c1 (k_lret (by decide +kernel) rfl) mj_c0
def q_C_startBit : List (Nat × mj_Sem) := [(0, o_al 0 1), (1, o_gR 1 4 4), (4, o_il 1 5), (5, o_ic 256 8), (8, o_imul 9), (9, o_lal 10), (10, o_lc 1#64 11), (11, o_land 12), (12, o_l2i 13), (13, o_iret 0 0)]
set_option maxRecDepth 100000 in
theorem z_C_startBit : mj_Code (m_C_startBit) (q_C_startBit) :=
  mj_c1 (k_aloadn (k := 0) (by decide +kernel) rfl) <|
  mj_c1 (k_gR (idx := 19) h_C (by decide) rfl w_127 (by decide +kernel)) <|
  mj_c1 (k_iloadn (k := 1) (by decide +kernel) rfl) <|
  mj_c1 (k_sipush (by decide +kernel) (by decide)) <|
  mj_c1 (k_imul (by decide +kernel)) <|
  mj_c1 (k_lal (by decide +kernel)) <|
  mj_c1 (k_lconst (k := 1) (by decide +kernel) (by decide)) <|
  mj_c1 (k_land (by decide +kernel)) <|
  mj_c1 (k_l2i (by decide +kernel)) <|
  mj_c1 (k_iret (by decide +kernel) rfl) mj_c0
def q_C_bucketFor : List (Nat × mj_Sem) := [(0, o_al 1 1), (1, o_gR 1 5 4), (4, o_il 2 5), (5, o_lal 6), (6, o_ic 55 8), (8, o_lushr 9), (9, o_l2i 10), (10, o_is 3 11), (11, o_ic 0 12), (12, o_is 4 14), (14, o_il 4 16), (16, o_ic 512 19), (19, o_icge 63 22), (22, o_al 0 23), (23, o_gR 1 7 26), (26, o_il 3 27), (27, o_ial 28), (28, o_is 5 30), (30, o_il 5 32), (32, o_ic (-1) 33), (33, o_iceq 47 36), (36, o_al 0 37), (37, o_il 5 39), (39, o_al 1 40), (40, o_il 2 41), (41, o_call m_C_isSameOrInverse 4 0 0 44 (mj_rv 1)), (44, o_ifeq 49 47), (47, o_il 3 48), (48, o_iret 0 0), (49, o_il 3 50), (50, o_ic 1 51), (51, o_iadd 52), (52, o_ic 512 55), (55, o_irem 56), (56, o_is 3 57), (57, o_inc 4 1 60), (60, o_goto 14), (63, o_il 3 64), (64, o_iret 0 0)]
set_option maxRecDepth 100000 in
theorem z_C_bucketFor : mj_Code (m_C_bucketFor) (q_C_bucketFor) :=
  mj_c1 (k_aloadn (k := 1) (by decide +kernel) rfl) <|
  mj_c1 (k_gR (idx := 23) h_C (by decide) rfl w_128 (by decide +kernel)) <|
  mj_c1 (k_iloadn (k := 2) (by decide +kernel) rfl) <|
  mj_c1 (k_lal (by decide +kernel)) <|
  mj_c1 (k_bipush (by decide +kernel) (by decide)) <|
  mj_c1 (k_lushr (by decide +kernel)) <|
  mj_c1 (k_l2i (by decide +kernel)) <|
  mj_c1 (k_istoren (k := 3) (by decide +kernel) rfl (by decide)) <|
  mj_c1 (k_iconst (by decide +kernel)) <|
  mj_c1 (k_istore (by decide +kernel) (by decide)) <|
  mj_c1 (k_iload (by decide +kernel)) <|
  mj_c1 (k_sipush (by decide +kernel) (by decide)) <|
  mj_c1 (k_icge (off := 44) (by decide +kernel) (by decide)) <|
  mj_c1 (k_aloadn (k := 0) (by decide +kernel) rfl) <|
  mj_c1 (k_gR (idx := 30) h_C (by decide) rfl w_130 (by decide +kernel)) <|
  mj_c1 (k_iloadn (k := 3) (by decide +kernel) rfl) <|
  mj_c1 (k_ial (by decide +kernel)) <|
  mj_c1 (k_istore (by decide +kernel) (by decide)) <|
  mj_c1 (k_iload (by decide +kernel)) <|
  mj_c1 (k_iconst (by decide +kernel)) <|
  mj_c1 (k_iceq (off := 14) (by decide +kernel) (by decide)) <|
  mj_c1 (k_aloadn (k := 0) (by decide +kernel) rfl) <|
  mj_c1 (k_iload (by decide +kernel)) <|
  mj_c1 (k_aloadn (k := 1) (by decide +kernel) rfl) <|
  mj_c1 (k_iloadn (k := 2) (by decide +kernel) rfl) <|
  mj_c1 (k_callV (idx := 103) (by decide +kernel) (fit_m_C_bucketFor_m_C_isSameOrInverse) rfl rfl w_178 w_179 w_180 (by decide) (by decide +kernel)) <|
  mj_c1 (k_ifeq (off := 5) (by decide +kernel) (by decide)) <|
  mj_c1 (k_iloadn (k := 3) (by decide +kernel) rfl) <|
  mj_c1 (k_iret (by decide +kernel) rfl) <|
  mj_c1 (k_iloadn (k := 3) (by decide +kernel) rfl) <|
  mj_c1 (k_iconst (by decide +kernel)) <|
  mj_c1 (k_iadd (by decide +kernel)) <|
  mj_c1 (k_sipush (by decide +kernel) (by decide)) <|
  mj_c1 (k_irem (by decide +kernel)) <|
  mj_c1 (k_istoren (k := 3) (by decide +kernel) rfl (by decide)) <|
  mj_c1 (k_iinc (by decide +kernel) (by decide)) <|
  mj_c1 (k_goto (off := -46) (by decide +kernel) (by decide)) <|
  mj_c1 (k_iloadn (k := 3) (by decide +kernel) rfl) <|
  mj_c1 (k_iret (by decide +kernel) rfl) mj_c0
def q_C_isSameOrInverse : List (Nat × mj_Sem) := [(0, o_al 0 1), (1, o_gR 1 5 4), (4, o_il 1 5), (5, o_lal 6), (6, o_al 2 7), (7, o_gR 1 5 10), (10, o_il 3 11), (11, o_lal 12), (12, o_lcmp 13), (13, o_ifeq 18 16), (16, o_ic 0 17), (17, o_zret 0 0), (18, o_il 1 19), (19, o_ic 256 22), (22, o_imul 23), (23, o_is 4 25), (25, o_il 3 26), (26, o_ic 256 29), (29, o_imul 30), (30, o_is 5 32), (32, o_al 0 33), (33, o_il 1 34), (34, o_call m_C_startBit 2 0 0 37 (mj_rv 1)), (37, o_al 2 38), (38, o_il 3 39), (39, o_call m_C_startBit 2 0 0 42 (mj_rv 1)), (42, o_icne 49 45), (45, o_lc 0#64 46), (46, o_goto 53), (49, o_al 0 50), (50, o_gL 1 9 53), (53, o_ls 6 55), (55, o_ic 0 56), (56, o_is 8 58), (58, o_il 8 60), (60, o_al 0 61), (61, o_gI 1 8 64), (64, o_icge 102 67), (67, o_al 0 68), (68, o_gR 1 4 71), (71, o_il 4 73), (73, o_il 8 75), (75, o_iadd 76), (76, o_lal 77), (77, o_al 2 78), (78, o_gR 1 4 81), (81, o_il 5 83), (83, o_il 8 85), (85, o_iadd 86), (86, o_lal 87), (87, o_lxor 88), (88, o_ll 6 90), (90, o_lcmp 91), (91, o_ifeq 96 94), (94, o_ic 0 95), (95, o_zret 0 0), (96, o_inc 8 1 99), (99, o_goto 58), (102, o_ic 1 103), (103, o_zret 0 0)]
set_option maxRecDepth 100000 in
theorem z_C_isSameOrInverse : mj_Code (m_C_isSameOrInverse) (q_C_isSameOrInverse) :=
  mj_c1 (k_aloadn (k := 0) (by decide +kernel) rfl) <|
  mj_c1 (k_gR (idx := 23) h_C (by decide) rfl w_128 (by decide +kernel)) <|
  mj_c1 (k_iloadn (k := 1) (by decide +kernel) rfl) <|
  mj_c1 (k_lal (by decide +kernel)) <|
  mj_c1 (k_aloadn (k := 2) (by decide +kernel) rfl) <|
  mj_c1 (k_gR (idx := 23) h_C (by decide) rfl w_128 (by decide +kernel)) <|
  mj_c1 (k_iloadn (k := 3) (by decide +kernel) rfl) <|
  mj_c1 (k_lal (by decide +kernel)) <|
  mj_c1 (k_lcmp (by decide +kernel)) <|
  mj_c1 (k_ifeq (off := 5) (by decide +kernel) (by decide)) <|
  mj_c1 (k_iconst (by decide +kernel)) <|
  mj_c1 (k_zret (by decide +kernel) rfl) <|
  mj_c1 (k_iloadn (k := 1) (by decide +kernel) rfl) <|
  mj_c1 (k_sipush (by decide +kernel) (by decide)) <|
  mj_c1 (k_imul (by decide +kernel)) <|
  mj_c1 (k_istore (by decide +kernel) (by decide)) <|
  mj_c1 (k_iloadn (k := 3) (by decide +kernel) rfl) <|
  mj_c1 (k_sipush (by decide +kernel) (by decide)) <|
  mj_c1 (k_imul (by decide +kernel)) <|
  mj_c1 (k_istore (by decide +kernel) (by decide)) <|
  mj_c1 (k_aloadn (k := 0) (by decide +kernel) rfl) <|
  mj_c1 (k_iloadn (k := 1) (by decide +kernel) rfl) <|
  mj_c1 (k_callV (idx := 98) (by decide +kernel) (fit_m_C_isSameOrInverse_m_C_startBit) rfl rfl w_169 w_171 v_2 (by decide) (by decide +kernel)) <|
  mj_c1 (k_aloadn (k := 2) (by decide +kernel) rfl) <|
  mj_c1 (k_iloadn (k := 3) (by decide +kernel) rfl) <|
  mj_c1 (k_callV (idx := 98) (by decide +kernel) (fit_m_C_isSameOrInverse_m_C_startBit) rfl rfl w_169 w_171 v_2 (by decide) (by decide +kernel)) <|
  mj_c1 (k_icne (off := 7) (by decide +kernel) (by decide)) <|
  mj_c1 (k_lconst (k := 0) (by decide +kernel) (by decide)) <|
  mj_c1 (k_goto (off := 7) (by decide +kernel) (by decide)) <|
  mj_c1 (k_aloadn (k := 0) (by decide +kernel) rfl) <|
  mj_c1 (k_gL (idx := 42) h_C (by decide) rfl w_132 (by decide +kernel)) <|
  mj_c1 (k_lstore (by decide +kernel) (by decide)) <|
  mj_c1 (k_iconst (by decide +kernel)) <|
  mj_c1 (k_istore (by decide +kernel) (by decide)) <|
  mj_c1 (k_iload (by decide +kernel)) <|
  mj_c1 (k_aloadn (k := 0) (by decide +kernel) rfl) <|
  mj_c1 (k_gI (idx := 37) h_C (by decide) rfl w_131 (by decide +kernel)) <|
  mj_c1 (k_icge (off := 38) (by decide +kernel) (by decide)) <|
  mj_c1 (k_aloadn (k := 0) (by decide +kernel) rfl) <|
  mj_c1 (k_gR (idx := 19) h_C (by decide) rfl w_127 (by decide +kernel)) <|
  mj_c1 (k_iload (by decide +kernel)) <|
  mj_c1 (k_iload (by decide +kernel)) <|
  mj_c1 (k_iadd (by decide +kernel)) <|
  mj_c1 (k_lal (by decide +kernel)) <|
  mj_c1 (k_aloadn (k := 2) (by decide +kernel) rfl) <|
  mj_c1 (k_gR (idx := 19) h_C (by decide) rfl w_127 (by decide +kernel)) <|
  mj_c1 (k_iload (by decide +kernel)) <|
  mj_c1 (k_iload (by decide +kernel)) <|
  mj_c1 (k_iadd (by decide +kernel)) <|
  mj_c1 (k_lal (by decide +kernel)) <|
  mj_c1 (k_lxor (by decide +kernel)) <|
  mj_c1 (k_lload (by decide +kernel)) <|
  mj_c1 (k_lcmp (by decide +kernel)) <|
  mj_c1 (k_ifeq (off := 5) (by decide +kernel) (by decide)) <|
  mj_c1 (k_iconst (by decide +kernel)) <|
  mj_c1 (k_zret (by decide +kernel) rfl) <|
  mj_c1 (k_iinc (by decide +kernel) (by decide)) <|
  mj_c1 (k_goto (off := -41) (by decide +kernel) (by decide)) <|
  mj_c1 (k_iconst (by decide +kernel)) <|
  mj_c1 (k_zret (by decide +kernel) rfl) mj_c0
def q_C_fillInput : List (Nat × mj_Sem) := [(0, o_ic 1 1), (1, o_il 1 2), (2, o_iadd 3), (3, o_ic 256 6), (6, o_imul 7), (7, o_is 2 8), (8, o_ic 0 9), (9, o_is 3 10), (10, o_il 3 11), (11, o_al 0 12), (12, o_gI 1 8 15), (15, o_icge 77 18), (18, o_il 1 19), (19, o_ic 6 21), (21, o_icge 45 24), (24, o_al 0 25), (25, o_gR 1 4 28), (28, o_il 2 29), (29, o_il 3 30), (30, o_iadd 31), (31, o_gst 34), (34, o_il 1 35), (35, o_tal 36), (36, o_al 0 37), (37, o_gL 1 9 40), (40, o_land 41), (41, o_las 42), (42, o_goto 71), (45, o_al 0 46), (46, o_gR 1 4 49), (49, o_il 2 50), (50, o_il 3 51), (51, o_iadd 52), (52, o_il 3 53), (53, o_il 1 54), (54, o_ic 6 56), (56, o_isub 57), (57, o_ishr 58), (58, o_ic 2 59), (59, o_irem 60), (60, o_ifne 67 63), (63, o_lc 0#64 64), (64, o_goto 70), (67, o_lc 0xFFFFFFFFFFFFFFFF#64 70), (70, o_las 71), (71, o_inc 3 1 74), (74, o_goto 10), (77, o_retv 0 0)]
set_option maxRecDepth 100000 in
theorem z_C_fillInput : mj_Code (m_C_fillInput) (q_C_fillInput) :=
  mj_c1 (k_iconst (by decide +kernel)) <|
  mj_c1 (k_iloadn (k := 1) (by decide +kernel) rfl) <|
  mj_c1 (k_iadd (by decide +kernel)) <|
  mj_c1 (k_sipush (by decide +kernel) (by decide)) <|
  mj_c1 (k_imul (by decide +kernel)) <|
  mj_c1 (k_istoren (k := 2) (by decide +kernel) rfl (by decide)) <|
  mj_c1 (k_iconst (by decide +kernel)) <|
  mj_c1 (k_istoren (k := 3) (by decide +kernel) rfl (by decide)) <|
  mj_c1 (k_iloadn (k := 3) (by decide +kernel) rfl) <|
  mj_c1 (k_aloadn (k := 0) (by decide +kernel) rfl) <|
  mj_c1 (k_gI (idx := 37) h_C (by decide) rfl w_131 (by decide +kernel)) <|
  mj_c1 (k_icge (off := 62) (by decide +kernel) (by decide)) <|
  mj_c1 (k_iloadn (k := 1) (by decide +kernel) rfl) <|
  mj_c1 (k_bipush (by decide +kernel) (by decide)) <|
  mj_c1 (k_icge (off := 24) (by decide +kernel) (by decide)) <|
  mj_c1 (k_aloadn (k := 0) (by decide +kernel) rfl) <|
  mj_c1 (k_gR (idx := 19) h_C (by decide) rfl w_127 (by decide +kernel)) <|
  mj_c1 (k_iloadn (k := 2) (by decide +kernel) rfl) <|
  mj_c1 (k_iloadn (k := 3) (by decide +kernel) rfl) <|
  mj_c1 (k_iadd (by decide +kernel)) <|
  mj_c1 (k_gst (idx := 71) (by decide +kernel) w_186) <|
  mj_c1 (k_iloadn (k := 1) (by decide +kernel) rfl) <|
  mj_c1 (k_tal (by decide +kernel)) <|
  mj_c1 (k_aloadn (k := 0) (by decide +kernel) rfl) <|
  mj_c1 (k_gL (idx := 42) h_C (by decide) rfl w_132 (by decide +kernel)) <|
  mj_c1 (k_land (by decide +kernel)) <|
  mj_c1 (k_las (by decide +kernel)) <|
  mj_c1 (k_goto (off := 29) (by decide +kernel) (by decide)) <|
  mj_c1 (k_aloadn (k := 0) (by decide +kernel) rfl) <|
  mj_c1 (k_gR (idx := 19) h_C (by decide) rfl w_127 (by decide +kernel)) <|
  mj_c1 (k_iloadn (k := 2) (by decide +kernel) rfl) <|
  mj_c1 (k_iloadn (k := 3) (by decide +kernel) rfl) <|
  mj_c1 (k_iadd (by decide +kernel)) <|
  mj_c1 (k_iloadn (k := 3) (by decide +kernel) rfl) <|
  mj_c1 (k_iloadn (k := 1) (by decide +kernel) rfl) <|
  mj_c1 (k_bipush (by decide +kernel) (by decide)) <|
  mj_c1 (k_isub (by decide +kernel)) <|
  mj_c1 (k_ishr (by decide +kernel)) <|
  mj_c1 (k_iconst (by decide +kernel)) <|
  mj_c1 (k_irem (by decide +kernel)) <|
  mj_c1 (k_ifne (off := 7) (by decide +kernel) (by decide)) <|
  mj_c1 (k_lconst (k := 0) (by decide +kernel) (by decide)) <|
  mj_c1 (k_goto (off := 6) (by decide +kernel) (by decide)) <|
  mj_c1 (k_ldc2 (idx := 40) (by decide +kernel) w_159) <|
  mj_c1 (k_las (by decide +kernel)) <|
  mj_c1 (k_iinc (by decide +kernel) (by decide)) <|
  mj_c1 (k_goto (off := -64) (by decide +kernel) (by decide)) <|
  mj_c1 (k_retv (by decide +kernel) rfl) mj_c0
def q_C_fillGate : List (Nat × mj_Sem) := [(0, o_il 1 1), (1, o_ic 256 4), (4, o_imul 5), (5, o_is 2 6), (6, o_al 0 7), (7, o_al 0 8), (8, o_gR 1 0 11), (11, o_gR 3 2 14), (14, o_il 1 15), (15, o_ial 16), (16, o_call m_C_rowOf 2 0 0 19 (mj_rv 1)), (19, o_is 3 20), (20, o_al 0 21), (21, o_al 0 22), (22, o_gR 1 0 25), (25, o_gR 3 3 28), (28, o_il 1 29), (29, o_ial 30), (30, o_call m_C_rowOf 2 0 0 33 (mj_rv 1)), (33, o_is 4 35), (35, o_al 0 36), (36, o_al 0 37), (37, o_gR 1 0 40), (40, o_gR 3 2 43), (43, o_il 1 44), (44, o_ial 45), (45, o_call m_C_flipOf 2 0 0 48 (mj_rv 1)), (48, o_ls 5 50), (50, o_al 0 51), (51, o_al 0 52), (52, o_gR 1 0 55), (55, o_gR 3 3 58), (58, o_il 1 59), (59, o_ial 60), (60, o_call m_C_flipOf 2 0 0 63 (mj_rv 1)), (63, o_ls 7 65), (65, o_ic 0 66), (66, o_is 9 68), (68, o_il 9 70), (70, o_al 0 71), (71, o_gI 1 8 74), (74, o_icge 118 77), (77, o_al 0 78), (78, o_gR 1 4 81), (81, o_il 2 82), (82, o_il 9 84), (84, o_iadd 85), (85, o_al 0 86), (86, o_gR 1 4 89), (89, o_il 3 90), (90, o_il 9 92), (92, o_iadd 93), (93, o_lal 94), (94, o_ll 5 96), (96, o_lxor 97), (97, o_al 0 98), (98, o_gR 1 4 101), (101, o_il 4 103), (103, o_il 9 105), (105, o_iadd 106), (106, o_lal 107), (107, o_ll 7 109), (109, o_lxor 110), (110, o_land 111), (111, o_las 112), (112, o_inc 9 1 115), (115, o_goto 68), (118, o_retv 0 0)]
set_option maxRecDepth 100000 in
theorem z_C_fillGate : mj_Code (m_C_fillGate) (q_C_fillGate) :=
  mj_c1 (k_iloadn (k := 1) (by decide +kernel) rfl) <|
  mj_c1 (k_sipush (by decide +kernel) (by decide)) <|
  mj_c1 (k_imul (by decide +kernel)) <|
  mj_c1 (k_istoren (k := 2) (by decide +kernel) rfl (by decide)) <|
  mj_c1 (k_aloadn (k := 0) (by decide +kernel) rfl) <|
  mj_c1 (k_aloadn (k := 0) (by decide +kernel) rfl) <|
  mj_c1 (k_gR (idx := 14) h_C (by decide) rfl w_120 (by decide +kernel)) <|
  mj_c1 (k_gR (idx := 74) h_N (by decide) rfl w_53 (by decide +kernel)) <|
  mj_c1 (k_iloadn (k := 1) (by decide +kernel) rfl) <|
  mj_c1 (k_ial (by decide +kernel)) <|
  mj_c1 (k_callV (idx := 77) (by decide +kernel) (fit_m_C_fillGate_m_C_rowOf) rfl rfl w_192 w_194 v_6 (by decide) (by decide +kernel)) <|
  mj_c1 (k_istoren (k := 3) (by decide +kernel) rfl (by decide)) <|
  mj_c1 (k_aloadn (k := 0) (by decide +kernel) rfl) <|
  mj_c1 (k_aloadn (k := 0) (by decide +kernel) rfl) <|
  mj_c1 (k_gR (idx := 14) h_C (by decide) rfl w_120 (by decide +kernel)) <|
  mj_c1 (k_gR (idx := 81) h_N (by decide) rfl w_58 (by decide +kernel)) <|
  mj_c1 (k_iloadn (k := 1) (by decide +kernel) rfl) <|
  mj_c1 (k_ial (by decide +kernel)) <|
  mj_c1 (k_callV (idx := 77) (by decide +kernel) (fit_m_C_fillGate_m_C_rowOf) rfl rfl w_192 w_194 v_6 (by decide) (by decide +kernel)) <|
  mj_c1 (k_istore (by decide +kernel) (by decide)) <|
  mj_c1 (k_aloadn (k := 0) (by decide +kernel) rfl) <|
  mj_c1 (k_aloadn (k := 0) (by decide +kernel) rfl) <|
  mj_c1 (k_gR (idx := 14) h_C (by decide) rfl w_120 (by decide +kernel)) <|
  mj_c1 (k_gR (idx := 74) h_N (by decide) rfl w_53 (by decide +kernel)) <|
  mj_c1 (k_iloadn (k := 1) (by decide +kernel) rfl) <|
  mj_c1 (k_ial (by decide +kernel)) <|
  mj_c1 (k_callV (idx := 84) (by decide +kernel) (fit_m_C_fillGate_m_C_flipOf) rfl rfl w_200 w_202 v_7 (by decide) (by decide +kernel)) <|
  mj_c1 (k_lstore (by decide +kernel) (by decide)) <|
  mj_c1 (k_aloadn (k := 0) (by decide +kernel) rfl) <|
  mj_c1 (k_aloadn (k := 0) (by decide +kernel) rfl) <|
  mj_c1 (k_gR (idx := 14) h_C (by decide) rfl w_120 (by decide +kernel)) <|
  mj_c1 (k_gR (idx := 81) h_N (by decide) rfl w_58 (by decide +kernel)) <|
  mj_c1 (k_iloadn (k := 1) (by decide +kernel) rfl) <|
  mj_c1 (k_ial (by decide +kernel)) <|
  mj_c1 (k_callV (idx := 84) (by decide +kernel) (fit_m_C_fillGate_m_C_flipOf) rfl rfl w_200 w_202 v_7 (by decide) (by decide +kernel)) <|
  mj_c1 (k_lstore (by decide +kernel) (by decide)) <|
  mj_c1 (k_iconst (by decide +kernel)) <|
  mj_c1 (k_istore (by decide +kernel) (by decide)) <|
  mj_c1 (k_iload (by decide +kernel)) <|
  mj_c1 (k_aloadn (k := 0) (by decide +kernel) rfl) <|
  mj_c1 (k_gI (idx := 37) h_C (by decide) rfl w_131 (by decide +kernel)) <|
  mj_c1 (k_icge (off := 44) (by decide +kernel) (by decide)) <|
  mj_c1 (k_aloadn (k := 0) (by decide +kernel) rfl) <|
  mj_c1 (k_gR (idx := 19) h_C (by decide) rfl w_127 (by decide +kernel)) <|
  mj_c1 (k_iloadn (k := 2) (by decide +kernel) rfl) <|
  mj_c1 (k_iload (by decide +kernel)) <|
  mj_c1 (k_iadd (by decide +kernel)) <|
  mj_c1 (k_aloadn (k := 0) (by decide +kernel) rfl) <|
  mj_c1 (k_gR (idx := 19) h_C (by decide) rfl w_127 (by decide +kernel)) <|
  mj_c1 (k_iloadn (k := 3) (by decide +kernel) rfl) <|
  mj_c1 (k_iload (by decide +kernel)) <|
  mj_c1 (k_iadd (by decide +kernel)) <|
  mj_c1 (k_lal (by decide +kernel)) <|
  mj_c1 (k_lload (by decide +kernel)) <|
  mj_c1 (k_lxor (by decide +kernel)) <|
  mj_c1 (k_aloadn (k := 0) (by decide +kernel) rfl) <|
  mj_c1 (k_gR (idx := 19) h_C (by decide) rfl w_127 (by decide +kernel)) <|
  mj_c1 (k_iload (by decide +kernel)) <|
  mj_c1 (k_iload (by decide +kernel)) <|
  mj_c1 (k_iadd (by decide +kernel)) <|
  mj_c1 (k_lal (by decide +kernel)) <|
  mj_c1 (k_lload (by decide +kernel)) <|
  mj_c1 (k_lxor (by decide +kernel)) <|
  mj_c1 (k_land (by decide +kernel)) <|
  mj_c1 (k_las (by decide +kernel)) <|
  mj_c1 (k_iinc (by decide +kernel) (by decide)) <|
  mj_c1 (k_goto (off := -47) (by decide +kernel) (by decide)) <|
  mj_c1 (k_retv (by decide +kernel) rfl) mj_c0
def q_C_rowOf : List (Nat × mj_Sem) := [(0, o_al 0 1), (1, o_gR 1 0 4), (4, o_il 1 5), (5, o_call m_N_slotFor 2 0 0 8 (mj_rv 3)), (8, o_ic 256 11), (11, o_imul 12), (12, o_iret 0 0)]
set_option maxRecDepth 100000 in
theorem z_C_rowOf : mj_Code (m_C_rowOf) (q_C_rowOf) :=
  mj_c1 (k_aloadn (k := 0) (by decide +kernel) rfl) <|
  mj_c1 (k_gR (idx := 14) h_C (by decide) rfl w_120 (by decide +kernel)) <|
  mj_c1 (k_iloadn (k := 1) (by decide +kernel) rfl) <|
  mj_c1 (k_callV (idx := 107) (by decide +kernel) (fit_m_C_rowOf_m_N_slotFor) rfl rfl w_196 w_197 w_198 (by decide) (by decide +kernel)) <|
  mj_c1 (k_sipush (by decide +kernel) (by decide)) <|
  mj_c1 (k_imul (by decide +kernel)) <|
  mj_c1 (k_iret (by decide +kernel) rfl) mj_c0
def q_C_flipOf : List (Nat × mj_Sem) := [(0, o_il 1 1), (1, o_ic 2 2), (2, o_irem 3), (3, o_ifne 10 6), (6, o_lc 0#64 7), (7, o_goto 14), (10, o_al 0 11), (11, o_gL 1 9 14), (14, o_lret 0 0)]
set_option maxRecDepth 100000 in
theorem z_C_flipOf : mj_Code (m_C_flipOf) (q_C_flipOf) :=
  mj_c1 (k_iloadn (k := 1) (by decide +kernel) rfl) <|
  mj_c1 (k_iconst (by decide +kernel)) <|
  mj_c1 (k_irem (by decide +kernel)) <|
  mj_c1 (k_ifne (off := 7) (by decide +kernel) (by decide)) <|
  mj_c1 (k_lconst (k := 0) (by decide +kernel) (by decide)) <|
  mj_c1 (k_goto (off := 7) (by decide +kernel) (by decide)) <|
  mj_c1 (k_aloadn (k := 0) (by decide +kernel) rfl) <|
  mj_c1 (k_gL (idx := 42) h_C (by decide) rfl w_132 (by decide +kernel)) <|
  mj_c1 (k_lret (by decide +kernel) rfl) mj_c0
def q_C_bitAt : List (Nat × mj_Sem) := [(0, o_al 0 1), (1, o_gR 1 4 4), (4, o_al 0 5), (5, o_il 1 6), (6, o_call m_C_rowOf 2 0 0 9 (mj_rv 1)), (9, o_il 2 10), (10, o_ic 64 12), (12, o_idiv 13), (13, o_iadd 14), (14, o_lal 15), (15, o_al 0 16), (16, o_il 1 17), (17, o_call m_C_flipOf 2 0 0 20 (mj_rv 1)), (20, o_lxor 21), (21, o_ls 3 22), (22, o_ll 3 23), (23, o_il 2 24), (24, o_ic 64 26), (26, o_irem 27), (27, o_lushr 28), (28, o_l2i 29), (29, o_ic 1 30), (30, o_iand 31), (31, o_iret 0 0)]
set_option maxRecDepth 100000 in
theorem z_C_bitAt : mj_Code (m_C_bitAt) (q_C_bitAt) :=
  mj_c1 (k_aloadn (k := 0) (by decide +kernel) rfl) <|
  mj_c1 (k_gR (idx := 19) h_C (by decide) rfl w_127 (by decide +kernel)) <|
  mj_c1 (k_aloadn (k := 0) (by decide +kernel) rfl) <|
  mj_c1 (k_iloadn (k := 1) (by decide +kernel) rfl) <|
  mj_c1 (k_callV (idx := 77) (by decide +kernel) (fit_m_C_bitAt_m_C_rowOf) rfl rfl w_192 w_194 v_6 (by decide) (by decide +kernel)) <|
  mj_c1 (k_iloadn (k := 2) (by decide +kernel) rfl) <|
  mj_c1 (k_bipush (by decide +kernel) (by decide)) <|
  mj_c1 (k_idiv (by decide +kernel)) <|
  mj_c1 (k_iadd (by decide +kernel)) <|
  mj_c1 (k_lal (by decide +kernel)) <|
  mj_c1 (k_aloadn (k := 0) (by decide +kernel) rfl) <|
  mj_c1 (k_iloadn (k := 1) (by decide +kernel) rfl) <|
  mj_c1 (k_callV (idx := 84) (by decide +kernel) (fit_m_C_bitAt_m_C_flipOf) rfl rfl w_200 w_202 v_7 (by decide) (by decide +kernel)) <|
  mj_c1 (k_lxor (by decide +kernel)) <|
  mj_c1 (k_lstoren (k := 3) (by decide +kernel) rfl (by decide)) <|
  mj_c1 (k_lloadn (k := 3) (by decide +kernel) rfl) <|
  mj_c1 (k_iloadn (k := 2) (by decide +kernel) rfl) <|
  mj_c1 (k_bipush (by decide +kernel) (by decide)) <|
  mj_c1 (k_irem (by decide +kernel)) <|
  mj_c1 (k_lushr (by decide +kernel)) <|
  mj_c1 (k_l2i (by decide +kernel)) <|
  mj_c1 (k_iconst (by decide +kernel)) <|
  mj_c1 (k_iand (by decide +kernel)) <|
  mj_c1 (k_iret (by decide +kernel) rfl) mj_c0
def q_C_firstDifference : List (Nat × mj_Sem) := [(0, o_al 0 1), (1, o_il 1 2), (2, o_call m_C_rowOf 2 0 0 5 (mj_rv 1)), (5, o_is 4 7), (7, o_al 2 8), (8, o_il 3 9), (9, o_call m_C_rowOf 2 0 0 12 (mj_rv 1)), (12, o_is 5 14), (14, o_al 0 15), (15, o_il 1 16), (16, o_il 3 17), (17, o_ixor 18), (18, o_call m_C_flipOf 2 0 0 21 (mj_rv 1)), (21, o_ls 6 23), (23, o_ic 0 24), (24, o_is 8 26), (26, o_il 8 28), (28, o_al 0 29), (29, o_gI 1 8 32), (32, o_icge 86 35), (35, o_al 0 36), (36, o_gR 1 4 39), (39, o_il 4 41), (41, o_il 8 43), (43, o_iadd 44), (44, o_lal 45), (45, o_al 2 46), (46, o_gR 1 4 49), (49, o_il 5 51), (51, o_il 8 53), (53, o_iadd 54), (54, o_lal 55), (55, o_lxor 56), (56, o_ll 6 58), (58, o_lxor 59), (59, o_ls 9 61), (61, o_ll 9 63), (63, o_lc 0#64 64), (64, o_lcmp 65), (65, o_ifeq 80 68), (68, o_il 8 70), (70, o_ic 64 72), (72, o_imul 73), (73, o_ll 9 75), (75, o_call m_J_numberOfTrailingZeros 1 0 0 78 mj_rs), (78, o_iadd 79), (79, o_iret 0 0), (80, o_inc 8 1 83), (83, o_goto 26), (86, o_ic (-1) 87), (87, o_iret 0 0)]
set_option maxRecDepth 100000 in
theorem z_C_firstDifference : mj_Code (m_C_firstDifference) (q_C_firstDifference) :=
  mj_c1 (k_aloadn (k := 0) (by decide +kernel) rfl) <|
  mj_c1 (k_iloadn (k := 1) (by decide +kernel) rfl) <|
  mj_c1 (k_callV (idx := 77) (by decide +kernel) (fit_m_C_firstDifference_m_C_rowOf) rfl rfl w_192 w_194 v_6 (by decide) (by decide +kernel)) <|
  mj_c1 (k_istore (by decide +kernel) (by decide)) <|
  mj_c1 (k_aloadn (k := 2) (by decide +kernel) rfl) <|
  mj_c1 (k_iloadn (k := 3) (by decide +kernel) rfl) <|
  mj_c1 (k_callV (idx := 77) (by decide +kernel) (fit_m_C_firstDifference_m_C_rowOf) rfl rfl w_192 w_194 v_6 (by decide) (by decide +kernel)) <|
  mj_c1 (k_istore (by decide +kernel) (by decide)) <|
  mj_c1 (k_aloadn (k := 0) (by decide +kernel) rfl) <|
  mj_c1 (k_iloadn (k := 1) (by decide +kernel) rfl) <|
  mj_c1 (k_iloadn (k := 3) (by decide +kernel) rfl) <|
  mj_c1 (k_ixor (by decide +kernel)) <|
  mj_c1 (k_callV (idx := 84) (by decide +kernel) (fit_m_C_firstDifference_m_C_flipOf) rfl rfl w_200 w_202 v_7 (by decide) (by decide +kernel)) <|
  mj_c1 (k_lstore (by decide +kernel) (by decide)) <|
  mj_c1 (k_iconst (by decide +kernel)) <|
  mj_c1 (k_istore (by decide +kernel) (by decide)) <|
  mj_c1 (k_iload (by decide +kernel)) <|
  mj_c1 (k_aloadn (k := 0) (by decide +kernel) rfl) <|
  mj_c1 (k_gI (idx := 37) h_C (by decide) rfl w_131 (by decide +kernel)) <|
  mj_c1 (k_icge (off := 54) (by decide +kernel) (by decide)) <|
  mj_c1 (k_aloadn (k := 0) (by decide +kernel) rfl) <|
  mj_c1 (k_gR (idx := 19) h_C (by decide) rfl w_127 (by decide +kernel)) <|
  mj_c1 (k_iload (by decide +kernel)) <|
  mj_c1 (k_iload (by decide +kernel)) <|
  mj_c1 (k_iadd (by decide +kernel)) <|
  mj_c1 (k_lal (by decide +kernel)) <|
  mj_c1 (k_aloadn (k := 2) (by decide +kernel) rfl) <|
  mj_c1 (k_gR (idx := 19) h_C (by decide) rfl w_127 (by decide +kernel)) <|
  mj_c1 (k_iload (by decide +kernel)) <|
  mj_c1 (k_iload (by decide +kernel)) <|
  mj_c1 (k_iadd (by decide +kernel)) <|
  mj_c1 (k_lal (by decide +kernel)) <|
  mj_c1 (k_lxor (by decide +kernel)) <|
  mj_c1 (k_lload (by decide +kernel)) <|
  mj_c1 (k_lxor (by decide +kernel)) <|
  mj_c1 (k_lstore (by decide +kernel) (by decide)) <|
  mj_c1 (k_lload (by decide +kernel)) <|
  mj_c1 (k_lconst (k := 0) (by decide +kernel) (by decide)) <|
  mj_c1 (k_lcmp (by decide +kernel)) <|
  mj_c1 (k_ifeq (off := 15) (by decide +kernel) (by decide)) <|
  mj_c1 (k_iload (by decide +kernel)) <|
  mj_c1 (k_bipush (by decide +kernel) (by decide)) <|
  mj_c1 (k_imul (by decide +kernel)) <|
  mj_c1 (k_lload (by decide +kernel)) <|
  mj_c1 (k_callS (idx := 110) (by decide +kernel) (fit_m_C_firstDifference_m_J_numberOfTrailingZeros) rfl w_617 w_618 (by decide) (by decide +kernel)) <|
  mj_c1 (k_iadd (by decide +kernel)) <|
  mj_c1 (k_iret (by decide +kernel) rfl) <|
  mj_c1 (k_iinc (by decide +kernel) (by decide)) <|
  mj_c1 (k_goto (off := -57) (by decide +kernel) (by decide)) <|
  mj_c1 (k_iconst (by decide +kernel)) <|
  mj_c1 (k_iret (by decide +kernel) rfl) mj_c0
def q_C_firstOne : List (Nat × mj_Sem) := [(0, o_al 0 1), (1, o_il 1 2), (2, o_call m_C_rowOf 2 0 0 5 (mj_rv 1)), (5, o_is 3 6), (6, o_al 0 7), (7, o_il 1 8), (8, o_call m_C_flipOf 2 0 0 11 (mj_rv 1)), (11, o_ls 4 13), (13, o_il 2 14), (14, o_ic 64 16), (16, o_idiv 17), (17, o_is 6 19), (19, o_il 6 21), (21, o_is 7 23), (23, o_il 7 25), (25, o_al 0 26), (26, o_gI 1 8 29), (29, o_icge 91 32), (32, o_al 0 33), (33, o_gR 1 4 36), (36, o_il 3 37), (37, o_il 7 39), (39, o_iadd 40), (40, o_lal 41), (41, o_ll 4 43), (43, o_lxor 44), (44, o_ls 8 46), (46, o_il 7 48), (48, o_il 6 50), (50, o_icne 66 53), (53, o_ll 8 55), (55, o_lc 0xFFFFFFFFFFFFFFFF#64 58), (58, o_il 2 59), (59, o_ic 64 61), (61, o_irem 62), (62, o_lshl 63), (63, o_land 64), (64, o_ls 8 66), (66, o_ll 8 68), (68, o_lc 0#64 69), (69, o_lcmp 70), (70, o_ifeq 85 73), (73, o_il 7 75), (75, o_ic 64 77), (77, o_imul 78), (78, o_ll 8 80), (80, o_call m_J_numberOfTrailingZeros 1 0 0 83 mj_rs), (83, o_iadd 84), (84, o_iret 0 0), (85, o_inc 7 1 88), (88, o_goto 23), (91, o_ic (-1) 92), (92, o_iret 0 0)]
set_option maxRecDepth 100000 in
theorem z_C_firstOne : mj_Code (m_C_firstOne) (q_C_firstOne) :=
  mj_c1 (k_aloadn (k := 0) (by decide +kernel) rfl) <|
  mj_c1 (k_iloadn (k := 1) (by decide +kernel) rfl) <|
  mj_c1 (k_callV (idx := 77) (by decide +kernel) (fit_m_C_firstOne_m_C_rowOf) rfl rfl w_192 w_194 v_6 (by decide) (by decide +kernel)) <|
  mj_c1 (k_istoren (k := 3) (by decide +kernel) rfl (by decide)) <|
  mj_c1 (k_aloadn (k := 0) (by decide +kernel) rfl) <|
  mj_c1 (k_iloadn (k := 1) (by decide +kernel) rfl) <|
  mj_c1 (k_callV (idx := 84) (by decide +kernel) (fit_m_C_firstOne_m_C_flipOf) rfl rfl w_200 w_202 v_7 (by decide) (by decide +kernel)) <|
  mj_c1 (k_lstore (by decide +kernel) (by decide)) <|
  mj_c1 (k_iloadn (k := 2) (by decide +kernel) rfl) <|
  mj_c1 (k_bipush (by decide +kernel) (by decide)) <|
  mj_c1 (k_idiv (by decide +kernel)) <|
  mj_c1 (k_istore (by decide +kernel) (by decide)) <|
  mj_c1 (k_iload (by decide +kernel)) <|
  mj_c1 (k_istore (by decide +kernel) (by decide)) <|
  mj_c1 (k_iload (by decide +kernel)) <|
  mj_c1 (k_aloadn (k := 0) (by decide +kernel) rfl) <|
  mj_c1 (k_gI (idx := 37) h_C (by decide) rfl w_131 (by decide +kernel)) <|
  mj_c1 (k_icge (off := 62) (by decide +kernel) (by decide)) <|
  mj_c1 (k_aloadn (k := 0) (by decide +kernel) rfl) <|
  mj_c1 (k_gR (idx := 19) h_C (by decide) rfl w_127 (by decide +kernel)) <|
  mj_c1 (k_iloadn (k := 3) (by decide +kernel) rfl) <|
  mj_c1 (k_iload (by decide +kernel)) <|
  mj_c1 (k_iadd (by decide +kernel)) <|
  mj_c1 (k_lal (by decide +kernel)) <|
  mj_c1 (k_lload (by decide +kernel)) <|
  mj_c1 (k_lxor (by decide +kernel)) <|
  mj_c1 (k_lstore (by decide +kernel) (by decide)) <|
  mj_c1 (k_iload (by decide +kernel)) <|
  mj_c1 (k_iload (by decide +kernel)) <|
  mj_c1 (k_icne (off := 16) (by decide +kernel) (by decide)) <|
  mj_c1 (k_lload (by decide +kernel)) <|
  mj_c1 (k_ldc2 (idx := 40) (by decide +kernel) w_159) <|
  mj_c1 (k_iloadn (k := 2) (by decide +kernel) rfl) <|
  mj_c1 (k_bipush (by decide +kernel) (by decide)) <|
  mj_c1 (k_irem (by decide +kernel)) <|
  mj_c1 (k_lshl (by decide +kernel)) <|
  mj_c1 (k_land (by decide +kernel)) <|
  mj_c1 (k_lstore (by decide +kernel) (by decide)) <|
  mj_c1 (k_lload (by decide +kernel)) <|
  mj_c1 (k_lconst (k := 0) (by decide +kernel) (by decide)) <|
  mj_c1 (k_lcmp (by decide +kernel)) <|
  mj_c1 (k_ifeq (off := 15) (by decide +kernel) (by decide)) <|
  mj_c1 (k_iload (by decide +kernel)) <|
  mj_c1 (k_bipush (by decide +kernel) (by decide)) <|
  mj_c1 (k_imul (by decide +kernel)) <|
  mj_c1 (k_lload (by decide +kernel)) <|
  mj_c1 (k_callS (idx := 110) (by decide +kernel) (fit_m_C_firstOne_m_J_numberOfTrailingZeros) rfl w_617 w_618 (by decide) (by decide +kernel)) <|
  mj_c1 (k_iadd (by decide +kernel)) <|
  mj_c1 (k_iret (by decide +kernel) rfl) <|
  mj_c1 (k_iinc (by decide +kernel) (by decide)) <|
  mj_c1 (k_goto (off := -65) (by decide +kernel) (by decide)) <|
  mj_c1 (k_iconst (by decide +kernel)) <|
  mj_c1 (k_iret (by decide +kernel) rfl) mj_c0
def q_C_lastOne : List (Nat × mj_Sem) := [(0, o_al 0 1), (1, o_il 1 2), (2, o_call m_C_rowOf 2 0 0 5 (mj_rv 1)), (5, o_is 2 6), (6, o_al 0 7), (7, o_il 1 8), (8, o_call m_C_flipOf 2 0 0 11 (mj_rv 1)), (11, o_ls 3 12), (12, o_al 0 13), (13, o_gI 1 8 16), (16, o_ic 1 17), (17, o_isub 18), (18, o_is 5 20), (20, o_il 5 22), (22, o_iflt 68 25), (25, o_al 0 26), (26, o_gR 1 4 29), (29, o_il 2 30), (30, o_il 5 32), (32, o_iadd 33), (33, o_lal 34), (34, o_ll 3 35), (35, o_lxor 36), (36, o_ls 6 38), (38, o_ll 6 40), (40, o_lc 0#64 41), (41, o_lcmp 42), (42, o_ifeq 62 45), (45, o_il 5 47), (47, o_ic 64 49), (49, o_imul 50), (50, o_ic 64 52), (52, o_iadd 53), (53, o_ic 1 54), (54, o_isub 55), (55, o_ll 6 57), (57, o_call m_J_numberOfLeadingZeros 1 0 0 60 mj_rs), (60, o_isub 61), (61, o_iret 0 0), (62, o_inc 5 (-1) 65), (65, o_goto 20), (68, o_ic (-1) 69), (69, o_iret 0 0)]
set_option maxRecDepth 100000 in
theorem z_C_lastOne : mj_Code (m_C_lastOne) (q_C_lastOne) :=
  mj_c1 (k_aloadn (k := 0) (by decide +kernel) rfl) <|
  mj_c1 (k_iloadn (k := 1) (by decide +kernel) rfl) <|
  mj_c1 (k_callV (idx := 77) (by decide +kernel) (fit_m_C_lastOne_m_C_rowOf) rfl rfl w_192 w_194 v_6 (by decide) (by decide +kernel)) <|
  mj_c1 (k_istoren (k := 2) (by decide +kernel) rfl (by decide)) <|
  mj_c1 (k_aloadn (k := 0) (by decide +kernel) rfl) <|
  mj_c1 (k_iloadn (k := 1) (by decide +kernel) rfl) <|
  mj_c1 (k_callV (idx := 84) (by decide +kernel) (fit_m_C_lastOne_m_C_flipOf) rfl rfl w_200 w_202 v_7 (by decide) (by decide +kernel)) <|
  mj_c1 (k_lstoren (k := 3) (by decide +kernel) rfl (by decide)) <|
  mj_c1 (k_aloadn (k := 0) (by decide +kernel) rfl) <|
  mj_c1 (k_gI (idx := 37) h_C (by decide) rfl w_131 (by decide +kernel)) <|
  mj_c1 (k_iconst (by decide +kernel)) <|
  mj_c1 (k_isub (by decide +kernel)) <|
  mj_c1 (k_istore (by decide +kernel) (by decide)) <|
  mj_c1 (k_iload (by decide +kernel)) <|
  mj_c1 (k_iflt (off := 46) (by decide +kernel) (by decide)) <|
  mj_c1 (k_aloadn (k := 0) (by decide +kernel) rfl) <|
  mj_c1 (k_gR (idx := 19) h_C (by decide) rfl w_127 (by decide +kernel)) <|
  mj_c1 (k_iloadn (k := 2) (by decide +kernel) rfl) <|
  mj_c1 (k_iload (by decide +kernel)) <|
  mj_c1 (k_iadd (by decide +kernel)) <|
  mj_c1 (k_lal (by decide +kernel)) <|
  mj_c1 (k_lloadn (k := 3) (by decide +kernel) rfl) <|
  mj_c1 (k_lxor (by decide +kernel)) <|
  mj_c1 (k_lstore (by decide +kernel) (by decide)) <|
  mj_c1 (k_lload (by decide +kernel)) <|
  mj_c1 (k_lconst (k := 0) (by decide +kernel) (by decide)) <|
  mj_c1 (k_lcmp (by decide +kernel)) <|
  mj_c1 (k_ifeq (off := 20) (by decide +kernel) (by decide)) <|
  mj_c1 (k_iload (by decide +kernel)) <|
  mj_c1 (k_bipush (by decide +kernel) (by decide)) <|
  mj_c1 (k_imul (by decide +kernel)) <|
  mj_c1 (k_bipush (by decide +kernel) (by decide)) <|
  mj_c1 (k_iadd (by decide +kernel)) <|
  mj_c1 (k_iconst (by decide +kernel)) <|
  mj_c1 (k_isub (by decide +kernel)) <|
  mj_c1 (k_lload (by decide +kernel)) <|
  mj_c1 (k_callS (idx := 116) (by decide +kernel) (fit_m_C_lastOne_m_J_numberOfLeadingZeros) rfl w_654 w_655 (by decide) (by decide +kernel)) <|
  mj_c1 (k_isub (by decide +kernel)) <|
  mj_c1 (k_iret (by decide +kernel) rfl) <|
  mj_c1 (k_iinc (by decide +kernel) (by decide)) <|
  mj_c1 (k_goto (off := -45) (by decide +kernel) (by decide)) <|
  mj_c1 (k_iconst (by decide +kernel)) <|
  mj_c1 (k_iret (by decide +kernel) rfl) mj_c0
def q_C_isWithin : List (Nat × mj_Sem) := [(0, o_al 0 1), (1, o_il 1 2), (2, o_call m_C_rowOf 2 0 0 5 (mj_rv 1)), (5, o_is 3 6), (6, o_al 0 7), (7, o_il 2 8), (8, o_call m_C_rowOf 2 0 0 11 (mj_rv 1)), (11, o_is 4 13), (13, o_al 0 14), (14, o_il 1 15), (15, o_call m_C_flipOf 2 0 0 18 (mj_rv 1)), (18, o_ls 5 20), (20, o_al 0 21), (21, o_il 2 22), (22, o_ic 1 23), (23, o_ixor 24), (24, o_call m_C_flipOf 2 0 0 27 (mj_rv 1)), (27, o_ls 7 29), (29, o_ic 0 30), (30, o_is 9 32), (32, o_il 9 34), (34, o_al 0 35), (35, o_gI 1 8 38), (38, o_icge 80 41), (41, o_al 0 42), (42, o_gR 1 4 45), (45, o_il 3 46), (46, o_il 9 48), (48, o_iadd 49), (49, o_lal 50), (50, o_ll 5 52), (52, o_lxor 53), (53, o_al 0 54), (54, o_gR 1 4 57), (57, o_il 4 59), (59, o_il 9 61), (61, o_iadd 62), (62, o_lal 63), (63, o_ll 7 65), (65, o_lxor 66), (66, o_land 67), (67, o_lc 0#64 68), (68, o_lcmp 69), (69, o_ifeq 74 72), (72, o_ic 0 73), (73, o_zret 0 0), (74, o_inc 9 1 77), (77, o_goto 32), (80, o_ic 1 81), (81, o_zret 0 0)]
set_option maxRecDepth 100000 in
theorem z_C_isWithin : mj_Code (m_C_isWithin) (q_C_isWithin) :=
  mj_c1 (k_aloadn (k := 0) (by decide +kernel) rfl) <|
  mj_c1 (k_iloadn (k := 1) (by decide +kernel) rfl) <|
  mj_c1 (k_callV (idx := 77) (by decide +kernel) (fit_m_C_isWithin_m_C_rowOf) rfl rfl w_192 w_194 v_6 (by decide) (by decide +kernel)) <|
  mj_c1 (k_istoren (k := 3) (by decide +kernel) rfl (by decide)) <|
  mj_c1 (k_aloadn (k := 0) (by decide +kernel) rfl) <|
  mj_c1 (k_iloadn (k := 2) (by decide +kernel) rfl) <|
  mj_c1 (k_callV (idx := 77) (by decide +kernel) (fit_m_C_isWithin_m_C_rowOf) rfl rfl w_192 w_194 v_6 (by decide) (by decide +kernel)) <|
  mj_c1 (k_istore (by decide +kernel) (by decide)) <|
  mj_c1 (k_aloadn (k := 0) (by decide +kernel) rfl) <|
  mj_c1 (k_iloadn (k := 1) (by decide +kernel) rfl) <|
  mj_c1 (k_callV (idx := 84) (by decide +kernel) (fit_m_C_isWithin_m_C_flipOf) rfl rfl w_200 w_202 v_7 (by decide) (by decide +kernel)) <|
  mj_c1 (k_lstore (by decide +kernel) (by decide)) <|
  mj_c1 (k_aloadn (k := 0) (by decide +kernel) rfl) <|
  mj_c1 (k_iloadn (k := 2) (by decide +kernel) rfl) <|
  mj_c1 (k_iconst (by decide +kernel)) <|
  mj_c1 (k_ixor (by decide +kernel)) <|
  mj_c1 (k_callV (idx := 84) (by decide +kernel) (fit_m_C_isWithin_m_C_flipOf) rfl rfl w_200 w_202 v_7 (by decide) (by decide +kernel)) <|
  mj_c1 (k_lstore (by decide +kernel) (by decide)) <|
  mj_c1 (k_iconst (by decide +kernel)) <|
  mj_c1 (k_istore (by decide +kernel) (by decide)) <|
  mj_c1 (k_iload (by decide +kernel)) <|
  mj_c1 (k_aloadn (k := 0) (by decide +kernel) rfl) <|
  mj_c1 (k_gI (idx := 37) h_C (by decide) rfl w_131 (by decide +kernel)) <|
  mj_c1 (k_icge (off := 42) (by decide +kernel) (by decide)) <|
  mj_c1 (k_aloadn (k := 0) (by decide +kernel) rfl) <|
  mj_c1 (k_gR (idx := 19) h_C (by decide) rfl w_127 (by decide +kernel)) <|
  mj_c1 (k_iloadn (k := 3) (by decide +kernel) rfl) <|
  mj_c1 (k_iload (by decide +kernel)) <|
  mj_c1 (k_iadd (by decide +kernel)) <|
  mj_c1 (k_lal (by decide +kernel)) <|
  mj_c1 (k_lload (by decide +kernel)) <|
  mj_c1 (k_lxor (by decide +kernel)) <|
  mj_c1 (k_aloadn (k := 0) (by decide +kernel) rfl) <|
  mj_c1 (k_gR (idx := 19) h_C (by decide) rfl w_127 (by decide +kernel)) <|
  mj_c1 (k_iload (by decide +kernel)) <|
  mj_c1 (k_iload (by decide +kernel)) <|
  mj_c1 (k_iadd (by decide +kernel)) <|
  mj_c1 (k_lal (by decide +kernel)) <|
  mj_c1 (k_lload (by decide +kernel)) <|
  mj_c1 (k_lxor (by decide +kernel)) <|
  mj_c1 (k_land (by decide +kernel)) <|
  mj_c1 (k_lconst (k := 0) (by decide +kernel) (by decide)) <|
  mj_c1 (k_lcmp (by decide +kernel)) <|
  mj_c1 (k_ifeq (off := 5) (by decide +kernel) (by decide)) <|
  mj_c1 (k_iconst (by decide +kernel)) <|
  mj_c1 (k_zret (by decide +kernel) rfl) <|
  mj_c1 (k_iinc (by decide +kernel) (by decide)) <|
  mj_c1 (k_goto (off := -45) (by decide +kernel) (by decide)) <|
  mj_c1 (k_iconst (by decide +kernel)) <|
  mj_c1 (k_zret (by decide +kernel) rfl) mj_c0
def q_C_movesOf : List (Nat × mj_Sem) := [(0, o_al 0 1), (1, o_il 1 2), (2, o_call m_C_rowOf 2 0 0 5 (mj_rv 1)), (5, o_is 3 6), (6, o_al 0 7), (7, o_il 1 8), (8, o_call m_C_flipOf 2 0 0 11 (mj_rv 1)), (11, o_ls 4 13), (13, o_lc 0#64 14), (14, o_ls 6 16), (16, o_lc 0#64 17), (17, o_ls 8 19), (19, o_ic 0 20), (20, o_is 10 22), (22, o_il 10 24), (24, o_al 0 25), (25, o_gI 1 8 28), (28, o_icge 91 31), (31, o_al 0 32), (32, o_il 3 33), (33, o_il 10 35), (35, o_il 2 36), (36, o_call m_C_halfWithout 4 0 0 39 (mj_rv 1)), (39, o_ll 4 41), (41, o_lxor 42), (42, o_ls 11 44), (44, o_al 0 45), (45, o_il 3 46), (46, o_il 10 48), (48, o_il 2 49), (49, o_call m_C_halfWith 4 0 0 52 (mj_rv 1)), (52, o_ll 4 54), (54, o_lxor 55), (55, o_ls 13 57), (57, o_ll 6 59), (59, o_ll 13 61), (61, o_ll 11 63), (63, o_lc 0xFFFFFFFFFFFFFFFF#64 66), (66, o_lxor 67), (67, o_land 68), (68, o_lor 69), (69, o_ls 6 71), (71, o_ll 8 73), (73, o_ll 11 75), (75, o_ll 13 77), (77, o_lc 0xFFFFFFFFFFFFFFFF#64 80), (80, o_lxor 81), (81, o_land 82), (82, o_lor 83), (83, o_ls 8 85), (85, o_inc 10 1 88), (88, o_goto 22), (91, o_ll 6 93), (93, o_lc 0#64 94), (94, o_lcmp 95), (95, o_ifeq 102 98), (98, o_ic 1 99), (99, o_goto 103), (102, o_ic 0 103), (103, o_ll 8 105), (105, o_lc 0#64 106), (106, o_lcmp 107), (107, o_ifeq 114 110), (110, o_ic 2 111), (111, o_goto 115), (114, o_ic 0 115), (115, o_ior 116), (116, o_iret 0 0)]
set_option maxRecDepth 100000 in
theorem z_C_movesOf : mj_Code (m_C_movesOf) (q_C_movesOf) :=
  mj_c1 (k_aloadn (k := 0) (by decide +kernel) rfl) <|
  mj_c1 (k_iloadn (k := 1) (by decide +kernel) rfl) <|
  mj_c1 (k_callV (idx := 77) (by decide +kernel) (fit_m_C_movesOf_m_C_rowOf) rfl rfl w_192 w_194 v_6 (by decide) (by decide +kernel)) <|
  mj_c1 (k_istoren (k := 3) (by decide +kernel) rfl (by decide)) <|
  mj_c1 (k_aloadn (k := 0) (by decide +kernel) rfl) <|
  mj_c1 (k_iloadn (k := 1) (by decide +kernel) rfl) <|
  mj_c1 (k_callV (idx := 84) (by decide +kernel) (fit_m_C_movesOf_m_C_flipOf) rfl rfl w_200 w_202 v_7 (by decide) (by decide +kernel)) <|
  mj_c1 (k_lstore (by decide +kernel) (by decide)) <|
  mj_c1 (k_lconst (k := 0) (by decide +kernel) (by decide)) <|
  mj_c1 (k_lstore (by decide +kernel) (by decide)) <|
  mj_c1 (k_lconst (k := 0) (by decide +kernel) (by decide)) <|
  mj_c1 (k_lstore (by decide +kernel) (by decide)) <|
  mj_c1 (k_iconst (by decide +kernel)) <|
  mj_c1 (k_istore (by decide +kernel) (by decide)) <|
  mj_c1 (k_iload (by decide +kernel)) <|
  mj_c1 (k_aloadn (k := 0) (by decide +kernel) rfl) <|
  mj_c1 (k_gI (idx := 37) h_C (by decide) rfl w_131 (by decide +kernel)) <|
  mj_c1 (k_icge (off := 63) (by decide +kernel) (by decide)) <|
  mj_c1 (k_aloadn (k := 0) (by decide +kernel) rfl) <|
  mj_c1 (k_iloadn (k := 3) (by decide +kernel) rfl) <|
  mj_c1 (k_iload (by decide +kernel)) <|
  mj_c1 (k_iloadn (k := 2) (by decide +kernel) rfl) <|
  mj_c1 (k_callV (idx := 119) (by decide +kernel) (fit_m_C_movesOf_m_C_halfWithout) rfl rfl w_695 w_697 v_33 (by decide) (by decide +kernel)) <|
  mj_c1 (k_lload (by decide +kernel)) <|
  mj_c1 (k_lxor (by decide +kernel)) <|
  mj_c1 (k_lstore (by decide +kernel) (by decide)) <|
  mj_c1 (k_aloadn (k := 0) (by decide +kernel) rfl) <|
  mj_c1 (k_iloadn (k := 3) (by decide +kernel) rfl) <|
  mj_c1 (k_iload (by decide +kernel)) <|
  mj_c1 (k_iloadn (k := 2) (by decide +kernel) rfl) <|
  mj_c1 (k_callV (idx := 123) (by decide +kernel) (fit_m_C_movesOf_m_C_halfWith) rfl rfl w_699 w_701 v_34 (by decide) (by decide +kernel)) <|
  mj_c1 (k_lload (by decide +kernel)) <|
  mj_c1 (k_lxor (by decide +kernel)) <|
  mj_c1 (k_lstore (by decide +kernel) (by decide)) <|
  mj_c1 (k_lload (by decide +kernel)) <|
  mj_c1 (k_lload (by decide +kernel)) <|
  mj_c1 (k_lload (by decide +kernel)) <|
  mj_c1 (k_ldc2 (idx := 40) (by decide +kernel) w_159) <|
  mj_c1 (k_lxor (by decide +kernel)) <|
  mj_c1 (k_land (by decide +kernel)) <|
  mj_c1 (k_lor (by decide +kernel)) <|
  mj_c1 (k_lstore (by decide +kernel) (by decide)) <|
  mj_c1 (k_lload (by decide +kernel)) <|
  mj_c1 (k_lload (by decide +kernel)) <|
  mj_c1 (k_lload (by decide +kernel)) <|
  mj_c1 (k_ldc2 (idx := 40) (by decide +kernel) w_159) <|
  mj_c1 (k_lxor (by decide +kernel)) <|
  mj_c1 (k_land (by decide +kernel)) <|
  mj_c1 (k_lor (by decide +kernel)) <|
  mj_c1 (k_lstore (by decide +kernel) (by decide)) <|
  mj_c1 (k_iinc (by decide +kernel) (by decide)) <|
  mj_c1 (k_goto (off := -66) (by decide +kernel) (by decide)) <|
  mj_c1 (k_lload (by decide +kernel)) <|
  mj_c1 (k_lconst (k := 0) (by decide +kernel) (by decide)) <|
  mj_c1 (k_lcmp (by decide +kernel)) <|
  mj_c1 (k_ifeq (off := 7) (by decide +kernel) (by decide)) <|
  mj_c1 (k_iconst (by decide +kernel)) <|
  mj_c1 (k_goto (off := 4) (by decide +kernel) (by decide)) <|
  mj_c1 (k_iconst (by decide +kernel)) <|
  mj_c1 (k_lload (by decide +kernel)) <|
  mj_c1 (k_lconst (k := 0) (by decide +kernel) (by decide)) <|
  mj_c1 (k_lcmp (by decide +kernel)) <|
  mj_c1 (k_ifeq (off := 7) (by decide +kernel) (by decide)) <|
  mj_c1 (k_iconst (by decide +kernel)) <|
  mj_c1 (k_goto (off := 4) (by decide +kernel) (by decide)) <|
  mj_c1 (k_iconst (by decide +kernel)) <|
  mj_c1 (k_ior (by decide +kernel)) <|
  mj_c1 (k_iret (by decide +kernel) rfl) mj_c0
def q_C_halfWithout : List (Nat × mj_Sem) := [(0, o_il 3 1), (1, o_ic 6 3), (3, o_icge 25 6), (6, o_al 0 7), (7, o_gR 1 4 10), (10, o_il 1 11), (11, o_il 2 12), (12, o_iadd 13), (13, o_lal 14), (14, o_gst 17), (17, o_il 3 18), (18, o_tal 19), (19, o_lc 0xFFFFFFFFFFFFFFFF#64 22), (22, o_lxor 23), (23, o_land 24), (24, o_lret 0 0), (25, o_al 0 26), (26, o_gR 1 4 29), (29, o_il 1 30), (30, o_il 2 31), (31, o_ic 1 32), (32, o_il 3 33), (33, o_ic 6 35), (35, o_isub 36), (36, o_ishl 37), (37, o_ic (-1) 38), (38, o_ixor 39), (39, o_iand 40), (40, o_iadd 41), (41, o_lal 42), (42, o_lret 0 0)]
set_option maxRecDepth 100000 in
theorem z_C_halfWithout : mj_Code (m_C_halfWithout) (q_C_halfWithout) :=
  mj_c1 (k_iloadn (k := 3) (by decide +kernel) rfl) <|
  mj_c1 (k_bipush (by decide +kernel) (by decide)) <|
  mj_c1 (k_icge (off := 22) (by decide +kernel) (by decide)) <|
  mj_c1 (k_aloadn (k := 0) (by decide +kernel) rfl) <|
  mj_c1 (k_gR (idx := 19) h_C (by decide) rfl w_127 (by decide +kernel)) <|
  mj_c1 (k_iloadn (k := 1) (by decide +kernel) rfl) <|
  mj_c1 (k_iloadn (k := 2) (by decide +kernel) rfl) <|
  mj_c1 (k_iadd (by decide +kernel)) <|
  mj_c1 (k_lal (by decide +kernel)) <|
  mj_c1 (k_gst (idx := 71) (by decide +kernel) w_186) <|
  mj_c1 (k_iloadn (k := 3) (by decide +kernel) rfl) <|
  mj_c1 (k_tal (by decide +kernel)) <|
  mj_c1 (k_ldc2 (idx := 40) (by decide +kernel) w_159) <|
  mj_c1 (k_lxor (by decide +kernel)) <|
  mj_c1 (k_land (by decide +kernel)) <|
  mj_c1 (k_lret (by decide +kernel) rfl) <|
  mj_c1 (k_aloadn (k := 0) (by decide +kernel) rfl) <|
  mj_c1 (k_gR (idx := 19) h_C (by decide) rfl w_127 (by decide +kernel)) <|
  mj_c1 (k_iloadn (k := 1) (by decide +kernel) rfl) <|
  mj_c1 (k_iloadn (k := 2) (by decide +kernel) rfl) <|
  mj_c1 (k_iconst (by decide +kernel)) <|
  mj_c1 (k_iloadn (k := 3) (by decide +kernel) rfl) <|
  mj_c1 (k_bipush (by decide +kernel) (by decide)) <|
  mj_c1 (k_isub (by decide +kernel)) <|
  mj_c1 (k_ishl (by decide +kernel)) <|
  mj_c1 (k_iconst (by decide +kernel)) <|
  mj_c1 (k_ixor (by decide +kernel)) <|
  mj_c1 (k_iand (by decide +kernel)) <|
  mj_c1 (k_iadd (by decide +kernel)) <|
  mj_c1 (k_lal (by decide +kernel)) <|
  mj_c1 (k_lret (by decide +kernel) rfl) mj_c0
def q_C_halfWith : List (Nat × mj_Sem) := [(0, o_il 3 1), (1, o_ic 6 3), (3, o_icge 25 6), (6, o_al 0 7), (7, o_gR 1 4 10), (10, o_il 1 11), (11, o_il 2 12), (12, o_iadd 13), (13, o_lal 14), (14, o_gst 17), (17, o_il 3 18), (18, o_tal 19), (19, o_land 20), (20, o_ic 1 21), (21, o_il 3 22), (22, o_ishl 23), (23, o_lushr 24), (24, o_lret 0 0), (25, o_al 0 26), (26, o_gR 1 4 29), (29, o_il 1 30), (30, o_il 2 31), (31, o_ic 1 32), (32, o_il 3 33), (33, o_ic 6 35), (35, o_isub 36), (36, o_ishl 37), (37, o_ior 38), (38, o_iadd 39), (39, o_lal 40), (40, o_lret 0 0)]
set_option maxRecDepth 100000 in
theorem z_C_halfWith : mj_Code (m_C_halfWith) (q_C_halfWith) :=
  mj_c1 (k_iloadn (k := 3) (by decide +kernel) rfl) <|
  mj_c1 (k_bipush (by decide +kernel) (by decide)) <|
  mj_c1 (k_icge (off := 22) (by decide +kernel) (by decide)) <|
  mj_c1 (k_aloadn (k := 0) (by decide +kernel) rfl) <|
  mj_c1 (k_gR (idx := 19) h_C (by decide) rfl w_127 (by decide +kernel)) <|
  mj_c1 (k_iloadn (k := 1) (by decide +kernel) rfl) <|
  mj_c1 (k_iloadn (k := 2) (by decide +kernel) rfl) <|
  mj_c1 (k_iadd (by decide +kernel)) <|
  mj_c1 (k_lal (by decide +kernel)) <|
  mj_c1 (k_gst (idx := 71) (by decide +kernel) w_186) <|
  mj_c1 (k_iloadn (k := 3) (by decide +kernel) rfl) <|
  mj_c1 (k_tal (by decide +kernel)) <|
  mj_c1 (k_land (by decide +kernel)) <|
  mj_c1 (k_iconst (by decide +kernel)) <|
  mj_c1 (k_iloadn (k := 3) (by decide +kernel) rfl) <|
  mj_c1 (k_ishl (by decide +kernel)) <|
  mj_c1 (k_lushr (by decide +kernel)) <|
  mj_c1 (k_lret (by decide +kernel) rfl) <|
  mj_c1 (k_aloadn (k := 0) (by decide +kernel) rfl) <|
  mj_c1 (k_gR (idx := 19) h_C (by decide) rfl w_127 (by decide +kernel)) <|
  mj_c1 (k_iloadn (k := 1) (by decide +kernel) rfl) <|
  mj_c1 (k_iloadn (k := 2) (by decide +kernel) rfl) <|
  mj_c1 (k_iconst (by decide +kernel)) <|
  mj_c1 (k_iloadn (k := 3) (by decide +kernel) rfl) <|
  mj_c1 (k_bipush (by decide +kernel) (by decide)) <|
  mj_c1 (k_isub (by decide +kernel)) <|
  mj_c1 (k_ishl (by decide +kernel)) <|
  mj_c1 (k_ior (by decide +kernel)) <|
  mj_c1 (k_iadd (by decide +kernel)) <|
  mj_c1 (k_lal (by decide +kernel)) <|
  mj_c1 (k_lret (by decide +kernel) rfl) mj_c0
def q_C_leaderOf : List (Nat × mj_Sem) := [(0, o_al 0 1), (1, o_gR 1 6 4), (4, o_al 0 5), (5, o_gR 1 0 8), (8, o_il 1 9), (9, o_call m_N_slotFor 2 0 0 12 (mj_rv 3)), (12, o_ial 13), (13, o_il 1 14), (14, o_ic 1 15), (15, o_iand 16), (16, o_ixor 17), (17, o_iret 0 0)]
set_option maxRecDepth 100000 in
theorem z_C_leaderOf : mj_Code (m_C_leaderOf) (q_C_leaderOf) :=
  mj_c1 (k_aloadn (k := 0) (by decide +kernel) rfl) <|
  mj_c1 (k_gR (idx := 26) h_C (by decide) rfl w_129 (by decide +kernel)) <|
  mj_c1 (k_aloadn (k := 0) (by decide +kernel) rfl) <|
  mj_c1 (k_gR (idx := 14) h_C (by decide) rfl w_120 (by decide +kernel)) <|
  mj_c1 (k_iloadn (k := 1) (by decide +kernel) rfl) <|
  mj_c1 (k_callV (idx := 107) (by decide +kernel) (fit_m_C_leaderOf_m_N_slotFor) rfl rfl w_196 w_197 w_198 (by decide) (by decide +kernel)) <|
  mj_c1 (k_ial (by decide +kernel)) <|
  mj_c1 (k_iloadn (k := 1) (by decide +kernel) rfl) <|
  mj_c1 (k_iconst (by decide +kernel)) <|
  mj_c1 (k_iand (by decide +kernel)) <|
  mj_c1 (k_ixor (by decide +kernel)) <|
  mj_c1 (k_iret (by decide +kernel) rfl) mj_c0
def q_C_kindsNotIn : List (Nat × mj_Sem) := [(0, o_ic 0 1), (1, o_is 2 2), (2, o_ic 0 3), (3, o_is 3 4), (4, o_il 3 5), (5, o_ic 512 8), (8, o_icge 50 11), (11, o_al 0 12), (12, o_gR 1 7 15), (15, o_il 3 16), (16, o_ial 17), (17, o_is 4 19), (19, o_il 4 21), (21, o_ic (-1) 22), (22, o_iceq 44 25), (25, o_al 1 26), (26, o_gR 1 7 29), (29, o_al 1 30), (30, o_al 0 31), (31, o_il 4 33), (33, o_call m_C_bucketFor 3 0 0 36 (mj_rv 1)), (36, o_ial 37), (37, o_ic (-1) 38), (38, o_icne 44 41), (41, o_inc 2 1 44), (44, o_inc 3 1 47), (47, o_goto 4), (50, o_il 2 51), (51, o_iret 0 0)]
set_option maxRecDepth 100000 in
theorem z_C_kindsNotIn : mj_Code (m_C_kindsNotIn) (q_C_kindsNotIn) :=
  mj_c1 (k_iconst (by decide +kernel)) <|
  mj_c1 (k_istoren (k := 2) (by decide +kernel) rfl (by decide)) <|
  mj_c1 (k_iconst (by decide +kernel)) <|
  mj_c1 (k_istoren (k := 3) (by decide +kernel) rfl (by decide)) <|
  mj_c1 (k_iloadn (k := 3) (by decide +kernel) rfl) <|
  mj_c1 (k_sipush (by decide +kernel) (by decide)) <|
  mj_c1 (k_icge (off := 42) (by decide +kernel) (by decide)) <|
  mj_c1 (k_aloadn (k := 0) (by decide +kernel) rfl) <|
  mj_c1 (k_gR (idx := 30) h_C (by decide) rfl w_130 (by decide +kernel)) <|
  mj_c1 (k_iloadn (k := 3) (by decide +kernel) rfl) <|
  mj_c1 (k_ial (by decide +kernel)) <|
  mj_c1 (k_istore (by decide +kernel) (by decide)) <|
  mj_c1 (k_iload (by decide +kernel)) <|
  mj_c1 (k_iconst (by decide +kernel)) <|
  mj_c1 (k_iceq (off := 22) (by decide +kernel) (by decide)) <|
  mj_c1 (k_aloadn (k := 1) (by decide +kernel) rfl) <|
  mj_c1 (k_gR (idx := 30) h_C (by decide) rfl w_130 (by decide +kernel)) <|
  mj_c1 (k_aloadn (k := 1) (by decide +kernel) rfl) <|
  mj_c1 (k_aloadn (k := 0) (by decide +kernel) rfl) <|
  mj_c1 (k_iload (by decide +kernel)) <|
  mj_c1 (k_callV (idx := 91) (by decide +kernel) (fit_m_C_kindsNotIn_m_C_bucketFor) rfl rfl w_174 w_176 v_3 (by decide) (by decide +kernel)) <|
  mj_c1 (k_ial (by decide +kernel)) <|
  mj_c1 (k_iconst (by decide +kernel)) <|
  mj_c1 (k_icne (off := 6) (by decide +kernel) (by decide)) <|
  mj_c1 (k_iinc (by decide +kernel) (by decide)) <|
  mj_c1 (k_iinc (by decide +kernel) (by decide)) <|
  mj_c1 (k_goto (off := -43) (by decide +kernel) (by decide)) <|
  mj_c1 (k_iloadn (k := 2) (by decide +kernel) rfl) <|
  mj_c1 (k_iret (by decide +kernel) rfl) mj_c0
def q_J_numberOfTrailingZeros : List (Nat × mj_Sem) := [(0, o_ll 0 1), (1, o_l2i 2), (2, o_is 2 3), (3, o_il 2 4), (4, o_ifne 21 7), (7, o_ic 32 9), (9, o_ll 0 10), (10, o_ic 32 12), (12, o_lushr 13), (13, o_l2i 14), (14, o_call m_I_numberOfTrailingZeros 1 0 0 17 mj_rs), (17, o_iadd 18), (18, o_goto 25), (21, o_il 2 22), (22, o_call m_I_numberOfTrailingZeros 1 0 0 25 mj_rs), (25, o_iret 0 0)]
set_option maxRecDepth 100000 in
theorem z_J_numberOfTrailingZeros : mj_Code (m_J_numberOfTrailingZeros) (q_J_numberOfTrailingZeros) :=
  mj_c1 (k_lloadn (k := 0) (by decide +kernel) rfl) <|
  mj_c1 (k_l2i (by decide +kernel)) <|
  mj_c1 (k_istoren (k := 2) (by decide +kernel) rfl (by decide)) <|
  mj_c1 (k_iloadn (k := 2) (by decide +kernel) rfl) <|
  mj_c1 (k_ifne (off := 17) (by decide +kernel) (by decide)) <|
  mj_c1 (k_bipush (by decide +kernel) (by decide)) <|
  mj_c1 (k_lloadn (k := 0) (by decide +kernel) rfl) <|
  mj_c1 (k_bipush (by decide +kernel) (by decide)) <|
  mj_c1 (k_lushr (by decide +kernel)) <|
  mj_c1 (k_l2i (by decide +kernel)) <|
  mj_c1 (k_callS (idx := 311) (by decide +kernel) (fit_m_J_numberOfTrailingZeros_m_I_numberOfTrailingZeros) rfl w_620 w_621 (by decide) (by decide +kernel)) <|
  mj_c1 (k_iadd (by decide +kernel)) <|
  mj_c1 (k_goto (off := 7) (by decide +kernel) (by decide)) <|
  mj_c1 (k_iloadn (k := 2) (by decide +kernel) rfl) <|
  mj_c1 (k_callS (idx := 311) (by decide +kernel) (fit_m_J_numberOfTrailingZeros_m_I_numberOfTrailingZeros) rfl w_620 w_621 (by decide) (by decide +kernel)) <|
  mj_c1 (k_iret (by decide +kernel) rfl) mj_c0
def q_J_numberOfLeadingZeros : List (Nat × mj_Sem) := [(0, o_ll 0 1), (1, o_ic 32 3), (3, o_lushr 4), (4, o_l2i 5), (5, o_is 2 6), (6, o_il 2 7), (7, o_ifne 21 10), (10, o_ic 32 12), (12, o_ll 0 13), (13, o_l2i 14), (14, o_call m_I_numberOfLeadingZeros 1 0 0 17 mj_rs), (17, o_iadd 18), (18, o_goto 25), (21, o_il 2 22), (22, o_call m_I_numberOfLeadingZeros 1 0 0 25 mj_rs), (25, o_iret 0 0)]
set_option maxRecDepth 100000 in
theorem z_J_numberOfLeadingZeros : mj_Code (m_J_numberOfLeadingZeros) (q_J_numberOfLeadingZeros) :=
  mj_c1 (k_lloadn (k := 0) (by decide +kernel) rfl) <|
  mj_c1 (k_bipush (by decide +kernel) (by decide)) <|
  mj_c1 (k_lushr (by decide +kernel)) <|
  mj_c1 (k_l2i (by decide +kernel)) <|
  mj_c1 (k_istoren (k := 2) (by decide +kernel) rfl (by decide)) <|
  mj_c1 (k_iloadn (k := 2) (by decide +kernel) rfl) <|
  mj_c1 (k_ifne (off := 14) (by decide +kernel) (by decide)) <|
  mj_c1 (k_bipush (by decide +kernel) (by decide)) <|
  mj_c1 (k_lloadn (k := 0) (by decide +kernel) rfl) <|
  mj_c1 (k_l2i (by decide +kernel)) <|
  mj_c1 (k_callS (idx := 308) (by decide +kernel) (fit_m_J_numberOfLeadingZeros_m_I_numberOfLeadingZeros) rfl w_657 w_658 (by decide) (by decide +kernel)) <|
  mj_c1 (k_iadd (by decide +kernel)) <|
  mj_c1 (k_goto (off := 7) (by decide +kernel) (by decide)) <|
  mj_c1 (k_iloadn (k := 2) (by decide +kernel) rfl) <|
  mj_c1 (k_callS (idx := 308) (by decide +kernel) (fit_m_J_numberOfLeadingZeros_m_I_numberOfLeadingZeros) rfl w_657 w_658 (by decide) (by decide +kernel)) <|
  mj_c1 (k_iret (by decide +kernel) rfl) mj_c0
def q_I_numberOfTrailingZeros : List (Nat × mj_Sem) := [(0, o_il 0 1), (1, o_ic (-1) 2), (2, o_ixor 3), (3, o_il 0 4), (4, o_ic 1 5), (5, o_isub 6), (6, o_iand 7), (7, o_is 0 8), (8, o_il 0 9), (9, o_ifgt 17 12), (12, o_il 0 13), (13, o_ic 32 15), (15, o_iand 16), (16, o_iret 0 0), (17, o_ic 1 18), (18, o_is 1 19), (19, o_il 0 20), (20, o_ic 65536 23), (23, o_icle 34 26), (26, o_inc 1 16 29), (29, o_il 0 30), (30, o_ic 16 32), (32, o_iushr 33), (33, o_is 0 34), (34, o_il 0 35), (35, o_ic 256 38), (38, o_icle 49 41), (41, o_inc 1 8 44), (44, o_il 0 45), (45, o_ic 8 47), (47, o_iushr 48), (48, o_is 0 49), (49, o_il 0 50), (50, o_ic 16 52), (52, o_icle 62 55), (55, o_inc 1 4 58), (58, o_il 0 59), (59, o_ic 4 60), (60, o_iushr 61), (61, o_is 0 62), (62, o_il 0 63), (63, o_ic 4 64), (64, o_icle 74 67), (67, o_inc 1 2 70), (70, o_il 0 71), (71, o_ic 2 72), (72, o_iushr 73), (73, o_is 0 74), (74, o_il 1 75), (75, o_il 0 76), (76, o_ic 1 77), (77, o_iushr 78), (78, o_iadd 79), (79, o_iret 0 0)]
set_option maxRecDepth 100000 in
theorem z_I_numberOfTrailingZeros : mj_Code (m_I_numberOfTrailingZeros) (q_I_numberOfTrailingZeros) :=
  mj_c1 (k_iloadn (k := 0) (by decide +kernel) rfl) <|
  mj_c1 (k_iconst (by decide +kernel)) <|
  mj_c1 (k_ixor (by decide +kernel)) <|
  mj_c1 (k_iloadn (k := 0) (by decide +kernel) rfl) <|
  mj_c1 (k_iconst (by decide +kernel)) <|
  mj_c1 (k_isub (by decide +kernel)) <|
  mj_c1 (k_iand (by decide +kernel)) <|
  mj_c1 (k_istoren (k := 0) (by decide +kernel) rfl (by decide)) <|
  mj_c1 (k_iloadn (k := 0) (by decide +kernel) rfl) <|
  mj_c1 (k_ifgt (off := 8) (by decide +kernel) (by decide)) <|
  mj_c1 (k_iloadn (k := 0) (by decide +kernel) rfl) <|
  mj_c1 (k_bipush (by decide +kernel) (by decide)) <|
  mj_c1 (k_iand (by decide +kernel)) <|
  mj_c1 (k_iret (by decide +kernel) rfl) <|
  mj_c1 (k_iconst (by decide +kernel)) <|
  mj_c1 (k_istoren (k := 1) (by decide +kernel) rfl (by decide)) <|
  mj_c1 (k_iloadn (k := 0) (by decide +kernel) rfl) <|
  mj_c1 (k_ldcw (idx := 264) (by decide +kernel) w_623) <|
  mj_c1 (k_icle (off := 11) (by decide +kernel) (by decide)) <|
  mj_c1 (k_iinc (by decide +kernel) (by decide)) <|
  mj_c1 (k_iloadn (k := 0) (by decide +kernel) rfl) <|
  mj_c1 (k_bipush (by decide +kernel) (by decide)) <|
  mj_c1 (k_iushr (by decide +kernel)) <|
  mj_c1 (k_istoren (k := 0) (by decide +kernel) rfl (by decide)) <|
  mj_c1 (k_iloadn (k := 0) (by decide +kernel) rfl) <|
  mj_c1 (k_sipush (by decide +kernel) (by decide)) <|
  mj_c1 (k_icle (off := 11) (by decide +kernel) (by decide)) <|
  mj_c1 (k_iinc (by decide +kernel) (by decide)) <|
  mj_c1 (k_iloadn (k := 0) (by decide +kernel) rfl) <|
  mj_c1 (k_bipush (by decide +kernel) (by decide)) <|
  mj_c1 (k_iushr (by decide +kernel)) <|
  mj_c1 (k_istoren (k := 0) (by decide +kernel) rfl (by decide)) <|
  mj_c1 (k_iloadn (k := 0) (by decide +kernel) rfl) <|
  mj_c1 (k_bipush (by decide +kernel) (by decide)) <|
  mj_c1 (k_icle (off := 10) (by decide +kernel) (by decide)) <|
  mj_c1 (k_iinc (by decide +kernel) (by decide)) <|
  mj_c1 (k_iloadn (k := 0) (by decide +kernel) rfl) <|
  mj_c1 (k_iconst (by decide +kernel)) <|
  mj_c1 (k_iushr (by decide +kernel)) <|
  mj_c1 (k_istoren (k := 0) (by decide +kernel) rfl (by decide)) <|
  mj_c1 (k_iloadn (k := 0) (by decide +kernel) rfl) <|
  mj_c1 (k_iconst (by decide +kernel)) <|
  mj_c1 (k_icle (off := 10) (by decide +kernel) (by decide)) <|
  mj_c1 (k_iinc (by decide +kernel) (by decide)) <|
  mj_c1 (k_iloadn (k := 0) (by decide +kernel) rfl) <|
  mj_c1 (k_iconst (by decide +kernel)) <|
  mj_c1 (k_iushr (by decide +kernel)) <|
  mj_c1 (k_istoren (k := 0) (by decide +kernel) rfl (by decide)) <|
  mj_c1 (k_iloadn (k := 1) (by decide +kernel) rfl) <|
  mj_c1 (k_iloadn (k := 0) (by decide +kernel) rfl) <|
  mj_c1 (k_iconst (by decide +kernel)) <|
  mj_c1 (k_iushr (by decide +kernel)) <|
  mj_c1 (k_iadd (by decide +kernel)) <|
  mj_c1 (k_iret (by decide +kernel) rfl) mj_c0
def q_I_numberOfLeadingZeros : List (Nat × mj_Sem) := [(0, o_il 0 1), (1, o_ifgt 15 4), (4, o_il 0 5), (5, o_ifne 13 8), (8, o_ic 32 10), (10, o_goto 14), (13, o_ic 0 14), (14, o_iret 0 0), (15, o_ic 31 17), (17, o_is 1 18), (18, o_il 0 19), (19, o_ic 65536 22), (22, o_iclt 33 25), (25, o_inc 1 (-16) 28), (28, o_il 0 29), (29, o_ic 16 31), (31, o_iushr 32), (32, o_is 0 33), (33, o_il 0 34), (34, o_ic 256 37), (37, o_iclt 48 40), (40, o_inc 1 (-8) 43), (43, o_il 0 44), (44, o_ic 8 46), (46, o_iushr 47), (47, o_is 0 48), (48, o_il 0 49), (49, o_ic 16 51), (51, o_iclt 61 54), (54, o_inc 1 (-4) 57), (57, o_il 0 58), (58, o_ic 4 59), (59, o_iushr 60), (60, o_is 0 61), (61, o_il 0 62), (62, o_ic 4 63), (63, o_iclt 73 66), (66, o_inc 1 (-2) 69), (69, o_il 0 70), (70, o_ic 2 71), (71, o_iushr 72), (72, o_is 0 73), (73, o_il 1 74), (74, o_il 0 75), (75, o_ic 1 76), (76, o_iushr 77), (77, o_isub 78), (78, o_iret 0 0)]
set_option maxRecDepth 100000 in
theorem z_I_numberOfLeadingZeros : mj_Code (m_I_numberOfLeadingZeros) (q_I_numberOfLeadingZeros) :=
  mj_c1 (k_iloadn (k := 0) (by decide +kernel) rfl) <|
  mj_c1 (k_ifgt (off := 14) (by decide +kernel) (by decide)) <|
  mj_c1 (k_iloadn (k := 0) (by decide +kernel) rfl) <|
  mj_c1 (k_ifne (off := 8) (by decide +kernel) (by decide)) <|
  mj_c1 (k_bipush (by decide +kernel) (by decide)) <|
  mj_c1 (k_goto (off := 4) (by decide +kernel) (by decide)) <|
  mj_c1 (k_iconst (by decide +kernel)) <|
  mj_c1 (k_iret (by decide +kernel) rfl) <|
  mj_c1 (k_bipush (by decide +kernel) (by decide)) <|
  mj_c1 (k_istoren (k := 1) (by decide +kernel) rfl (by decide)) <|
  mj_c1 (k_iloadn (k := 0) (by decide +kernel) rfl) <|
  mj_c1 (k_ldcw (idx := 264) (by decide +kernel) w_623) <|
  mj_c1 (k_iclt (off := 11) (by decide +kernel) (by decide)) <|
  mj_c1 (k_iinc (by decide +kernel) (by decide)) <|
  mj_c1 (k_iloadn (k := 0) (by decide +kernel) rfl) <|
  mj_c1 (k_bipush (by decide +kernel) (by decide)) <|
  mj_c1 (k_iushr (by decide +kernel)) <|
  mj_c1 (k_istoren (k := 0) (by decide +kernel) rfl (by decide)) <|
  mj_c1 (k_iloadn (k := 0) (by decide +kernel) rfl) <|
  mj_c1 (k_sipush (by decide +kernel) (by decide)) <|
  mj_c1 (k_iclt (off := 11) (by decide +kernel) (by decide)) <|
  mj_c1 (k_iinc (by decide +kernel) (by decide)) <|
  mj_c1 (k_iloadn (k := 0) (by decide +kernel) rfl) <|
  mj_c1 (k_bipush (by decide +kernel) (by decide)) <|
  mj_c1 (k_iushr (by decide +kernel)) <|
  mj_c1 (k_istoren (k := 0) (by decide +kernel) rfl (by decide)) <|
  mj_c1 (k_iloadn (k := 0) (by decide +kernel) rfl) <|
  mj_c1 (k_bipush (by decide +kernel) (by decide)) <|
  mj_c1 (k_iclt (off := 10) (by decide +kernel) (by decide)) <|
  mj_c1 (k_iinc (by decide +kernel) (by decide)) <|
  mj_c1 (k_iloadn (k := 0) (by decide +kernel) rfl) <|
  mj_c1 (k_iconst (by decide +kernel)) <|
  mj_c1 (k_iushr (by decide +kernel)) <|
  mj_c1 (k_istoren (k := 0) (by decide +kernel) rfl (by decide)) <|
  mj_c1 (k_iloadn (k := 0) (by decide +kernel) rfl) <|
  mj_c1 (k_iconst (by decide +kernel)) <|
  mj_c1 (k_iclt (off := 10) (by decide +kernel) (by decide)) <|
  mj_c1 (k_iinc (by decide +kernel) (by decide)) <|
  mj_c1 (k_iloadn (k := 0) (by decide +kernel) rfl) <|
  mj_c1 (k_iconst (by decide +kernel)) <|
  mj_c1 (k_iushr (by decide +kernel)) <|
  mj_c1 (k_istoren (k := 0) (by decide +kernel) rfl (by decide)) <|
  mj_c1 (k_iloadn (k := 1) (by decide +kernel) rfl) <|
  mj_c1 (k_iloadn (k := 0) (by decide +kernel) rfl) <|
  mj_c1 (k_iconst (by decide +kernel)) <|
  mj_c1 (k_iushr (by decide +kernel)) <|
  mj_c1 (k_isub (by decide +kernel)) <|
  mj_c1 (k_iret (by decide +kernel) rfl) mj_c0
