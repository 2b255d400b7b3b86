def q_T_init : List (Nat × mj_Sem) := [(0, o_al 0 1), (1, o_oi 4), (4, o_al 0 5), (5, o_new 1 10 51 186751 8), (8, o_dup 9), (9, o_call m_C_init 1 51 186751 12 mj_ri), (12, o_pR 0 0 15), (15, o_al 0 16), (16, o_gR 0 0 19), (19, o_call m_C_settle 1 51 186751 22 (mj_rv 1)), (22, o_al 0 23), (23, o_new 1 10 51 186751 26), (26, o_dup 27), (27, o_call m_C_init 1 51 186751 30 mj_ri), (30, o_pR 0 1 33), (33, o_al 0 34), (34, o_gR 0 1 37), (37, o_call m_C_settle 1 51 186751 40 (mj_rv 1)), (40, o_al 0 41), (41, o_new 4 10 51 186751 44), (44, o_dup 45), (45, o_call m_R_init 1 51 186751 48 mj_ri), (48, o_pR 0 2 51), (51, o_al 0 52), (52, o_new 5 9 51 186751 55), (55, o_dup 56), (56, o_call m_W_init 1 51 186751 59 mj_ri), (59, o_pR 0 3 62), (62, o_retv 51 186751)]
set_option maxRecDepth 100000 in
theorem z_T_init : mj_Code (m_T_init) (q_T_init) :=
  mj_c1 (k_aloadn (k := 0) (by decide +kernel) rfl) <|
  mj_c1 (k_oi (idx := 3) (by decide +kernel) w_23 w_24 w_25 (by decide) (by decide)) <|
  mj_c1 (k_aloadn (k := 0) (by decide +kernel) rfl) <|
  mj_c1 (k_new (idx := 9) (by decide +kernel) h_C (by decide) w_26 w_27 w_2) <|
  mj_c1 (k_dup (by decide +kernel)) <|
  mj_c1 (k_callIN (idx := 11) (host := "CircuitTwin") (by decide +kernel) (fit_m_T_init_m_C_init) rfl (by decide) w_29 w_30 rfl (by decide) (by decide +kernel)) <|
  mj_c1 (k_pRF (idx := 12) h_T (by decide) rfl (Or.inl ⟨_, rfl⟩) w_299 rfl rfl rfl (by decide +kernel)) <|
  mj_c1 (k_aloadn (k := 0) (by decide +kernel) rfl) <|
  mj_c1 (k_gR (idx := 12) h_T (by decide) rfl w_299 (by decide +kernel)) <|
  mj_c1 (k_callV (idx := 16) (by decide +kernel) (fit_m_T_init_m_C_settle) rfl rfl w_155 w_156 w_157 (by decide) (by decide +kernel)) <|
  mj_c1 (k_aloadn (k := 0) (by decide +kernel) rfl) <|
  mj_c1 (k_new (idx := 9) (by decide +kernel) h_C (by decide) w_26 w_27 w_2) <|
  mj_c1 (k_dup (by decide +kernel)) <|
  mj_c1 (k_callIN (idx := 11) (host := "CircuitTwin") (by decide +kernel) (fit_m_T_init_m_C_init) rfl (by decide) w_29 w_30 rfl (by decide) (by decide +kernel)) <|
  mj_c1 (k_pRF (idx := 19) h_T (by decide) rfl (Or.inl ⟨_, rfl⟩) w_300 rfl rfl rfl (by decide +kernel)) <|
  mj_c1 (k_aloadn (k := 0) (by decide +kernel) rfl) <|
  mj_c1 (k_gR (idx := 19) h_T (by decide) rfl w_300 (by decide +kernel)) <|
  mj_c1 (k_callV (idx := 16) (by decide +kernel) (fit_m_T_init_m_C_settle) rfl rfl w_155 w_156 w_157 (by decide) (by decide +kernel)) <|
  mj_c1 (k_aloadn (k := 0) (by decide +kernel) rfl) <|
  mj_c1 (k_new (idx := 22) (by decide +kernel) h_R (by decide) w_204 w_205 w_5) <|
  mj_c1 (k_dup (by decide +kernel)) <|
  mj_c1 (k_callIN (idx := 24) (host := "CircuitTwin") (by decide +kernel) (fit_m_T_init_m_R_init) rfl (by decide) w_207 w_208 rfl (by decide) (by decide +kernel)) <|
  mj_c1 (k_pRF (idx := 25) h_T (by decide) rfl (Or.inl ⟨_, rfl⟩) w_301 rfl rfl rfl (by decide +kernel)) <|
  mj_c1 (k_aloadn (k := 0) (by decide +kernel) rfl) <|
  mj_c1 (k_new (idx := 29) (by decide +kernel) h_W (by decide) w_263 w_264 w_7) <|
  mj_c1 (k_dup (by decide +kernel)) <|
  mj_c1 (k_callIN (idx := 31) (host := "CircuitTwin") (by decide +kernel) (fit_m_T_init_m_W_init) rfl (by decide) w_266 w_267 rfl (by decide) (by decide +kernel)) <|
  mj_c1 (k_pRF (idx := 32) h_T (by decide) rfl (Or.inl ⟨_, rfl⟩) w_302 rfl rfl rfl (by decide +kernel)) <|
  mj_c1 (k_retv (by decide +kernel) rfl) mj_c0
def q_T_feed : List (Nat × mj_Sem) := [(0, o_il 1 1), (1, o_ic 1 2), (2, o_iclt 11 5), (5, o_il 1 6), (6, o_ic 8 8), (8, o_icle 21 11), (11, o_thr 0 2 12), (21, o_al 0 22), (22, o_gR 0 2 25), (25, o_gI 4 0 28), (28, o_il 1 29), (29, o_iadd 30), (30, o_ic 8192 33), (33, o_icle 46 36), (36, o_thr 1 2 12), (46, o_ic 0 47), (47, o_is 4 49), (49, o_il 4 51), (51, o_il 1 52), (52, o_icge 77 55), (55, o_al 0 56), (56, o_gR 0 2 59), (59, o_ll 2 60), (60, o_ic 8 62), (62, o_il 4 64), (64, o_imul 65), (65, o_lushr 66), (66, o_l2i 67), (67, o_i2b 68), (68, o_call m_R_append 2 2 12 71 (mj_rv 4)), (71, o_inc 4 1 74), (74, o_goto 49), (77, o_al 0 78), (78, o_gR 0 2 81), (81, o_gI 4 0 84), (84, o_iret 2 12)]
set_option maxRecDepth 100000 in
theorem z_T_feed : mj_Code (m_T_feed) (q_T_feed) :=
  mj_c1 (k_iloadn (k := 1) (by decide +kernel) rfl) <|
  mj_c1 (k_iconst (by decide +kernel)) <|
  mj_c1 (k_iclt (off := 9) (by decide +kernel) (by decide)) <|
  mj_c1 (k_iloadn (k := 1) (by decide +kernel) rfl) <|
  mj_c1 (k_bipush (by decide +kernel) (by decide)) <|
  mj_c1 (k_icle (off := 13) (by decide +kernel) (by decide)) <|
  mj_c1 (k_thr (ix := 36) (sx := 38) (ic := 40) (jx := 7) (X := "java/lang/IllegalArgumentException") (tx := "n is not 1 .. 8") (bytes := prog_10_method_2_code) (by decide +kernel) (by decide +kernel) (by decide +kernel) (by decide +kernel) (by decide +kernel) rfl (by decide) (by decide +kernel) (by decide +kernel) (by decide +kernel) (by decide +kernel) w_321 w_322 w_12 (by decide) thw_0 (by decide) (by decide) rfl) <|
  mj_c1 (k_aloadn (k := 0) (by decide +kernel) rfl) <|
  mj_c1 (k_gR (idx := 25) h_T (by decide) rfl w_301 (by decide +kernel)) <|
  mj_c1 (k_gI (idx := 43) h_R (by decide) rfl w_230 (by decide +kernel)) <|
  mj_c1 (k_iloadn (k := 1) (by decide +kernel) rfl) <|
  mj_c1 (k_iadd (by decide +kernel)) <|
  mj_c1 (k_sipush (by decide +kernel) (by decide)) <|
  mj_c1 (k_icle (off := 13) (by decide +kernel) (by decide)) <|
  mj_c1 (k_thr (ix := 47) (sx := 49) (ic := 51) (jx := 7) (X := "java/lang/IllegalStateException") (tx := "the tape would be too long") (bytes := prog_11_method_2_code) (by decide +kernel) (by decide +kernel) (by decide +kernel) (by decide +kernel) (by decide +kernel) rfl (by decide) (by decide +kernel) (by decide +kernel) (by decide +kernel) (by decide +kernel) w_388 w_389 w_13 (by decide) thw_1 (by decide) (by decide) rfl) <|
  mj_c1 (k_iconst (by decide +kernel)) <|
  mj_c1 (k_istore (by decide +kernel) (by decide)) <|
  mj_c1 (k_iload (by decide +kernel)) <|
  mj_c1 (k_iloadn (k := 1) (by decide +kernel) rfl) <|
  mj_c1 (k_icge (off := 25) (by decide +kernel) (by decide)) <|
  mj_c1 (k_aloadn (k := 0) (by decide +kernel) rfl) <|
  mj_c1 (k_gR (idx := 25) h_T (by decide) rfl w_301 (by decide +kernel)) <|
  mj_c1 (k_lloadn (k := 2) (by decide +kernel) rfl) <|
  mj_c1 (k_bipush (by decide +kernel) (by decide)) <|
  mj_c1 (k_iload (by decide +kernel)) <|
  mj_c1 (k_imul (by decide +kernel)) <|
  mj_c1 (k_lushr (by decide +kernel)) <|
  mj_c1 (k_l2i (by decide +kernel)) <|
  mj_c1 (k_i2b (by decide +kernel)) <|
  mj_c1 (k_callV (idx := 52) (by decide +kernel) (fit_m_T_feed_m_R_append) rfl rfl w_404 w_405 w_406 (by decide) (by decide +kernel)) <|
  mj_c1 (k_iinc (by decide +kernel) (by decide)) <|
  mj_c1 (k_goto (off := -25) (by decide +kernel) (by decide)) <|
  mj_c1 (k_aloadn (k := 0) (by decide +kernel) rfl) <|
  mj_c1 (k_gR (idx := 25) h_T (by decide) rfl w_301 (by decide +kernel)) <|
  mj_c1 (k_gI (idx := 43) h_R (by decide) rfl w_230 (by decide +kernel)) <|
  mj_c1 (k_iret (by decide +kernel) rfl) mj_c0
def q_T_load : List (Nat × mj_Sem) := [(0, o_al 0 1), (1, o_il 1 2), (2, o_call m_T_named 2 1 6 5 (mj_rv 0)), (5, o_as 2 6), (6, o_al 0 7), (7, o_gR 0 2 10), (10, o_call m_R_readTape 1 1 6 13 (mj_rv 4)), (13, o_al 2 14), (14, o_al 0 15), (15, o_gR 0 2 18), (18, o_gI 4 1 21), (21, o_pI 1 1 24), (24, o_al 2 25), (25, o_al 0 26), (26, o_gR 0 2 29), (29, o_gI 4 2 32), (32, o_pI 1 2 35), (35, o_al 0 36), (36, o_gR 0 2 39), (39, o_gI 4 1 42), (42, o_ifne 64 45), (45, o_al 2 46), (46, o_al 0 47), (47, o_gR 0 2 50), (50, o_al 2 51), (51, o_gR 1 0 54), (54, o_call m_R_exchangeNet 2 1 6 57 (mj_rv 4)), (57, o_pR 1 0 60), (60, o_al 2 61), (61, o_call m_C_settle 1 1 6 64 (mj_rv 1)), (64, o_al 0 65), (65, o_gR 0 2 68), (68, o_gI 4 1 71), (71, o_iret 1 6)]
set_option maxRecDepth 100000 in
theorem z_T_load : mj_Code (m_T_load) (q_T_load) :=
  mj_c1 (k_aloadn (k := 0) (by decide +kernel) rfl) <|
  mj_c1 (k_iloadn (k := 1) (by decide +kernel) rfl) <|
  mj_c1 (k_callV (idx := 56) (by decide +kernel) (fit_m_T_load_m_T_named) rfl rfl w_415 w_417 v_9 (by decide) (by decide +kernel)) <|
  mj_c1 (k_astoren (k := 2) (by decide +kernel) rfl (by decide)) <|
  mj_c1 (k_aloadn (k := 0) (by decide +kernel) rfl) <|
  mj_c1 (k_gR (idx := 25) h_T (by decide) rfl w_301 (by decide +kernel)) <|
  mj_c1 (k_callV (idx := 60) (by decide +kernel) (fit_m_T_load_m_R_readTape) rfl rfl w_420 w_421 w_422 (by decide) (by decide +kernel)) <|
  mj_c1 (k_aloadn (k := 2) (by decide +kernel) rfl) <|
  mj_c1 (k_aloadn (k := 0) (by decide +kernel) rfl) <|
  mj_c1 (k_gR (idx := 25) h_T (by decide) rfl w_301 (by decide +kernel)) <|
  mj_c1 (k_gI (idx := 63) h_R (by decide) rfl w_232 (by decide +kernel)) <|
  mj_c1 (k_pI (idx := 66) h_C (by decide) rfl rfl w_123 rfl (by decide +kernel)) <|
  mj_c1 (k_aloadn (k := 2) (by decide +kernel) rfl) <|
  mj_c1 (k_aloadn (k := 0) (by decide +kernel) rfl) <|
  mj_c1 (k_gR (idx := 25) h_T (by decide) rfl w_301 (by decide +kernel)) <|
  mj_c1 (k_gI (idx := 67) h_R (by decide) rfl w_234 (by decide +kernel)) <|
  mj_c1 (k_pI (idx := 70) h_C (by decide) rfl rfl w_124 rfl (by decide +kernel)) <|
  mj_c1 (k_aloadn (k := 0) (by decide +kernel) rfl) <|
  mj_c1 (k_gR (idx := 25) h_T (by decide) rfl w_301 (by decide +kernel)) <|
  mj_c1 (k_gI (idx := 63) h_R (by decide) rfl w_232 (by decide +kernel)) <|
  mj_c1 (k_ifne (off := 22) (by decide +kernel) (by decide)) <|
  mj_c1 (k_aloadn (k := 2) (by decide +kernel) rfl) <|
  mj_c1 (k_aloadn (k := 0) (by decide +kernel) rfl) <|
  mj_c1 (k_gR (idx := 25) h_T (by decide) rfl w_301 (by decide +kernel)) <|
  mj_c1 (k_aloadn (k := 2) (by decide +kernel) rfl) <|
  mj_c1 (k_gR (idx := 71) h_C (by decide) rfl w_122 (by decide +kernel)) <|
  mj_c1 (k_callV (idx := 75) (by decide +kernel) (fit_m_T_load_m_R_exchangeNet) rfl rfl w_546 w_547 w_548 (by decide) (by decide +kernel)) <|
  mj_c1 (k_pR (idx := 71) h_C (by decide) rfl (Or.inl ⟨_, rfl⟩) w_122 rfl (by decide +kernel)) <|
  mj_c1 (k_aloadn (k := 2) (by decide +kernel) rfl) <|
  mj_c1 (k_callV (idx := 16) (by decide +kernel) (fit_m_T_load_m_C_settle) rfl rfl w_155 w_156 w_157 (by decide) (by decide +kernel)) <|
  mj_c1 (k_aloadn (k := 0) (by decide +kernel) rfl) <|
  mj_c1 (k_gR (idx := 25) h_T (by decide) rfl w_301 (by decide +kernel)) <|
  mj_c1 (k_gI (idx := 63) h_R (by decide) rfl w_232 (by decide +kernel)) <|
  mj_c1 (k_iret (by decide +kernel) rfl) mj_c0
def q_T_named : List (Nat × mj_Sem) := [(0, o_il 1 1), (1, o_ifne 9 4), (4, o_al 0 5), (5, o_gR 0 0 8), (8, o_aret 1 6), (9, o_il 1 10), (10, o_ic 1 11), (11, o_icne 19 14), (14, o_al 0 15), (15, o_gR 0 1 18), (18, o_aret 1 6), (19, o_thr 0 1 6)]
set_option maxRecDepth 100000 in
theorem z_T_named : mj_Code (m_T_named) (q_T_named) :=
  mj_c1 (k_iloadn (k := 1) (by decide +kernel) rfl) <|
  mj_c1 (k_ifne (off := 8) (by decide +kernel) (by decide)) <|
  mj_c1 (k_aloadn (k := 0) (by decide +kernel) rfl) <|
  mj_c1 (k_gR (idx := 12) h_T (by decide) rfl w_299 (by decide +kernel)) <|
  mj_c1 (k_aret (by decide +kernel) rfl (Or.inl ⟨_, rfl⟩)) <|
  mj_c1 (k_iloadn (k := 1) (by decide +kernel) rfl) <|
  mj_c1 (k_iconst (by decide +kernel)) <|
  mj_c1 (k_icne (off := 8) (by decide +kernel) (by decide)) <|
  mj_c1 (k_aloadn (k := 0) (by decide +kernel) rfl) <|
  mj_c1 (k_gR (idx := 19) h_T (by decide) rfl w_300 (by decide +kernel)) <|
  mj_c1 (k_aret (by decide +kernel) rfl (Or.inl ⟨_, rfl⟩)) <|
  mj_c1 (k_thr (ix := 36) (sx := 174) (ic := 40) (jx := 7) (X := "java/lang/IllegalArgumentException") (tx := "no such circuit") (bytes := prog_10_method_2_code) (by decide +kernel) (by decide +kernel) (by decide +kernel) (by decide +kernel) (by decide +kernel) rfl (by decide) (by decide +kernel) (by decide +kernel) (by decide +kernel) (by decide +kernel) w_321 w_322 w_12 (by decide) thw_0 (by decide) (by decide) rfl) mj_c0
def q_T_literal : List (Nat × mj_Sem) := [(0, o_al 0 1), (1, o_il 1 2), (2, o_call m_T_named 2 2 12 5 (mj_rv 0)), (5, o_gR 1 0 8), (8, o_as 4 10), (10, o_il 2 11), (11, o_ifne 37 14), (14, o_il 3 15), (15, o_iflt 37 18), (18, o_il 3 19), (19, o_al 4 21), (21, o_gI 3 10 24), (24, o_icge 37 27), (27, o_al 4 29), (29, o_gR 3 1 32), (32, o_ic 1 33), (33, o_il 3 34), (34, o_iadd 35), (35, o_ial 36), (36, o_iret 2 12), (37, o_il 2 38), (38, o_ic 1 39), (39, o_icne 71 42), (42, o_il 3 43), (43, o_iflt 71 46), (46, o_il 3 47), (47, o_al 4 49), (49, o_gI 3 11 52), (52, o_icge 71 55), (55, o_al 4 57), (57, o_gR 3 1 60), (60, o_ic 1 61), (61, o_al 4 63), (63, o_gI 3 10 66), (66, o_iadd 67), (67, o_il 3 68), (68, o_iadd 69), (69, o_ial 70), (70, o_iret 2 12), (71, o_il 2 72), (72, o_ic 2 73), (73, o_icne 97 76), (76, o_il 3 77), (77, o_iflt 97 80), (80, o_il 3 81), (81, o_al 4 83), (83, o_gI 3 12 86), (86, o_icge 97 89), (89, o_al 4 91), (91, o_gR 3 4 94), (94, o_il 3 95), (95, o_ial 96), (96, o_iret 2 12), (97, o_thr 2 2 12)]
set_option maxRecDepth 100000 in
theorem z_T_literal : mj_Code (m_T_literal) (q_T_literal) :=
  mj_c1 (k_aloadn (k := 0) (by decide +kernel) rfl) <|
  mj_c1 (k_iloadn (k := 1) (by decide +kernel) rfl) <|
  mj_c1 (k_callV (idx := 56) (by decide +kernel) (fit_m_T_literal_m_T_named) rfl rfl w_415 w_417 v_9 (by decide) (by decide +kernel)) <|
  mj_c1 (k_gR (idx := 71) h_C (by decide) rfl w_122 (by decide +kernel)) <|
  mj_c1 (k_astore (by decide +kernel) (by decide)) <|
  mj_c1 (k_iloadn (k := 2) (by decide +kernel) rfl) <|
  mj_c1 (k_ifne (off := 26) (by decide +kernel) (by decide)) <|
  mj_c1 (k_iloadn (k := 3) (by decide +kernel) rfl) <|
  mj_c1 (k_iflt (off := 22) (by decide +kernel) (by decide)) <|
  mj_c1 (k_iloadn (k := 3) (by decide +kernel) rfl) <|
  mj_c1 (k_aload (by decide +kernel)) <|
  mj_c1 (k_gI (idx := 79) h_N (by decide) rfl w_80 (by decide +kernel)) <|
  mj_c1 (k_icge (off := 13) (by decide +kernel) (by decide)) <|
  mj_c1 (k_aload (by decide +kernel)) <|
  mj_c1 (k_gR (idx := 84) h_N (by decide) rfl w_49 (by decide +kernel)) <|
  mj_c1 (k_iconst (by decide +kernel)) <|
  mj_c1 (k_iloadn (k := 3) (by decide +kernel) rfl) <|
  mj_c1 (k_iadd (by decide +kernel)) <|
  mj_c1 (k_ial (by decide +kernel)) <|
  mj_c1 (k_iret (by decide +kernel) rfl) <|
  mj_c1 (k_iloadn (k := 2) (by decide +kernel) rfl) <|
  mj_c1 (k_iconst (by decide +kernel)) <|
  mj_c1 (k_icne (off := 32) (by decide +kernel) (by decide)) <|
  mj_c1 (k_iloadn (k := 3) (by decide +kernel) rfl) <|
  mj_c1 (k_iflt (off := 28) (by decide +kernel) (by decide)) <|
  mj_c1 (k_iloadn (k := 3) (by decide +kernel) rfl) <|
  mj_c1 (k_aload (by decide +kernel)) <|
  mj_c1 (k_gI (idx := 88) h_N (by decide) rfl w_84 (by decide +kernel)) <|
  mj_c1 (k_icge (off := 19) (by decide +kernel) (by decide)) <|
  mj_c1 (k_aload (by decide +kernel)) <|
  mj_c1 (k_gR (idx := 84) h_N (by decide) rfl w_49 (by decide +kernel)) <|
  mj_c1 (k_iconst (by decide +kernel)) <|
  mj_c1 (k_aload (by decide +kernel)) <|
  mj_c1 (k_gI (idx := 79) h_N (by decide) rfl w_80 (by decide +kernel)) <|
  mj_c1 (k_iadd (by decide +kernel)) <|
  mj_c1 (k_iloadn (k := 3) (by decide +kernel) rfl) <|
  mj_c1 (k_iadd (by decide +kernel)) <|
  mj_c1 (k_ial (by decide +kernel)) <|
  mj_c1 (k_iret (by decide +kernel) rfl) <|
  mj_c1 (k_iloadn (k := 2) (by decide +kernel) rfl) <|
  mj_c1 (k_iconst (by decide +kernel)) <|
  mj_c1 (k_icne (off := 24) (by decide +kernel) (by decide)) <|
  mj_c1 (k_iloadn (k := 3) (by decide +kernel) rfl) <|
  mj_c1 (k_iflt (off := 20) (by decide +kernel) (by decide)) <|
  mj_c1 (k_iloadn (k := 3) (by decide +kernel) rfl) <|
  mj_c1 (k_aload (by decide +kernel)) <|
  mj_c1 (k_gI (idx := 91) h_N (by decide) rfl w_88 (by decide +kernel)) <|
  mj_c1 (k_icge (off := 11) (by decide +kernel) (by decide)) <|
  mj_c1 (k_aload (by decide +kernel)) <|
  mj_c1 (k_gR (idx := 94) h_N (by decide) rfl w_62 (by decide +kernel)) <|
  mj_c1 (k_iloadn (k := 3) (by decide +kernel) rfl) <|
  mj_c1 (k_ial (by decide +kernel)) <|
  mj_c1 (k_iret (by decide +kernel) rfl) <|
  mj_c1 (k_thr (ix := 97) (sx := 99) (ic := 101) (jx := 13) (X := "java/util/NoSuchElementException") (tx := "no such input, gate or output") (bytes := prog_19_method_4_code) (by decide +kernel) (by decide +kernel) (by decide +kernel) (by decide +kernel) (by decide +kernel) rfl (by decide) (by decide +kernel) (by decide +kernel) (by decide +kernel) (by decide +kernel) w_558 w_559 w_15 (by decide) thw_2 (by decide) (by decide) rfl) mj_c0
def q_T_value : List (Nat × mj_Sem) := [(0, o_al 0 1), (1, o_il 1 2), (2, o_call m_T_named 2 3 18 5 (mj_rv 0)), (5, o_as 4 7), (7, o_al 4 9), (9, o_il 2 10), (10, o_call m_T_requireStanding 2 3 18 13 mj_rs), (13, o_al 4 15), (15, o_il 3 16), (16, o_call m_T_requireVector 2 3 18 19 mj_rs), (19, o_al 4 21), (21, o_il 2 22), (22, o_il 3 23), (23, o_call m_C_bitAt 3 3 18 26 (mj_rv 1)), (26, o_iret 3 18)]
set_option maxRecDepth 100000 in
theorem z_T_value : mj_Code (m_T_value) (q_T_value) :=
  mj_c1 (k_aloadn (k := 0) (by decide +kernel) rfl) <|
  mj_c1 (k_iloadn (k := 1) (by decide +kernel) rfl) <|
  mj_c1 (k_callV (idx := 56) (by decide +kernel) (fit_m_T_value_m_T_named) rfl rfl w_415 w_417 v_9 (by decide) (by decide +kernel)) <|
  mj_c1 (k_astore (by decide +kernel) (by decide)) <|
  mj_c1 (k_aload (by decide +kernel)) <|
  mj_c1 (k_iloadn (k := 2) (by decide +kernel) rfl) <|
  mj_c1 (k_callS (idx := 102) (by decide +kernel) (fit_m_T_value_m_T_requireStanding) rfl w_581 w_582 (by decide) (by decide +kernel)) <|
  mj_c1 (k_aload (by decide +kernel)) <|
  mj_c1 (k_iloadn (k := 3) (by decide +kernel) rfl) <|
  mj_c1 (k_callS (idx := 106) (by decide +kernel) (fit_m_T_value_m_T_requireVector) rfl w_589 w_590 (by decide) (by decide +kernel)) <|
  mj_c1 (k_aload (by decide +kernel)) <|
  mj_c1 (k_iloadn (k := 2) (by decide +kernel) rfl) <|
  mj_c1 (k_iloadn (k := 3) (by decide +kernel) rfl) <|
  mj_c1 (k_callV (idx := 109) (by decide +kernel) (fit_m_T_value_m_C_bitAt) rfl rfl w_593 w_594 w_595 (by decide) (by decide +kernel)) <|
  mj_c1 (k_iret (by decide +kernel) rfl) mj_c0
def q_T_requireStanding : List (Nat × mj_Sem) := [(0, o_al 0 1), (1, o_gR 1 0 4), (4, o_il 1 5), (5, o_call m_N_stands 2 1 6 8 (mj_rv 3)), (8, o_ifne 21 11), (11, o_thr 0 1 6), (21, o_retv 1 6)]
set_option maxRecDepth 100000 in
theorem z_T_requireStanding : mj_Code (m_T_requireStanding) (q_T_requireStanding) :=
  mj_c1 (k_aloadn (k := 0) (by decide +kernel) rfl) <|
  mj_c1 (k_gR (idx := 71) h_C (by decide) rfl w_122 (by decide +kernel)) <|
  mj_c1 (k_iloadn (k := 1) (by decide +kernel) rfl) <|
  mj_c1 (k_callV (idx := 176) (by decide +kernel) (fit_m_T_requireStanding_m_N_stands) rfl rfl w_584 w_585 w_586 (by decide) (by decide +kernel)) <|
  mj_c1 (k_ifne (off := 13) (by decide +kernel) (by decide)) <|
  mj_c1 (k_thr (ix := 36) (sx := 180) (ic := 40) (jx := 7) (X := "java/lang/IllegalArgumentException") (tx := "no such literal") (bytes := prog_10_method_2_code) (by decide +kernel) (by decide +kernel) (by decide +kernel) (by decide +kernel) (by decide +kernel) rfl (by decide) (by decide +kernel) (by decide +kernel) (by decide +kernel) (by decide +kernel) w_321 w_322 w_12 (by decide) thw_0 (by decide) (by decide) rfl) <|
  mj_c1 (k_retv (by decide +kernel) rfl) mj_c0
def q_T_requireVector : List (Nat × mj_Sem) := [(0, o_il 1 1), (1, o_iflt 17 4), (4, o_il 1 5), (5, o_ic 1 6), (6, o_al 0 7), (7, o_gR 1 0 10), (10, o_gI 3 10 13), (13, o_ishl 14), (14, o_iclt 27 17), (17, o_thr 0 1 6), (27, o_retv 1 6)]
set_option maxRecDepth 100000 in
theorem z_T_requireVector : mj_Code (m_T_requireVector) (q_T_requireVector) :=
  mj_c1 (k_iloadn (k := 1) (by decide +kernel) rfl) <|
  mj_c1 (k_iflt (off := 16) (by decide +kernel) (by decide)) <|
  mj_c1 (k_iloadn (k := 1) (by decide +kernel) rfl) <|
  mj_c1 (k_iconst (by decide +kernel)) <|
  mj_c1 (k_aloadn (k := 0) (by decide +kernel) rfl) <|
  mj_c1 (k_gR (idx := 71) h_C (by decide) rfl w_122 (by decide +kernel)) <|
  mj_c1 (k_gI (idx := 79) h_N (by decide) rfl w_80 (by decide +kernel)) <|
  mj_c1 (k_ishl (by decide +kernel)) <|
  mj_c1 (k_iclt (off := 13) (by decide +kernel) (by decide)) <|
  mj_c1 (k_thr (ix := 36) (sx := 182) (ic := 40) (jx := 7) (X := "java/lang/IllegalArgumentException") (tx := "no such vector") (bytes := prog_10_method_2_code) (by decide +kernel) (by decide +kernel) (by decide +kernel) (by decide +kernel) (by decide +kernel) rfl (by decide) (by decide +kernel) (by decide +kernel) (by decide +kernel) (by decide +kernel) w_321 w_322 w_12 (by decide) thw_0 (by decide) (by decide) rfl) <|
  mj_c1 (k_retv (by decide +kernel) rfl) mj_c0
def q_T_compare : List (Nat × mj_Sem) := [(0, o_al 0 1), (1, o_call m_T_requireMatch 1 1 6 4 (mj_rv 0)), (4, o_al 0 5), (5, o_gR 0 0 8), (8, o_gR 1 0 11), (11, o_gI 3 12 14), (14, o_al 0 15), (15, o_gR 0 1 18), (18, o_gR 1 0 21), (21, o_gI 3 12 24), (24, o_iceq 30 27), (27, o_ic (-2) 29), (29, o_iret 1 6), (30, o_ic 0 31), (31, o_is 1 32), (32, o_il 1 33), (33, o_al 0 34), (34, o_gR 0 0 37), (37, o_gR 1 0 40), (40, o_gI 3 12 43), (43, o_icge 62 46), (46, o_al 0 47), (47, o_il 1 48), (48, o_call m_T_leastDifference 2 1 6 51 (mj_rv 0)), (51, o_iflt 56 54), (54, o_il 1 55), (55, o_iret 1 6), (56, o_inc 1 1 59), (59, o_goto 32), (62, o_ic (-1) 63), (63, o_iret 1 6)]
set_option maxRecDepth 100000 in
theorem z_T_compare : mj_Code (m_T_compare) (q_T_compare) :=
  mj_c1 (k_aloadn (k := 0) (by decide +kernel) rfl) <|
  mj_c1 (k_callV (idx := 113) (by decide +kernel) (fit_m_T_compare_m_T_requireMatch) rfl rfl w_604 w_606 v_31 (by decide) (by decide +kernel)) <|
  mj_c1 (k_aloadn (k := 0) (by decide +kernel) rfl) <|
  mj_c1 (k_gR (idx := 12) h_T (by decide) rfl w_299 (by decide +kernel)) <|
  mj_c1 (k_gR (idx := 71) h_C (by decide) rfl w_122 (by decide +kernel)) <|
  mj_c1 (k_gI (idx := 91) h_N (by decide) rfl w_88 (by decide +kernel)) <|
  mj_c1 (k_aloadn (k := 0) (by decide +kernel) rfl) <|
  mj_c1 (k_gR (idx := 19) h_T (by decide) rfl w_300 (by decide +kernel)) <|
  mj_c1 (k_gR (idx := 71) h_C (by decide) rfl w_122 (by decide +kernel)) <|
  mj_c1 (k_gI (idx := 91) h_N (by decide) rfl w_88 (by decide +kernel)) <|
  mj_c1 (k_iceq (off := 6) (by decide +kernel) (by decide)) <|
  mj_c1 (k_bipush (by decide +kernel) (by decide)) <|
  mj_c1 (k_iret (by decide +kernel) rfl) <|
  mj_c1 (k_iconst (by decide +kernel)) <|
  mj_c1 (k_istoren (k := 1) (by decide +kernel) rfl (by decide)) <|
  mj_c1 (k_iloadn (k := 1) (by decide +kernel) rfl) <|
  mj_c1 (k_aloadn (k := 0) (by decide +kernel) rfl) <|
  mj_c1 (k_gR (idx := 12) h_T (by decide) rfl w_299 (by decide +kernel)) <|
  mj_c1 (k_gR (idx := 71) h_C (by decide) rfl w_122 (by decide +kernel)) <|
  mj_c1 (k_gI (idx := 91) h_N (by decide) rfl w_88 (by decide +kernel)) <|
  mj_c1 (k_icge (off := 19) (by decide +kernel) (by decide)) <|
  mj_c1 (k_aloadn (k := 0) (by decide +kernel) rfl) <|
  mj_c1 (k_iloadn (k := 1) (by decide +kernel) rfl) <|
  mj_c1 (k_callV (idx := 116) (by decide +kernel) (fit_m_T_compare_m_T_leastDifference) rfl rfl w_609 w_611 v_32 (by decide) (by decide +kernel)) <|
  mj_c1 (k_iflt (off := 5) (by decide +kernel) (by decide)) <|
  mj_c1 (k_iloadn (k := 1) (by decide +kernel) rfl) <|
  mj_c1 (k_iret (by decide +kernel) rfl) <|
  mj_c1 (k_iinc (by decide +kernel) (by decide)) <|
  mj_c1 (k_goto (off := -27) (by decide +kernel) (by decide)) <|
  mj_c1 (k_iconst (by decide +kernel)) <|
  mj_c1 (k_iret (by decide +kernel) rfl) mj_c0
def q_T_requireMatch : List (Nat × mj_Sem) := [(0, o_al 0 1), (1, o_gR 0 0 4), (4, o_gR 1 0 7), (7, o_gI 3 10 10), (10, o_al 0 11), (11, o_gR 0 1 14), (14, o_gR 1 0 17), (17, o_gI 3 10 20), (20, o_iceq 33 23), (23, o_thr 1 1 6), (33, o_retv 1 6)]
set_option maxRecDepth 100000 in
theorem z_T_requireMatch : mj_Code (m_T_requireMatch) (q_T_requireMatch) :=
  mj_c1 (k_aloadn (k := 0) (by decide +kernel) rfl) <|
  mj_c1 (k_gR (idx := 12) h_T (by decide) rfl w_299 (by decide +kernel)) <|
  mj_c1 (k_gR (idx := 71) h_C (by decide) rfl w_122 (by decide +kernel)) <|
  mj_c1 (k_gI (idx := 79) h_N (by decide) rfl w_80 (by decide +kernel)) <|
  mj_c1 (k_aloadn (k := 0) (by decide +kernel) rfl) <|
  mj_c1 (k_gR (idx := 19) h_T (by decide) rfl w_300 (by decide +kernel)) <|
  mj_c1 (k_gR (idx := 71) h_C (by decide) rfl w_122 (by decide +kernel)) <|
  mj_c1 (k_gI (idx := 79) h_N (by decide) rfl w_80 (by decide +kernel)) <|
  mj_c1 (k_iceq (off := 13) (by decide +kernel) (by decide)) <|
  mj_c1 (k_thr (ix := 47) (sx := 186) (ic := 51) (jx := 7) (X := "java/lang/IllegalStateException") (tx := "the circuits do not match") (bytes := prog_11_method_2_code) (by decide +kernel) (by decide +kernel) (by decide +kernel) (by decide +kernel) (by decide +kernel) rfl (by decide) (by decide +kernel) (by decide +kernel) (by decide +kernel) (by decide +kernel) w_388 w_389 w_13 (by decide) thw_1 (by decide) (by decide) rfl) <|
  mj_c1 (k_retv (by decide +kernel) rfl) mj_c0
def q_T_leastDifference : List (Nat × mj_Sem) := [(0, o_al 0 1), (1, o_gR 0 0 4), (4, o_al 0 5), (5, o_gR 0 0 8), (8, o_gR 1 0 11), (11, o_gR 3 4 14), (14, o_il 1 15), (15, o_ial 16), (16, o_al 0 17), (17, o_gR 0 1 20), (20, o_al 0 21), (21, o_gR 0 1 24), (24, o_gR 1 0 27), (27, o_gR 3 4 30), (30, o_il 1 31), (31, o_ial 32), (32, o_call m_C_firstDifference 4 0 0 35 (mj_rv 1)), (35, o_iret 0 0)]
set_option maxRecDepth 100000 in
theorem z_T_leastDifference : mj_Code (m_T_leastDifference) (q_T_leastDifference) :=
  mj_c1 (k_aloadn (k := 0) (by decide +kernel) rfl) <|
  mj_c1 (k_gR (idx := 12) h_T (by decide) rfl w_299 (by decide +kernel)) <|
  mj_c1 (k_aloadn (k := 0) (by decide +kernel) rfl) <|
  mj_c1 (k_gR (idx := 12) h_T (by decide) rfl w_299 (by decide +kernel)) <|
  mj_c1 (k_gR (idx := 71) h_C (by decide) rfl w_122 (by decide +kernel)) <|
  mj_c1 (k_gR (idx := 94) h_N (by decide) rfl w_62 (by decide +kernel)) <|
  mj_c1 (k_iloadn (k := 1) (by decide +kernel) rfl) <|
  mj_c1 (k_ial (by decide +kernel)) <|
  mj_c1 (k_aloadn (k := 0) (by decide +kernel) rfl) <|
  mj_c1 (k_gR (idx := 19) h_T (by decide) rfl w_300 (by decide +kernel)) <|
  mj_c1 (k_aloadn (k := 0) (by decide +kernel) rfl) <|
  mj_c1 (k_gR (idx := 19) h_T (by decide) rfl w_300 (by decide +kernel)) <|
  mj_c1 (k_gR (idx := 71) h_C (by decide) rfl w_122 (by decide +kernel)) <|
  mj_c1 (k_gR (idx := 94) h_N (by decide) rfl w_62 (by decide +kernel)) <|
  mj_c1 (k_iloadn (k := 1) (by decide +kernel) rfl) <|
  mj_c1 (k_ial (by decide +kernel)) <|
  mj_c1 (k_callV (idx := 188) (by decide +kernel) (fit_m_T_leastDifference_m_C_firstDifference) rfl rfl w_613 w_614 w_615 (by decide) (by decide +kernel)) <|
  mj_c1 (k_iret (by decide +kernel) rfl) mj_c0
def q_T_witness : List (Nat × mj_Sem) := [(0, o_al 0 1), (1, o_call m_T_requireMatch 1 2 12 4 (mj_rv 0)), (4, o_il 1 5), (5, o_iflt 36 8), (8, o_il 1 9), (9, o_al 0 10), (10, o_gR 0 0 13), (13, o_gR 1 0 16), (16, o_gI 3 12 19), (19, o_icge 36 22), (22, o_il 1 23), (23, o_al 0 24), (24, o_gR 0 1 27), (27, o_gR 1 0 30), (30, o_gI 3 12 33), (33, o_iclt 46 36), (36, o_thr 2 2 12), (46, o_al 0 47), (47, o_il 1 48), (48, o_call m_T_leastDifference 2 2 12 51 (mj_rv 0)), (51, o_iret 2 12)]
set_option maxRecDepth 100000 in
theorem z_T_witness : mj_Code (m_T_witness) (q_T_witness) :=
  mj_c1 (k_aloadn (k := 0) (by decide +kernel) rfl) <|
  mj_c1 (k_callV (idx := 113) (by decide +kernel) (fit_m_T_witness_m_T_requireMatch) rfl rfl w_604 w_606 v_31 (by decide) (by decide +kernel)) <|
  mj_c1 (k_iloadn (k := 1) (by decide +kernel) rfl) <|
  mj_c1 (k_iflt (off := 31) (by decide +kernel) (by decide)) <|
  mj_c1 (k_iloadn (k := 1) (by decide +kernel) rfl) <|
  mj_c1 (k_aloadn (k := 0) (by decide +kernel) rfl) <|
  mj_c1 (k_gR (idx := 12) h_T (by decide) rfl w_299 (by decide +kernel)) <|
  mj_c1 (k_gR (idx := 71) h_C (by decide) rfl w_122 (by decide +kernel)) <|
  mj_c1 (k_gI (idx := 91) h_N (by decide) rfl w_88 (by decide +kernel)) <|
  mj_c1 (k_icge (off := 17) (by decide +kernel) (by decide)) <|
  mj_c1 (k_iloadn (k := 1) (by decide +kernel) rfl) <|
  mj_c1 (k_aloadn (k := 0) (by decide +kernel) rfl) <|
  mj_c1 (k_gR (idx := 19) h_T (by decide) rfl w_300 (by decide +kernel)) <|
  mj_c1 (k_gR (idx := 71) h_C (by decide) rfl w_122 (by decide +kernel)) <|
  mj_c1 (k_gI (idx := 91) h_N (by decide) rfl w_88 (by decide +kernel)) <|
  mj_c1 (k_iclt (off := 13) (by decide +kernel) (by decide)) <|
  mj_c1 (k_thr (ix := 97) (sx := 120) (ic := 101) (jx := 13) (X := "java/util/NoSuchElementException") (tx := "not both have this output") (bytes := prog_19_method_4_code) (by decide +kernel) (by decide +kernel) (by decide +kernel) (by decide +kernel) (by decide +kernel) rfl (by decide) (by decide +kernel) (by decide +kernel) (by decide +kernel) (by decide +kernel) w_558 w_559 w_15 (by decide) thw_2 (by decide) (by decide) rfl) <|
  mj_c1 (k_aloadn (k := 0) (by decide +kernel) rfl) <|
  mj_c1 (k_iloadn (k := 1) (by decide +kernel) rfl) <|
  mj_c1 (k_callV (idx := 116) (by decide +kernel) (fit_m_T_witness_m_T_leastDifference) rfl rfl w_609 w_611 v_32 (by decide) (by decide +kernel)) <|
  mj_c1 (k_iret (by decide +kernel) rfl) mj_c0
def q_T_least : List (Nat × mj_Sem) := [(0, o_al 0 1), (1, o_il 1 2), (2, o_call m_T_named 2 3 18 5 (mj_rv 0)), (5, o_as 4 7), (7, o_al 4 9), (9, o_il 2 10), (10, o_call m_T_requireStanding 2 3 18 13 mj_rs), (13, o_al 4 15), (15, o_il 3 16), (16, o_call m_T_requireVector 2 3 18 19 mj_rs), (19, o_al 4 21), (21, o_il 2 22), (22, o_il 3 23), (23, o_call m_C_firstOne 3 3 18 26 (mj_rv 1)), (26, o_iret 3 18)]
set_option maxRecDepth 100000 in
theorem z_T_least : mj_Code (m_T_least) (q_T_least) :=
  mj_c1 (k_aloadn (k := 0) (by decide +kernel) rfl) <|
  mj_c1 (k_iloadn (k := 1) (by decide +kernel) rfl) <|
  mj_c1 (k_callV (idx := 56) (by decide +kernel) (fit_m_T_least_m_T_named) rfl rfl w_415 w_417 v_9 (by decide) (by decide +kernel)) <|
  mj_c1 (k_astore (by decide +kernel) (by decide)) <|
  mj_c1 (k_aload (by decide +kernel)) <|
  mj_c1 (k_iloadn (k := 2) (by decide +kernel) rfl) <|
  mj_c1 (k_callS (idx := 102) (by decide +kernel) (fit_m_T_least_m_T_requireStanding) rfl w_581 w_582 (by decide) (by decide +kernel)) <|
  mj_c1 (k_aload (by decide +kernel)) <|
  mj_c1 (k_iloadn (k := 3) (by decide +kernel) rfl) <|
  mj_c1 (k_callS (idx := 106) (by decide +kernel) (fit_m_T_least_m_T_requireVector) rfl w_589 w_590 (by decide) (by decide +kernel)) <|
  mj_c1 (k_aload (by decide +kernel)) <|
  mj_c1 (k_iloadn (k := 2) (by decide +kernel) rfl) <|
  mj_c1 (k_iloadn (k := 3) (by decide +kernel) rfl) <|
  mj_c1 (k_callV (idx := 122) (by decide +kernel) (fit_m_T_least_m_C_firstOne) rfl rfl w_639 w_640 w_641 (by decide) (by decide +kernel)) <|
  mj_c1 (k_iret (by decide +kernel) rfl) mj_c0
def q_T_greatest : List (Nat × mj_Sem) := [(0, o_al 0 1), (1, o_il 1 2), (2, o_call m_T_named 2 2 12 5 (mj_rv 0)), (5, o_as 3 6), (6, o_al 3 7), (7, o_il 2 8), (8, o_call m_T_requireStanding 2 2 12 11 mj_rs), (11, o_al 3 12), (12, o_il 2 13), (13, o_call m_C_lastOne 2 2 12 16 (mj_rv 1)), (16, o_iret 2 12)]
set_option maxRecDepth 100000 in
theorem z_T_greatest : mj_Code (m_T_greatest) (q_T_greatest) :=
  mj_c1 (k_aloadn (k := 0) (by decide +kernel) rfl) <|
  mj_c1 (k_iloadn (k := 1) (by decide +kernel) rfl) <|
  mj_c1 (k_callV (idx := 56) (by decide +kernel) (fit_m_T_greatest_m_T_named) rfl rfl w_415 w_417 v_9 (by decide) (by decide +kernel)) <|
  mj_c1 (k_astoren (k := 3) (by decide +kernel) rfl (by decide)) <|
  mj_c1 (k_aloadn (k := 3) (by decide +kernel) rfl) <|
  mj_c1 (k_iloadn (k := 2) (by decide +kernel) rfl) <|
  mj_c1 (k_callS (idx := 102) (by decide +kernel) (fit_m_T_greatest_m_T_requireStanding) rfl w_581 w_582 (by decide) (by decide +kernel)) <|
  mj_c1 (k_aloadn (k := 3) (by decide +kernel) rfl) <|
  mj_c1 (k_iloadn (k := 2) (by decide +kernel) rfl) <|
  mj_c1 (k_callV (idx := 125) (by decide +kernel) (fit_m_T_greatest_m_C_lastOne) rfl rfl w_650 w_651 w_652 (by decide) (by decide +kernel)) <|
  mj_c1 (k_iret (by decide +kernel) rfl) mj_c0
def q_T_same : List (Nat × mj_Sem) := [(0, o_al 0 1), (1, o_gR 0 0 4), (4, o_il 1 5), (5, o_call m_T_requireStanding 2 3 18 8 mj_rs), (8, o_al 0 9), (9, o_gR 0 1 12), (12, o_il 2 13), (13, o_call m_T_requireStanding 2 3 18 16 mj_rs), (16, o_al 0 17), (17, o_call m_T_requireMatch 1 3 18 20 (mj_rv 0)), (20, o_al 0 21), (21, o_gR 0 0 24), (24, o_gR 1 0 27), (27, o_il 1 28), (28, o_call m_N_slotFor 2 3 18 31 (mj_rv 3)), (31, o_is 3 32), (32, o_al 0 33), (33, o_gR 0 1 36), (36, o_gR 1 0 39), (39, o_il 2 40), (40, o_call m_N_slotFor 2 3 18 43 (mj_rv 3)), (43, o_is 4 45), (45, o_al 0 46), (46, o_gR 0 0 49), (49, o_il 3 50), (50, o_al 0 51), (51, o_gR 0 1 54), (54, o_il 4 56), (56, o_call m_C_isSameOrInverse 4 3 18 59 (mj_rv 1)), (59, o_ifne 64 62), (62, o_ic 0 63), (63, o_iret 3 18), (64, o_al 0 65), (65, o_gR 0 0 68), (68, o_il 1 69), (69, o_ic 0 70), (70, o_call m_C_bitAt 3 3 18 73 (mj_rv 1)), (73, o_al 0 74), (74, o_gR 0 1 77), (77, o_il 2 78), (78, o_ic 0 79), (79, o_call m_C_bitAt 3 3 18 82 (mj_rv 1)), (82, o_icne 89 85), (85, o_ic 1 86), (86, o_goto 90), (89, o_ic (-1) 90), (90, o_iret 3 18)]
set_option maxRecDepth 100000 in
theorem z_T_same : mj_Code (m_T_same) (q_T_same) :=
  mj_c1 (k_aloadn (k := 0) (by decide +kernel) rfl) <|
  mj_c1 (k_gR (idx := 12) h_T (by decide) rfl w_299 (by decide +kernel)) <|
  mj_c1 (k_iloadn (k := 1) (by decide +kernel) rfl) <|
  mj_c1 (k_callS (idx := 102) (by decide +kernel) (fit_m_T_same_m_T_requireStanding) rfl w_581 w_582 (by decide) (by decide +kernel)) <|
  mj_c1 (k_aloadn (k := 0) (by decide +kernel) rfl) <|
  mj_c1 (k_gR (idx := 19) h_T (by decide) rfl w_300 (by decide +kernel)) <|
  mj_c1 (k_iloadn (k := 2) (by decide +kernel) rfl) <|
  mj_c1 (k_callS (idx := 102) (by decide +kernel) (fit_m_T_same_m_T_requireStanding) rfl w_581 w_582 (by decide) (by decide +kernel)) <|
  mj_c1 (k_aloadn (k := 0) (by decide +kernel) rfl) <|
  mj_c1 (k_callV (idx := 113) (by decide +kernel) (fit_m_T_same_m_T_requireMatch) rfl rfl w_604 w_606 v_31 (by decide) (by decide +kernel)) <|
  mj_c1 (k_aloadn (k := 0) (by decide +kernel) rfl) <|
  mj_c1 (k_gR (idx := 12) h_T (by decide) rfl w_299 (by decide +kernel)) <|
  mj_c1 (k_gR (idx := 71) h_C (by decide) rfl w_122 (by decide +kernel)) <|
  mj_c1 (k_iloadn (k := 1) (by decide +kernel) rfl) <|
  mj_c1 (k_callV (idx := 128) (by decide +kernel) (fit_m_T_same_m_N_slotFor) rfl rfl w_667 w_197 w_198 (by decide) (by decide +kernel)) <|
  mj_c1 (k_istoren (k := 3) (by decide +kernel) rfl (by decide)) <|
  mj_c1 (k_aloadn (k := 0) (by decide +kernel) rfl) <|
  mj_c1 (k_gR (idx := 19) h_T (by decide) rfl w_300 (by decide +kernel)) <|
  mj_c1 (k_gR (idx := 71) h_C (by decide) rfl w_122 (by decide +kernel)) <|
  mj_c1 (k_iloadn (k := 2) (by decide +kernel) rfl) <|
  mj_c1 (k_callV (idx := 128) (by decide +kernel) (fit_m_T_same_m_N_slotFor) rfl rfl w_667 w_197 w_198 (by decide) (by decide +kernel)) <|
  mj_c1 (k_istore (by decide +kernel) (by decide)) <|
  mj_c1 (k_aloadn (k := 0) (by decide +kernel) rfl) <|
  mj_c1 (k_gR (idx := 12) h_T (by decide) rfl w_299 (by decide +kernel)) <|
  mj_c1 (k_iloadn (k := 3) (by decide +kernel) rfl) <|
  mj_c1 (k_aloadn (k := 0) (by decide +kernel) rfl) <|
  mj_c1 (k_gR (idx := 19) h_T (by decide) rfl w_300 (by decide +kernel)) <|
  mj_c1 (k_iload (by decide +kernel)) <|
  mj_c1 (k_callV (idx := 131) (by decide +kernel) (fit_m_T_same_m_C_isSameOrInverse) rfl rfl w_668 w_179 w_180 (by decide) (by decide +kernel)) <|
  mj_c1 (k_ifne (off := 5) (by decide +kernel) (by decide)) <|
  mj_c1 (k_iconst (by decide +kernel)) <|
  mj_c1 (k_iret (by decide +kernel) rfl) <|
  mj_c1 (k_aloadn (k := 0) (by decide +kernel) rfl) <|
  mj_c1 (k_gR (idx := 12) h_T (by decide) rfl w_299 (by decide +kernel)) <|
  mj_c1 (k_iloadn (k := 1) (by decide +kernel) rfl) <|
  mj_c1 (k_iconst (by decide +kernel)) <|
  mj_c1 (k_callV (idx := 109) (by decide +kernel) (fit_m_T_same_m_C_bitAt) rfl rfl w_593 w_594 w_595 (by decide) (by decide +kernel)) <|
  mj_c1 (k_aloadn (k := 0) (by decide +kernel) rfl) <|
  mj_c1 (k_gR (idx := 19) h_T (by decide) rfl w_300 (by decide +kernel)) <|
  mj_c1 (k_iloadn (k := 2) (by decide +kernel) rfl) <|
  mj_c1 (k_iconst (by decide +kernel)) <|
  mj_c1 (k_callV (idx := 109) (by decide +kernel) (fit_m_T_same_m_C_bitAt) rfl rfl w_593 w_594 w_595 (by decide) (by decide +kernel)) <|
  mj_c1 (k_icne (off := 7) (by decide +kernel) (by decide)) <|
  mj_c1 (k_iconst (by decide +kernel)) <|
  mj_c1 (k_goto (off := 4) (by decide +kernel) (by decide)) <|
  mj_c1 (k_iconst (by decide +kernel)) <|
  mj_c1 (k_iret (by decide +kernel) rfl) mj_c0
def q_T_implies : List (Nat × mj_Sem) := [(0, o_al 0 1), (1, o_il 1 2), (2, o_call m_T_named 2 3 18 5 (mj_rv 0)), (5, o_as 4 7), (7, o_al 4 9), (9, o_il 2 10), (10, o_call m_T_requireStanding 2 3 18 13 mj_rs), (13, o_al 4 15), (15, o_il 3 16), (16, o_call m_T_requireStanding 2 3 18 19 mj_rs), (19, o_al 4 21), (21, o_il 2 22), (22, o_il 3 23), (23, o_call m_C_isWithin 3 3 18 26 (mj_rv 1)), (26, o_zret 3 18)]
set_option maxRecDepth 100000 in
theorem z_T_implies : mj_Code (m_T_implies) (q_T_implies) :=
  mj_c1 (k_aloadn (k := 0) (by decide +kernel) rfl) <|
  mj_c1 (k_iloadn (k := 1) (by decide +kernel) rfl) <|
  mj_c1 (k_callV (idx := 56) (by decide +kernel) (fit_m_T_implies_m_T_named) rfl rfl w_415 w_417 v_9 (by decide) (by decide +kernel)) <|
  mj_c1 (k_astore (by decide +kernel) (by decide)) <|
  mj_c1 (k_aload (by decide +kernel)) <|
  mj_c1 (k_iloadn (k := 2) (by decide +kernel) rfl) <|
  mj_c1 (k_callS (idx := 102) (by decide +kernel) (fit_m_T_implies_m_T_requireStanding) rfl w_581 w_582 (by decide) (by decide +kernel)) <|
  mj_c1 (k_aload (by decide +kernel)) <|
  mj_c1 (k_iloadn (k := 3) (by decide +kernel) rfl) <|
  mj_c1 (k_callS (idx := 102) (by decide +kernel) (fit_m_T_implies_m_T_requireStanding) rfl w_581 w_582 (by decide) (by decide +kernel)) <|
  mj_c1 (k_aload (by decide +kernel)) <|
  mj_c1 (k_iloadn (k := 2) (by decide +kernel) rfl) <|
  mj_c1 (k_iloadn (k := 3) (by decide +kernel) rfl) <|
  mj_c1 (k_callV (idx := 135) (by decide +kernel) (fit_m_T_implies_m_C_isWithin) rfl rfl w_676 w_677 w_678 (by decide) (by decide +kernel)) <|
  mj_c1 (k_zret (by decide +kernel) rfl) mj_c0
def q_T_depends : List (Nat × mj_Sem) := [(0, o_al 0 1), (1, o_il 1 2), (2, o_call m_T_named 2 3 18 5 (mj_rv 0)), (5, o_as 4 7), (7, o_al 4 9), (9, o_il 2 10), (10, o_call m_T_requireStanding 2 3 18 13 mj_rs), (13, o_al 4 15), (15, o_il 3 16), (16, o_call m_T_requireInput 2 3 18 19 mj_rs), (19, o_al 4 21), (21, o_il 2 22), (22, o_il 3 23), (23, o_call m_C_movesOf 3 3 18 26 (mj_rv 1)), (26, o_ifeq 33 29), (29, o_ic 1 30), (30, o_goto 34), (33, o_ic 0 34), (34, o_zret 3 18)]
set_option maxRecDepth 100000 in
theorem z_T_depends : mj_Code (m_T_depends) (q_T_depends) :=
  mj_c1 (k_aloadn (k := 0) (by decide +kernel) rfl) <|
  mj_c1 (k_iloadn (k := 1) (by decide +kernel) rfl) <|
  mj_c1 (k_callV (idx := 56) (by decide +kernel) (fit_m_T_depends_m_T_named) rfl rfl w_415 w_417 v_9 (by decide) (by decide +kernel)) <|
  mj_c1 (k_astore (by decide +kernel) (by decide)) <|
  mj_c1 (k_aload (by decide +kernel)) <|
  mj_c1 (k_iloadn (k := 2) (by decide +kernel) rfl) <|
  mj_c1 (k_callS (idx := 102) (by decide +kernel) (fit_m_T_depends_m_T_requireStanding) rfl w_581 w_582 (by decide) (by decide +kernel)) <|
  mj_c1 (k_aload (by decide +kernel)) <|
  mj_c1 (k_iloadn (k := 3) (by decide +kernel) rfl) <|
  mj_c1 (k_callS (idx := 139) (by decide +kernel) (fit_m_T_depends_m_T_requireInput) rfl w_687 w_688 (by decide) (by decide +kernel)) <|
  mj_c1 (k_aload (by decide +kernel)) <|
  mj_c1 (k_iloadn (k := 2) (by decide +kernel) rfl) <|
  mj_c1 (k_iloadn (k := 3) (by decide +kernel) rfl) <|
  mj_c1 (k_callV (idx := 142) (by decide +kernel) (fit_m_T_depends_m_C_movesOf) rfl rfl w_691 w_692 w_693 (by decide) (by decide +kernel)) <|
  mj_c1 (k_ifeq (off := 7) (by decide +kernel) (by decide)) <|
  mj_c1 (k_iconst (by decide +kernel)) <|
  mj_c1 (k_goto (off := 4) (by decide +kernel) (by decide)) <|
  mj_c1 (k_iconst (by decide +kernel)) <|
  mj_c1 (k_zret (by decide +kernel) rfl) mj_c0
def q_T_requireInput : List (Nat × mj_Sem) := [(0, o_il 1 1), (1, o_iflt 15 4), (4, o_il 1 5), (5, o_al 0 6), (6, o_gR 1 0 9), (9, o_gI 3 10 12), (12, o_iclt 25 15), (15, o_thr 2 1 6), (25, o_retv 1 6)]
set_option maxRecDepth 100000 in
theorem z_T_requireInput : mj_Code (m_T_requireInput) (q_T_requireInput) :=
  mj_c1 (k_iloadn (k := 1) (by decide +kernel) rfl) <|
  mj_c1 (k_iflt (off := 14) (by decide +kernel) (by decide)) <|
  mj_c1 (k_iloadn (k := 1) (by decide +kernel) rfl) <|
  mj_c1 (k_aloadn (k := 0) (by decide +kernel) rfl) <|
  mj_c1 (k_gR (idx := 71) h_C (by decide) rfl w_122 (by decide +kernel)) <|
  mj_c1 (k_gI (idx := 79) h_N (by decide) rfl w_80 (by decide +kernel)) <|
  mj_c1 (k_iclt (off := 13) (by decide +kernel) (by decide)) <|
  mj_c1 (k_thr (ix := 97) (sx := 184) (ic := 101) (jx := 13) (X := "java/util/NoSuchElementException") (tx := "no such input") (bytes := prog_19_method_4_code) (by decide +kernel) (by decide +kernel) (by decide +kernel) (by decide +kernel) (by decide +kernel) rfl (by decide) (by decide +kernel) (by decide +kernel) (by decide +kernel) (by decide +kernel) w_558 w_559 w_15 (by decide) thw_2 (by decide) (by decide) rfl) <|
  mj_c1 (k_retv (by decide +kernel) rfl) mj_c0
def q_T_rises : List (Nat × mj_Sem) := [(0, o_al 0 1), (1, o_il 1 2), (2, o_call m_T_named 2 3 18 5 (mj_rv 0)), (5, o_as 4 7), (7, o_al 4 9), (9, o_il 2 10), (10, o_call m_T_requireStanding 2 3 18 13 mj_rs), (13, o_al 4 15), (15, o_il 3 16), (16, o_call m_T_requireInput 2 3 18 19 mj_rs), (19, o_al 4 21), (21, o_il 2 22), (22, o_il 3 23), (23, o_call m_C_movesOf 3 3 18 26 (mj_rv 1)), (26, o_is 5 28), (28, o_il 5 30), (30, o_ifne 35 33), (33, o_ic 2 34), (34, o_iret 3 18), (35, o_il 5 37), (37, o_ic 1 38), (38, o_icne 43 41), (41, o_ic 1 42), (42, o_iret 3 18), (43, o_il 5 45), (45, o_ic 2 46), (46, o_icne 53 49), (49, o_ic (-1) 50), (50, o_goto 54), (53, o_ic 0 54), (54, o_iret 3 18)]
set_option maxRecDepth 100000 in
theorem z_T_rises : mj_Code (m_T_rises) (q_T_rises) :=
  mj_c1 (k_aloadn (k := 0) (by decide +kernel) rfl) <|
  mj_c1 (k_iloadn (k := 1) (by decide +kernel) rfl) <|
  mj_c1 (k_callV (idx := 56) (by decide +kernel) (fit_m_T_rises_m_T_named) rfl rfl w_415 w_417 v_9 (by decide) (by decide +kernel)) <|
  mj_c1 (k_astore (by decide +kernel) (by decide)) <|
  mj_c1 (k_aload (by decide +kernel)) <|
  mj_c1 (k_iloadn (k := 2) (by decide +kernel) rfl) <|
  mj_c1 (k_callS (idx := 102) (by decide +kernel) (fit_m_T_rises_m_T_requireStanding) rfl w_581 w_582 (by decide) (by decide +kernel)) <|
  mj_c1 (k_aload (by decide +kernel)) <|
  mj_c1 (k_iloadn (k := 3) (by decide +kernel) rfl) <|
  mj_c1 (k_callS (idx := 139) (by decide +kernel) (fit_m_T_rises_m_T_requireInput) rfl w_687 w_688 (by decide) (by decide +kernel)) <|
  mj_c1 (k_aload (by decide +kernel)) <|
  mj_c1 (k_iloadn (k := 2) (by decide +kernel) rfl) <|
  mj_c1 (k_iloadn (k := 3) (by decide +kernel) rfl) <|
  mj_c1 (k_callV (idx := 142) (by decide +kernel) (fit_m_T_rises_m_C_movesOf) rfl rfl w_691 w_692 w_693 (by decide) (by decide +kernel)) <|
  mj_c1 (k_istore (by decide +kernel) (by decide)) <|
  mj_c1 (k_iload (by decide +kernel)) <|
  mj_c1 (k_ifne (off := 5) (by decide +kernel) (by decide)) <|
  mj_c1 (k_iconst (by decide +kernel)) <|
  mj_c1 (k_iret (by decide +kernel) rfl) <|
  mj_c1 (k_iload (by decide +kernel)) <|
  mj_c1 (k_iconst (by decide +kernel)) <|
  mj_c1 (k_icne (off := 5) (by decide +kernel) (by decide)) <|
  mj_c1 (k_iconst (by decide +kernel)) <|
  mj_c1 (k_iret (by decide +kernel) rfl) <|
  mj_c1 (k_iload (by decide +kernel)) <|
  mj_c1 (k_iconst (by decide +kernel)) <|
  mj_c1 (k_icne (off := 7) (by decide +kernel) (by decide)) <|
  mj_c1 (k_iconst (by decide +kernel)) <|
  mj_c1 (k_goto (off := 4) (by decide +kernel) (by decide)) <|
  mj_c1 (k_iconst (by decide +kernel)) <|
  mj_c1 (k_iret (by decide +kernel) rfl) mj_c0
def q_T_leader : List (Nat × mj_Sem) := [(0, o_al 0 1), (1, o_il 1 2), (2, o_call m_T_named 2 2 12 5 (mj_rv 0)), (5, o_as 3 6), (6, o_al 3 7), (7, o_il 2 8), (8, o_call m_T_requireStanding 2 2 12 11 mj_rs), (11, o_al 3 12), (12, o_il 2 13), (13, o_call m_C_leaderOf 2 2 12 16 (mj_rv 1)), (16, o_iret 2 12)]
set_option maxRecDepth 100000 in
theorem z_T_leader : mj_Code (m_T_leader) (q_T_leader) :=
  mj_c1 (k_aloadn (k := 0) (by decide +kernel) rfl) <|
  mj_c1 (k_iloadn (k := 1) (by decide +kernel) rfl) <|
  mj_c1 (k_callV (idx := 56) (by decide +kernel) (fit_m_T_leader_m_T_named) rfl rfl w_415 w_417 v_9 (by decide) (by decide +kernel)) <|
  mj_c1 (k_astoren (k := 3) (by decide +kernel) rfl (by decide)) <|
  mj_c1 (k_aloadn (k := 3) (by decide +kernel) rfl) <|
  mj_c1 (k_iloadn (k := 2) (by decide +kernel) rfl) <|
  mj_c1 (k_callS (idx := 102) (by decide +kernel) (fit_m_T_leader_m_T_requireStanding) rfl w_581 w_582 (by decide) (by decide +kernel)) <|
  mj_c1 (k_aloadn (k := 3) (by decide +kernel) rfl) <|
  mj_c1 (k_iloadn (k := 2) (by decide +kernel) rfl) <|
  mj_c1 (k_callV (idx := 145) (by decide +kernel) (fit_m_T_leader_m_C_leaderOf) rfl rfl w_717 w_718 w_719 (by decide) (by decide +kernel)) <|
  mj_c1 (k_iret (by decide +kernel) rfl) mj_c0
def q_T_functions : List (Nat × mj_Sem) := [(0, o_al 0 1), (1, o_il 1 2), (2, o_call m_T_named 2 1 6 5 (mj_rv 0)), (5, o_gI 1 3 8), (8, o_iret 1 6)]
set_option maxRecDepth 100000 in
theorem z_T_functions : mj_Code (m_T_functions) (q_T_functions) :=
  mj_c1 (k_aloadn (k := 0) (by decide +kernel) rfl) <|
  mj_c1 (k_iloadn (k := 1) (by decide +kernel) rfl) <|
  mj_c1 (k_callV (idx := 56) (by decide +kernel) (fit_m_T_functions_m_T_named) rfl rfl w_415 w_417 v_9 (by decide) (by decide +kernel)) <|
  mj_c1 (k_gI (idx := 148) h_C (by decide) rfl w_126 (by decide +kernel)) <|
  mj_c1 (k_iret (by decide +kernel) rfl) mj_c0
def q_T_allFunctions : List (Nat × mj_Sem) := [(0, o_al 0 1), (1, o_call m_T_requireMatch 1 1 6 4 (mj_rv 0)), (4, o_al 0 5), (5, o_gR 0 0 8), (8, o_gI 1 3 11), (11, o_al 0 12), (12, o_gR 0 1 15), (15, o_al 0 16), (16, o_gR 0 0 19), (19, o_call m_C_kindsNotIn 2 1 6 22 (mj_rv 1)), (22, o_iadd 23), (23, o_iret 1 6)]
set_option maxRecDepth 100000 in
theorem z_T_allFunctions : mj_Code (m_T_allFunctions) (q_T_allFunctions) :=
  mj_c1 (k_aloadn (k := 0) (by decide +kernel) rfl) <|
  mj_c1 (k_callV (idx := 113) (by decide +kernel) (fit_m_T_allFunctions_m_T_requireMatch) rfl rfl w_604 w_606 v_31 (by decide) (by decide +kernel)) <|
  mj_c1 (k_aloadn (k := 0) (by decide +kernel) rfl) <|
  mj_c1 (k_gR (idx := 12) h_T (by decide) rfl w_299 (by decide +kernel)) <|
  mj_c1 (k_gI (idx := 148) h_C (by decide) rfl w_126 (by decide +kernel)) <|
  mj_c1 (k_aloadn (k := 0) (by decide +kernel) rfl) <|
  mj_c1 (k_gR (idx := 19) h_T (by decide) rfl w_300 (by decide +kernel)) <|
  mj_c1 (k_aloadn (k := 0) (by decide +kernel) rfl) <|
  mj_c1 (k_gR (idx := 12) h_T (by decide) rfl w_299 (by decide +kernel)) <|
  mj_c1 (k_callV (idx := 151) (by decide +kernel) (fit_m_T_allFunctions_m_C_kindsNotIn) rfl rfl w_735 w_736 w_737 (by decide) (by decide +kernel)) <|
  mj_c1 (k_iadd (by decide +kernel)) <|
  mj_c1 (k_iret (by decide +kernel) rfl) mj_c0
def q_T_write : List (Nat × mj_Sem) := [(0, o_al 0 1), (1, o_gR 0 3 4), (4, o_al 0 5), (5, o_il 1 6), (6, o_call m_T_named 2 1 6 9 (mj_rv 0)), (9, o_il 2 10), (10, o_il 3 11), (11, o_call m_W_writeText 4 1 6 14 (mj_rv 5)), (14, o_iret 1 6)]
set_option maxRecDepth 100000 in
theorem z_T_write : mj_Code (m_T_write) (q_T_write) :=
  mj_c1 (k_aloadn (k := 0) (by decide +kernel) rfl) <|
  mj_c1 (k_gR (idx := 32) h_T (by decide) rfl w_302 (by decide +kernel)) <|
  mj_c1 (k_aloadn (k := 0) (by decide +kernel) rfl) <|
  mj_c1 (k_iloadn (k := 1) (by decide +kernel) rfl) <|
  mj_c1 (k_callV (idx := 56) (by decide +kernel) (fit_m_T_write_m_T_named) rfl rfl w_415 w_417 v_9 (by decide) (by decide +kernel)) <|
  mj_c1 (k_iloadn (k := 2) (by decide +kernel) rfl) <|
  mj_c1 (k_iloadn (k := 3) (by decide +kernel) rfl) <|
  mj_c1 (k_callV (idx := 155) (by decide +kernel) (fit_m_T_write_m_W_writeText) rfl rfl w_746 w_747 w_748 (by decide) (by decide +kernel)) <|
  mj_c1 (k_iret (by decide +kernel) rfl) mj_c0
def q_T_out : List (Nat × mj_Sem) := [(0, o_il 1 1), (1, o_iflt 15 4), (4, o_il 1 5), (5, o_al 0 6), (6, o_gR 0 3 9), (9, o_gI 5 0 12), (12, o_iclt 25 15), (15, o_thr 2 1 6), (25, o_lc 0#64 26), (26, o_ls 2 27), (27, o_ic 0 28), (28, o_is 4 30), (30, o_il 4 32), (32, o_ic 8 34), (34, o_icge 64 37), (37, o_ll 2 38), (38, o_al 0 39), (39, o_gR 0 3 42), (42, o_il 1 43), (43, o_il 4 45), (45, o_iadd 46), (46, o_call m_W_byteAt 2 1 6 49 (mj_rv 5)), (49, o_i2l 50), (50, o_ic 8 52), (52, o_il 4 54), (54, o_imul 55), (55, o_lshl 56), (56, o_lor 57), (57, o_ls 2 58), (58, o_inc 4 1 61), (61, o_goto 30), (64, o_ll 2 65), (65, o_lret 1 6)]
set_option maxRecDepth 100000 in
theorem z_T_out : mj_Code (m_T_out) (q_T_out) :=
  mj_c1 (k_iloadn (k := 1) (by decide +kernel) rfl) <|
  mj_c1 (k_iflt (off := 14) (by decide +kernel) (by decide)) <|
  mj_c1 (k_iloadn (k := 1) (by decide +kernel) rfl) <|
  mj_c1 (k_aloadn (k := 0) (by decide +kernel) rfl) <|
  mj_c1 (k_gR (idx := 32) h_T (by decide) rfl w_302 (by decide +kernel)) <|
  mj_c1 (k_gI (idx := 159) h_W (by decide) rfl w_270 (by decide +kernel)) <|
  mj_c1 (k_iclt (off := 13) (by decide +kernel) (by decide)) <|
  mj_c1 (k_thr (ix := 97) (sx := 160) (ic := 101) (jx := 13) (X := "java/util/NoSuchElementException") (tx := "no such byte") (bytes := prog_19_method_4_code) (by decide +kernel) (by decide +kernel) (by decide +kernel) (by decide +kernel) (by decide +kernel) rfl (by decide) (by decide +kernel) (by decide +kernel) (by decide +kernel) (by decide +kernel) w_558 w_559 w_15 (by decide) thw_2 (by decide) (by decide) rfl) <|
  mj_c1 (k_lconst (k := 0) (by decide +kernel) (by decide)) <|
  mj_c1 (k_lstoren (k := 2) (by decide +kernel) rfl (by decide)) <|
  mj_c1 (k_iconst (by decide +kernel)) <|
  mj_c1 (k_istore (by decide +kernel) (by decide)) <|
  mj_c1 (k_iload (by decide +kernel)) <|
  mj_c1 (k_bipush (by decide +kernel) (by decide)) <|
  mj_c1 (k_icge (off := 30) (by decide +kernel) (by decide)) <|
  mj_c1 (k_lloadn (k := 2) (by decide +kernel) rfl) <|
  mj_c1 (k_aloadn (k := 0) (by decide +kernel) rfl) <|
  mj_c1 (k_gR (idx := 32) h_T (by decide) rfl w_302 (by decide +kernel)) <|
  mj_c1 (k_iloadn (k := 1) (by decide +kernel) rfl) <|
  mj_c1 (k_iload (by decide +kernel)) <|
  mj_c1 (k_iadd (by decide +kernel)) <|
  mj_c1 (k_callV (idx := 162) (by decide +kernel) (fit_m_T_out_m_W_byteAt) rfl rfl w_822 w_823 w_824 (by decide) (by decide +kernel)) <|
  mj_c1 (k_i2l (by decide +kernel)) <|
  mj_c1 (k_bipush (by decide +kernel) (by decide)) <|
  mj_c1 (k_iload (by decide +kernel)) <|
  mj_c1 (k_imul (by decide +kernel)) <|
  mj_c1 (k_lshl (by decide +kernel)) <|
  mj_c1 (k_lor (by decide +kernel)) <|
  mj_c1 (k_lstoren (k := 2) (by decide +kernel) rfl (by decide)) <|
  mj_c1 (k_iinc (by decide +kernel) (by decide)) <|
  mj_c1 (k_goto (off := -31) (by decide +kernel) (by decide)) <|
  mj_c1 (k_lloadn (k := 2) (by decide +kernel) rfl) <|
  mj_c1 (k_lret (by decide +kernel) rfl) mj_c0
def q_T_look : List (Nat × mj_Sem) := [(0, o_al 0 1), (1, o_il 1 2), (2, o_call m_T_named 2 2 12 5 (mj_rv 0)), (5, o_as 3 6), (6, o_il 2 7), (7, o_tsw [56, 64, 72, 80, 88, 93, 98, 106, 114] 122), (56, o_al 3 57), (57, o_gR 1 0 60), (60, o_gI 3 10 63), (63, o_iret 2 12), (64, o_al 3 65), (65, o_gR 1 0 68), (68, o_gI 3 11 71), (71, o_iret 2 12), (72, o_al 3 73), (73, o_gR 1 0 76), (76, o_gI 3 12 79), (79, o_iret 2 12), (80, o_al 3 81), (81, o_gR 1 0 84), (84, o_gI 3 9 87), (87, o_iret 2 12), (88, o_al 3 89), (89, o_gI 1 1 92), (92, o_iret 2 12), (93, o_al 3 94), (94, o_gI 1 2 97), (97, o_iret 2 12), (98, o_al 3 99), (99, o_gR 1 0 102), (102, o_call m_N_outputDepth 1 2 12 105 (mj_rv 3)), (105, o_iret 2 12), (106, o_al 0 107), (107, o_gR 0 2 110), (110, o_gI 4 0 113), (113, o_iret 2 12), (114, o_al 0 115), (115, o_gR 0 3 118), (118, o_gI 5 0 121), (121, o_iret 2 12), (122, o_thr 0 2 12)]
set_option maxRecDepth 100000 in
theorem z_T_look : mj_Code (m_T_look) (q_T_look) :=
  mj_c1 (k_aloadn (k := 0) (by decide +kernel) rfl) <|
  mj_c1 (k_iloadn (k := 1) (by decide +kernel) rfl) <|
  mj_c1 (k_callV (idx := 56) (by decide +kernel) (fit_m_T_look_m_T_named) rfl rfl w_415 w_417 v_9 (by decide) (by decide +kernel)) <|
  mj_c1 (k_astoren (k := 3) (by decide +kernel) rfl (by decide)) <|
  mj_c1 (k_iloadn (k := 2) (by decide +kernel) rfl) <|
  mj_c1 (k_tsw (d := 115) (lo := 0) (hi := 8) (offs := #[49, 57, 65, 73, 81, 86, 91, 99, 107]) (len := 49) (by decide +kernel) rfl rfl (by decide) (by decide +kernel)) <|
  mj_c1 (k_aloadn (k := 3) (by decide +kernel) rfl) <|
  mj_c1 (k_gR (idx := 71) h_C (by decide) rfl w_122 (by decide +kernel)) <|
  mj_c1 (k_gI (idx := 79) h_N (by decide) rfl w_80 (by decide +kernel)) <|
  mj_c1 (k_iret (by decide +kernel) rfl) <|
  mj_c1 (k_aloadn (k := 3) (by decide +kernel) rfl) <|
  mj_c1 (k_gR (idx := 71) h_C (by decide) rfl w_122 (by decide +kernel)) <|
  mj_c1 (k_gI (idx := 88) h_N (by decide) rfl w_84 (by decide +kernel)) <|
  mj_c1 (k_iret (by decide +kernel) rfl) <|
  mj_c1 (k_aloadn (k := 3) (by decide +kernel) rfl) <|
  mj_c1 (k_gR (idx := 71) h_C (by decide) rfl w_122 (by decide +kernel)) <|
  mj_c1 (k_gI (idx := 91) h_N (by decide) rfl w_88 (by decide +kernel)) <|
  mj_c1 (k_iret (by decide +kernel) rfl) <|
  mj_c1 (k_aloadn (k := 3) (by decide +kernel) rfl) <|
  mj_c1 (k_gR (idx := 71) h_C (by decide) rfl w_122 (by decide +kernel)) <|
  mj_c1 (k_gI (idx := 165) h_N (by decide) rfl w_76 (by decide +kernel)) <|
  mj_c1 (k_iret (by decide +kernel) rfl) <|
  mj_c1 (k_aloadn (k := 3) (by decide +kernel) rfl) <|
  mj_c1 (k_gI (idx := 66) h_C (by decide) rfl w_123 (by decide +kernel)) <|
  mj_c1 (k_iret (by decide +kernel) rfl) <|
  mj_c1 (k_aloadn (k := 3) (by decide +kernel) rfl) <|
  mj_c1 (k_gI (idx := 70) h_C (by decide) rfl w_124 (by decide +kernel)) <|
  mj_c1 (k_iret (by decide +kernel) rfl) <|
  mj_c1 (k_aloadn (k := 3) (by decide +kernel) rfl) <|
  mj_c1 (k_gR (idx := 71) h_C (by decide) rfl w_122 (by decide +kernel)) <|
  mj_c1 (k_callV (idx := 168) (by decide +kernel) (fit_m_T_look_m_N_outputDepth) rfl rfl w_833 w_834 w_835 (by decide) (by decide +kernel)) <|
  mj_c1 (k_iret (by decide +kernel) rfl) <|
  mj_c1 (k_aloadn (k := 0) (by decide +kernel) rfl) <|
  mj_c1 (k_gR (idx := 25) h_T (by decide) rfl w_301 (by decide +kernel)) <|
  mj_c1 (k_gI (idx := 43) h_R (by decide) rfl w_230 (by decide +kernel)) <|
  mj_c1 (k_iret (by decide +kernel) rfl) <|
  mj_c1 (k_aloadn (k := 0) (by decide +kernel) rfl) <|
  mj_c1 (k_gR (idx := 32) h_T (by decide) rfl w_302 (by decide +kernel)) <|
  mj_c1 (k_gI (idx := 159) h_W (by decide) rfl w_270 (by decide +kernel)) <|
  mj_c1 (k_iret (by decide +kernel) rfl) <|
  mj_c1 (k_thr (ix := 36) (sx := 172) (ic := 40) (jx := 7) (X := "java/lang/IllegalArgumentException") (tx := "no such what") (bytes := prog_10_method_2_code) (by decide +kernel) (by decide +kernel) (by decide +kernel) (by decide +kernel) (by decide +kernel) rfl (by decide) (by decide +kernel) (by decide +kernel) (by decide +kernel) (by decide +kernel) w_321 w_322 w_12 (by decide) thw_0 (by decide) (by decide) rfl) mj_c0
