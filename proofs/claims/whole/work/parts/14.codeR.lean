def q_R_init : List (Nat × mj_Sem) := [(0, o_al 0 1), (1, o_oi 4), (4, o_al 0 5), (5, o_ic 8192 8), (8, o_na 1 15 11710 10), (10, o_pR 4 3 13), (13, o_al 0 14), (14, o_ic 5 15), (15, o_na 0 15 11710 17), (17, o_pR 4 4 20), (20, o_al 0 21), (21, o_ic 5 22), (22, o_na 0 15 11710 24), (24, o_pR 4 5 27), (27, o_al 0 28), (28, o_new 2 3 15 11710 31), (31, o_dup 32), (32, o_call m_F_init 1 15 11710 35 mj_ri), (35, o_pR 4 6 38), (38, o_al 0 39), (39, o_new 3 13 15 11710 42), (42, o_dup 43), (43, o_call m_N_init 1 15 11710 46 mj_ri), (46, o_pR 4 7 49), (49, o_retv 15 11710)]
set_option maxRecDepth 100000 in
theorem z_R_init : mj_Code (m_R_init) (q_R_init) :=
  mj_c1 (k_aloadn (k := 0) (by decide +kernel) rfl) <|
  mj_c1 (k_oi (idx := 3) (by decide +kernel) w_209 w_24 w_25 (by decide) (by decide)) <|
  mj_c1 (k_aloadn (k := 0) (by decide +kernel) rfl) <|
  mj_c1 (k_sipush (by decide +kernel) (by decide)) <|
  mj_c1 (k_na (at0 := .byte) (by decide +kernel) rfl (Or.inr (Or.inl ⟨rfl, rfl⟩)) w_226) <|
  mj_c1 (k_pRF (idx := 9) h_R (by decide) rfl (Or.inr ⟨_, rfl⟩) w_235 rfl rfl rfl (by decide +kernel)) <|
  mj_c1 (k_aloadn (k := 0) (by decide +kernel) rfl) <|
  mj_c1 (k_iconst (by decide +kernel)) <|
  mj_c1 (k_na (at0 := .int) (by decide +kernel) rfl (Or.inl ⟨rfl, rfl⟩) w_118) <|
  mj_c1 (k_pRF (idx := 15) h_R (by decide) rfl (Or.inr ⟨_, rfl⟩) w_236 rfl rfl rfl (by decide +kernel)) <|
  mj_c1 (k_aloadn (k := 0) (by decide +kernel) rfl) <|
  mj_c1 (k_iconst (by decide +kernel)) <|
  mj_c1 (k_na (at0 := .int) (by decide +kernel) rfl (Or.inl ⟨rfl, rfl⟩) w_118) <|
  mj_c1 (k_pRF (idx := 19) h_R (by decide) rfl (Or.inr ⟨_, rfl⟩) w_237 rfl rfl rfl (by decide +kernel)) <|
  mj_c1 (k_aloadn (k := 0) (by decide +kernel) rfl) <|
  mj_c1 (k_new (idx := 22) (by decide +kernel) h_F (by decide) w_210 w_211 w_6) <|
  mj_c1 (k_dup (by decide +kernel)) <|
  mj_c1 (k_callIN (idx := 24) (host := "CircuitTwin") (by decide +kernel) (fit_m_R_init_m_F_init) rfl (by decide) w_213 w_214 rfl (by decide) (by decide +kernel)) <|
  mj_c1 (k_pRF (idx := 25) h_R (by decide) rfl (Or.inl ⟨_, rfl⟩) w_238 rfl rfl rfl (by decide +kernel)) <|
  mj_c1 (k_aloadn (k := 0) (by decide +kernel) rfl) <|
  mj_c1 (k_new (idx := 29) (by decide +kernel) h_N (by decide) w_227 w_33 w_3) <|
  mj_c1 (k_dup (by decide +kernel)) <|
  mj_c1 (k_callI (idx := 31) (by decide +kernel) (fit_m_R_init_m_N_init) rfl w_228 w_35 w_36 rfl (by decide) (by decide +kernel)) <|
  mj_c1 (k_pR (idx := 32) h_R (by decide) rfl (Or.inl ⟨_, rfl⟩) w_239 rfl (by decide +kernel)) <|
  mj_c1 (k_retv (by decide +kernel) rfl) mj_c0
def q_R_append : List (Nat × mj_Sem) := [(0, o_al 0 1), (1, o_gI 4 0 4), (4, o_ic 8192 7), (7, o_icge 30 10), (10, o_al 0 11), (11, o_gR 4 3 14), (14, o_al 0 15), (15, o_gI 4 0 18), (18, o_il 1 19), (19, o_bas 20), (20, o_al 0 21), (21, o_dup 22), (22, o_gI 4 0 25), (25, o_ic 1 26), (26, o_iadd 27), (27, o_pI 4 0 30), (30, o_retv 0 0)]
set_option maxRecDepth 100000 in
theorem z_R_append : mj_Code (m_R_append) (q_R_append) :=
  mj_c1 (k_aloadn (k := 0) (by decide +kernel) rfl) <|
  mj_c1 (k_gI (idx := 36) h_R (by decide) rfl w_229 (by decide +kernel)) <|
  mj_c1 (k_sipush (by decide +kernel) (by decide)) <|
  mj_c1 (k_icge (off := 23) (by decide +kernel) (by decide)) <|
  mj_c1 (k_aloadn (k := 0) (by decide +kernel) rfl) <|
  mj_c1 (k_gR (idx := 9) h_R (by decide) rfl w_235 (by decide +kernel)) <|
  mj_c1 (k_aloadn (k := 0) (by decide +kernel) rfl) <|
  mj_c1 (k_gI (idx := 36) h_R (by decide) rfl w_229 (by decide +kernel)) <|
  mj_c1 (k_iloadn (k := 1) (by decide +kernel) rfl) <|
  mj_c1 (k_bas (by decide +kernel)) <|
  mj_c1 (k_aloadn (k := 0) (by decide +kernel) rfl) <|
  mj_c1 (k_dup (by decide +kernel)) <|
  mj_c1 (k_gI (idx := 36) h_R (by decide) rfl w_229 (by decide +kernel)) <|
  mj_c1 (k_iconst (by decide +kernel)) <|
  mj_c1 (k_iadd (by decide +kernel)) <|
  mj_c1 (k_pI (idx := 36) h_R (by decide) rfl rfl w_229 rfl (by decide +kernel)) <|
  mj_c1 (k_retv (by decide +kernel) rfl) mj_c0
def q_R_readTape : List (Nat × mj_Sem) := [(0, o_al 0 1), (1, o_ic 0 2), (2, o_pI 4 8 5), (5, o_al 0 6), (6, o_ic 0 7), (7, o_pI 4 1 10), (10, o_al 0 11), (11, o_ic 0 12), (12, o_pI 4 2 15), (15, o_al 0 16), (16, o_call m_R_takeKind 1 0 0 19 (mj_rv 4)), (19, o_ifeq 61 22), (22, o_al 0 23), (23, o_call m_R_takeSizes 1 0 0 26 (mj_rv 4)), (26, o_ifeq 61 29), (29, o_al 0 30), (30, o_call m_R_takeInputs 1 0 0 33 (mj_rv 4)), (33, o_ifeq 61 36), (36, o_al 0 37), (37, o_call m_R_takeOutputs 1 0 0 40 (mj_rv 4)), (40, o_ifeq 61 43), (43, o_al 0 44), (44, o_call m_R_takeGates 1 0 0 47 (mj_rv 4)), (47, o_ifeq 61 50), (50, o_al 0 51), (51, o_call m_R_takeEnd 1 0 0 54 (mj_rv 4)), (54, o_ifeq 61 57), (57, o_al 0 58), (58, o_call m_R_checkWhole 1 0 0 61 (mj_rv 4)), (61, o_al 0 62), (62, o_ic 0 63), (63, o_pI 4 0 66), (66, o_retv 0 0)]
set_option maxRecDepth 100000 in
theorem z_R_readTape : mj_Code (m_R_readTape) (q_R_readTape) :=
  mj_c1 (k_aloadn (k := 0) (by decide +kernel) rfl) <|
  mj_c1 (k_iconst (by decide +kernel)) <|
  mj_c1 (k_pI (idx := 40) h_R (by decide) rfl rfl w_240 rfl (by decide +kernel)) <|
  mj_c1 (k_aloadn (k := 0) (by decide +kernel) rfl) <|
  mj_c1 (k_iconst (by decide +kernel)) <|
  mj_c1 (k_pI (idx := 43) h_R (by decide) rfl rfl w_231 rfl (by decide +kernel)) <|
  mj_c1 (k_aloadn (k := 0) (by decide +kernel) rfl) <|
  mj_c1 (k_iconst (by decide +kernel)) <|
  mj_c1 (k_pI (idx := 46) h_R (by decide) rfl rfl w_233 rfl (by decide +kernel)) <|
  mj_c1 (k_aloadn (k := 0) (by decide +kernel) rfl) <|
  mj_c1 (k_callV (idx := 49) (by decide +kernel) (fit_m_R_readTape_m_R_takeKind) rfl rfl w_424 w_426 v_10 (by decide) (by decide +kernel)) <|
  mj_c1 (k_ifeq (off := 42) (by decide +kernel) (by decide)) <|
  mj_c1 (k_aloadn (k := 0) (by decide +kernel) rfl) <|
  mj_c1 (k_callV (idx := 53) (by decide +kernel) (fit_m_R_readTape_m_R_takeSizes) rfl rfl w_436 w_438 v_13 (by decide) (by decide +kernel)) <|
  mj_c1 (k_ifeq (off := 35) (by decide +kernel) (by decide)) <|
  mj_c1 (k_aloadn (k := 0) (by decide +kernel) rfl) <|
  mj_c1 (k_callV (idx := 56) (by decide +kernel) (fit_m_R_readTape_m_R_takeInputs) rfl rfl w_449 w_451 v_16 (by decide) (by decide +kernel)) <|
  mj_c1 (k_ifeq (off := 28) (by decide +kernel) (by decide)) <|
  mj_c1 (k_aloadn (k := 0) (by decide +kernel) rfl) <|
  mj_c1 (k_callV (idx := 59) (by decide +kernel) (fit_m_R_readTape_m_R_takeOutputs) rfl rfl w_470 w_472 v_18 (by decide) (by decide +kernel)) <|
  mj_c1 (k_ifeq (off := 21) (by decide +kernel) (by decide)) <|
  mj_c1 (k_aloadn (k := 0) (by decide +kernel) rfl) <|
  mj_c1 (k_callV (idx := 62) (by decide +kernel) (fit_m_R_readTape_m_R_takeGates) rfl rfl w_479 w_481 v_20 (by decide) (by decide +kernel)) <|
  mj_c1 (k_ifeq (off := 14) (by decide +kernel) (by decide)) <|
  mj_c1 (k_aloadn (k := 0) (by decide +kernel) rfl) <|
  mj_c1 (k_callV (idx := 65) (by decide +kernel) (fit_m_R_readTape_m_R_takeEnd) rfl rfl w_495 w_497 v_24 (by decide) (by decide +kernel)) <|
  mj_c1 (k_ifeq (off := 7) (by decide +kernel) (by decide)) <|
  mj_c1 (k_aloadn (k := 0) (by decide +kernel) rfl) <|
  mj_c1 (k_callV (idx := 68) (by decide +kernel) (fit_m_R_readTape_m_R_checkWhole) rfl rfl w_499 w_501 v_25 (by decide) (by decide +kernel)) <|
  mj_c1 (k_aloadn (k := 0) (by decide +kernel) rfl) <|
  mj_c1 (k_iconst (by decide +kernel)) <|
  mj_c1 (k_pI (idx := 36) h_R (by decide) rfl rfl w_229 rfl (by decide +kernel)) <|
  mj_c1 (k_retv (by decide +kernel) rfl) mj_c0
def q_R_takeKind : List (Nat × mj_Sem) := [(0, o_al 0 1), (1, o_ic 1 2), (2, o_call m_R_byteAt 2 0 0 5 (mj_rv 4)), (5, o_is 1 6), (6, o_al 0 7), (7, o_ic 0 8), (8, o_call m_R_byteAt 2 0 0 11 (mj_rv 4)), (11, o_ic 97 13), (13, o_icne 52 16), (16, o_il 1 17), (17, o_ic 97 19), (19, o_iceq 28 22), (22, o_il 1 23), (23, o_ic 105 25), (25, o_icne 52 28), (28, o_al 0 29), (29, o_ic 2 30), (30, o_call m_R_byteAt 2 0 0 33 (mj_rv 4)), (33, o_ic 103 35), (35, o_icne 52 38), (38, o_al 0 39), (39, o_ic 3 40), (40, o_call m_R_byteAt 2 0 0 43 (mj_rv 4)), (43, o_ic 32 45), (45, o_icne 52 48), (48, o_ic 1 49), (49, o_goto 53), (52, o_ic 0 53), (53, o_is 2 54), (54, o_il 2 55), (55, o_ifne 65 58), (58, o_al 0 59), (59, o_ic 1 60), (60, o_ic 0 61), (61, o_call m_R_fail 3 0 0 64 (mj_rv 4)), (64, o_zret 0 0), (65, o_al 0 66), (66, o_il 1 67), (67, o_ic 105 69), (69, o_icne 76 72), (72, o_ic 1 73), (73, o_goto 77), (76, o_ic 0 77), (77, o_pZ 4 9 80), (80, o_al 0 81), (81, o_ic 4 82), (82, o_pI 4 8 85), (85, o_ic 1 86), (86, o_zret 0 0)]
set_option maxRecDepth 100000 in
theorem z_R_takeKind : mj_Code (m_R_takeKind) (q_R_takeKind) :=
  mj_c1 (k_aloadn (k := 0) (by decide +kernel) rfl) <|
  mj_c1 (k_iconst (by decide +kernel)) <|
  mj_c1 (k_callV (idx := 71) (by decide +kernel) (fit_m_R_takeKind_m_R_byteAt) rfl rfl w_428 w_430 v_11 (by decide) (by decide +kernel)) <|
  mj_c1 (k_istoren (k := 1) (by decide +kernel) rfl (by decide)) <|
  mj_c1 (k_aloadn (k := 0) (by decide +kernel) rfl) <|
  mj_c1 (k_iconst (by decide +kernel)) <|
  mj_c1 (k_callV (idx := 71) (by decide +kernel) (fit_m_R_takeKind_m_R_byteAt) rfl rfl w_428 w_430 v_11 (by decide) (by decide +kernel)) <|
  mj_c1 (k_bipush (by decide +kernel) (by decide)) <|
  mj_c1 (k_icne (off := 39) (by decide +kernel) (by decide)) <|
  mj_c1 (k_iloadn (k := 1) (by decide +kernel) rfl) <|
  mj_c1 (k_bipush (by decide +kernel) (by decide)) <|
  mj_c1 (k_iceq (off := 9) (by decide +kernel) (by decide)) <|
  mj_c1 (k_iloadn (k := 1) (by decide +kernel) rfl) <|
  mj_c1 (k_bipush (by decide +kernel) (by decide)) <|
  mj_c1 (k_icne (off := 27) (by decide +kernel) (by decide)) <|
  mj_c1 (k_aloadn (k := 0) (by decide +kernel) rfl) <|
  mj_c1 (k_iconst (by decide +kernel)) <|
  mj_c1 (k_callV (idx := 71) (by decide +kernel) (fit_m_R_takeKind_m_R_byteAt) rfl rfl w_428 w_430 v_11 (by decide) (by decide +kernel)) <|
  mj_c1 (k_bipush (by decide +kernel) (by decide)) <|
  mj_c1 (k_icne (off := 17) (by decide +kernel) (by decide)) <|
  mj_c1 (k_aloadn (k := 0) (by decide +kernel) rfl) <|
  mj_c1 (k_iconst (by decide +kernel)) <|
  mj_c1 (k_callV (idx := 71) (by decide +kernel) (fit_m_R_takeKind_m_R_byteAt) rfl rfl w_428 w_430 v_11 (by decide) (by decide +kernel)) <|
  mj_c1 (k_bipush (by decide +kernel) (by decide)) <|
  mj_c1 (k_icne (off := 7) (by decide +kernel) (by decide)) <|
  mj_c1 (k_iconst (by decide +kernel)) <|
  mj_c1 (k_goto (off := 4) (by decide +kernel) (by decide)) <|
  mj_c1 (k_iconst (by decide +kernel)) <|
  mj_c1 (k_istoren (k := 2) (by decide +kernel) rfl (by decide)) <|
  mj_c1 (k_iloadn (k := 2) (by decide +kernel) rfl) <|
  mj_c1 (k_ifne (off := 10) (by decide +kernel) (by decide)) <|
  mj_c1 (k_aloadn (k := 0) (by decide +kernel) rfl) <|
  mj_c1 (k_iconst (by decide +kernel)) <|
  mj_c1 (k_iconst (by decide +kernel)) <|
  mj_c1 (k_callV (idx := 75) (by decide +kernel) (fit_m_R_takeKind_m_R_fail) rfl rfl w_432 w_434 v_12 (by decide) (by decide +kernel)) <|
  mj_c1 (k_zret (by decide +kernel) rfl) <|
  mj_c1 (k_aloadn (k := 0) (by decide +kernel) rfl) <|
  mj_c1 (k_iloadn (k := 1) (by decide +kernel) rfl) <|
  mj_c1 (k_bipush (by decide +kernel) (by decide)) <|
  mj_c1 (k_icne (off := 7) (by decide +kernel) (by decide)) <|
  mj_c1 (k_iconst (by decide +kernel)) <|
  mj_c1 (k_goto (off := 4) (by decide +kernel) (by decide)) <|
  mj_c1 (k_iconst (by decide +kernel)) <|
  mj_c1 (k_pZ (idx := 79) h_R (by decide) rfl rfl w_241 rfl (by decide +kernel)) <|
  mj_c1 (k_aloadn (k := 0) (by decide +kernel) rfl) <|
  mj_c1 (k_iconst (by decide +kernel)) <|
  mj_c1 (k_pI (idx := 40) h_R (by decide) rfl rfl w_240 rfl (by decide +kernel)) <|
  mj_c1 (k_iconst (by decide +kernel)) <|
  mj_c1 (k_zret (by decide +kernel) rfl) mj_c0
def q_R_byteAt : List (Nat × mj_Sem) := [(0, o_il 1 1), (1, o_al 0 2), (2, o_gI 4 0 5), (5, o_icge 21 8), (8, o_al 0 9), (9, o_gR 4 3 12), (12, o_il 1 13), (13, o_bal 14), (14, o_ic 255 17), (17, o_iand 18), (18, o_goto 22), (21, o_ic (-1) 22), (22, o_iret 0 0)]
set_option maxRecDepth 100000 in
theorem z_R_byteAt : mj_Code (m_R_byteAt) (q_R_byteAt) :=
  mj_c1 (k_iloadn (k := 1) (by decide +kernel) rfl) <|
  mj_c1 (k_aloadn (k := 0) (by decide +kernel) rfl) <|
  mj_c1 (k_gI (idx := 36) h_R (by decide) rfl w_229 (by decide +kernel)) <|
  mj_c1 (k_icge (off := 16) (by decide +kernel) (by decide)) <|
  mj_c1 (k_aloadn (k := 0) (by decide +kernel) rfl) <|
  mj_c1 (k_gR (idx := 9) h_R (by decide) rfl w_235 (by decide +kernel)) <|
  mj_c1 (k_iloadn (k := 1) (by decide +kernel) rfl) <|
  mj_c1 (k_bal (by decide +kernel)) <|
  mj_c1 (k_sipush (by decide +kernel) (by decide)) <|
  mj_c1 (k_iand (by decide +kernel)) <|
  mj_c1 (k_goto (off := 4) (by decide +kernel) (by decide)) <|
  mj_c1 (k_iconst (by decide +kernel)) <|
  mj_c1 (k_iret (by decide +kernel) rfl) mj_c0
def q_R_fail : List (Nat × mj_Sem) := [(0, o_al 0 1), (1, o_il 1 2), (2, o_pI 4 1 5), (5, o_al 0 6), (6, o_il 2 7), (7, o_pI 4 2 10), (10, o_ic 0 11), (11, o_zret 0 0)]
set_option maxRecDepth 100000 in
theorem z_R_fail : mj_Code (m_R_fail) (q_R_fail) :=
  mj_c1 (k_aloadn (k := 0) (by decide +kernel) rfl) <|
  mj_c1 (k_iloadn (k := 1) (by decide +kernel) rfl) <|
  mj_c1 (k_pI (idx := 43) h_R (by decide) rfl rfl w_231 rfl (by decide +kernel)) <|
  mj_c1 (k_aloadn (k := 0) (by decide +kernel) rfl) <|
  mj_c1 (k_iloadn (k := 2) (by decide +kernel) rfl) <|
  mj_c1 (k_pI (idx := 46) h_R (by decide) rfl rfl w_233 rfl (by decide +kernel)) <|
  mj_c1 (k_iconst (by decide +kernel)) <|
  mj_c1 (k_zret (by decide +kernel) rfl) mj_c0
def q_R_takeSizes : List (Nat × mj_Sem) := [(0, o_al 0 1), (1, o_ic 5 2), (2, o_ic 2 3), (3, o_call m_R_takeLine 3 0 0 6 (mj_rv 4)), (6, o_ifne 11 9), (9, o_ic 0 10), (10, o_zret 0 0), (11, o_al 0 12), (12, o_gR 4 4 15), (15, o_ic 0 16), (16, o_ial 17), (17, o_is 1 18), (18, o_al 0 19), (19, o_gR 4 4 22), (22, o_ic 1 23), (23, o_ial 24), (24, o_is 2 25), (25, o_al 0 26), (26, o_gR 4 4 29), (29, o_ic 3 30), (30, o_ial 31), (31, o_is 3 32), (32, o_al 0 33), (33, o_gR 4 4 36), (36, o_ic 4 37), (37, o_ial 38), (38, o_is 4 40), (40, o_al 0 41), (41, o_gR 4 4 44), (44, o_ic 2 45), (45, o_ial 46), (46, o_ifeq 56 49), (49, o_al 0 50), (50, o_ic 3 51), (51, o_ic 0 52), (52, o_call m_R_fail 3 0 0 55 (mj_rv 4)), (55, o_zret 0 0), (56, o_il 1 57), (57, o_ic 1000 60), (60, o_icgt 83 63), (63, o_il 2 64), (64, o_ic 14 66), (66, o_icgt 83 69), (69, o_il 3 70), (70, o_ic 16 72), (72, o_icgt 83 75), (75, o_il 4 77), (77, o_ic 300 80), (80, o_icle 90 83), (83, o_al 0 84), (84, o_ic 4 85), (85, o_ic 0 86), (86, o_call m_R_fail 3 0 0 89 (mj_rv 4)), (89, o_zret 0 0), (90, o_il 1 91), (91, o_il 2 92), (92, o_il 4 94), (94, o_iadd 95), (95, o_iclt 113 98), (98, o_al 0 99), (99, o_gI 4 9 102), (102, o_ifeq 120 105), (105, o_il 1 106), (106, o_il 2 107), (107, o_il 4 109), (109, o_iadd 110), (110, o_iceq 120 113), (113, o_al 0 114), (114, o_ic 4 115), (115, o_ic 0 116), (116, o_call m_R_fail 3 0 0 119 (mj_rv 4)), (119, o_zret 0 0), (120, o_al 0 121), (121, o_gR 4 7 124), (124, o_il 1 125), (125, o_il 2 126), (126, o_il 3 127), (127, o_il 4 129), (129, o_call m_N_begin 5 0 0 132 (mj_rv 3)), (132, o_ic 1 133), (133, o_zret 0 0)]
set_option maxRecDepth 100000 in
theorem z_R_takeSizes : mj_Code (m_R_takeSizes) (q_R_takeSizes) :=
  mj_c1 (k_aloadn (k := 0) (by decide +kernel) rfl) <|
  mj_c1 (k_iconst (by decide +kernel)) <|
  mj_c1 (k_iconst (by decide +kernel)) <|
  mj_c1 (k_callV (idx := 83) (by decide +kernel) (fit_m_R_takeSizes_m_R_takeLine) rfl rfl w_440 w_442 v_14 (by decide) (by decide +kernel)) <|
  mj_c1 (k_ifne (off := 5) (by decide +kernel) (by decide)) <|
  mj_c1 (k_iconst (by decide +kernel)) <|
  mj_c1 (k_zret (by decide +kernel) rfl) <|
  mj_c1 (k_aloadn (k := 0) (by decide +kernel) rfl) <|
  mj_c1 (k_gR (idx := 15) h_R (by decide) rfl w_236 (by decide +kernel)) <|
  mj_c1 (k_iconst (by decide +kernel)) <|
  mj_c1 (k_ial (by decide +kernel)) <|
  mj_c1 (k_istoren (k := 1) (by decide +kernel) rfl (by decide)) <|
  mj_c1 (k_aloadn (k := 0) (by decide +kernel) rfl) <|
  mj_c1 (k_gR (idx := 15) h_R (by decide) rfl w_236 (by decide +kernel)) <|
  mj_c1 (k_iconst (by decide +kernel)) <|
  mj_c1 (k_ial (by decide +kernel)) <|
  mj_c1 (k_istoren (k := 2) (by decide +kernel) rfl (by decide)) <|
  mj_c1 (k_aloadn (k := 0) (by decide +kernel) rfl) <|
  mj_c1 (k_gR (idx := 15) h_R (by decide) rfl w_236 (by decide +kernel)) <|
  mj_c1 (k_iconst (by decide +kernel)) <|
  mj_c1 (k_ial (by decide +kernel)) <|
  mj_c1 (k_istoren (k := 3) (by decide +kernel) rfl (by decide)) <|
  mj_c1 (k_aloadn (k := 0) (by decide +kernel) rfl) <|
  mj_c1 (k_gR (idx := 15) h_R (by decide) rfl w_236 (by decide +kernel)) <|
  mj_c1 (k_iconst (by decide +kernel)) <|
  mj_c1 (k_ial (by decide +kernel)) <|
  mj_c1 (k_istore (by decide +kernel) (by decide)) <|
  mj_c1 (k_aloadn (k := 0) (by decide +kernel) rfl) <|
  mj_c1 (k_gR (idx := 15) h_R (by decide) rfl w_236 (by decide +kernel)) <|
  mj_c1 (k_iconst (by decide +kernel)) <|
  mj_c1 (k_ial (by decide +kernel)) <|
  mj_c1 (k_ifeq (off := 10) (by decide +kernel) (by decide)) <|
  mj_c1 (k_aloadn (k := 0) (by decide +kernel) rfl) <|
  mj_c1 (k_iconst (by decide +kernel)) <|
  mj_c1 (k_iconst (by decide +kernel)) <|
  mj_c1 (k_callV (idx := 75) (by decide +kernel) (fit_m_R_takeSizes_m_R_fail) rfl rfl w_432 w_434 v_12 (by decide) (by decide +kernel)) <|
  mj_c1 (k_zret (by decide +kernel) rfl) <|
  mj_c1 (k_iloadn (k := 1) (by decide +kernel) rfl) <|
  mj_c1 (k_sipush (by decide +kernel) (by decide)) <|
  mj_c1 (k_icgt (off := 23) (by decide +kernel) (by decide)) <|
  mj_c1 (k_iloadn (k := 2) (by decide +kernel) rfl) <|
  mj_c1 (k_bipush (by decide +kernel) (by decide)) <|
  mj_c1 (k_icgt (off := 17) (by decide +kernel) (by decide)) <|
  mj_c1 (k_iloadn (k := 3) (by decide +kernel) rfl) <|
  mj_c1 (k_bipush (by decide +kernel) (by decide)) <|
  mj_c1 (k_icgt (off := 11) (by decide +kernel) (by decide)) <|
  mj_c1 (k_iload (by decide +kernel)) <|
  mj_c1 (k_sipush (by decide +kernel) (by decide)) <|
  mj_c1 (k_icle (off := 10) (by decide +kernel) (by decide)) <|
  mj_c1 (k_aloadn (k := 0) (by decide +kernel) rfl) <|
  mj_c1 (k_iconst (by decide +kernel)) <|
  mj_c1 (k_iconst (by decide +kernel)) <|
  mj_c1 (k_callV (idx := 75) (by decide +kernel) (fit_m_R_takeSizes_m_R_fail) rfl rfl w_432 w_434 v_12 (by decide) (by decide +kernel)) <|
  mj_c1 (k_zret (by decide +kernel) rfl) <|
  mj_c1 (k_iloadn (k := 1) (by decide +kernel) rfl) <|
  mj_c1 (k_iloadn (k := 2) (by decide +kernel) rfl) <|
  mj_c1 (k_iload (by decide +kernel)) <|
  mj_c1 (k_iadd (by decide +kernel)) <|
  mj_c1 (k_iclt (off := 18) (by decide +kernel) (by decide)) <|
  mj_c1 (k_aloadn (k := 0) (by decide +kernel) rfl) <|
  mj_c1 (k_gI (idx := 79) h_R (by decide) rfl w_241 (by decide +kernel)) <|
  mj_c1 (k_ifeq (off := 18) (by decide +kernel) (by decide)) <|
  mj_c1 (k_iloadn (k := 1) (by decide +kernel) rfl) <|
  mj_c1 (k_iloadn (k := 2) (by decide +kernel) rfl) <|
  mj_c1 (k_iload (by decide +kernel)) <|
  mj_c1 (k_iadd (by decide +kernel)) <|
  mj_c1 (k_iceq (off := 10) (by decide +kernel) (by decide)) <|
  mj_c1 (k_aloadn (k := 0) (by decide +kernel) rfl) <|
  mj_c1 (k_iconst (by decide +kernel)) <|
  mj_c1 (k_iconst (by decide +kernel)) <|
  mj_c1 (k_callV (idx := 75) (by decide +kernel) (fit_m_R_takeSizes_m_R_fail) rfl rfl w_432 w_434 v_12 (by decide) (by decide +kernel)) <|
  mj_c1 (k_zret (by decide +kernel) rfl) <|
  mj_c1 (k_aloadn (k := 0) (by decide +kernel) rfl) <|
  mj_c1 (k_gR (idx := 32) h_R (by decide) rfl w_239 (by decide +kernel)) <|
  mj_c1 (k_iloadn (k := 1) (by decide +kernel) rfl) <|
  mj_c1 (k_iloadn (k := 2) (by decide +kernel) rfl) <|
  mj_c1 (k_iloadn (k := 3) (by decide +kernel) rfl) <|
  mj_c1 (k_iload (by decide +kernel)) <|
  mj_c1 (k_callV (idx := 86) (by decide +kernel) (fit_m_R_takeSizes_m_N_begin) rfl rfl w_448 w_39 w_40 (by decide) (by decide +kernel)) <|
  mj_c1 (k_iconst (by decide +kernel)) <|
  mj_c1 (k_zret (by decide +kernel) rfl) mj_c0
def q_R_takeLine : List (Nat × mj_Sem) := [(0, o_ic 0 1), (1, o_is 3 2), (2, o_il 3 3), (3, o_il 1 4), (4, o_icge 38 7), (7, o_al 0 8), (8, o_il 3 9), (9, o_il 3 10), (10, o_il 1 11), (11, o_ic 1 12), (12, o_isub 13), (13, o_icne 21 16), (16, o_ic 10 18), (18, o_goto 23), (21, o_ic 32 23), (23, o_il 2 24), (24, o_call m_R_takeNumber 4 0 0 27 (mj_rv 4)), (27, o_ifne 32 30), (30, o_ic 0 31), (31, o_zret 0 0), (32, o_inc 3 1 35), (35, o_goto 2), (38, o_ic 1 39), (39, o_zret 0 0)]
set_option maxRecDepth 100000 in
theorem z_R_takeLine : mj_Code (m_R_takeLine) (q_R_takeLine) :=
  mj_c1 (k_iconst (by decide +kernel)) <|
  mj_c1 (k_istoren (k := 3) (by decide +kernel) rfl (by decide)) <|
  mj_c1 (k_iloadn (k := 3) (by decide +kernel) rfl) <|
  mj_c1 (k_iloadn (k := 1) (by decide +kernel) rfl) <|
  mj_c1 (k_icge (off := 34) (by decide +kernel) (by decide)) <|
  mj_c1 (k_aloadn (k := 0) (by decide +kernel) rfl) <|
  mj_c1 (k_iloadn (k := 3) (by decide +kernel) rfl) <|
  mj_c1 (k_iloadn (k := 3) (by decide +kernel) rfl) <|
  mj_c1 (k_iloadn (k := 1) (by decide +kernel) rfl) <|
  mj_c1 (k_iconst (by decide +kernel)) <|
  mj_c1 (k_isub (by decide +kernel)) <|
  mj_c1 (k_icne (off := 8) (by decide +kernel) (by decide)) <|
  mj_c1 (k_bipush (by decide +kernel) (by decide)) <|
  mj_c1 (k_goto (off := 5) (by decide +kernel) (by decide)) <|
  mj_c1 (k_bipush (by decide +kernel) (by decide)) <|
  mj_c1 (k_iloadn (k := 2) (by decide +kernel) rfl) <|
  mj_c1 (k_callV (idx := 128) (by decide +kernel) (fit_m_R_takeLine_m_R_takeNumber) rfl rfl w_444 w_446 v_15 (by decide) (by decide +kernel)) <|
  mj_c1 (k_ifne (off := 5) (by decide +kernel) (by decide)) <|
  mj_c1 (k_iconst (by decide +kernel)) <|
  mj_c1 (k_zret (by decide +kernel) rfl) <|
  mj_c1 (k_iinc (by decide +kernel) (by decide)) <|
  mj_c1 (k_goto (off := -33) (by decide +kernel) (by decide)) <|
  mj_c1 (k_iconst (by decide +kernel)) <|
  mj_c1 (k_zret (by decide +kernel) rfl) mj_c0
def q_R_takeNumber : List (Nat × mj_Sem) := [(0, o_al 0 1), (1, o_gR 4 5 4), (4, o_il 1 5), (5, o_al 0 6), (6, o_gI 4 8 9), (9, o_ias 10), (10, o_ic 0 11), (11, o_is 4 13), (13, o_ic 0 14), (14, o_is 5 16), (16, o_al 0 17), (17, o_al 0 18), (18, o_gI 4 8 21), (21, o_call m_R_byteAt 2 0 0 24 (mj_rv 4)), (24, o_is 6 26), (26, o_il 5 28), (28, o_ic 9 30), (30, o_icge 96 33), (33, o_il 6 35), (35, o_ic 48 37), (37, o_iclt 96 40), (40, o_il 6 42), (42, o_ic 57 44), (44, o_icgt 96 47), (47, o_il 5 49), (49, o_ifeq 57 52), (52, o_il 4 54), (54, o_ifle 96 57), (57, o_ic 10 59), (59, o_il 4 61), (61, o_imul 62), (62, o_il 6 64), (64, o_iadd 65), (65, o_ic 48 67), (67, o_isub 68), (68, o_is 4 70), (70, o_inc 5 1 73), (73, o_al 0 74), (74, o_dup 75), (75, o_gI 4 8 78), (78, o_ic 1 79), (79, o_iadd 80), (80, o_pI 4 8 83), (83, o_al 0 84), (84, o_al 0 85), (85, o_gI 4 8 88), (88, o_call m_R_byteAt 2 0 0 91 (mj_rv 4)), (91, o_is 6 93), (93, o_goto 26), (96, o_al 0 97), (97, o_gR 4 4 100), (100, o_il 1 101), (101, o_il 4 103), (103, o_ias 104), (104, o_il 5 106), (106, o_ifeq 115 109), (109, o_il 6 111), (111, o_il 2 112), (112, o_iceq 125 115), (115, o_al 0 116), (116, o_il 3 117), (117, o_al 0 118), (118, o_gI 4 8 121), (121, o_call m_R_fail 3 0 0 124 (mj_rv 4)), (124, o_zret 0 0), (125, o_al 0 126), (126, o_dup 127), (127, o_gI 4 8 130), (130, o_ic 1 131), (131, o_iadd 132), (132, o_pI 4 8 135), (135, o_ic 1 136), (136, o_zret 0 0)]
set_option maxRecDepth 100000 in
theorem z_R_takeNumber : mj_Code (m_R_takeNumber) (q_R_takeNumber) :=
  mj_c1 (k_aloadn (k := 0) (by decide +kernel) rfl) <|
  mj_c1 (k_gR (idx := 19) h_R (by decide) rfl w_237 (by decide +kernel)) <|
  mj_c1 (k_iloadn (k := 1) (by decide +kernel) rfl) <|
  mj_c1 (k_aloadn (k := 0) (by decide +kernel) rfl) <|
  mj_c1 (k_gI (idx := 40) h_R (by decide) rfl w_240 (by decide +kernel)) <|
  mj_c1 (k_ias (by decide +kernel)) <|
  mj_c1 (k_iconst (by decide +kernel)) <|
  mj_c1 (k_istore (by decide +kernel) (by decide)) <|
  mj_c1 (k_iconst (by decide +kernel)) <|
  mj_c1 (k_istore (by decide +kernel) (by decide)) <|
  mj_c1 (k_aloadn (k := 0) (by decide +kernel) rfl) <|
  mj_c1 (k_aloadn (k := 0) (by decide +kernel) rfl) <|
  mj_c1 (k_gI (idx := 40) h_R (by decide) rfl w_240 (by decide +kernel)) <|
  mj_c1 (k_callV (idx := 71) (by decide +kernel) (fit_m_R_takeNumber_m_R_byteAt) rfl rfl w_428 w_430 v_11 (by decide) (by decide +kernel)) <|
  mj_c1 (k_istore (by decide +kernel) (by decide)) <|
  mj_c1 (k_iload (by decide +kernel)) <|
  mj_c1 (k_bipush (by decide +kernel) (by decide)) <|
  mj_c1 (k_icge (off := 66) (by decide +kernel) (by decide)) <|
  mj_c1 (k_iload (by decide +kernel)) <|
  mj_c1 (k_bipush (by decide +kernel) (by decide)) <|
  mj_c1 (k_iclt (off := 59) (by decide +kernel) (by decide)) <|
  mj_c1 (k_iload (by decide +kernel)) <|
  mj_c1 (k_bipush (by decide +kernel) (by decide)) <|
  mj_c1 (k_icgt (off := 52) (by decide +kernel) (by decide)) <|
  mj_c1 (k_iload (by decide +kernel)) <|
  mj_c1 (k_ifeq (off := 8) (by decide +kernel) (by decide)) <|
  mj_c1 (k_iload (by decide +kernel)) <|
  mj_c1 (k_ifle (off := 42) (by decide +kernel) (by decide)) <|
  mj_c1 (k_bipush (by decide +kernel) (by decide)) <|
  mj_c1 (k_iload (by decide +kernel)) <|
  mj_c1 (k_imul (by decide +kernel)) <|
  mj_c1 (k_iload (by decide +kernel)) <|
  mj_c1 (k_iadd (by decide +kernel)) <|
  mj_c1 (k_bipush (by decide +kernel) (by decide)) <|
  mj_c1 (k_isub (by decide +kernel)) <|
  mj_c1 (k_istore (by decide +kernel) (by decide)) <|
  mj_c1 (k_iinc (by decide +kernel) (by decide)) <|
  mj_c1 (k_aloadn (k := 0) (by decide +kernel) rfl) <|
  mj_c1 (k_dup (by decide +kernel)) <|
  mj_c1 (k_gI (idx := 40) h_R (by decide) rfl w_240 (by decide +kernel)) <|
  mj_c1 (k_iconst (by decide +kernel)) <|
  mj_c1 (k_iadd (by decide +kernel)) <|
  mj_c1 (k_pI (idx := 40) h_R (by decide) rfl rfl w_240 rfl (by decide +kernel)) <|
  mj_c1 (k_aloadn (k := 0) (by decide +kernel) rfl) <|
  mj_c1 (k_aloadn (k := 0) (by decide +kernel) rfl) <|
  mj_c1 (k_gI (idx := 40) h_R (by decide) rfl w_240 (by decide +kernel)) <|
  mj_c1 (k_callV (idx := 71) (by decide +kernel) (fit_m_R_takeNumber_m_R_byteAt) rfl rfl w_428 w_430 v_11 (by decide) (by decide +kernel)) <|
  mj_c1 (k_istore (by decide +kernel) (by decide)) <|
  mj_c1 (k_goto (off := -67) (by decide +kernel) (by decide)) <|
  mj_c1 (k_aloadn (k := 0) (by decide +kernel) rfl) <|
  mj_c1 (k_gR (idx := 15) h_R (by decide) rfl w_236 (by decide +kernel)) <|
  mj_c1 (k_iloadn (k := 1) (by decide +kernel) rfl) <|
  mj_c1 (k_iload (by decide +kernel)) <|
  mj_c1 (k_ias (by decide +kernel)) <|
  mj_c1 (k_iload (by decide +kernel)) <|
  mj_c1 (k_ifeq (off := 9) (by decide +kernel) (by decide)) <|
  mj_c1 (k_iload (by decide +kernel)) <|
  mj_c1 (k_iloadn (k := 2) (by decide +kernel) rfl) <|
  mj_c1 (k_iceq (off := 13) (by decide +kernel) (by decide)) <|
  mj_c1 (k_aloadn (k := 0) (by decide +kernel) rfl) <|
  mj_c1 (k_iloadn (k := 3) (by decide +kernel) rfl) <|
  mj_c1 (k_aloadn (k := 0) (by decide +kernel) rfl) <|
  mj_c1 (k_gI (idx := 40) h_R (by decide) rfl w_240 (by decide +kernel)) <|
  mj_c1 (k_callV (idx := 75) (by decide +kernel) (fit_m_R_takeNumber_m_R_fail) rfl rfl w_432 w_434 v_12 (by decide) (by decide +kernel)) <|
  mj_c1 (k_zret (by decide +kernel) rfl) <|
  mj_c1 (k_aloadn (k := 0) (by decide +kernel) rfl) <|
  mj_c1 (k_dup (by decide +kernel)) <|
  mj_c1 (k_gI (idx := 40) h_R (by decide) rfl w_240 (by decide +kernel)) <|
  mj_c1 (k_iconst (by decide +kernel)) <|
  mj_c1 (k_iadd (by decide +kernel)) <|
  mj_c1 (k_pI (idx := 40) h_R (by decide) rfl rfl w_240 rfl (by decide +kernel)) <|
  mj_c1 (k_iconst (by decide +kernel)) <|
  mj_c1 (k_zret (by decide +kernel) rfl) mj_c0
def q_R_takeInputs : List (Nat × mj_Sem) := [(0, o_ic 1 1), (1, o_is 1 2), (2, o_il 1 3), (3, o_al 0 4), (4, o_gR 4 7 7), (7, o_gI 3 10 10), (10, o_icgt 59 13), (13, o_al 0 14), (14, o_gI 4 9 17), (17, o_ifeq 34 20), (20, o_al 0 21), (21, o_gR 4 7 24), (24, o_il 1 25), (25, o_ic 2 26), (26, o_il 1 27), (27, o_imul 28), (28, o_call m_N_place 3 0 0 31 (mj_rv 3)), (31, o_goto 53), (34, o_al 0 35), (35, o_ic 1 36), (36, o_ic 5 37), (37, o_call m_R_takeLine 3 0 0 40 (mj_rv 4)), (40, o_ifeq 51 43), (43, o_al 0 44), (44, o_il 1 45), (45, o_call m_R_takeOwn 2 0 0 48 (mj_rv 4)), (48, o_ifne 53 51), (51, o_ic 0 52), (52, o_zret 0 0), (53, o_inc 1 1 56), (56, o_goto 2), (59, o_ic 1 60), (60, o_zret 0 0)]
set_option maxRecDepth 100000 in
theorem z_R_takeInputs : mj_Code (m_R_takeInputs) (q_R_takeInputs) :=
  mj_c1 (k_iconst (by decide +kernel)) <|
  mj_c1 (k_istoren (k := 1) (by decide +kernel) rfl (by decide)) <|
  mj_c1 (k_iloadn (k := 1) (by decide +kernel) rfl) <|
  mj_c1 (k_aloadn (k := 0) (by decide +kernel) rfl) <|
  mj_c1 (k_gR (idx := 32) h_R (by decide) rfl w_239 (by decide +kernel)) <|
  mj_c1 (k_gI (idx := 90) h_N (by decide) rfl w_81 (by decide +kernel)) <|
  mj_c1 (k_icgt (off := 49) (by decide +kernel) (by decide)) <|
  mj_c1 (k_aloadn (k := 0) (by decide +kernel) rfl) <|
  mj_c1 (k_gI (idx := 79) h_R (by decide) rfl w_241 (by decide +kernel)) <|
  mj_c1 (k_ifeq (off := 17) (by decide +kernel) (by decide)) <|
  mj_c1 (k_aloadn (k := 0) (by decide +kernel) rfl) <|
  mj_c1 (k_gR (idx := 32) h_R (by decide) rfl w_239 (by decide +kernel)) <|
  mj_c1 (k_iloadn (k := 1) (by decide +kernel) rfl) <|
  mj_c1 (k_iconst (by decide +kernel)) <|
  mj_c1 (k_iloadn (k := 1) (by decide +kernel) rfl) <|
  mj_c1 (k_imul (by decide +kernel)) <|
  mj_c1 (k_callV (idx := 93) (by decide +kernel) (fit_m_R_takeInputs_m_N_place) rfl rfl w_453 w_454 w_455 (by decide) (by decide +kernel)) <|
  mj_c1 (k_goto (off := 22) (by decide +kernel) (by decide)) <|
  mj_c1 (k_aloadn (k := 0) (by decide +kernel) rfl) <|
  mj_c1 (k_iconst (by decide +kernel)) <|
  mj_c1 (k_iconst (by decide +kernel)) <|
  mj_c1 (k_callV (idx := 83) (by decide +kernel) (fit_m_R_takeInputs_m_R_takeLine) rfl rfl w_440 w_442 v_14 (by decide) (by decide +kernel)) <|
  mj_c1 (k_ifeq (off := 11) (by decide +kernel) (by decide)) <|
  mj_c1 (k_aloadn (k := 0) (by decide +kernel) rfl) <|
  mj_c1 (k_iloadn (k := 1) (by decide +kernel) rfl) <|
  mj_c1 (k_callV (idx := 96) (by decide +kernel) (fit_m_R_takeInputs_m_R_takeOwn) rfl rfl w_457 w_459 v_17 (by decide) (by decide +kernel)) <|
  mj_c1 (k_ifne (off := 5) (by decide +kernel) (by decide)) <|
  mj_c1 (k_iconst (by decide +kernel)) <|
  mj_c1 (k_zret (by decide +kernel) rfl) <|
  mj_c1 (k_iinc (by decide +kernel) (by decide)) <|
  mj_c1 (k_goto (off := -54) (by decide +kernel) (by decide)) <|
  mj_c1 (k_iconst (by decide +kernel)) <|
  mj_c1 (k_zret (by decide +kernel) rfl) mj_c0
def q_R_takeOwn : List (Nat × mj_Sem) := [(0, o_al 0 1), (1, o_gR 4 7 4), (4, o_al 0 5), (5, o_gR 4 4 8), (8, o_ic 0 9), (9, o_ial 10), (10, o_call m_N_isFree 2 0 0 13 (mj_rv 3)), (13, o_ifne 29 16), (16, o_al 0 17), (17, o_ic 6 19), (19, o_al 0 20), (20, o_gR 4 5 23), (23, o_ic 0 24), (24, o_ial 25), (25, o_call m_R_fail 3 0 0 28 (mj_rv 4)), (28, o_zret 0 0), (29, o_al 0 30), (30, o_gR 4 7 33), (33, o_il 1 34), (34, o_al 0 35), (35, o_gR 4 4 38), (38, o_ic 0 39), (39, o_ial 40), (40, o_call m_N_place 3 0 0 43 (mj_rv 3)), (43, o_ic 1 44), (44, o_zret 0 0)]
set_option maxRecDepth 100000 in
theorem z_R_takeOwn : mj_Code (m_R_takeOwn) (q_R_takeOwn) :=
  mj_c1 (k_aloadn (k := 0) (by decide +kernel) rfl) <|
  mj_c1 (k_gR (idx := 32) h_R (by decide) rfl w_239 (by decide +kernel)) <|
  mj_c1 (k_aloadn (k := 0) (by decide +kernel) rfl) <|
  mj_c1 (k_gR (idx := 15) h_R (by decide) rfl w_236 (by decide +kernel)) <|
  mj_c1 (k_iconst (by decide +kernel)) <|
  mj_c1 (k_ial (by decide +kernel)) <|
  mj_c1 (k_callV (idx := 132) (by decide +kernel) (fit_m_R_takeOwn_m_N_isFree) rfl rfl w_461 w_462 w_463 (by decide) (by decide +kernel)) <|
  mj_c1 (k_ifne (off := 16) (by decide +kernel) (by decide)) <|
  mj_c1 (k_aloadn (k := 0) (by decide +kernel) rfl) <|
  mj_c1 (k_bipush (by decide +kernel) (by decide)) <|
  mj_c1 (k_aloadn (k := 0) (by decide +kernel) rfl) <|
  mj_c1 (k_gR (idx := 19) h_R (by decide) rfl w_237 (by decide +kernel)) <|
  mj_c1 (k_iconst (by decide +kernel)) <|
  mj_c1 (k_ial (by decide +kernel)) <|
  mj_c1 (k_callV (idx := 75) (by decide +kernel) (fit_m_R_takeOwn_m_R_fail) rfl rfl w_432 w_434 v_12 (by decide) (by decide +kernel)) <|
  mj_c1 (k_zret (by decide +kernel) rfl) <|
  mj_c1 (k_aloadn (k := 0) (by decide +kernel) rfl) <|
  mj_c1 (k_gR (idx := 32) h_R (by decide) rfl w_239 (by decide +kernel)) <|
  mj_c1 (k_iloadn (k := 1) (by decide +kernel) rfl) <|
  mj_c1 (k_aloadn (k := 0) (by decide +kernel) rfl) <|
  mj_c1 (k_gR (idx := 15) h_R (by decide) rfl w_236 (by decide +kernel)) <|
  mj_c1 (k_iconst (by decide +kernel)) <|
  mj_c1 (k_ial (by decide +kernel)) <|
  mj_c1 (k_callV (idx := 93) (by decide +kernel) (fit_m_R_takeOwn_m_N_place) rfl rfl w_453 w_454 w_455 (by decide) (by decide +kernel)) <|
  mj_c1 (k_iconst (by decide +kernel)) <|
  mj_c1 (k_zret (by decide +kernel) rfl) mj_c0
def q_R_takeOutputs : List (Nat × mj_Sem) := [(0, o_ic 0 1), (1, o_is 1 2), (2, o_il 1 3), (3, o_al 0 4), (4, o_gR 4 7 7), (7, o_gI 3 12 10), (10, o_icge 53 13), (13, o_al 0 14), (14, o_ic 1 15), (15, o_ic 5 16), (16, o_call m_R_takeLine 3 0 0 19 (mj_rv 4)), (19, o_ifeq 30 22), (22, o_al 0 23), (23, o_ic 0 24), (24, o_call m_R_takeUsed 2 0 0 27 (mj_rv 4)), (27, o_ifne 32 30), (30, o_ic 0 31), (31, o_zret 0 0), (32, o_al 0 33), (33, o_gR 4 7 36), (36, o_gR 3 4 39), (39, o_il 1 40), (40, o_al 0 41), (41, o_gR 4 4 44), (44, o_ic 0 45), (45, o_ial 46), (46, o_ias 47), (47, o_inc 1 1 50), (50, o_goto 2), (53, o_ic 1 54), (54, o_zret 0 0)]
set_option maxRecDepth 100000 in
theorem z_R_takeOutputs : mj_Code (m_R_takeOutputs) (q_R_takeOutputs) :=
  mj_c1 (k_iconst (by decide +kernel)) <|
  mj_c1 (k_istoren (k := 1) (by decide +kernel) rfl (by decide)) <|
  mj_c1 (k_iloadn (k := 1) (by decide +kernel) rfl) <|
  mj_c1 (k_aloadn (k := 0) (by decide +kernel) rfl) <|
  mj_c1 (k_gR (idx := 32) h_R (by decide) rfl w_239 (by decide +kernel)) <|
  mj_c1 (k_gI (idx := 100) h_N (by decide) rfl w_90 (by decide +kernel)) <|
  mj_c1 (k_icge (off := 43) (by decide +kernel) (by decide)) <|
  mj_c1 (k_aloadn (k := 0) (by decide +kernel) rfl) <|
  mj_c1 (k_iconst (by decide +kernel)) <|
  mj_c1 (k_iconst (by decide +kernel)) <|
  mj_c1 (k_callV (idx := 83) (by decide +kernel) (fit_m_R_takeOutputs_m_R_takeLine) rfl rfl w_440 w_442 v_14 (by decide) (by decide +kernel)) <|
  mj_c1 (k_ifeq (off := 11) (by decide +kernel) (by decide)) <|
  mj_c1 (k_aloadn (k := 0) (by decide +kernel) rfl) <|
  mj_c1 (k_iconst (by decide +kernel)) <|
  mj_c1 (k_callV (idx := 103) (by decide +kernel) (fit_m_R_takeOutputs_m_R_takeUsed) rfl rfl w_474 w_476 v_19 (by decide) (by decide +kernel)) <|
  mj_c1 (k_ifne (off := 5) (by decide +kernel) (by decide)) <|
  mj_c1 (k_iconst (by decide +kernel)) <|
  mj_c1 (k_zret (by decide +kernel) rfl) <|
  mj_c1 (k_aloadn (k := 0) (by decide +kernel) rfl) <|
  mj_c1 (k_gR (idx := 32) h_R (by decide) rfl w_239 (by decide +kernel)) <|
  mj_c1 (k_gR (idx := 106) h_N (by decide) rfl w_64 (by decide +kernel)) <|
  mj_c1 (k_iloadn (k := 1) (by decide +kernel) rfl) <|
  mj_c1 (k_aloadn (k := 0) (by decide +kernel) rfl) <|
  mj_c1 (k_gR (idx := 15) h_R (by decide) rfl w_236 (by decide +kernel)) <|
  mj_c1 (k_iconst (by decide +kernel)) <|
  mj_c1 (k_ial (by decide +kernel)) <|
  mj_c1 (k_ias (by decide +kernel)) <|
  mj_c1 (k_iinc (by decide +kernel) (by decide)) <|
  mj_c1 (k_goto (off := -48) (by decide +kernel) (by decide)) <|
  mj_c1 (k_iconst (by decide +kernel)) <|
  mj_c1 (k_zret (by decide +kernel) rfl) mj_c0
def q_R_takeUsed : List (Nat × mj_Sem) := [(0, o_al 0 1), (1, o_gR 4 7 4), (4, o_al 0 5), (5, o_gR 4 4 8), (8, o_il 1 9), (9, o_ial 10), (10, o_call m_N_exists 2 0 0 13 (mj_rv 3)), (13, o_ifne 31 16), (16, o_al 0 17), (17, o_ic 6 19), (19, o_al 0 20), (20, o_gR 4 5 23), (23, o_il 1 24), (24, o_ial 25), (25, o_call m_R_fail 3 0 0 28 (mj_rv 4)), (28, o_ifeq 35 31), (31, o_ic 1 32), (32, o_goto 36), (35, o_ic 0 36), (36, o_zret 0 0)]
set_option maxRecDepth 100000 in
theorem z_R_takeUsed : mj_Code (m_R_takeUsed) (q_R_takeUsed) :=
  mj_c1 (k_aloadn (k := 0) (by decide +kernel) rfl) <|
  mj_c1 (k_gR (idx := 32) h_R (by decide) rfl w_239 (by decide +kernel)) <|
  mj_c1 (k_aloadn (k := 0) (by decide +kernel) rfl) <|
  mj_c1 (k_gR (idx := 15) h_R (by decide) rfl w_236 (by decide +kernel)) <|
  mj_c1 (k_iloadn (k := 1) (by decide +kernel) rfl) <|
  mj_c1 (k_ial (by decide +kernel)) <|
  mj_c1 (k_callV (idx := 135) (by decide +kernel) (fit_m_R_takeUsed_m_N_exists) rfl rfl w_478 w_466 w_467 (by decide) (by decide +kernel)) <|
  mj_c1 (k_ifne (off := 18) (by decide +kernel) (by decide)) <|
  mj_c1 (k_aloadn (k := 0) (by decide +kernel) rfl) <|
  mj_c1 (k_bipush (by decide +kernel) (by decide)) <|
  mj_c1 (k_aloadn (k := 0) (by decide +kernel) rfl) <|
  mj_c1 (k_gR (idx := 19) h_R (by decide) rfl w_237 (by decide +kernel)) <|
  mj_c1 (k_iloadn (k := 1) (by decide +kernel) rfl) <|
  mj_c1 (k_ial (by decide +kernel)) <|
  mj_c1 (k_callV (idx := 75) (by decide +kernel) (fit_m_R_takeUsed_m_R_fail) rfl rfl w_432 w_434 v_12 (by decide) (by decide +kernel)) <|
  mj_c1 (k_ifeq (off := 7) (by decide +kernel) (by decide)) <|
  mj_c1 (k_iconst (by decide +kernel)) <|
  mj_c1 (k_goto (off := 4) (by decide +kernel) (by decide)) <|
  mj_c1 (k_iconst (by decide +kernel)) <|
  mj_c1 (k_zret (by decide +kernel) rfl) mj_c0
def q_R_takeGates : List (Nat × mj_Sem) := [(0, o_al 0 1), (1, o_gR 4 7 4), (4, o_gI 3 10 7), (7, o_ic 1 8), (8, o_iadd 9), (9, o_is 1 10), (10, o_il 1 11), (11, o_al 0 12), (12, o_gR 4 7 15), (15, o_gI 3 10 18), (18, o_al 0 19), (19, o_gR 4 7 22), (22, o_gI 3 11 25), (25, o_iadd 26), (26, o_icgt 62 29), (29, o_al 0 30), (30, o_gI 4 9 33), (33, o_ifeq 44 36), (36, o_al 0 37), (37, o_il 1 38), (38, o_call m_R_takeStepGate 2 0 0 41 (mj_rv 4)), (41, o_goto 49), (44, o_al 0 45), (45, o_il 1 46), (46, o_call m_R_takeLineGate 2 0 0 49 (mj_rv 4)), (49, o_is 2 50), (50, o_il 2 51), (51, o_ifne 56 54), (54, o_ic 0 55), (55, o_zret 0 0), (56, o_inc 1 1 59), (59, o_goto 10), (62, o_ic 1 63), (63, o_zret 0 0)]
set_option maxRecDepth 100000 in
theorem z_R_takeGates : mj_Code (m_R_takeGates) (q_R_takeGates) :=
  mj_c1 (k_aloadn (k := 0) (by decide +kernel) rfl) <|
  mj_c1 (k_gR (idx := 32) h_R (by decide) rfl w_239 (by decide +kernel)) <|
  mj_c1 (k_gI (idx := 90) h_N (by decide) rfl w_81 (by decide +kernel)) <|
  mj_c1 (k_iconst (by decide +kernel)) <|
  mj_c1 (k_iadd (by decide +kernel)) <|
  mj_c1 (k_istoren (k := 1) (by decide +kernel) rfl (by decide)) <|
  mj_c1 (k_iloadn (k := 1) (by decide +kernel) rfl) <|
  mj_c1 (k_aloadn (k := 0) (by decide +kernel) rfl) <|
  mj_c1 (k_gR (idx := 32) h_R (by decide) rfl w_239 (by decide +kernel)) <|
  mj_c1 (k_gI (idx := 90) h_N (by decide) rfl w_81 (by decide +kernel)) <|
  mj_c1 (k_aloadn (k := 0) (by decide +kernel) rfl) <|
  mj_c1 (k_gR (idx := 32) h_R (by decide) rfl w_239 (by decide +kernel)) <|
  mj_c1 (k_gI (idx := 109) h_N (by decide) rfl w_86 (by decide +kernel)) <|
  mj_c1 (k_iadd (by decide +kernel)) <|
  mj_c1 (k_icgt (off := 36) (by decide +kernel) (by decide)) <|
  mj_c1 (k_aloadn (k := 0) (by decide +kernel) rfl) <|
  mj_c1 (k_gI (idx := 79) h_R (by decide) rfl w_241 (by decide +kernel)) <|
  mj_c1 (k_ifeq (off := 11) (by decide +kernel) (by decide)) <|
  mj_c1 (k_aloadn (k := 0) (by decide +kernel) rfl) <|
  mj_c1 (k_iloadn (k := 1) (by decide +kernel) rfl) <|
  mj_c1 (k_callV (idx := 112) (by decide +kernel) (fit_m_R_takeGates_m_R_takeStepGate) rfl rfl w_483 w_485 v_21 (by decide) (by decide +kernel)) <|
  mj_c1 (k_goto (off := 8) (by decide +kernel) (by decide)) <|
  mj_c1 (k_aloadn (k := 0) (by decide +kernel) rfl) <|
  mj_c1 (k_iloadn (k := 1) (by decide +kernel) rfl) <|
  mj_c1 (k_callV (idx := 115) (by decide +kernel) (fit_m_R_takeGates_m_R_takeLineGate) rfl rfl w_491 w_493 v_23 (by decide) (by decide +kernel)) <|
  mj_c1 (k_istoren (k := 2) (by decide +kernel) rfl (by decide)) <|
  mj_c1 (k_iloadn (k := 2) (by decide +kernel) rfl) <|
  mj_c1 (k_ifne (off := 5) (by decide +kernel) (by decide)) <|
  mj_c1 (k_iconst (by decide +kernel)) <|
  mj_c1 (k_zret (by decide +kernel) rfl) <|
  mj_c1 (k_iinc (by decide +kernel) (by decide)) <|
  mj_c1 (k_goto (off := -49) (by decide +kernel) (by decide)) <|
  mj_c1 (k_iconst (by decide +kernel)) <|
  mj_c1 (k_zret (by decide +kernel) rfl) mj_c0
def q_R_takeStepGate : List (Nat × mj_Sem) := [(0, o_ic 2 1), (1, o_il 1 2), (2, o_imul 3), (3, o_is 2 4), (4, o_al 0 5), (5, o_gR 4 7 8), (8, o_il 1 9), (9, o_il 2 10), (10, o_call m_N_place 3 0 0 13 (mj_rv 3)), (13, o_al 0 14), (14, o_gI 4 8 17), (17, o_is 3 18), (18, o_al 0 19), (19, o_call m_R_takeStep 1 0 0 22 (mj_rv 4)), (22, o_is 4 24), (24, o_il 4 26), (26, o_ic (-1) 27), (27, o_icne 32 30), (30, o_ic 0 31), (31, o_zret 0 0), (32, o_il 4 34), (34, o_ifeq 43 37), (37, o_il 4 39), (39, o_il 2 40), (40, o_icle 51 43), (43, o_al 0 44), (44, o_ic 6 46), (46, o_il 3 47), (47, o_call m_R_fail 3 0 0 50 (mj_rv 4)), (50, o_zret 0 0), (51, o_al 0 52), (52, o_gR 4 7 55), (55, o_gR 3 2 58), (58, o_il 1 59), (59, o_il 2 60), (60, o_il 4 62), (62, o_isub 63), (63, o_ias 64), (64, o_al 0 65), (65, o_gI 4 8 68), (68, o_is 3 69), (69, o_al 0 70), (70, o_call m_R_takeStep 1 0 0 73 (mj_rv 4)), (73, o_is 4 75), (75, o_il 4 77), (77, o_ic (-1) 78), (78, o_icne 83 81), (81, o_ic 0 82), (82, o_zret 0 0), (83, o_il 4 85), (85, o_al 0 86), (86, o_gR 4 7 89), (89, o_gR 3 2 92), (92, o_il 1 93), (93, o_ial 94), (94, o_icle 105 97), (97, o_al 0 98), (98, o_ic 6 100), (100, o_il 3 101), (101, o_call m_R_fail 3 0 0 104 (mj_rv 4)), (104, o_zret 0 0), (105, o_al 0 106), (106, o_gR 4 7 109), (109, o_gR 3 3 112), (112, o_il 1 113), (113, o_al 0 114), (114, o_gR 4 7 117), (117, o_gR 3 2 120), (120, o_il 1 121), (121, o_ial 122), (122, o_il 4 124), (124, o_isub 125), (125, o_ias 126), (126, o_ic 1 127), (127, o_zret 0 0)]
set_option maxRecDepth 100000 in
theorem z_R_takeStepGate : mj_Code (m_R_takeStepGate) (q_R_takeStepGate) :=
  mj_c1 (k_iconst (by decide +kernel)) <|
  mj_c1 (k_iloadn (k := 1) (by decide +kernel) rfl) <|
  mj_c1 (k_imul (by decide +kernel)) <|
  mj_c1 (k_istoren (k := 2) (by decide +kernel) rfl (by decide)) <|
  mj_c1 (k_aloadn (k := 0) (by decide +kernel) rfl) <|
  mj_c1 (k_gR (idx := 32) h_R (by decide) rfl w_239 (by decide +kernel)) <|
  mj_c1 (k_iloadn (k := 1) (by decide +kernel) rfl) <|
  mj_c1 (k_iloadn (k := 2) (by decide +kernel) rfl) <|
  mj_c1 (k_callV (idx := 93) (by decide +kernel) (fit_m_R_takeStepGate_m_N_place) rfl rfl w_453 w_454 w_455 (by decide) (by decide +kernel)) <|
  mj_c1 (k_aloadn (k := 0) (by decide +kernel) rfl) <|
  mj_c1 (k_gI (idx := 40) h_R (by decide) rfl w_240 (by decide +kernel)) <|
  mj_c1 (k_istoren (k := 3) (by decide +kernel) rfl (by decide)) <|
  mj_c1 (k_aloadn (k := 0) (by decide +kernel) rfl) <|
  mj_c1 (k_callV (idx := 124) (by decide +kernel) (fit_m_R_takeStepGate_m_R_takeStep) rfl rfl w_487 w_489 v_22 (by decide) (by decide +kernel)) <|
  mj_c1 (k_istore (by decide +kernel) (by decide)) <|
  mj_c1 (k_iload (by decide +kernel)) <|
  mj_c1 (k_iconst (by decide +kernel)) <|
  mj_c1 (k_icne (off := 5) (by decide +kernel) (by decide)) <|
  mj_c1 (k_iconst (by decide +kernel)) <|
  mj_c1 (k_zret (by decide +kernel) rfl) <|
  mj_c1 (k_iload (by decide +kernel)) <|
  mj_c1 (k_ifeq (off := 9) (by decide +kernel) (by decide)) <|
  mj_c1 (k_iload (by decide +kernel)) <|
  mj_c1 (k_iloadn (k := 2) (by decide +kernel) rfl) <|
  mj_c1 (k_icle (off := 11) (by decide +kernel) (by decide)) <|
  mj_c1 (k_aloadn (k := 0) (by decide +kernel) rfl) <|
  mj_c1 (k_bipush (by decide +kernel) (by decide)) <|
  mj_c1 (k_iloadn (k := 3) (by decide +kernel) rfl) <|
  mj_c1 (k_callV (idx := 75) (by decide +kernel) (fit_m_R_takeStepGate_m_R_fail) rfl rfl w_432 w_434 v_12 (by decide) (by decide +kernel)) <|
  mj_c1 (k_zret (by decide +kernel) rfl) <|
  mj_c1 (k_aloadn (k := 0) (by decide +kernel) rfl) <|
  mj_c1 (k_gR (idx := 32) h_R (by decide) rfl w_239 (by decide +kernel)) <|
  mj_c1 (k_gR (idx := 118) h_N (by decide) rfl w_55 (by decide +kernel)) <|
  mj_c1 (k_iloadn (k := 1) (by decide +kernel) rfl) <|
  mj_c1 (k_iloadn (k := 2) (by decide +kernel) rfl) <|
  mj_c1 (k_iload (by decide +kernel)) <|
  mj_c1 (k_isub (by decide +kernel)) <|
  mj_c1 (k_ias (by decide +kernel)) <|
  mj_c1 (k_aloadn (k := 0) (by decide +kernel) rfl) <|
  mj_c1 (k_gI (idx := 40) h_R (by decide) rfl w_240 (by decide +kernel)) <|
  mj_c1 (k_istoren (k := 3) (by decide +kernel) rfl (by decide)) <|
  mj_c1 (k_aloadn (k := 0) (by decide +kernel) rfl) <|
  mj_c1 (k_callV (idx := 124) (by decide +kernel) (fit_m_R_takeStepGate_m_R_takeStep) rfl rfl w_487 w_489 v_22 (by decide) (by decide +kernel)) <|
  mj_c1 (k_istore (by decide +kernel) (by decide)) <|
  mj_c1 (k_iload (by decide +kernel)) <|
  mj_c1 (k_iconst (by decide +kernel)) <|
  mj_c1 (k_icne (off := 5) (by decide +kernel) (by decide)) <|
  mj_c1 (k_iconst (by decide +kernel)) <|
  mj_c1 (k_zret (by decide +kernel) rfl) <|
  mj_c1 (k_iload (by decide +kernel)) <|
  mj_c1 (k_aloadn (k := 0) (by decide +kernel) rfl) <|
  mj_c1 (k_gR (idx := 32) h_R (by decide) rfl w_239 (by decide +kernel)) <|
  mj_c1 (k_gR (idx := 118) h_N (by decide) rfl w_55 (by decide +kernel)) <|
  mj_c1 (k_iloadn (k := 1) (by decide +kernel) rfl) <|
  mj_c1 (k_ial (by decide +kernel)) <|
  mj_c1 (k_icle (off := 11) (by decide +kernel) (by decide)) <|
  mj_c1 (k_aloadn (k := 0) (by decide +kernel) rfl) <|
  mj_c1 (k_bipush (by decide +kernel) (by decide)) <|
  mj_c1 (k_iloadn (k := 3) (by decide +kernel) rfl) <|
  mj_c1 (k_callV (idx := 75) (by decide +kernel) (fit_m_R_takeStepGate_m_R_fail) rfl rfl w_432 w_434 v_12 (by decide) (by decide +kernel)) <|
  mj_c1 (k_zret (by decide +kernel) rfl) <|
  mj_c1 (k_aloadn (k := 0) (by decide +kernel) rfl) <|
  mj_c1 (k_gR (idx := 32) h_R (by decide) rfl w_239 (by decide +kernel)) <|
  mj_c1 (k_gR (idx := 121) h_N (by decide) rfl w_60 (by decide +kernel)) <|
  mj_c1 (k_iloadn (k := 1) (by decide +kernel) rfl) <|
  mj_c1 (k_aloadn (k := 0) (by decide +kernel) rfl) <|
  mj_c1 (k_gR (idx := 32) h_R (by decide) rfl w_239 (by decide +kernel)) <|
  mj_c1 (k_gR (idx := 118) h_N (by decide) rfl w_55 (by decide +kernel)) <|
  mj_c1 (k_iloadn (k := 1) (by decide +kernel) rfl) <|
  mj_c1 (k_ial (by decide +kernel)) <|
  mj_c1 (k_iload (by decide +kernel)) <|
  mj_c1 (k_isub (by decide +kernel)) <|
  mj_c1 (k_ias (by decide +kernel)) <|
  mj_c1 (k_iconst (by decide +kernel)) <|
  mj_c1 (k_zret (by decide +kernel) rfl) mj_c0
def q_R_takeStep : List (Nat × mj_Sem) := [(0, o_al 0 1), (1, o_al 0 2), (2, o_gI 4 8 5), (5, o_call m_R_byteAt 2 0 0 8 (mj_rv 4)), (8, o_is 1 9), (9, o_ic 0 10), (10, o_is 2 11), (11, o_il 1 12), (12, o_ic 128 15), (15, o_iclt 53 18), (18, o_al 0 19), (19, o_dup 20), (20, o_gI 4 8 23), (23, o_ic 1 24), (24, o_iadd 25), (25, o_pI 4 8 28), (28, o_inc 1 (-128) 31), (31, o_al 0 32), (32, o_al 0 33), (33, o_gI 4 8 36), (36, o_call m_R_byteAt 2 0 0 39 (mj_rv 4)), (39, o_is 2 40), (40, o_il 2 41), (41, o_ifeq 51 44), (44, o_il 2 45), (45, o_ic 128 48), (48, o_iclt 53 51), (51, o_ic (-1) 52), (52, o_is 2 53), (53, o_il 1 54), (54, o_ic (-1) 55), (55, o_iceq 63 58), (58, o_il 2 59), (59, o_ic (-1) 60), (60, o_icne 75 63), (63, o_al 0 64), (64, o_ic 5 65), (65, o_al 0 66), (66, o_gI 4 8 69), (69, o_call m_R_fail 3 0 0 72 (mj_rv 4)), (72, o_pop 73), (73, o_ic (-1) 74), (74, o_iret 0 0), (75, o_al 0 76), (76, o_dup 77), (77, o_gI 4 8 80), (80, o_ic 1 81), (81, o_iadd 82), (82, o_pI 4 8 85), (85, o_il 1 86), (86, o_ic 128 89), (89, o_il 2 90), (90, o_imul 91), (91, o_iadd 92), (92, o_iret 0 0)]
set_option maxRecDepth 100000 in
theorem z_R_takeStep : mj_Code (m_R_takeStep) (q_R_takeStep) :=
  mj_c1 (k_aloadn (k := 0) (by decide +kernel) rfl) <|
  mj_c1 (k_aloadn (k := 0) (by decide +kernel) rfl) <|
  mj_c1 (k_gI (idx := 40) h_R (by decide) rfl w_240 (by decide +kernel)) <|
  mj_c1 (k_callV (idx := 71) (by decide +kernel) (fit_m_R_takeStep_m_R_byteAt) rfl rfl w_428 w_430 v_11 (by decide) (by decide +kernel)) <|
  mj_c1 (k_istoren (k := 1) (by decide +kernel) rfl (by decide)) <|
  mj_c1 (k_iconst (by decide +kernel)) <|
  mj_c1 (k_istoren (k := 2) (by decide +kernel) rfl (by decide)) <|
  mj_c1 (k_iloadn (k := 1) (by decide +kernel) rfl) <|
  mj_c1 (k_sipush (by decide +kernel) (by decide)) <|
  mj_c1 (k_iclt (off := 38) (by decide +kernel) (by decide)) <|
  mj_c1 (k_aloadn (k := 0) (by decide +kernel) rfl) <|
  mj_c1 (k_dup (by decide +kernel)) <|
  mj_c1 (k_gI (idx := 40) h_R (by decide) rfl w_240 (by decide +kernel)) <|
  mj_c1 (k_iconst (by decide +kernel)) <|
  mj_c1 (k_iadd (by decide +kernel)) <|
  mj_c1 (k_pI (idx := 40) h_R (by decide) rfl rfl w_240 rfl (by decide +kernel)) <|
  mj_c1 (k_iinc (by decide +kernel) (by decide)) <|
  mj_c1 (k_aloadn (k := 0) (by decide +kernel) rfl) <|
  mj_c1 (k_aloadn (k := 0) (by decide +kernel) rfl) <|
  mj_c1 (k_gI (idx := 40) h_R (by decide) rfl w_240 (by decide +kernel)) <|
  mj_c1 (k_callV (idx := 71) (by decide +kernel) (fit_m_R_takeStep_m_R_byteAt) rfl rfl w_428 w_430 v_11 (by decide) (by decide +kernel)) <|
  mj_c1 (k_istoren (k := 2) (by decide +kernel) rfl (by decide)) <|
  mj_c1 (k_iloadn (k := 2) (by decide +kernel) rfl) <|
  mj_c1 (k_ifeq (off := 10) (by decide +kernel) (by decide)) <|
  mj_c1 (k_iloadn (k := 2) (by decide +kernel) rfl) <|
  mj_c1 (k_sipush (by decide +kernel) (by decide)) <|
  mj_c1 (k_iclt (off := 5) (by decide +kernel) (by decide)) <|
  mj_c1 (k_iconst (by decide +kernel)) <|
  mj_c1 (k_istoren (k := 2) (by decide +kernel) rfl (by decide)) <|
  mj_c1 (k_iloadn (k := 1) (by decide +kernel) rfl) <|
  mj_c1 (k_iconst (by decide +kernel)) <|
  mj_c1 (k_iceq (off := 8) (by decide +kernel) (by decide)) <|
  mj_c1 (k_iloadn (k := 2) (by decide +kernel) rfl) <|
  mj_c1 (k_iconst (by decide +kernel)) <|
  mj_c1 (k_icne (off := 15) (by decide +kernel) (by decide)) <|
  mj_c1 (k_aloadn (k := 0) (by decide +kernel) rfl) <|
  mj_c1 (k_iconst (by decide +kernel)) <|
  mj_c1 (k_aloadn (k := 0) (by decide +kernel) rfl) <|
  mj_c1 (k_gI (idx := 40) h_R (by decide) rfl w_240 (by decide +kernel)) <|
  mj_c1 (k_callV (idx := 75) (by decide +kernel) (fit_m_R_takeStep_m_R_fail) rfl rfl w_432 w_434 v_12 (by decide) (by decide +kernel)) <|
  mj_c1 (k_pop (by decide +kernel)) <|
  mj_c1 (k_iconst (by decide +kernel)) <|
  mj_c1 (k_iret (by decide +kernel) rfl) <|
  mj_c1 (k_aloadn (k := 0) (by decide +kernel) rfl) <|
  mj_c1 (k_dup (by decide +kernel)) <|
  mj_c1 (k_gI (idx := 40) h_R (by decide) rfl w_240 (by decide +kernel)) <|
  mj_c1 (k_iconst (by decide +kernel)) <|
  mj_c1 (k_iadd (by decide +kernel)) <|
  mj_c1 (k_pI (idx := 40) h_R (by decide) rfl rfl w_240 rfl (by decide +kernel)) <|
  mj_c1 (k_iloadn (k := 1) (by decide +kernel) rfl) <|
  mj_c1 (k_sipush (by decide +kernel) (by decide)) <|
  mj_c1 (k_iloadn (k := 2) (by decide +kernel) rfl) <|
  mj_c1 (k_imul (by decide +kernel)) <|
  mj_c1 (k_iadd (by decide +kernel)) <|
  mj_c1 (k_iret (by decide +kernel) rfl) mj_c0
def q_R_takeLineGate : List (Nat × mj_Sem) := [(0, o_al 0 1), (1, o_ic 3 2), (2, o_ic 5 3), (3, o_call m_R_takeLine 3 0 0 6 (mj_rv 4)), (6, o_ifeq 33 9), (9, o_al 0 10), (10, o_il 1 11), (11, o_call m_R_takeOwn 2 0 0 14 (mj_rv 4)), (14, o_ifeq 33 17), (17, o_al 0 18), (18, o_ic 1 19), (19, o_call m_R_takeUsed 2 0 0 22 (mj_rv 4)), (22, o_ifeq 33 25), (25, o_al 0 26), (26, o_ic 2 27), (27, o_call m_R_takeUsed 2 0 0 30 (mj_rv 4)), (30, o_ifne 35 33), (33, o_ic 0 34), (34, o_zret 0 0), (35, o_al 0 36), (36, o_gR 4 7 39), (39, o_gR 3 2 42), (42, o_il 1 43), (43, o_al 0 44), (44, o_gR 4 4 47), (47, o_ic 1 48), (48, o_ial 49), (49, o_ias 50), (50, o_al 0 51), (51, o_gR 4 7 54), (54, o_gR 3 3 57), (57, o_il 1 58), (58, o_al 0 59), (59, o_gR 4 4 62), (62, o_ic 2 63), (63, o_ial 64), (64, o_ias 65), (65, o_ic 1 66), (66, o_zret 0 0)]
set_option maxRecDepth 100000 in
theorem z_R_takeLineGate : mj_Code (m_R_takeLineGate) (q_R_takeLineGate) :=
  mj_c1 (k_aloadn (k := 0) (by decide +kernel) rfl) <|
  mj_c1 (k_iconst (by decide +kernel)) <|
  mj_c1 (k_iconst (by decide +kernel)) <|
  mj_c1 (k_callV (idx := 83) (by decide +kernel) (fit_m_R_takeLineGate_m_R_takeLine) rfl rfl w_440 w_442 v_14 (by decide) (by decide +kernel)) <|
  mj_c1 (k_ifeq (off := 27) (by decide +kernel) (by decide)) <|
  mj_c1 (k_aloadn (k := 0) (by decide +kernel) rfl) <|
  mj_c1 (k_iloadn (k := 1) (by decide +kernel) rfl) <|
  mj_c1 (k_callV (idx := 96) (by decide +kernel) (fit_m_R_takeLineGate_m_R_takeOwn) rfl rfl w_457 w_459 v_17 (by decide) (by decide +kernel)) <|
  mj_c1 (k_ifeq (off := 19) (by decide +kernel) (by decide)) <|
  mj_c1 (k_aloadn (k := 0) (by decide +kernel) rfl) <|
  mj_c1 (k_iconst (by decide +kernel)) <|
  mj_c1 (k_callV (idx := 103) (by decide +kernel) (fit_m_R_takeLineGate_m_R_takeUsed) rfl rfl w_474 w_476 v_19 (by decide) (by decide +kernel)) <|
  mj_c1 (k_ifeq (off := 11) (by decide +kernel) (by decide)) <|
  mj_c1 (k_aloadn (k := 0) (by decide +kernel) rfl) <|
  mj_c1 (k_iconst (by decide +kernel)) <|
  mj_c1 (k_callV (idx := 103) (by decide +kernel) (fit_m_R_takeLineGate_m_R_takeUsed) rfl rfl w_474 w_476 v_19 (by decide) (by decide +kernel)) <|
  mj_c1 (k_ifne (off := 5) (by decide +kernel) (by decide)) <|
  mj_c1 (k_iconst (by decide +kernel)) <|
  mj_c1 (k_zret (by decide +kernel) rfl) <|
  mj_c1 (k_aloadn (k := 0) (by decide +kernel) rfl) <|
  mj_c1 (k_gR (idx := 32) h_R (by decide) rfl w_239 (by decide +kernel)) <|
  mj_c1 (k_gR (idx := 118) h_N (by decide) rfl w_55 (by decide +kernel)) <|
  mj_c1 (k_iloadn (k := 1) (by decide +kernel) rfl) <|
  mj_c1 (k_aloadn (k := 0) (by decide +kernel) rfl) <|
  mj_c1 (k_gR (idx := 15) h_R (by decide) rfl w_236 (by decide +kernel)) <|
  mj_c1 (k_iconst (by decide +kernel)) <|
  mj_c1 (k_ial (by decide +kernel)) <|
  mj_c1 (k_ias (by decide +kernel)) <|
  mj_c1 (k_aloadn (k := 0) (by decide +kernel) rfl) <|
  mj_c1 (k_gR (idx := 32) h_R (by decide) rfl w_239 (by decide +kernel)) <|
  mj_c1 (k_gR (idx := 121) h_N (by decide) rfl w_60 (by decide +kernel)) <|
  mj_c1 (k_iloadn (k := 1) (by decide +kernel) rfl) <|
  mj_c1 (k_aloadn (k := 0) (by decide +kernel) rfl) <|
  mj_c1 (k_gR (idx := 15) h_R (by decide) rfl w_236 (by decide +kernel)) <|
  mj_c1 (k_iconst (by decide +kernel)) <|
  mj_c1 (k_ial (by decide +kernel)) <|
  mj_c1 (k_ias (by decide +kernel)) <|
  mj_c1 (k_iconst (by decide +kernel)) <|
  mj_c1 (k_zret (by decide +kernel) rfl) mj_c0
def q_R_takeEnd : List (Nat × mj_Sem) := [(0, o_al 0 1), (1, o_gI 4 8 4), (4, o_al 0 5), (5, o_gI 4 0 8), (8, o_icne 13 11), (11, o_ic 1 12), (12, o_zret 0 0), (13, o_al 0 14), (14, o_al 0 15), (15, o_gI 4 8 18), (18, o_call m_R_byteAt 2 0 0 21 (mj_rv 4)), (21, o_ic 99 23), (23, o_iceq 36 26), (26, o_al 0 27), (27, o_ic 5 28), (28, o_al 0 29), (29, o_gI 4 8 32), (32, o_call m_R_fail 3 0 0 35 (mj_rv 4)), (35, o_zret 0 0), (36, o_al 0 37), (37, o_al 0 38), (38, o_gI 4 8 41), (41, o_ic 1 42), (42, o_iadd 43), (43, o_call m_R_byteAt 2 0 0 46 (mj_rv 4)), (46, o_ic 10 48), (48, o_iceq 65 51), (51, o_al 0 52), (52, o_ic 5 53), (53, o_al 0 54), (54, o_gI 4 8 57), (57, o_ic 1 58), (58, o_iadd 59), (59, o_call m_R_fail 3 0 0 62 (mj_rv 4)), (62, o_ifeq 69 65), (65, o_ic 1 66), (66, o_goto 70), (69, o_ic 0 70), (70, o_zret 0 0)]
set_option maxRecDepth 100000 in
theorem z_R_takeEnd : mj_Code (m_R_takeEnd) (q_R_takeEnd) :=
  mj_c1 (k_aloadn (k := 0) (by decide +kernel) rfl) <|
  mj_c1 (k_gI (idx := 40) h_R (by decide) rfl w_240 (by decide +kernel)) <|
  mj_c1 (k_aloadn (k := 0) (by decide +kernel) rfl) <|
  mj_c1 (k_gI (idx := 36) h_R (by decide) rfl w_229 (by decide +kernel)) <|
  mj_c1 (k_icne (off := 5) (by decide +kernel) (by decide)) <|
  mj_c1 (k_iconst (by decide +kernel)) <|
  mj_c1 (k_zret (by decide +kernel) rfl) <|
  mj_c1 (k_aloadn (k := 0) (by decide +kernel) rfl) <|
  mj_c1 (k_aloadn (k := 0) (by decide +kernel) rfl) <|
  mj_c1 (k_gI (idx := 40) h_R (by decide) rfl w_240 (by decide +kernel)) <|
  mj_c1 (k_callV (idx := 71) (by decide +kernel) (fit_m_R_takeEnd_m_R_byteAt) rfl rfl w_428 w_430 v_11 (by decide) (by decide +kernel)) <|
  mj_c1 (k_bipush (by decide +kernel) (by decide)) <|
  mj_c1 (k_iceq (off := 13) (by decide +kernel) (by decide)) <|
  mj_c1 (k_aloadn (k := 0) (by decide +kernel) rfl) <|
  mj_c1 (k_iconst (by decide +kernel)) <|
  mj_c1 (k_aloadn (k := 0) (by decide +kernel) rfl) <|
  mj_c1 (k_gI (idx := 40) h_R (by decide) rfl w_240 (by decide +kernel)) <|
  mj_c1 (k_callV (idx := 75) (by decide +kernel) (fit_m_R_takeEnd_m_R_fail) rfl rfl w_432 w_434 v_12 (by decide) (by decide +kernel)) <|
  mj_c1 (k_zret (by decide +kernel) rfl) <|
  mj_c1 (k_aloadn (k := 0) (by decide +kernel) rfl) <|
  mj_c1 (k_aloadn (k := 0) (by decide +kernel) rfl) <|
  mj_c1 (k_gI (idx := 40) h_R (by decide) rfl w_240 (by decide +kernel)) <|
  mj_c1 (k_iconst (by decide +kernel)) <|
  mj_c1 (k_iadd (by decide +kernel)) <|
  mj_c1 (k_callV (idx := 71) (by decide +kernel) (fit_m_R_takeEnd_m_R_byteAt) rfl rfl w_428 w_430 v_11 (by decide) (by decide +kernel)) <|
  mj_c1 (k_bipush (by decide +kernel) (by decide)) <|
  mj_c1 (k_iceq (off := 17) (by decide +kernel) (by decide)) <|
  mj_c1 (k_aloadn (k := 0) (by decide +kernel) rfl) <|
  mj_c1 (k_iconst (by decide +kernel)) <|
  mj_c1 (k_aloadn (k := 0) (by decide +kernel) rfl) <|
  mj_c1 (k_gI (idx := 40) h_R (by decide) rfl w_240 (by decide +kernel)) <|
  mj_c1 (k_iconst (by decide +kernel)) <|
  mj_c1 (k_iadd (by decide +kernel)) <|
  mj_c1 (k_callV (idx := 75) (by decide +kernel) (fit_m_R_takeEnd_m_R_fail) rfl rfl w_432 w_434 v_12 (by decide) (by decide +kernel)) <|
  mj_c1 (k_ifeq (off := 7) (by decide +kernel) (by decide)) <|
  mj_c1 (k_iconst (by decide +kernel)) <|
  mj_c1 (k_goto (off := 4) (by decide +kernel) (by decide)) <|
  mj_c1 (k_iconst (by decide +kernel)) <|
  mj_c1 (k_zret (by decide +kernel) rfl) mj_c0
def q_R_checkWhole : List (Nat × mj_Sem) := [(0, o_al 0 1), (1, o_gR 4 7 4), (4, o_call m_N_leastMissing 1 0 0 7 (mj_rv 3)), (7, o_is 1 8), (8, o_il 1 9), (9, o_ifle 23 12), (12, o_al 0 13), (13, o_ic 7 15), (15, o_il 1 16), (16, o_call m_R_fail 3 0 0 19 (mj_rv 4)), (19, o_pop 20), (20, o_goto 51), (23, o_al 0 24), (24, o_gR 4 7 27), (27, o_call m_N_arrange 1 0 0 30 (mj_rv 3)), (30, o_ifne 51 33), (33, o_al 0 34), (34, o_ic 8 36), (36, o_al 0 37), (37, o_gR 4 6 40), (40, o_al 0 41), (41, o_gR 4 7 44), (44, o_call m_F_leastOnLoop 2 0 0 47 (mj_rv 2)), (47, o_call m_R_fail 3 0 0 50 (mj_rv 4)), (50, o_pop 51), (51, o_retv 0 0)]
set_option maxRecDepth 100000 in
theorem z_R_checkWhole : mj_Code (m_R_checkWhole) (q_R_checkWhole) :=
  mj_c1 (k_aloadn (k := 0) (by decide +kernel) rfl) <|
  mj_c1 (k_gR (idx := 32) h_R (by decide) rfl w_239 (by decide +kernel)) <|
  mj_c1 (k_callV (idx := 138) (by decide +kernel) (fit_m_R_checkWhole_m_N_leastMissing) rfl rfl w_503 w_504 w_505 (by decide) (by decide +kernel)) <|
  mj_c1 (k_istoren (k := 1) (by decide +kernel) rfl (by decide)) <|
  mj_c1 (k_iloadn (k := 1) (by decide +kernel) rfl) <|
  mj_c1 (k_ifle (off := 14) (by decide +kernel) (by decide)) <|
  mj_c1 (k_aloadn (k := 0) (by decide +kernel) rfl) <|
  mj_c1 (k_bipush (by decide +kernel) (by decide)) <|
  mj_c1 (k_iloadn (k := 1) (by decide +kernel) rfl) <|
  mj_c1 (k_callV (idx := 75) (by decide +kernel) (fit_m_R_checkWhole_m_R_fail) rfl rfl w_432 w_434 v_12 (by decide) (by decide +kernel)) <|
  mj_c1 (k_pop (by decide +kernel)) <|
  mj_c1 (k_goto (off := 31) (by decide +kernel) (by decide)) <|
  mj_c1 (k_aloadn (k := 0) (by decide +kernel) rfl) <|
  mj_c1 (k_gR (idx := 32) h_R (by decide) rfl w_239 (by decide +kernel)) <|
  mj_c1 (k_callV (idx := 141) (by decide +kernel) (fit_m_R_checkWhole_m_N_arrange) rfl rfl w_514 w_515 w_516 (by decide) (by decide +kernel)) <|
  mj_c1 (k_ifne (off := 21) (by decide +kernel) (by decide)) <|
  mj_c1 (k_aloadn (k := 0) (by decide +kernel) rfl) <|
  mj_c1 (k_bipush (by decide +kernel) (by decide)) <|
  mj_c1 (k_aloadn (k := 0) (by decide +kernel) rfl) <|
  mj_c1 (k_gR (idx := 25) h_R (by decide) rfl w_238 (by decide +kernel)) <|
  mj_c1 (k_aloadn (k := 0) (by decide +kernel) rfl) <|
  mj_c1 (k_gR (idx := 32) h_R (by decide) rfl w_239 (by decide +kernel)) <|
  mj_c1 (k_callV (idx := 144) (by decide +kernel) (fit_m_R_checkWhole_m_F_leastOnLoop) rfl rfl w_527 w_528 w_529 (by decide) (by decide +kernel)) <|
  mj_c1 (k_callV (idx := 75) (by decide +kernel) (fit_m_R_checkWhole_m_R_fail) rfl rfl w_432 w_434 v_12 (by decide) (by decide +kernel)) <|
  mj_c1 (k_pop (by decide +kernel)) <|
  mj_c1 (k_retv (by decide +kernel) rfl) mj_c0
def q_R_exchangeNet : List (Nat × mj_Sem) := [(0, o_al 0 1), (1, o_gR 4 7 4), (4, o_as 2 5), (5, o_al 0 6), (6, o_al 1 7), (7, o_pR 4 7 10), (10, o_al 2 11), (11, o_aret 0 0)]
set_option maxRecDepth 100000 in
theorem z_R_exchangeNet : mj_Code (m_R_exchangeNet) (q_R_exchangeNet) :=
  mj_c1 (k_aloadn (k := 0) (by decide +kernel) rfl) <|
  mj_c1 (k_gR (idx := 32) h_R (by decide) rfl w_239 (by decide +kernel)) <|
  mj_c1 (k_astoren (k := 2) (by decide +kernel) rfl (by decide)) <|
  mj_c1 (k_aloadn (k := 0) (by decide +kernel) rfl) <|
  mj_c1 (k_aloadn (k := 1) (by decide +kernel) rfl) <|
  mj_c1 (k_pR (idx := 32) h_R (by decide) rfl (Or.inl ⟨_, rfl⟩) w_239 rfl (by decide +kernel)) <|
  mj_c1 (k_aloadn (k := 2) (by decide +kernel) rfl) <|
  mj_c1 (k_aret (by decide +kernel) rfl (Or.inl ⟨_, rfl⟩)) mj_c0
