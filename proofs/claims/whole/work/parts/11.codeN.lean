def q_N_init : List (Nat × mj_Sem) := [(0, o_al 0 1), (1, o_oi 4), (4, o_al 0 5), (5, o_ic 1001 8), (8, o_na 0 8 2877 10), (10, o_pR 3 0 13), (13, o_al 0 14), (14, o_ic 315 17), (17, o_na 0 8 2877 19), (19, o_pR 3 1 22), (22, o_al 0 23), (23, o_ic 315 26), (26, o_na 0 8 2877 28), (28, o_pR 3 2 31), (31, o_al 0 32), (32, o_ic 315 35), (35, o_na 0 8 2877 37), (37, o_pR 3 3 40), (40, o_al 0 41), (41, o_ic 16 43), (43, o_na 0 8 2877 45), (45, o_pR 3 4 48), (48, o_al 0 49), (49, o_ic 315 52), (52, o_na 0 8 2877 54), (54, o_pR 3 5 57), (57, o_al 0 58), (58, o_ic 300 61), (61, o_na 0 8 2877 63), (63, o_pR 3 6 66), (66, o_al 0 67), (67, o_ic 300 70), (70, o_na 0 8 2877 72), (72, o_pR 3 7 75), (75, o_al 0 76), (76, o_ic 0 77), (77, o_ic 0 78), (78, o_ic 0 79), (79, o_ic 0 80), (80, o_call m_N_begin 5 8 2877 83 (mj_rv 3)), (83, o_retv 8 2877)]
set_option maxRecDepth 100000 in
theorem z_N_init : mj_Code (m_N_init) (q_N_init) :=
  mj_c1 (k_aloadn (k := 0) (by decide +kernel) rfl) <|
  mj_c1 (k_oi (idx := 3) (by decide +kernel) w_37 w_24 w_25 (by decide) (by decide)) <|
  mj_c1 (k_aloadn (k := 0) (by decide +kernel) rfl) <|
  mj_c1 (k_sipush (by decide +kernel) (by decide)) <|
  mj_c1 (k_na (at0 := .int) (by decide +kernel) rfl (Or.inl ⟨rfl, rfl⟩) w_118) <|
  mj_c1 (k_pRF (idx := 9) h_N (by decide) rfl (Or.inr ⟨_, rfl⟩) w_45 rfl rfl rfl (by decide +kernel)) <|
  mj_c1 (k_aloadn (k := 0) (by decide +kernel) rfl) <|
  mj_c1 (k_sipush (by decide +kernel) (by decide)) <|
  mj_c1 (k_na (at0 := .int) (by decide +kernel) rfl (Or.inl ⟨rfl, rfl⟩) w_118) <|
  mj_c1 (k_pRF (idx := 15) h_N (by decide) rfl (Or.inr ⟨_, rfl⟩) w_47 rfl rfl rfl (by decide +kernel)) <|
  mj_c1 (k_aloadn (k := 0) (by decide +kernel) rfl) <|
  mj_c1 (k_sipush (by decide +kernel) (by decide)) <|
  mj_c1 (k_na (at0 := .int) (by decide +kernel) rfl (Or.inl ⟨rfl, rfl⟩) w_118) <|
  mj_c1 (k_pRF (idx := 18) h_N (by decide) rfl (Or.inr ⟨_, rfl⟩) w_51 rfl rfl rfl (by decide +kernel)) <|
  mj_c1 (k_aloadn (k := 0) (by decide +kernel) rfl) <|
  mj_c1 (k_sipush (by decide +kernel) (by decide)) <|
  mj_c1 (k_na (at0 := .int) (by decide +kernel) rfl (Or.inl ⟨rfl, rfl⟩) w_118) <|
  mj_c1 (k_pRF (idx := 21) h_N (by decide) rfl (Or.inr ⟨_, rfl⟩) w_56 rfl rfl rfl (by decide +kernel)) <|
  mj_c1 (k_aloadn (k := 0) (by decide +kernel) rfl) <|
  mj_c1 (k_bipush (by decide +kernel) (by decide)) <|
  mj_c1 (k_na (at0 := .int) (by decide +kernel) rfl (Or.inl ⟨rfl, rfl⟩) w_118) <|
  mj_c1 (k_pRF (idx := 24) h_N (by decide) rfl (Or.inr ⟨_, rfl⟩) w_61 rfl rfl rfl (by decide +kernel)) <|
  mj_c1 (k_aloadn (k := 0) (by decide +kernel) rfl) <|
  mj_c1 (k_sipush (by decide +kernel) (by decide)) <|
  mj_c1 (k_na (at0 := .int) (by decide +kernel) rfl (Or.inl ⟨rfl, rfl⟩) w_118) <|
  mj_c1 (k_pRF (idx := 27) h_N (by decide) rfl (Or.inr ⟨_, rfl⟩) w_65 rfl rfl rfl (by decide +kernel)) <|
  mj_c1 (k_aloadn (k := 0) (by decide +kernel) rfl) <|
  mj_c1 (k_sipush (by decide +kernel) (by decide)) <|
  mj_c1 (k_na (at0 := .int) (by decide +kernel) rfl (Or.inl ⟨rfl, rfl⟩) w_118) <|
  mj_c1 (k_pRF (idx := 30) h_N (by decide) rfl (Or.inr ⟨_, rfl⟩) w_67 rfl rfl rfl (by decide +kernel)) <|
  mj_c1 (k_aloadn (k := 0) (by decide +kernel) rfl) <|
  mj_c1 (k_sipush (by decide +kernel) (by decide)) <|
  mj_c1 (k_na (at0 := .int) (by decide +kernel) rfl (Or.inl ⟨rfl, rfl⟩) w_118) <|
  mj_c1 (k_pRF (idx := 33) h_N (by decide) rfl (Or.inr ⟨_, rfl⟩) w_70 rfl rfl rfl (by decide +kernel)) <|
  mj_c1 (k_aloadn (k := 0) (by decide +kernel) rfl) <|
  mj_c1 (k_iconst (by decide +kernel)) <|
  mj_c1 (k_iconst (by decide +kernel)) <|
  mj_c1 (k_iconst (by decide +kernel)) <|
  mj_c1 (k_iconst (by decide +kernel)) <|
  mj_c1 (k_callV (idx := 36) (by decide +kernel) (fit_m_N_init_m_N_begin) rfl rfl w_38 w_39 w_40 (by decide) (by decide +kernel)) <|
  mj_c1 (k_retv (by decide +kernel) rfl) mj_c0
def q_N_begin : List (Nat × mj_Sem) := [(0, o_al 0 1), (1, o_il 1 2), (2, o_pI 3 9 5), (5, o_al 0 6), (6, o_il 2 7), (7, o_pI 3 10 10), (10, o_al 0 11), (11, o_il 3 12), (12, o_pI 3 12 15), (15, o_al 0 16), (16, o_il 4 18), (18, o_pI 3 11 21), (21, o_al 0 22), (22, o_gR 3 0 25), (25, o_ic (-1) 26), (26, o_call m_A_fill 2 0 0 29 mj_rs), (29, o_al 0 30), (30, o_gR 3 0 33), (33, o_ic 0 34), (34, o_ic 0 35), (35, o_ias 36), (36, o_retv 0 0)]
set_option maxRecDepth 100000 in
theorem z_N_begin : mj_Code (m_N_begin) (q_N_begin) :=
  mj_c1 (k_aloadn (k := 0) (by decide +kernel) rfl) <|
  mj_c1 (k_iloadn (k := 1) (by decide +kernel) rfl) <|
  mj_c1 (k_pI (idx := 40) h_N (by decide) rfl rfl w_74 rfl (by decide +kernel)) <|
  mj_c1 (k_aloadn (k := 0) (by decide +kernel) rfl) <|
  mj_c1 (k_iloadn (k := 2) (by decide +kernel) rfl) <|
  mj_c1 (k_pI (idx := 44) h_N (by decide) rfl rfl w_78 rfl (by decide +kernel)) <|
  mj_c1 (k_aloadn (k := 0) (by decide +kernel) rfl) <|
  mj_c1 (k_iloadn (k := 3) (by decide +kernel) rfl) <|
  mj_c1 (k_pI (idx := 47) h_N (by decide) rfl rfl w_87 rfl (by decide +kernel)) <|
  mj_c1 (k_aloadn (k := 0) (by decide +kernel) rfl) <|
  mj_c1 (k_iload (by decide +kernel)) <|
  mj_c1 (k_pI (idx := 50) h_N (by decide) rfl rfl w_82 rfl (by decide +kernel)) <|
  mj_c1 (k_aloadn (k := 0) (by decide +kernel) rfl) <|
  mj_c1 (k_gR (idx := 9) h_N (by decide) rfl w_45 (by decide +kernel)) <|
  mj_c1 (k_iconst (by decide +kernel)) <|
  mj_c1 (k_callS (idx := 53) (by decide +kernel) (fit_m_N_begin_m_A_fill) rfl w_42 w_43 (by decide) (by decide +kernel)) <|
  mj_c1 (k_aloadn (k := 0) (by decide +kernel) rfl) <|
  mj_c1 (k_gR (idx := 9) h_N (by decide) rfl w_45 (by decide +kernel)) <|
  mj_c1 (k_iconst (by decide +kernel)) <|
  mj_c1 (k_iconst (by decide +kernel)) <|
  mj_c1 (k_ias (by decide +kernel)) <|
  mj_c1 (k_retv (by decide +kernel) rfl) mj_c0
def q_N_slotFor : List (Nat × mj_Sem) := [(0, o_al 0 1), (1, o_gR 3 0 4), (4, o_il 1 5), (5, o_ic 1 6), (6, o_ishr 7), (7, o_ial 8), (8, o_iret 0 0)]
set_option maxRecDepth 100000 in
theorem z_N_slotFor : mj_Code (m_N_slotFor) (q_N_slotFor) :=
  mj_c1 (k_aloadn (k := 0) (by decide +kernel) rfl) <|
  mj_c1 (k_gR (idx := 9) h_N (by decide) rfl w_45 (by decide +kernel)) <|
  mj_c1 (k_iloadn (k := 1) (by decide +kernel) rfl) <|
  mj_c1 (k_iconst (by decide +kernel)) <|
  mj_c1 (k_ishr (by decide +kernel)) <|
  mj_c1 (k_ial (by decide +kernel)) <|
  mj_c1 (k_iret (by decide +kernel) rfl) mj_c0
def q_N_place : List (Nat × mj_Sem) := [(0, o_al 0 1), (1, o_gR 3 1 4), (4, o_il 1 5), (5, o_il 2 6), (6, o_ias 7), (7, o_al 0 8), (8, o_gR 3 0 11), (11, o_il 2 12), (12, o_ic 1 13), (13, o_ishr 14), (14, o_il 1 15), (15, o_ias 16), (16, o_retv 0 0)]
set_option maxRecDepth 100000 in
theorem z_N_place : mj_Code (m_N_place) (q_N_place) :=
  mj_c1 (k_aloadn (k := 0) (by decide +kernel) rfl) <|
  mj_c1 (k_gR (idx := 15) h_N (by decide) rfl w_47 (by decide +kernel)) <|
  mj_c1 (k_iloadn (k := 1) (by decide +kernel) rfl) <|
  mj_c1 (k_iloadn (k := 2) (by decide +kernel) rfl) <|
  mj_c1 (k_ias (by decide +kernel)) <|
  mj_c1 (k_aloadn (k := 0) (by decide +kernel) rfl) <|
  mj_c1 (k_gR (idx := 9) h_N (by decide) rfl w_45 (by decide +kernel)) <|
  mj_c1 (k_iloadn (k := 2) (by decide +kernel) rfl) <|
  mj_c1 (k_iconst (by decide +kernel)) <|
  mj_c1 (k_ishr (by decide +kernel)) <|
  mj_c1 (k_iloadn (k := 1) (by decide +kernel) rfl) <|
  mj_c1 (k_ias (by decide +kernel)) <|
  mj_c1 (k_retv (by decide +kernel) rfl) mj_c0
def q_N_isFree : List (Nat × mj_Sem) := [(0, o_al 0 1), (1, o_il 1 2), (2, o_call m_N_exists 2 0 0 5 (mj_rv 3)), (5, o_ifeq 27 8), (8, o_il 1 9), (9, o_ic 2 10), (10, o_irem 11), (11, o_ifne 27 14), (14, o_al 0 15), (15, o_il 1 16), (16, o_call m_N_slotFor 2 0 0 19 (mj_rv 3)), (19, o_ic (-1) 20), (20, o_icne 27 23), (23, o_ic 1 24), (24, o_goto 28), (27, o_ic 0 28), (28, o_zret 0 0)]
set_option maxRecDepth 100000 in
theorem z_N_isFree : mj_Code (m_N_isFree) (q_N_isFree) :=
  mj_c1 (k_aloadn (k := 0) (by decide +kernel) rfl) <|
  mj_c1 (k_iloadn (k := 1) (by decide +kernel) rfl) <|
  mj_c1 (k_callV (idx := 59) (by decide +kernel) (fit_m_N_isFree_m_N_exists) rfl rfl w_465 w_466 w_467 (by decide) (by decide +kernel)) <|
  mj_c1 (k_ifeq (off := 22) (by decide +kernel) (by decide)) <|
  mj_c1 (k_iloadn (k := 1) (by decide +kernel) rfl) <|
  mj_c1 (k_iconst (by decide +kernel)) <|
  mj_c1 (k_irem (by decide +kernel)) <|
  mj_c1 (k_ifne (off := 16) (by decide +kernel) (by decide)) <|
  mj_c1 (k_aloadn (k := 0) (by decide +kernel) rfl) <|
  mj_c1 (k_iloadn (k := 1) (by decide +kernel) rfl) <|
  mj_c1 (k_callV (idx := 63) (by decide +kernel) (fit_m_N_isFree_m_N_slotFor) rfl rfl w_469 w_197 w_198 (by decide) (by decide +kernel)) <|
  mj_c1 (k_iconst (by decide +kernel)) <|
  mj_c1 (k_icne (off := 7) (by decide +kernel) (by decide)) <|
  mj_c1 (k_iconst (by decide +kernel)) <|
  mj_c1 (k_goto (off := 4) (by decide +kernel) (by decide)) <|
  mj_c1 (k_iconst (by decide +kernel)) <|
  mj_c1 (k_zret (by decide +kernel) rfl) mj_c0
def q_N_exists : List (Nat × mj_Sem) := [(0, o_il 1 1), (1, o_iflt 20 4), (4, o_il 1 5), (5, o_ic 2 6), (6, o_al 0 7), (7, o_gI 3 9 10), (10, o_imul 11), (11, o_ic 1 12), (12, o_iadd 13), (13, o_icgt 20 16), (16, o_ic 1 17), (17, o_goto 21), (20, o_ic 0 21), (21, o_zret 0 0)]
set_option maxRecDepth 100000 in
theorem z_N_exists : mj_Code (m_N_exists) (q_N_exists) :=
  mj_c1 (k_iloadn (k := 1) (by decide +kernel) rfl) <|
  mj_c1 (k_iflt (off := 19) (by decide +kernel) (by decide)) <|
  mj_c1 (k_iloadn (k := 1) (by decide +kernel) rfl) <|
  mj_c1 (k_iconst (by decide +kernel)) <|
  mj_c1 (k_aloadn (k := 0) (by decide +kernel) rfl) <|
  mj_c1 (k_gI (idx := 40) h_N (by decide) rfl w_74 (by decide +kernel)) <|
  mj_c1 (k_imul (by decide +kernel)) <|
  mj_c1 (k_iconst (by decide +kernel)) <|
  mj_c1 (k_iadd (by decide +kernel)) <|
  mj_c1 (k_icgt (off := 7) (by decide +kernel) (by decide)) <|
  mj_c1 (k_iconst (by decide +kernel)) <|
  mj_c1 (k_goto (off := 4) (by decide +kernel) (by decide)) <|
  mj_c1 (k_iconst (by decide +kernel)) <|
  mj_c1 (k_zret (by decide +kernel) rfl) mj_c0
def q_N_leastMissing : List (Nat × mj_Sem) := [(0, o_ic 1001 3), (3, o_is 1 4), (4, o_ic 0 5), (5, o_is 2 6), (6, o_il 2 7), (7, o_al 0 8), (8, o_gI 3 12 11), (11, o_icge 35 14), (14, o_il 1 15), (15, o_al 0 16), (16, o_al 0 17), (17, o_gR 3 4 20), (20, o_il 2 21), (21, o_ial 22), (22, o_call m_N_missingVariable 2 0 0 25 (mj_rv 3)), (25, o_call m_H_min 2 0 0 28 mj_rs), (28, o_is 1 29), (29, o_inc 2 1 32), (32, o_goto 6), (35, o_al 0 36), (36, o_gI 3 10 39), (39, o_ic 1 40), (40, o_iadd 41), (41, o_is 2 42), (42, o_il 2 43), (43, o_al 0 44), (44, o_gI 3 10 47), (47, o_al 0 48), (48, o_gI 3 11 51), (51, o_iadd 52), (52, o_icgt 91 55), (55, o_il 1 56), (56, o_al 0 57), (57, o_al 0 58), (58, o_gR 3 2 61), (61, o_il 2 62), (62, o_ial 63), (63, o_call m_N_missingVariable 2 0 0 66 (mj_rv 3)), (66, o_call m_H_min 2 0 0 69 mj_rs), (69, o_is 1 70), (70, o_il 1 71), (71, o_al 0 72), (72, o_al 0 73), (73, o_gR 3 3 76), (76, o_il 2 77), (77, o_ial 78), (78, o_call m_N_missingVariable 2 0 0 81 (mj_rv 3)), (81, o_call m_H_min 2 0 0 84 mj_rs), (84, o_is 1 85), (85, o_inc 2 1 88), (88, o_goto 42), (91, o_il 1 92), (92, o_ic 1000 95), (95, o_icle 102 98), (98, o_ic 0 99), (99, o_goto 103), (102, o_il 1 103), (103, o_iret 0 0)]
set_option maxRecDepth 100000 in
theorem z_N_leastMissing : mj_Code (m_N_leastMissing) (q_N_leastMissing) :=
  mj_c1 (k_sipush (by decide +kernel) (by decide)) <|
  mj_c1 (k_istoren (k := 1) (by decide +kernel) rfl (by decide)) <|
  mj_c1 (k_iconst (by decide +kernel)) <|
  mj_c1 (k_istoren (k := 2) (by decide +kernel) rfl (by decide)) <|
  mj_c1 (k_iloadn (k := 2) (by decide +kernel) rfl) <|
  mj_c1 (k_aloadn (k := 0) (by decide +kernel) rfl) <|
  mj_c1 (k_gI (idx := 47) h_N (by decide) rfl w_87 (by decide +kernel)) <|
  mj_c1 (k_icge (off := 24) (by decide +kernel) (by decide)) <|
  mj_c1 (k_iloadn (k := 1) (by decide +kernel) rfl) <|
  mj_c1 (k_aloadn (k := 0) (by decide +kernel) rfl) <|
  mj_c1 (k_aloadn (k := 0) (by decide +kernel) rfl) <|
  mj_c1 (k_gR (idx := 24) h_N (by decide) rfl w_61 (by decide +kernel)) <|
  mj_c1 (k_iloadn (k := 2) (by decide +kernel) rfl) <|
  mj_c1 (k_ial (by decide +kernel)) <|
  mj_c1 (k_callV (idx := 73) (by decide +kernel) (fit_m_N_leastMissing_m_N_missingVariable) rfl rfl w_507 w_509 v_26 (by decide) (by decide +kernel)) <|
  mj_c1 (k_callS (idx := 76) (by decide +kernel) (fit_m_N_leastMissing_m_H_min) rfl w_511 w_512 (by decide) (by decide +kernel)) <|
  mj_c1 (k_istoren (k := 1) (by decide +kernel) rfl (by decide)) <|
  mj_c1 (k_iinc (by decide +kernel) (by decide)) <|
  mj_c1 (k_goto (off := -26) (by decide +kernel) (by decide)) <|
  mj_c1 (k_aloadn (k := 0) (by decide +kernel) rfl) <|
  mj_c1 (k_gI (idx := 44) h_N (by decide) rfl w_78 (by decide +kernel)) <|
  mj_c1 (k_iconst (by decide +kernel)) <|
  mj_c1 (k_iadd (by decide +kernel)) <|
  mj_c1 (k_istoren (k := 2) (by decide +kernel) rfl (by decide)) <|
  mj_c1 (k_iloadn (k := 2) (by decide +kernel) rfl) <|
  mj_c1 (k_aloadn (k := 0) (by decide +kernel) rfl) <|
  mj_c1 (k_gI (idx := 44) h_N (by decide) rfl w_78 (by decide +kernel)) <|
  mj_c1 (k_aloadn (k := 0) (by decide +kernel) rfl) <|
  mj_c1 (k_gI (idx := 50) h_N (by decide) rfl w_82 (by decide +kernel)) <|
  mj_c1 (k_iadd (by decide +kernel)) <|
  mj_c1 (k_icgt (off := 39) (by decide +kernel) (by decide)) <|
  mj_c1 (k_iloadn (k := 1) (by decide +kernel) rfl) <|
  mj_c1 (k_aloadn (k := 0) (by decide +kernel) rfl) <|
  mj_c1 (k_aloadn (k := 0) (by decide +kernel) rfl) <|
  mj_c1 (k_gR (idx := 18) h_N (by decide) rfl w_51 (by decide +kernel)) <|
  mj_c1 (k_iloadn (k := 2) (by decide +kernel) rfl) <|
  mj_c1 (k_ial (by decide +kernel)) <|
  mj_c1 (k_callV (idx := 73) (by decide +kernel) (fit_m_N_leastMissing_m_N_missingVariable) rfl rfl w_507 w_509 v_26 (by decide) (by decide +kernel)) <|
  mj_c1 (k_callS (idx := 76) (by decide +kernel) (fit_m_N_leastMissing_m_H_min) rfl w_511 w_512 (by decide) (by decide +kernel)) <|
  mj_c1 (k_istoren (k := 1) (by decide +kernel) rfl (by decide)) <|
  mj_c1 (k_iloadn (k := 1) (by decide +kernel) rfl) <|
  mj_c1 (k_aloadn (k := 0) (by decide +kernel) rfl) <|
  mj_c1 (k_aloadn (k := 0) (by decide +kernel) rfl) <|
  mj_c1 (k_gR (idx := 21) h_N (by decide) rfl w_56 (by decide +kernel)) <|
  mj_c1 (k_iloadn (k := 2) (by decide +kernel) rfl) <|
  mj_c1 (k_ial (by decide +kernel)) <|
  mj_c1 (k_callV (idx := 73) (by decide +kernel) (fit_m_N_leastMissing_m_N_missingVariable) rfl rfl w_507 w_509 v_26 (by decide) (by decide +kernel)) <|
  mj_c1 (k_callS (idx := 76) (by decide +kernel) (fit_m_N_leastMissing_m_H_min) rfl w_511 w_512 (by decide) (by decide +kernel)) <|
  mj_c1 (k_istoren (k := 1) (by decide +kernel) rfl (by decide)) <|
  mj_c1 (k_iinc (by decide +kernel) (by decide)) <|
  mj_c1 (k_goto (off := -46) (by decide +kernel) (by decide)) <|
  mj_c1 (k_iloadn (k := 1) (by decide +kernel) rfl) <|
  mj_c1 (k_sipush (by decide +kernel) (by decide)) <|
  mj_c1 (k_icle (off := 7) (by decide +kernel) (by decide)) <|
  mj_c1 (k_iconst (by decide +kernel)) <|
  mj_c1 (k_goto (off := 4) (by decide +kernel) (by decide)) <|
  mj_c1 (k_iloadn (k := 1) (by decide +kernel) rfl) <|
  mj_c1 (k_iret (by decide +kernel) rfl) mj_c0
def q_N_missingVariable : List (Nat × mj_Sem) := [(0, o_al 0 1), (1, o_il 1 2), (2, o_call m_N_slotFor 2 0 0 5 (mj_rv 3)), (5, o_ic (-1) 6), (6, o_icne 15 9), (9, o_il 1 10), (10, o_ic 1 11), (11, o_ishr 12), (12, o_goto 18), (15, o_ic 1001 18), (18, o_iret 0 0)]
set_option maxRecDepth 100000 in
theorem z_N_missingVariable : mj_Code (m_N_missingVariable) (q_N_missingVariable) :=
  mj_c1 (k_aloadn (k := 0) (by decide +kernel) rfl) <|
  mj_c1 (k_iloadn (k := 1) (by decide +kernel) rfl) <|
  mj_c1 (k_callV (idx := 63) (by decide +kernel) (fit_m_N_missingVariable_m_N_slotFor) rfl rfl w_469 w_197 w_198 (by decide) (by decide +kernel)) <|
  mj_c1 (k_iconst (by decide +kernel)) <|
  mj_c1 (k_icne (off := 9) (by decide +kernel) (by decide)) <|
  mj_c1 (k_iloadn (k := 1) (by decide +kernel) rfl) <|
  mj_c1 (k_iconst (by decide +kernel)) <|
  mj_c1 (k_ishr (by decide +kernel)) <|
  mj_c1 (k_goto (off := 6) (by decide +kernel) (by decide)) <|
  mj_c1 (k_sipush (by decide +kernel) (by decide)) <|
  mj_c1 (k_iret (by decide +kernel) rfl) mj_c0
def q_N_arrange : List (Nat × mj_Sem) := [(0, o_al 0 1), (1, o_call m_N_waitForAll 1 0 0 4 (mj_rv 3)), (4, o_ic 0 5), (5, o_is 1 6), (6, o_ic 1 7), (7, o_is 2 8), (8, o_il 2 9), (9, o_al 0 10), (10, o_gI 3 11 13), (13, o_icgt 146 16), (16, o_al 0 17), (17, o_gI 3 8 20), (20, o_ifle 146 23), (23, o_ic 0 24), (24, o_is 3 25), (25, o_ic 0 26), (26, o_is 4 28), (28, o_il 4 30), (30, o_al 0 31), (31, o_gI 3 8 34), (34, o_icge 125 37), (37, o_al 0 38), (38, o_gR 3 7 41), (41, o_il 4 43), (43, o_ial 44), (44, o_is 5 46), (46, o_al 0 47), (47, o_gR 3 5 50), (50, o_al 0 51), (51, o_al 0 52), (52, o_gR 3 2 55), (55, o_il 5 57), (57, o_ial 58), (58, o_call m_N_slotFor 2 0 0 61 (mj_rv 3)), (61, o_ial 62), (62, o_il 2 63), (63, o_icge 108 66), (66, o_al 0 67), (67, o_gR 3 5 70), (70, o_al 0 71), (71, o_al 0 72), (72, o_gR 3 3 75), (75, o_il 5 77), (77, o_ial 78), (78, o_call m_N_slotFor 2 0 0 81 (mj_rv 3)), (81, o_ial 82), (82, o_il 2 83), (83, o_icge 108 86), (86, o_al 0 87), (87, o_gR 3 5 90), (90, o_il 5 92), (92, o_il 2 93), (93, o_ias 94), (94, o_al 0 95), (95, o_gR 3 6 98), (98, o_il 1 99), (99, o_il 5 101), (101, o_ias 102), (102, o_inc 1 1 105), (105, o_goto 119), (108, o_al 0 109), (109, o_gR 3 7 112), (112, o_il 3 113), (113, o_il 5 115), (115, o_ias 116), (116, o_inc 3 1 119), (119, o_inc 4 1 122), (122, o_goto 28), (125, o_il 3 126), (126, o_al 0 127), (127, o_gI 3 8 130), (130, o_icne 135 133), (133, o_ic 0 134), (134, o_zret 0 0), (135, o_al 0 136), (136, o_il 3 137), (137, o_pI 3 8 140), (140, o_inc 2 1 143), (143, o_goto 8), (146, o_ic 1 147), (147, o_zret 0 0)]
set_option maxRecDepth 100000 in
theorem z_N_arrange : mj_Code (m_N_arrange) (q_N_arrange) :=
  mj_c1 (k_aloadn (k := 0) (by decide +kernel) rfl) <|
  mj_c1 (k_callV (idx := 79) (by decide +kernel) (fit_m_N_arrange_m_N_waitForAll) rfl rfl w_518 w_520 v_27 (by decide) (by decide +kernel)) <|
  mj_c1 (k_iconst (by decide +kernel)) <|
  mj_c1 (k_istoren (k := 1) (by decide +kernel) rfl (by decide)) <|
  mj_c1 (k_iconst (by decide +kernel)) <|
  mj_c1 (k_istoren (k := 2) (by decide +kernel) rfl (by decide)) <|
  mj_c1 (k_iloadn (k := 2) (by decide +kernel) rfl) <|
  mj_c1 (k_aloadn (k := 0) (by decide +kernel) rfl) <|
  mj_c1 (k_gI (idx := 50) h_N (by decide) rfl w_82 (by decide +kernel)) <|
  mj_c1 (k_icgt (off := 133) (by decide +kernel) (by decide)) <|
  mj_c1 (k_aloadn (k := 0) (by decide +kernel) rfl) <|
  mj_c1 (k_gI (idx := 82) h_N (by decide) rfl w_73 (by decide +kernel)) <|
  mj_c1 (k_ifle (off := 126) (by decide +kernel) (by decide)) <|
  mj_c1 (k_iconst (by decide +kernel)) <|
  mj_c1 (k_istoren (k := 3) (by decide +kernel) rfl (by decide)) <|
  mj_c1 (k_iconst (by decide +kernel)) <|
  mj_c1 (k_istore (by decide +kernel) (by decide)) <|
  mj_c1 (k_iload (by decide +kernel)) <|
  mj_c1 (k_aloadn (k := 0) (by decide +kernel) rfl) <|
  mj_c1 (k_gI (idx := 82) h_N (by decide) rfl w_73 (by decide +kernel)) <|
  mj_c1 (k_icge (off := 91) (by decide +kernel) (by decide)) <|
  mj_c1 (k_aloadn (k := 0) (by decide +kernel) rfl) <|
  mj_c1 (k_gR (idx := 33) h_N (by decide) rfl w_70 (by decide +kernel)) <|
  mj_c1 (k_iload (by decide +kernel)) <|
  mj_c1 (k_ial (by decide +kernel)) <|
  mj_c1 (k_istore (by decide +kernel) (by decide)) <|
  mj_c1 (k_aloadn (k := 0) (by decide +kernel) rfl) <|
  mj_c1 (k_gR (idx := 27) h_N (by decide) rfl w_65 (by decide +kernel)) <|
  mj_c1 (k_aloadn (k := 0) (by decide +kernel) rfl) <|
  mj_c1 (k_aloadn (k := 0) (by decide +kernel) rfl) <|
  mj_c1 (k_gR (idx := 18) h_N (by decide) rfl w_51 (by decide +kernel)) <|
  mj_c1 (k_iload (by decide +kernel)) <|
  mj_c1 (k_ial (by decide +kernel)) <|
  mj_c1 (k_callV (idx := 63) (by decide +kernel) (fit_m_N_arrange_m_N_slotFor) rfl rfl w_469 w_197 w_198 (by decide) (by decide +kernel)) <|
  mj_c1 (k_ial (by decide +kernel)) <|
  mj_c1 (k_iloadn (k := 2) (by decide +kernel) rfl) <|
  mj_c1 (k_icge (off := 45) (by decide +kernel) (by decide)) <|
  mj_c1 (k_aloadn (k := 0) (by decide +kernel) rfl) <|
  mj_c1 (k_gR (idx := 27) h_N (by decide) rfl w_65 (by decide +kernel)) <|
  mj_c1 (k_aloadn (k := 0) (by decide +kernel) rfl) <|
  mj_c1 (k_aloadn (k := 0) (by decide +kernel) rfl) <|
  mj_c1 (k_gR (idx := 21) h_N (by decide) rfl w_56 (by decide +kernel)) <|
  mj_c1 (k_iload (by decide +kernel)) <|
  mj_c1 (k_ial (by decide +kernel)) <|
  mj_c1 (k_callV (idx := 63) (by decide +kernel) (fit_m_N_arrange_m_N_slotFor) rfl rfl w_469 w_197 w_198 (by decide) (by decide +kernel)) <|
  mj_c1 (k_ial (by decide +kernel)) <|
  mj_c1 (k_iloadn (k := 2) (by decide +kernel) rfl) <|
  mj_c1 (k_icge (off := 25) (by decide +kernel) (by decide)) <|
  mj_c1 (k_aloadn (k := 0) (by decide +kernel) rfl) <|
  mj_c1 (k_gR (idx := 27) h_N (by decide) rfl w_65 (by decide +kernel)) <|
  mj_c1 (k_iload (by decide +kernel)) <|
  mj_c1 (k_iloadn (k := 2) (by decide +kernel) rfl) <|
  mj_c1 (k_ias (by decide +kernel)) <|
  mj_c1 (k_aloadn (k := 0) (by decide +kernel) rfl) <|
  mj_c1 (k_gR (idx := 30) h_N (by decide) rfl w_67 (by decide +kernel)) <|
  mj_c1 (k_iloadn (k := 1) (by decide +kernel) rfl) <|
  mj_c1 (k_iload (by decide +kernel)) <|
  mj_c1 (k_ias (by decide +kernel)) <|
  mj_c1 (k_iinc (by decide +kernel) (by decide)) <|
  mj_c1 (k_goto (off := 14) (by decide +kernel) (by decide)) <|
  mj_c1 (k_aloadn (k := 0) (by decide +kernel) rfl) <|
  mj_c1 (k_gR (idx := 33) h_N (by decide) rfl w_70 (by decide +kernel)) <|
  mj_c1 (k_iloadn (k := 3) (by decide +kernel) rfl) <|
  mj_c1 (k_iload (by decide +kernel)) <|
  mj_c1 (k_ias (by decide +kernel)) <|
  mj_c1 (k_iinc (by decide +kernel) (by decide)) <|
  mj_c1 (k_iinc (by decide +kernel) (by decide)) <|
  mj_c1 (k_goto (off := -94) (by decide +kernel) (by decide)) <|
  mj_c1 (k_iloadn (k := 3) (by decide +kernel) rfl) <|
  mj_c1 (k_aloadn (k := 0) (by decide +kernel) rfl) <|
  mj_c1 (k_gI (idx := 82) h_N (by decide) rfl w_73 (by decide +kernel)) <|
  mj_c1 (k_icne (off := 5) (by decide +kernel) (by decide)) <|
  mj_c1 (k_iconst (by decide +kernel)) <|
  mj_c1 (k_zret (by decide +kernel) rfl) <|
  mj_c1 (k_aloadn (k := 0) (by decide +kernel) rfl) <|
  mj_c1 (k_iloadn (k := 3) (by decide +kernel) rfl) <|
  mj_c1 (k_pI (idx := 82) h_N (by decide) rfl rfl w_73 rfl (by decide +kernel)) <|
  mj_c1 (k_iinc (by decide +kernel) (by decide)) <|
  mj_c1 (k_goto (off := -135) (by decide +kernel) (by decide)) <|
  mj_c1 (k_iconst (by decide +kernel)) <|
  mj_c1 (k_zret (by decide +kernel) rfl) mj_c0
def q_N_waitForAll : List (Nat × mj_Sem) := [(0, o_al 0 1), (1, o_gR 3 5 4), (4, o_ic 0 5), (5, o_call m_A_fill 2 0 0 8 mj_rs), (8, o_al 0 9), (9, o_ic 0 10), (10, o_pI 3 8 13), (13, o_ic 1 14), (14, o_is 1 15), (15, o_il 1 16), (16, o_al 0 17), (17, o_gI 3 9 20), (20, o_icgt 72 23), (23, o_al 0 24), (24, o_gR 3 0 27), (27, o_il 1 28), (28, o_ial 29), (29, o_is 2 30), (30, o_al 0 31), (31, o_il 2 32), (32, o_call m_N_isGate 2 0 0 35 (mj_rv 3)), (35, o_ifeq 66 38), (38, o_al 0 39), (39, o_gR 3 5 42), (42, o_il 2 43), (43, o_ic 1000000 45), (45, o_ias 46), (46, o_al 0 47), (47, o_gR 3 7 50), (50, o_al 0 51), (51, o_gI 3 8 54), (54, o_il 2 55), (55, o_ias 56), (56, o_al 0 57), (57, o_dup 58), (58, o_gI 3 8 61), (61, o_ic 1 62), (62, o_iadd 63), (63, o_pI 3 8 66), (66, o_inc 1 1 69), (69, o_goto 15), (72, o_retv 0 0)]
set_option maxRecDepth 100000 in
theorem z_N_waitForAll : mj_Code (m_N_waitForAll) (q_N_waitForAll) :=
  mj_c1 (k_aloadn (k := 0) (by decide +kernel) rfl) <|
  mj_c1 (k_gR (idx := 27) h_N (by decide) rfl w_65 (by decide +kernel)) <|
  mj_c1 (k_iconst (by decide +kernel)) <|
  mj_c1 (k_callS (idx := 53) (by decide +kernel) (fit_m_N_waitForAll_m_A_fill) rfl w_42 w_43 (by decide) (by decide +kernel)) <|
  mj_c1 (k_aloadn (k := 0) (by decide +kernel) rfl) <|
  mj_c1 (k_iconst (by decide +kernel)) <|
  mj_c1 (k_pI (idx := 82) h_N (by decide) rfl rfl w_73 rfl (by decide +kernel)) <|
  mj_c1 (k_iconst (by decide +kernel)) <|
  mj_c1 (k_istoren (k := 1) (by decide +kernel) rfl (by decide)) <|
  mj_c1 (k_iloadn (k := 1) (by decide +kernel) rfl) <|
  mj_c1 (k_aloadn (k := 0) (by decide +kernel) rfl) <|
  mj_c1 (k_gI (idx := 40) h_N (by decide) rfl w_74 (by decide +kernel)) <|
  mj_c1 (k_icgt (off := 52) (by decide +kernel) (by decide)) <|
  mj_c1 (k_aloadn (k := 0) (by decide +kernel) rfl) <|
  mj_c1 (k_gR (idx := 9) h_N (by decide) rfl w_45 (by decide +kernel)) <|
  mj_c1 (k_iloadn (k := 1) (by decide +kernel) rfl) <|
  mj_c1 (k_ial (by decide +kernel)) <|
  mj_c1 (k_istoren (k := 2) (by decide +kernel) rfl (by decide)) <|
  mj_c1 (k_aloadn (k := 0) (by decide +kernel) rfl) <|
  mj_c1 (k_iloadn (k := 2) (by decide +kernel) rfl) <|
  mj_c1 (k_callV (idx := 85) (by decide +kernel) (fit_m_N_waitForAll_m_N_isGate) rfl rfl w_522 w_523 w_524 (by decide) (by decide +kernel)) <|
  mj_c1 (k_ifeq (off := 31) (by decide +kernel) (by decide)) <|
  mj_c1 (k_aloadn (k := 0) (by decide +kernel) rfl) <|
  mj_c1 (k_gR (idx := 27) h_N (by decide) rfl w_65 (by decide +kernel)) <|
  mj_c1 (k_iloadn (k := 2) (by decide +kernel) rfl) <|
  mj_c1 (k_ldc (idx := 88) (by decide +kernel) w_526) <|
  mj_c1 (k_ias (by decide +kernel)) <|
  mj_c1 (k_aloadn (k := 0) (by decide +kernel) rfl) <|
  mj_c1 (k_gR (idx := 33) h_N (by decide) rfl w_70 (by decide +kernel)) <|
  mj_c1 (k_aloadn (k := 0) (by decide +kernel) rfl) <|
  mj_c1 (k_gI (idx := 82) h_N (by decide) rfl w_73 (by decide +kernel)) <|
  mj_c1 (k_iloadn (k := 2) (by decide +kernel) rfl) <|
  mj_c1 (k_ias (by decide +kernel)) <|
  mj_c1 (k_aloadn (k := 0) (by decide +kernel) rfl) <|
  mj_c1 (k_dup (by decide +kernel)) <|
  mj_c1 (k_gI (idx := 82) h_N (by decide) rfl w_73 (by decide +kernel)) <|
  mj_c1 (k_iconst (by decide +kernel)) <|
  mj_c1 (k_iadd (by decide +kernel)) <|
  mj_c1 (k_pI (idx := 82) h_N (by decide) rfl rfl w_73 rfl (by decide +kernel)) <|
  mj_c1 (k_iinc (by decide +kernel) (by decide)) <|
  mj_c1 (k_goto (off := -54) (by decide +kernel) (by decide)) <|
  mj_c1 (k_retv (by decide +kernel) rfl) mj_c0
def q_N_isGate : List (Nat × mj_Sem) := [(0, o_il 1 1), (1, o_al 0 2), (2, o_gI 3 10 5), (5, o_icle 12 8), (8, o_ic 1 9), (9, o_goto 13), (12, o_ic 0 13), (13, o_zret 0 0)]
set_option maxRecDepth 100000 in
theorem z_N_isGate : mj_Code (m_N_isGate) (q_N_isGate) :=
  mj_c1 (k_iloadn (k := 1) (by decide +kernel) rfl) <|
  mj_c1 (k_aloadn (k := 0) (by decide +kernel) rfl) <|
  mj_c1 (k_gI (idx := 44) h_N (by decide) rfl w_78 (by decide +kernel)) <|
  mj_c1 (k_icle (off := 7) (by decide +kernel) (by decide)) <|
  mj_c1 (k_iconst (by decide +kernel)) <|
  mj_c1 (k_goto (off := 4) (by decide +kernel) (by decide)) <|
  mj_c1 (k_iconst (by decide +kernel)) <|
  mj_c1 (k_zret (by decide +kernel) rfl) mj_c0
def q_N_stands : List (Nat × mj_Sem) := [(0, o_al 0 1), (1, o_il 1 2), (2, o_call m_N_exists 2 0 0 5 (mj_rv 3)), (5, o_ifeq 21 8), (8, o_al 0 9), (9, o_il 1 10), (10, o_call m_N_slotFor 2 0 0 13 (mj_rv 3)), (13, o_ic (-1) 14), (14, o_iceq 21 17), (17, o_ic 1 18), (18, o_goto 22), (21, o_ic 0 22), (22, o_zret 0 0)]
set_option maxRecDepth 100000 in
theorem z_N_stands : mj_Code (m_N_stands) (q_N_stands) :=
  mj_c1 (k_aloadn (k := 0) (by decide +kernel) rfl) <|
  mj_c1 (k_iloadn (k := 1) (by decide +kernel) rfl) <|
  mj_c1 (k_callV (idx := 59) (by decide +kernel) (fit_m_N_stands_m_N_exists) rfl rfl w_465 w_466 w_467 (by decide) (by decide +kernel)) <|
  mj_c1 (k_ifeq (off := 16) (by decide +kernel) (by decide)) <|
  mj_c1 (k_aloadn (k := 0) (by decide +kernel) rfl) <|
  mj_c1 (k_iloadn (k := 1) (by decide +kernel) rfl) <|
  mj_c1 (k_callV (idx := 63) (by decide +kernel) (fit_m_N_stands_m_N_slotFor) rfl rfl w_469 w_197 w_198 (by decide) (by decide +kernel)) <|
  mj_c1 (k_iconst (by decide +kernel)) <|
  mj_c1 (k_iceq (off := 7) (by decide +kernel) (by decide)) <|
  mj_c1 (k_iconst (by decide +kernel)) <|
  mj_c1 (k_goto (off := 4) (by decide +kernel) (by decide)) <|
  mj_c1 (k_iconst (by decide +kernel)) <|
  mj_c1 (k_zret (by decide +kernel) rfl) mj_c0
def q_N_outputDepth : List (Nat × mj_Sem) := [(0, o_ic 0 1), (1, o_is 1 2), (2, o_ic 0 3), (3, o_is 2 4), (4, o_il 2 5), (5, o_al 0 6), (6, o_gI 3 12 9), (9, o_icge 38 12), (12, o_il 1 13), (13, o_al 0 14), (14, o_gR 3 5 17), (17, o_al 0 18), (18, o_al 0 19), (19, o_gR 3 4 22), (22, o_il 2 23), (23, o_ial 24), (24, o_call m_N_slotFor 2 0 0 27 (mj_rv 3)), (27, o_ial 28), (28, o_call m_H_max 2 0 0 31 mj_rs), (31, o_is 1 32), (32, o_inc 2 1 35), (35, o_goto 4), (38, o_il 1 39), (39, o_iret 0 0)]
set_option maxRecDepth 100000 in
theorem z_N_outputDepth : mj_Code (m_N_outputDepth) (q_N_outputDepth) :=
  mj_c1 (k_iconst (by decide +kernel)) <|
  mj_c1 (k_istoren (k := 1) (by decide +kernel) rfl (by decide)) <|
  mj_c1 (k_iconst (by decide +kernel)) <|
  mj_c1 (k_istoren (k := 2) (by decide +kernel) rfl (by decide)) <|
  mj_c1 (k_iloadn (k := 2) (by decide +kernel) rfl) <|
  mj_c1 (k_aloadn (k := 0) (by decide +kernel) rfl) <|
  mj_c1 (k_gI (idx := 47) h_N (by decide) rfl w_87 (by decide +kernel)) <|
  mj_c1 (k_icge (off := 29) (by decide +kernel) (by decide)) <|
  mj_c1 (k_iloadn (k := 1) (by decide +kernel) rfl) <|
  mj_c1 (k_aloadn (k := 0) (by decide +kernel) rfl) <|
  mj_c1 (k_gR (idx := 27) h_N (by decide) rfl w_65 (by decide +kernel)) <|
  mj_c1 (k_aloadn (k := 0) (by decide +kernel) rfl) <|
  mj_c1 (k_aloadn (k := 0) (by decide +kernel) rfl) <|
  mj_c1 (k_gR (idx := 24) h_N (by decide) rfl w_61 (by decide +kernel)) <|
  mj_c1 (k_iloadn (k := 2) (by decide +kernel) rfl) <|
  mj_c1 (k_ial (by decide +kernel)) <|
  mj_c1 (k_callV (idx := 63) (by decide +kernel) (fit_m_N_outputDepth_m_N_slotFor) rfl rfl w_469 w_197 w_198 (by decide) (by decide +kernel)) <|
  mj_c1 (k_ial (by decide +kernel)) <|
  mj_c1 (k_callS (idx := 67) (by decide +kernel) (fit_m_N_outputDepth_m_H_max) rfl w_837 w_766 (by decide) (by decide +kernel)) <|
  mj_c1 (k_istoren (k := 1) (by decide +kernel) rfl (by decide)) <|
  mj_c1 (k_iinc (by decide +kernel) (by decide)) <|
  mj_c1 (k_goto (off := -31) (by decide +kernel) (by decide)) <|
  mj_c1 (k_iloadn (k := 1) (by decide +kernel) rfl) <|
  mj_c1 (k_iret (by decide +kernel) rfl) mj_c0
def q_A_fill : List (Nat × mj_Sem) := [(0, o_ic 0 1), (1, o_is 2 2), (2, o_al 0 3), (3, o_alen 0 4), (4, o_is 3 5), (5, o_il 2 6), (6, o_il 3 7), (7, o_icge 20 10), (10, o_al 0 11), (11, o_il 2 12), (12, o_il 1 13), (13, o_ias 14), (14, o_inc 2 1 17), (17, o_goto 5), (20, o_retv 0 0)]
set_option maxRecDepth 100000 in
theorem z_A_fill : mj_Code (m_A_fill) (q_A_fill) :=
  mj_c1 (k_iconst (by decide +kernel)) <|
  mj_c1 (k_istoren (k := 2) (by decide +kernel) rfl (by decide)) <|
  mj_c1 (k_aloadn (k := 0) (by decide +kernel) rfl) <|
  mj_c1 (k_alen (by decide +kernel) (by decide)) <|
  mj_c1 (k_istoren (k := 3) (by decide +kernel) rfl (by decide)) <|
  mj_c1 (k_iloadn (k := 2) (by decide +kernel) rfl) <|
  mj_c1 (k_iloadn (k := 3) (by decide +kernel) rfl) <|
  mj_c1 (k_icge (off := 13) (by decide +kernel) (by decide)) <|
  mj_c1 (k_aloadn (k := 0) (by decide +kernel) rfl) <|
  mj_c1 (k_iloadn (k := 2) (by decide +kernel) rfl) <|
  mj_c1 (k_iloadn (k := 1) (by decide +kernel) rfl) <|
  mj_c1 (k_ias (by decide +kernel)) <|
  mj_c1 (k_iinc (by decide +kernel) (by decide)) <|
  mj_c1 (k_goto (off := -12) (by decide +kernel) (by decide)) <|
  mj_c1 (k_retv (by decide +kernel) rfl) mj_c0
def q_H_min : List (Nat × mj_Sem) := [(0, o_il 0 1), (1, o_il 1 2), (2, o_icgt 9 5), (5, o_il 0 6), (6, o_goto 10), (9, o_il 1 10), (10, o_iret 0 0)]
set_option maxRecDepth 100000 in
theorem z_H_min : mj_Code (m_H_min) (q_H_min) :=
  mj_c1 (k_iloadn (k := 0) (by decide +kernel) rfl) <|
  mj_c1 (k_iloadn (k := 1) (by decide +kernel) rfl) <|
  mj_c1 (k_icgt (off := 7) (by decide +kernel) (by decide)) <|
  mj_c1 (k_iloadn (k := 0) (by decide +kernel) rfl) <|
  mj_c1 (k_goto (off := 4) (by decide +kernel) (by decide)) <|
  mj_c1 (k_iloadn (k := 1) (by decide +kernel) rfl) <|
  mj_c1 (k_iret (by decide +kernel) rfl) mj_c0
def q_H_max : List (Nat × mj_Sem) := [(0, o_il 0 1), (1, o_il 1 2), (2, o_iclt 9 5), (5, o_il 0 6), (6, o_goto 10), (9, o_il 1 10), (10, o_iret 0 0)]
set_option maxRecDepth 100000 in
theorem z_H_max : mj_Code (m_H_max) (q_H_max) :=
  mj_c1 (k_iloadn (k := 0) (by decide +kernel) rfl) <|
  mj_c1 (k_iloadn (k := 1) (by decide +kernel) rfl) <|
  mj_c1 (k_iclt (off := 7) (by decide +kernel) (by decide)) <|
  mj_c1 (k_iloadn (k := 0) (by decide +kernel) rfl) <|
  mj_c1 (k_goto (off := 4) (by decide +kernel) (by decide)) <|
  mj_c1 (k_iloadn (k := 1) (by decide +kernel) rfl) <|
  mj_c1 (k_iret (by decide +kernel) rfl) mj_c0
