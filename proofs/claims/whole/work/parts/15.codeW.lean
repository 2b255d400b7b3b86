def q_W_init : List (Nat × mj_Sem) := [(0, o_al 0 1), (1, o_oi 4), (4, o_al 0 5), (5, o_ic 4096 8), (8, o_na 1 6 5658 10), (10, o_pR 5 1 13), (13, o_al 0 14), (14, o_ic 315 17), (17, o_na 0 6 5658 19), (19, o_pR 5 2 22), (22, o_al 0 23), (23, o_ic 315 26), (26, o_na 2 6 5658 28), (28, o_pR 5 3 31), (31, o_al 0 32), (32, o_ic 315 35), (35, o_na 0 6 5658 37), (37, o_pR 5 4 40), (40, o_al 0 41), (41, o_ic 315 44), (44, o_na 0 6 5658 46), (46, o_pR 5 5 49), (49, o_al 0 50), (50, o_ic 302 53), (53, o_na 0 6 5658 55), (55, o_pR 5 6 58), (58, o_retv 6 5658)]
set_option maxRecDepth 100000 in
theorem z_W_init : mj_Code (m_W_init) (q_W_init) :=
  mj_c1 (k_aloadn (k := 0) (by decide +kernel) rfl) <|
  mj_c1 (k_oi (idx := 3) (by decide +kernel) w_268 w_24 w_25 (by decide) (by decide)) <|
  mj_c1 (k_aloadn (k := 0) (by decide +kernel) rfl) <|
  mj_c1 (k_sipush (by decide +kernel) (by decide)) <|
  mj_c1 (k_na (at0 := .byte) (by decide +kernel) rfl (Or.inr (Or.inl ⟨rfl, rfl⟩)) w_226) <|
  mj_c1 (k_pRF (idx := 11) h_W (by decide) rfl (Or.inr ⟨_, rfl⟩) w_271 rfl rfl rfl (by decide +kernel)) <|
  mj_c1 (k_aloadn (k := 0) (by decide +kernel) rfl) <|
  mj_c1 (k_sipush (by decide +kernel) (by decide)) <|
  mj_c1 (k_na (at0 := .int) (by decide +kernel) rfl (Or.inl ⟨rfl, rfl⟩) w_118) <|
  mj_c1 (k_pRF (idx := 15) h_W (by decide) rfl (Or.inr ⟨_, rfl⟩) w_272 rfl rfl rfl (by decide +kernel)) <|
  mj_c1 (k_aloadn (k := 0) (by decide +kernel) rfl) <|
  mj_c1 (k_sipush (by decide +kernel) (by decide)) <|
  mj_c1 (k_na (at0 := .boolean) (by decide +kernel) rfl (Or.inr (Or.inr (Or.inl ⟨rfl, rfl⟩))) w_298) <|
  mj_c1 (k_pRF (idx := 19) h_W (by decide) rfl (Or.inr ⟨_, rfl⟩) w_273 rfl rfl rfl (by decide +kernel)) <|
  mj_c1 (k_aloadn (k := 0) (by decide +kernel) rfl) <|
  mj_c1 (k_sipush (by decide +kernel) (by decide)) <|
  mj_c1 (k_na (at0 := .int) (by decide +kernel) rfl (Or.inl ⟨rfl, rfl⟩) w_118) <|
  mj_c1 (k_pRF (idx := 23) h_W (by decide) rfl (Or.inr ⟨_, rfl⟩) w_274 rfl rfl rfl (by decide +kernel)) <|
  mj_c1 (k_aloadn (k := 0) (by decide +kernel) rfl) <|
  mj_c1 (k_sipush (by decide +kernel) (by decide)) <|
  mj_c1 (k_na (at0 := .int) (by decide +kernel) rfl (Or.inl ⟨rfl, rfl⟩) w_118) <|
  mj_c1 (k_pRF (idx := 26) h_W (by decide) rfl (Or.inr ⟨_, rfl⟩) w_275 rfl rfl rfl (by decide +kernel)) <|
  mj_c1 (k_aloadn (k := 0) (by decide +kernel) rfl) <|
  mj_c1 (k_sipush (by decide +kernel) (by decide)) <|
  mj_c1 (k_na (at0 := .int) (by decide +kernel) rfl (Or.inl ⟨rfl, rfl⟩) w_118) <|
  mj_c1 (k_pRF (idx := 29) h_W (by decide) rfl (Or.inr ⟨_, rfl⟩) w_276 rfl rfl rfl (by decide +kernel)) <|
  mj_c1 (k_retv (by decide +kernel) rfl) mj_c0
def q_W_writeText : List (Nat × mj_Sem) := [(0, o_al 0 1), (1, o_il 3 2), (2, o_pZ 5 7 5), (5, o_al 0 6), (6, o_al 1 7), (7, o_call m_W_measure 2 0 0 10 (mj_rv 5)), (10, o_al 0 11), (11, o_al 1 12), (12, o_call m_W_markNeeded 2 0 0 15 (mj_rv 5)), (15, o_al 0 16), (16, o_al 1 17), (17, o_gR 1 0 20), (20, o_call m_W_numberGates 2 0 0 23 (mj_rv 5)), (23, o_al 0 24), (24, o_ic 0 25), (25, o_pI 5 0 28), (28, o_al 0 29), (29, o_al 1 30), (30, o_gR 1 0 33), (33, o_il 2 34), (34, o_call m_W_putFirstLine 3 0 0 37 (mj_rv 5)), (37, o_il 2 38), (38, o_ifne 49 41), (41, o_al 0 42), (42, o_al 1 43), (43, o_gR 1 0 46), (46, o_call m_W_putInputs 2 0 0 49 (mj_rv 5)), (49, o_al 0 50), (50, o_al 1 51), (51, o_call m_W_putOutputs 2 0 0 54 (mj_rv 5)), (54, o_ic 1 55), (55, o_is 4 57), (57, o_il 4 59), (59, o_al 0 60), (60, o_gI 5 8 63), (63, o_icgt 88 66), (66, o_al 0 67), (67, o_al 1 68), (68, o_al 1 69), (69, o_gR 1 0 72), (72, o_gI 3 10 75), (75, o_il 4 77), (77, o_iadd 78), (78, o_il 2 79), (79, o_call m_W_putGate 4 0 0 82 (mj_rv 5)), (82, o_inc 4 1 85), (85, o_goto 57), (88, o_al 0 89), (89, o_gI 5 0 92), (92, o_iret 0 0)]
set_option maxRecDepth 100000 in
theorem z_W_writeText : mj_Code (m_W_writeText) (q_W_writeText) :=
  mj_c1 (k_aloadn (k := 0) (by decide +kernel) rfl) <|
  mj_c1 (k_iloadn (k := 3) (by decide +kernel) rfl) <|
  mj_c1 (k_pZ (idx := 36) h_W (by decide) rfl rfl w_277 rfl (by decide +kernel)) <|
  mj_c1 (k_aloadn (k := 0) (by decide +kernel) rfl) <|
  mj_c1 (k_aloadn (k := 1) (by decide +kernel) rfl) <|
  mj_c1 (k_callV (idx := 40) (by decide +kernel) (fit_m_W_writeText_m_W_measure) rfl rfl w_750 w_752 v_35 (by decide) (by decide +kernel)) <|
  mj_c1 (k_aloadn (k := 0) (by decide +kernel) rfl) <|
  mj_c1 (k_aloadn (k := 1) (by decide +kernel) rfl) <|
  mj_c1 (k_callV (idx := 44) (by decide +kernel) (fit_m_W_writeText_m_W_markNeeded) rfl rfl w_768 w_770 v_38 (by decide) (by decide +kernel)) <|
  mj_c1 (k_aloadn (k := 0) (by decide +kernel) rfl) <|
  mj_c1 (k_aloadn (k := 1) (by decide +kernel) rfl) <|
  mj_c1 (k_gR (idx := 47) h_C (by decide) rfl w_121 (by decide +kernel)) <|
  mj_c1 (k_callV (idx := 53) (by decide +kernel) (fit_m_W_writeText_m_W_numberGates) rfl rfl w_772 w_774 v_39 (by decide) (by decide +kernel)) <|
  mj_c1 (k_aloadn (k := 0) (by decide +kernel) rfl) <|
  mj_c1 (k_iconst (by decide +kernel)) <|
  mj_c1 (k_pI (idx := 32) h_W (by decide) rfl rfl w_269 rfl (by decide +kernel)) <|
  mj_c1 (k_aloadn (k := 0) (by decide +kernel) rfl) <|
  mj_c1 (k_aloadn (k := 1) (by decide +kernel) rfl) <|
  mj_c1 (k_gR (idx := 47) h_C (by decide) rfl w_121 (by decide +kernel)) <|
  mj_c1 (k_iloadn (k := 2) (by decide +kernel) rfl) <|
  mj_c1 (k_callV (idx := 57) (by decide +kernel) (fit_m_W_writeText_m_W_putFirstLine) rfl rfl w_781 w_783 v_41 (by decide) (by decide +kernel)) <|
  mj_c1 (k_iloadn (k := 2) (by decide +kernel) rfl) <|
  mj_c1 (k_ifne (off := 11) (by decide +kernel) (by decide)) <|
  mj_c1 (k_aloadn (k := 0) (by decide +kernel) rfl) <|
  mj_c1 (k_aloadn (k := 1) (by decide +kernel) rfl) <|
  mj_c1 (k_gR (idx := 47) h_C (by decide) rfl w_121 (by decide +kernel)) <|
  mj_c1 (k_callV (idx := 61) (by decide +kernel) (fit_m_W_writeText_m_W_putInputs) rfl rfl w_793 w_795 v_44 (by decide) (by decide +kernel)) <|
  mj_c1 (k_aloadn (k := 0) (by decide +kernel) rfl) <|
  mj_c1 (k_aloadn (k := 1) (by decide +kernel) rfl) <|
  mj_c1 (k_callV (idx := 64) (by decide +kernel) (fit_m_W_writeText_m_W_putOutputs) rfl rfl w_797 w_799 v_45 (by decide) (by decide +kernel)) <|
  mj_c1 (k_iconst (by decide +kernel)) <|
  mj_c1 (k_istore (by decide +kernel) (by decide)) <|
  mj_c1 (k_iload (by decide +kernel)) <|
  mj_c1 (k_aloadn (k := 0) (by decide +kernel) rfl) <|
  mj_c1 (k_gI (idx := 67) h_W (by decide) rfl w_278 (by decide +kernel)) <|
  mj_c1 (k_icgt (off := 25) (by decide +kernel) (by decide)) <|
  mj_c1 (k_aloadn (k := 0) (by decide +kernel) rfl) <|
  mj_c1 (k_aloadn (k := 1) (by decide +kernel) rfl) <|
  mj_c1 (k_aloadn (k := 1) (by decide +kernel) rfl) <|
  mj_c1 (k_gR (idx := 47) h_C (by decide) rfl w_121 (by decide +kernel)) <|
  mj_c1 (k_gI (idx := 70) h_N (by decide) rfl w_79 (by decide +kernel)) <|
  mj_c1 (k_iload (by decide +kernel)) <|
  mj_c1 (k_iadd (by decide +kernel)) <|
  mj_c1 (k_iloadn (k := 2) (by decide +kernel) rfl) <|
  mj_c1 (k_callV (idx := 75) (by decide +kernel) (fit_m_W_writeText_m_W_putGate) rfl rfl w_805 w_807 v_47 (by decide) (by decide +kernel)) <|
  mj_c1 (k_iinc (by decide +kernel) (by decide)) <|
  mj_c1 (k_goto (off := -28) (by decide +kernel) (by decide)) <|
  mj_c1 (k_aloadn (k := 0) (by decide +kernel) rfl) <|
  mj_c1 (k_gI (idx := 32) h_W (by decide) rfl w_269 (by decide +kernel)) <|
  mj_c1 (k_iret (by decide +kernel) rfl) mj_c0
def q_W_measure : List (Nat × mj_Sem) := [(0, o_al 1 1), (1, o_gR 1 0 4), (4, o_as 2 5), (5, o_al 0 6), (6, o_gR 5 2 9), (9, o_ic 0 10), (10, o_call m_A_fill 2 0 0 13 mj_rs), (13, o_ic 0 14), (14, o_is 3 15), (15, o_il 3 16), (16, o_al 2 17), (17, o_gI 3 11 20), (20, o_icge 91 23), (23, o_al 2 24), (24, o_gR 3 6 27), (27, o_il 3 28), (28, o_ial 29), (29, o_is 4 31), (31, o_al 0 32), (32, o_gR 5 2 35), (35, o_al 0 36), (36, o_al 1 37), (37, o_al 2 38), (38, o_gR 3 2 41), (41, o_il 4 43), (43, o_ial 44), (44, o_call m_W_finalSlot 3 0 0 47 (mj_rv 5)), (47, o_ial 48), (48, o_is 5 50), (50, o_al 0 51), (51, o_gR 5 2 54), (54, o_al 0 55), (55, o_al 1 56), (56, o_al 2 57), (57, o_gR 3 3 60), (60, o_il 4 62), (62, o_ial 63), (63, o_call m_W_finalSlot 3 0 0 66 (mj_rv 5)), (66, o_ial 67), (67, o_is 6 69), (69, o_al 0 70), (70, o_gR 5 2 73), (73, o_il 4 75), (75, o_ic 1 76), (76, o_il 5 78), (78, o_il 6 80), (80, o_call m_H_max 2 0 0 83 mj_rs), (83, o_iadd 84), (84, o_ias 85), (85, o_inc 3 1 88), (88, o_goto 15), (91, o_retv 0 0)]
set_option maxRecDepth 100000 in
theorem z_W_measure : mj_Code (m_W_measure) (q_W_measure) :=
  mj_c1 (k_aloadn (k := 1) (by decide +kernel) rfl) <|
  mj_c1 (k_gR (idx := 47) h_C (by decide) rfl w_121 (by decide +kernel)) <|
  mj_c1 (k_astoren (k := 2) (by decide +kernel) rfl (by decide)) <|
  mj_c1 (k_aloadn (k := 0) (by decide +kernel) rfl) <|
  mj_c1 (k_gR (idx := 15) h_W (by decide) rfl w_272 (by decide +kernel)) <|
  mj_c1 (k_iconst (by decide +kernel)) <|
  mj_c1 (k_callS (idx := 90) (by decide +kernel) (fit_m_W_measure_m_A_fill) rfl w_754 w_43 (by decide) (by decide +kernel)) <|
  mj_c1 (k_iconst (by decide +kernel)) <|
  mj_c1 (k_istoren (k := 3) (by decide +kernel) rfl (by decide)) <|
  mj_c1 (k_iloadn (k := 3) (by decide +kernel) rfl) <|
  mj_c1 (k_aloadn (k := 2) (by decide +kernel) rfl) <|
  mj_c1 (k_gI (idx := 96) h_N (by decide) rfl w_85 (by decide +kernel)) <|
  mj_c1 (k_icge (off := 71) (by decide +kernel) (by decide)) <|
  mj_c1 (k_aloadn (k := 2) (by decide +kernel) rfl) <|
  mj_c1 (k_gR (idx := 97) h_N (by decide) rfl w_69 (by decide +kernel)) <|
  mj_c1 (k_iloadn (k := 3) (by decide +kernel) rfl) <|
  mj_c1 (k_ial (by decide +kernel)) <|
  mj_c1 (k_istore (by decide +kernel) (by decide)) <|
  mj_c1 (k_aloadn (k := 0) (by decide +kernel) rfl) <|
  mj_c1 (k_gR (idx := 15) h_W (by decide) rfl w_272 (by decide +kernel)) <|
  mj_c1 (k_aloadn (k := 0) (by decide +kernel) rfl) <|
  mj_c1 (k_aloadn (k := 1) (by decide +kernel) rfl) <|
  mj_c1 (k_aloadn (k := 2) (by decide +kernel) rfl) <|
  mj_c1 (k_gR (idx := 100) h_N (by decide) rfl w_54 (by decide +kernel)) <|
  mj_c1 (k_iload (by decide +kernel)) <|
  mj_c1 (k_ial (by decide +kernel)) <|
  mj_c1 (k_callV (idx := 103) (by decide +kernel) (fit_m_W_measure_m_W_finalSlot) rfl rfl w_755 w_757 v_36 (by decide) (by decide +kernel)) <|
  mj_c1 (k_ial (by decide +kernel)) <|
  mj_c1 (k_istore (by decide +kernel) (by decide)) <|
  mj_c1 (k_aloadn (k := 0) (by decide +kernel) rfl) <|
  mj_c1 (k_gR (idx := 15) h_W (by decide) rfl w_272 (by decide +kernel)) <|
  mj_c1 (k_aloadn (k := 0) (by decide +kernel) rfl) <|
  mj_c1 (k_aloadn (k := 1) (by decide +kernel) rfl) <|
  mj_c1 (k_aloadn (k := 2) (by decide +kernel) rfl) <|
  mj_c1 (k_gR (idx := 106) h_N (by decide) rfl w_59 (by decide +kernel)) <|
  mj_c1 (k_iload (by decide +kernel)) <|
  mj_c1 (k_ial (by decide +kernel)) <|
  mj_c1 (k_callV (idx := 103) (by decide +kernel) (fit_m_W_measure_m_W_finalSlot) rfl rfl w_755 w_757 v_36 (by decide) (by decide +kernel)) <|
  mj_c1 (k_ial (by decide +kernel)) <|
  mj_c1 (k_istore (by decide +kernel) (by decide)) <|
  mj_c1 (k_aloadn (k := 0) (by decide +kernel) rfl) <|
  mj_c1 (k_gR (idx := 15) h_W (by decide) rfl w_272 (by decide +kernel)) <|
  mj_c1 (k_iload (by decide +kernel)) <|
  mj_c1 (k_iconst (by decide +kernel)) <|
  mj_c1 (k_iload (by decide +kernel)) <|
  mj_c1 (k_iload (by decide +kernel)) <|
  mj_c1 (k_callS (idx := 109) (by decide +kernel) (fit_m_W_measure_m_H_max) rfl w_765 w_766 (by decide) (by decide +kernel)) <|
  mj_c1 (k_iadd (by decide +kernel)) <|
  mj_c1 (k_ias (by decide +kernel)) <|
  mj_c1 (k_iinc (by decide +kernel) (by decide)) <|
  mj_c1 (k_goto (off := -73) (by decide +kernel) (by decide)) <|
  mj_c1 (k_retv (by decide +kernel) rfl) mj_c0
def q_W_finalSlot : List (Nat × mj_Sem) := [(0, o_al 1 1), (1, o_gR 1 0 4), (4, o_al 0 5), (5, o_al 1 6), (6, o_il 2 7), (7, o_call m_W_finalLiteral 3 0 0 10 (mj_rv 5)), (10, o_call m_N_slotFor 2 0 0 13 (mj_rv 3)), (13, o_iret 0 0)]
set_option maxRecDepth 100000 in
theorem z_W_finalSlot : mj_Code (m_W_finalSlot) (q_W_finalSlot) :=
  mj_c1 (k_aloadn (k := 1) (by decide +kernel) rfl) <|
  mj_c1 (k_gR (idx := 47) h_C (by decide) rfl w_121 (by decide +kernel)) <|
  mj_c1 (k_aloadn (k := 0) (by decide +kernel) rfl) <|
  mj_c1 (k_aloadn (k := 1) (by decide +kernel) rfl) <|
  mj_c1 (k_iloadn (k := 2) (by decide +kernel) rfl) <|
  mj_c1 (k_callV (idx := 83) (by decide +kernel) (fit_m_W_finalSlot_m_W_finalLiteral) rfl rfl w_759 w_761 v_37 (by decide) (by decide +kernel)) <|
  mj_c1 (k_callV (idx := 87) (by decide +kernel) (fit_m_W_finalSlot_m_N_slotFor) rfl rfl w_764 w_197 w_198 (by decide) (by decide +kernel)) <|
  mj_c1 (k_iret (by decide +kernel) rfl) mj_c0
def q_W_finalLiteral : List (Nat × mj_Sem) := [(0, o_al 0 1), (1, o_gI 5 7 4), (4, o_ifeq 15 7), (7, o_al 1 8), (8, o_il 2 9), (9, o_call m_C_leaderOf 2 0 0 12 (mj_rv 1)), (12, o_goto 16), (15, o_il 2 16), (16, o_iret 0 0)]
set_option maxRecDepth 100000 in
theorem z_W_finalLiteral : mj_Code (m_W_finalLiteral) (q_W_finalLiteral) :=
  mj_c1 (k_aloadn (k := 0) (by decide +kernel) rfl) <|
  mj_c1 (k_gI (idx := 36) h_W (by decide) rfl w_277 (by decide +kernel)) <|
  mj_c1 (k_ifeq (off := 11) (by decide +kernel) (by decide)) <|
  mj_c1 (k_aloadn (k := 1) (by decide +kernel) rfl) <|
  mj_c1 (k_iloadn (k := 2) (by decide +kernel) rfl) <|
  mj_c1 (k_callV (idx := 79) (by decide +kernel) (fit_m_W_finalLiteral_m_C_leaderOf) rfl rfl w_763 w_718 w_719 (by decide) (by decide +kernel)) <|
  mj_c1 (k_goto (off := 4) (by decide +kernel) (by decide)) <|
  mj_c1 (k_iloadn (k := 2) (by decide +kernel) rfl) <|
  mj_c1 (k_iret (by decide +kernel) rfl) mj_c0
def q_W_markNeeded : List (Nat × mj_Sem) := [(0, o_al 1 1), (1, o_gR 1 0 4), (4, o_as 2 5), (5, o_ic 0 6), (6, o_is 3 7), (7, o_il 3 8), (8, o_ic 315 11), (11, o_icge 27 14), (14, o_al 0 15), (15, o_gR 5 3 18), (18, o_il 3 19), (19, o_ic 0 20), (20, o_zas 21), (21, o_inc 3 1 24), (24, o_goto 7), (27, o_ic 0 28), (28, o_is 3 29), (29, o_il 3 30), (30, o_al 2 31), (31, o_gI 3 12 34), (34, o_icge 60 37), (37, o_al 0 38), (38, o_gR 5 3 41), (41, o_al 0 42), (42, o_al 1 43), (43, o_al 2 44), (44, o_gR 3 4 47), (47, o_il 3 48), (48, o_ial 49), (49, o_call m_W_finalSlot 3 0 0 52 (mj_rv 5)), (52, o_ic 1 53), (53, o_zas 54), (54, o_inc 3 1 57), (57, o_goto 29), (60, o_al 2 61), (61, o_gI 3 11 64), (64, o_ic 1 65), (65, o_isub 66), (66, o_is 3 67), (67, o_il 3 68), (68, o_iflt 131 71), (71, o_al 2 72), (72, o_gR 3 6 75), (75, o_il 3 76), (76, o_ial 77), (77, o_is 4 79), (79, o_al 0 80), (80, o_gR 5 3 83), (83, o_il 4 85), (85, o_zal 86), (86, o_ifeq 125 89), (89, o_al 0 90), (90, o_gR 5 3 93), (93, o_al 0 94), (94, o_al 1 95), (95, o_al 2 96), (96, o_gR 3 2 99), (99, o_il 4 101), (101, o_ial 102), (102, o_call m_W_finalSlot 3 0 0 105 (mj_rv 5)), (105, o_ic 1 106), (106, o_zas 107), (107, o_al 0 108), (108, o_gR 5 3 111), (111, o_al 0 112), (112, o_al 1 113), (113, o_al 2 114), (114, o_gR 3 3 117), (117, o_il 4 119), (119, o_ial 120), (120, o_call m_W_finalSlot 3 0 0 123 (mj_rv 5)), (123, o_ic 1 124), (124, o_zas 125), (125, o_inc 3 (-1) 128), (128, o_goto 67), (131, o_retv 0 0)]
set_option maxRecDepth 100000 in
theorem z_W_markNeeded : mj_Code (m_W_markNeeded) (q_W_markNeeded) :=
  mj_c1 (k_aloadn (k := 1) (by decide +kernel) rfl) <|
  mj_c1 (k_gR (idx := 47) h_C (by decide) rfl w_121 (by decide +kernel)) <|
  mj_c1 (k_astoren (k := 2) (by decide +kernel) rfl (by decide)) <|
  mj_c1 (k_iconst (by decide +kernel)) <|
  mj_c1 (k_istoren (k := 3) (by decide +kernel) rfl (by decide)) <|
  mj_c1 (k_iloadn (k := 3) (by decide +kernel) rfl) <|
  mj_c1 (k_sipush (by decide +kernel) (by decide)) <|
  mj_c1 (k_icge (off := 16) (by decide +kernel) (by decide)) <|
  mj_c1 (k_aloadn (k := 0) (by decide +kernel) rfl) <|
  mj_c1 (k_gR (idx := 19) h_W (by decide) rfl w_273 (by decide +kernel)) <|
  mj_c1 (k_iloadn (k := 3) (by decide +kernel) rfl) <|
  mj_c1 (k_iconst (by decide +kernel)) <|
  mj_c1 (k_zas (by decide +kernel)) <|
  mj_c1 (k_iinc (by decide +kernel) (by decide)) <|
  mj_c1 (k_goto (off := -17) (by decide +kernel) (by decide)) <|
  mj_c1 (k_iconst (by decide +kernel)) <|
  mj_c1 (k_istoren (k := 3) (by decide +kernel) rfl (by decide)) <|
  mj_c1 (k_iloadn (k := 3) (by decide +kernel) rfl) <|
  mj_c1 (k_aloadn (k := 2) (by decide +kernel) rfl) <|
  mj_c1 (k_gI (idx := 115) h_N (by decide) rfl w_89 (by decide +kernel)) <|
  mj_c1 (k_icge (off := 26) (by decide +kernel) (by decide)) <|
  mj_c1 (k_aloadn (k := 0) (by decide +kernel) rfl) <|
  mj_c1 (k_gR (idx := 19) h_W (by decide) rfl w_273 (by decide +kernel)) <|
  mj_c1 (k_aloadn (k := 0) (by decide +kernel) rfl) <|
  mj_c1 (k_aloadn (k := 1) (by decide +kernel) rfl) <|
  mj_c1 (k_aloadn (k := 2) (by decide +kernel) rfl) <|
  mj_c1 (k_gR (idx := 118) h_N (by decide) rfl w_63 (by decide +kernel)) <|
  mj_c1 (k_iloadn (k := 3) (by decide +kernel) rfl) <|
  mj_c1 (k_ial (by decide +kernel)) <|
  mj_c1 (k_callV (idx := 103) (by decide +kernel) (fit_m_W_markNeeded_m_W_finalSlot) rfl rfl w_755 w_757 v_36 (by decide) (by decide +kernel)) <|
  mj_c1 (k_iconst (by decide +kernel)) <|
  mj_c1 (k_zas (by decide +kernel)) <|
  mj_c1 (k_iinc (by decide +kernel) (by decide)) <|
  mj_c1 (k_goto (off := -28) (by decide +kernel) (by decide)) <|
  mj_c1 (k_aloadn (k := 2) (by decide +kernel) rfl) <|
  mj_c1 (k_gI (idx := 96) h_N (by decide) rfl w_85 (by decide +kernel)) <|
  mj_c1 (k_iconst (by decide +kernel)) <|
  mj_c1 (k_isub (by decide +kernel)) <|
  mj_c1 (k_istoren (k := 3) (by decide +kernel) rfl (by decide)) <|
  mj_c1 (k_iloadn (k := 3) (by decide +kernel) rfl) <|
  mj_c1 (k_iflt (off := 63) (by decide +kernel) (by decide)) <|
  mj_c1 (k_aloadn (k := 2) (by decide +kernel) rfl) <|
  mj_c1 (k_gR (idx := 97) h_N (by decide) rfl w_69 (by decide +kernel)) <|
  mj_c1 (k_iloadn (k := 3) (by decide +kernel) rfl) <|
  mj_c1 (k_ial (by decide +kernel)) <|
  mj_c1 (k_istore (by decide +kernel) (by decide)) <|
  mj_c1 (k_aloadn (k := 0) (by decide +kernel) rfl) <|
  mj_c1 (k_gR (idx := 19) h_W (by decide) rfl w_273 (by decide +kernel)) <|
  mj_c1 (k_iload (by decide +kernel)) <|
  mj_c1 (k_zal (by decide +kernel)) <|
  mj_c1 (k_ifeq (off := 39) (by decide +kernel) (by decide)) <|
  mj_c1 (k_aloadn (k := 0) (by decide +kernel) rfl) <|
  mj_c1 (k_gR (idx := 19) h_W (by decide) rfl w_273 (by decide +kernel)) <|
  mj_c1 (k_aloadn (k := 0) (by decide +kernel) rfl) <|
  mj_c1 (k_aloadn (k := 1) (by decide +kernel) rfl) <|
  mj_c1 (k_aloadn (k := 2) (by decide +kernel) rfl) <|
  mj_c1 (k_gR (idx := 100) h_N (by decide) rfl w_54 (by decide +kernel)) <|
  mj_c1 (k_iload (by decide +kernel)) <|
  mj_c1 (k_ial (by decide +kernel)) <|
  mj_c1 (k_callV (idx := 103) (by decide +kernel) (fit_m_W_markNeeded_m_W_finalSlot) rfl rfl w_755 w_757 v_36 (by decide) (by decide +kernel)) <|
  mj_c1 (k_iconst (by decide +kernel)) <|
  mj_c1 (k_zas (by decide +kernel)) <|
  mj_c1 (k_aloadn (k := 0) (by decide +kernel) rfl) <|
  mj_c1 (k_gR (idx := 19) h_W (by decide) rfl w_273 (by decide +kernel)) <|
  mj_c1 (k_aloadn (k := 0) (by decide +kernel) rfl) <|
  mj_c1 (k_aloadn (k := 1) (by decide +kernel) rfl) <|
  mj_c1 (k_aloadn (k := 2) (by decide +kernel) rfl) <|
  mj_c1 (k_gR (idx := 106) h_N (by decide) rfl w_59 (by decide +kernel)) <|
  mj_c1 (k_iload (by decide +kernel)) <|
  mj_c1 (k_ial (by decide +kernel)) <|
  mj_c1 (k_callV (idx := 103) (by decide +kernel) (fit_m_W_markNeeded_m_W_finalSlot) rfl rfl w_755 w_757 v_36 (by decide) (by decide +kernel)) <|
  mj_c1 (k_iconst (by decide +kernel)) <|
  mj_c1 (k_zas (by decide +kernel)) <|
  mj_c1 (k_iinc (by decide +kernel) (by decide)) <|
  mj_c1 (k_goto (off := -61) (by decide +kernel) (by decide)) <|
  mj_c1 (k_retv (by decide +kernel) rfl) mj_c0
def q_W_numberGates : List (Nat × mj_Sem) := [(0, o_al 0 1), (1, o_al 1 2), (2, o_call m_W_countDepths 2 0 0 5 (mj_rv 5)), (5, o_ic 0 6), (6, o_is 2 7), (7, o_il 2 8), (8, o_al 1 9), (9, o_gI 3 10 12), (12, o_icgt 28 15), (15, o_al 0 16), (16, o_gR 5 4 19), (19, o_il 2 20), (20, o_il 2 21), (21, o_ias 22), (22, o_inc 2 1 25), (25, o_goto 7), (28, o_ic 1 29), (29, o_is 2 30), (30, o_il 2 31), (31, o_al 1 32), (32, o_gI 3 9 35), (35, o_icgt 119 38), (38, o_al 1 39), (39, o_gR 3 0 42), (42, o_il 2 43), (43, o_ial 44), (44, o_is 3 45), (45, o_al 1 46), (46, o_il 3 47), (47, o_call m_N_isGate 2 0 0 50 (mj_rv 3)), (50, o_ifeq 113 53), (53, o_al 0 54), (54, o_gR 5 3 57), (57, o_il 3 58), (58, o_zal 59), (59, o_ifeq 113 62), (62, o_al 0 63), (63, o_gR 5 4 66), (66, o_il 3 67), (67, o_al 1 68), (68, o_gI 3 10 71), (71, o_ic 1 72), (72, o_iadd 73), (73, o_al 0 74), (74, o_gR 5 6 77), (77, o_al 0 78), (78, o_gR 5 2 81), (81, o_il 3 82), (82, o_ial 83), (83, o_ial 84), (84, o_iadd 85), (85, o_ias 86), (86, o_al 0 87), (87, o_gR 5 6 90), (90, o_al 0 91), (91, o_gR 5 2 94), (94, o_il 3 95), (95, o_ial 96), (96, o_dup2 97), (97, o_ial 98), (98, o_ic 1 99), (99, o_iadd 100), (100, o_ias 101), (101, o_al 0 102), (102, o_gR 5 5 105), (105, o_al 0 106), (106, o_gR 5 4 109), (109, o_il 3 110), (110, o_ial 111), (111, o_il 3 112), (112, o_ias 113), (113, o_inc 2 1 116), (116, o_goto 30), (119, o_retv 0 0)]
set_option maxRecDepth 100000 in
theorem z_W_numberGates : mj_Code (m_W_numberGates) (q_W_numberGates) :=
  mj_c1 (k_aloadn (k := 0) (by decide +kernel) rfl) <|
  mj_c1 (k_aloadn (k := 1) (by decide +kernel) rfl) <|
  mj_c1 (k_callV (idx := 121) (by decide +kernel) (fit_m_W_numberGates_m_W_countDepths) rfl rfl w_776 w_778 v_40 (by decide) (by decide +kernel)) <|
  mj_c1 (k_iconst (by decide +kernel)) <|
  mj_c1 (k_istoren (k := 2) (by decide +kernel) rfl (by decide)) <|
  mj_c1 (k_iloadn (k := 2) (by decide +kernel) rfl) <|
  mj_c1 (k_aloadn (k := 1) (by decide +kernel) rfl) <|
  mj_c1 (k_gI (idx := 70) h_N (by decide) rfl w_79 (by decide +kernel)) <|
  mj_c1 (k_icgt (off := 16) (by decide +kernel) (by decide)) <|
  mj_c1 (k_aloadn (k := 0) (by decide +kernel) rfl) <|
  mj_c1 (k_gR (idx := 23) h_W (by decide) rfl w_274 (by decide +kernel)) <|
  mj_c1 (k_iloadn (k := 2) (by decide +kernel) rfl) <|
  mj_c1 (k_iloadn (k := 2) (by decide +kernel) rfl) <|
  mj_c1 (k_ias (by decide +kernel)) <|
  mj_c1 (k_iinc (by decide +kernel) (by decide)) <|
  mj_c1 (k_goto (off := -18) (by decide +kernel) (by decide)) <|
  mj_c1 (k_iconst (by decide +kernel)) <|
  mj_c1 (k_istoren (k := 2) (by decide +kernel) rfl (by decide)) <|
  mj_c1 (k_iloadn (k := 2) (by decide +kernel) rfl) <|
  mj_c1 (k_aloadn (k := 1) (by decide +kernel) rfl) <|
  mj_c1 (k_gI (idx := 124) h_N (by decide) rfl w_75 (by decide +kernel)) <|
  mj_c1 (k_icgt (off := 84) (by decide +kernel) (by decide)) <|
  mj_c1 (k_aloadn (k := 1) (by decide +kernel) rfl) <|
  mj_c1 (k_gR (idx := 127) h_N (by decide) rfl w_46 (by decide +kernel)) <|
  mj_c1 (k_iloadn (k := 2) (by decide +kernel) rfl) <|
  mj_c1 (k_ial (by decide +kernel)) <|
  mj_c1 (k_istoren (k := 3) (by decide +kernel) rfl (by decide)) <|
  mj_c1 (k_aloadn (k := 1) (by decide +kernel) rfl) <|
  mj_c1 (k_iloadn (k := 3) (by decide +kernel) rfl) <|
  mj_c1 (k_callV (idx := 130) (by decide +kernel) (fit_m_W_numberGates_m_N_isGate) rfl rfl w_780 w_523 w_524 (by decide) (by decide +kernel)) <|
  mj_c1 (k_ifeq (off := 63) (by decide +kernel) (by decide)) <|
  mj_c1 (k_aloadn (k := 0) (by decide +kernel) rfl) <|
  mj_c1 (k_gR (idx := 19) h_W (by decide) rfl w_273 (by decide +kernel)) <|
  mj_c1 (k_iloadn (k := 3) (by decide +kernel) rfl) <|
  mj_c1 (k_zal (by decide +kernel)) <|
  mj_c1 (k_ifeq (off := 54) (by decide +kernel) (by decide)) <|
  mj_c1 (k_aloadn (k := 0) (by decide +kernel) rfl) <|
  mj_c1 (k_gR (idx := 23) h_W (by decide) rfl w_274 (by decide +kernel)) <|
  mj_c1 (k_iloadn (k := 3) (by decide +kernel) rfl) <|
  mj_c1 (k_aloadn (k := 1) (by decide +kernel) rfl) <|
  mj_c1 (k_gI (idx := 70) h_N (by decide) rfl w_79 (by decide +kernel)) <|
  mj_c1 (k_iconst (by decide +kernel)) <|
  mj_c1 (k_iadd (by decide +kernel)) <|
  mj_c1 (k_aloadn (k := 0) (by decide +kernel) rfl) <|
  mj_c1 (k_gR (idx := 29) h_W (by decide) rfl w_276 (by decide +kernel)) <|
  mj_c1 (k_aloadn (k := 0) (by decide +kernel) rfl) <|
  mj_c1 (k_gR (idx := 15) h_W (by decide) rfl w_272 (by decide +kernel)) <|
  mj_c1 (k_iloadn (k := 3) (by decide +kernel) rfl) <|
  mj_c1 (k_ial (by decide +kernel)) <|
  mj_c1 (k_ial (by decide +kernel)) <|
  mj_c1 (k_iadd (by decide +kernel)) <|
  mj_c1 (k_ias (by decide +kernel)) <|
  mj_c1 (k_aloadn (k := 0) (by decide +kernel) rfl) <|
  mj_c1 (k_gR (idx := 29) h_W (by decide) rfl w_276 (by decide +kernel)) <|
  mj_c1 (k_aloadn (k := 0) (by decide +kernel) rfl) <|
  mj_c1 (k_gR (idx := 15) h_W (by decide) rfl w_272 (by decide +kernel)) <|
  mj_c1 (k_iloadn (k := 3) (by decide +kernel) rfl) <|
  mj_c1 (k_ial (by decide +kernel)) <|
  mj_c1 (k_dup2 (by decide +kernel)) <|
  mj_c1 (k_ial (by decide +kernel)) <|
  mj_c1 (k_iconst (by decide +kernel)) <|
  mj_c1 (k_iadd (by decide +kernel)) <|
  mj_c1 (k_ias (by decide +kernel)) <|
  mj_c1 (k_aloadn (k := 0) (by decide +kernel) rfl) <|
  mj_c1 (k_gR (idx := 26) h_W (by decide) rfl w_275 (by decide +kernel)) <|
  mj_c1 (k_aloadn (k := 0) (by decide +kernel) rfl) <|
  mj_c1 (k_gR (idx := 23) h_W (by decide) rfl w_274 (by decide +kernel)) <|
  mj_c1 (k_iloadn (k := 3) (by decide +kernel) rfl) <|
  mj_c1 (k_ial (by decide +kernel)) <|
  mj_c1 (k_iloadn (k := 3) (by decide +kernel) rfl) <|
  mj_c1 (k_ias (by decide +kernel)) <|
  mj_c1 (k_iinc (by decide +kernel) (by decide)) <|
  mj_c1 (k_goto (off := -86) (by decide +kernel) (by decide)) <|
  mj_c1 (k_retv (by decide +kernel) rfl) mj_c0
def q_W_countDepths : List (Nat × mj_Sem) := [(0, o_al 0 1), (1, o_gR 5 6 4), (4, o_ic 0 5), (5, o_call m_A_fill 2 0 0 8 mj_rs), (8, o_al 0 9), (9, o_ic 0 10), (10, o_pI 5 8 13), (13, o_al 1 14), (14, o_gI 3 10 17), (17, o_ic 1 18), (18, o_iadd 19), (19, o_is 2 20), (20, o_il 2 21), (21, o_al 1 22), (22, o_gI 3 10 25), (25, o_al 1 26), (26, o_gI 3 11 29), (29, o_iadd 30), (30, o_icgt 75 33), (33, o_al 0 34), (34, o_gR 5 3 37), (37, o_il 2 38), (38, o_zal 39), (39, o_ifeq 69 42), (42, o_al 0 43), (43, o_dup 44), (44, o_gI 5 8 47), (47, o_ic 1 48), (48, o_iadd 49), (49, o_pI 5 8 52), (52, o_al 0 53), (53, o_gR 5 6 56), (56, o_al 0 57), (57, o_gR 5 2 60), (60, o_il 2 61), (61, o_ial 62), (62, o_ic 1 63), (63, o_iadd 64), (64, o_dup2 65), (65, o_ial 66), (66, o_ic 1 67), (67, o_iadd 68), (68, o_ias 69), (69, o_inc 2 1 72), (72, o_goto 20), (75, o_ic 1 76), (76, o_is 2 77), (77, o_il 2 78), (78, o_ic 300 81), (81, o_icgt 107 84), (84, o_al 0 85), (85, o_gR 5 6 88), (88, o_il 2 89), (89, o_dup2 90), (90, o_ial 91), (91, o_al 0 92), (92, o_gR 5 6 95), (95, o_il 2 96), (96, o_ic 1 97), (97, o_isub 98), (98, o_ial 99), (99, o_iadd 100), (100, o_ias 101), (101, o_inc 2 1 104), (104, o_goto 77), (107, o_retv 0 0)]
set_option maxRecDepth 100000 in
theorem z_W_countDepths : mj_Code (m_W_countDepths) (q_W_countDepths) :=
  mj_c1 (k_aloadn (k := 0) (by decide +kernel) rfl) <|
  mj_c1 (k_gR (idx := 29) h_W (by decide) rfl w_276 (by decide +kernel)) <|
  mj_c1 (k_iconst (by decide +kernel)) <|
  mj_c1 (k_callS (idx := 90) (by decide +kernel) (fit_m_W_countDepths_m_A_fill) rfl w_754 w_43 (by decide) (by decide +kernel)) <|
  mj_c1 (k_aloadn (k := 0) (by decide +kernel) rfl) <|
  mj_c1 (k_iconst (by decide +kernel)) <|
  mj_c1 (k_pI (idx := 67) h_W (by decide) rfl rfl w_278 rfl (by decide +kernel)) <|
  mj_c1 (k_aloadn (k := 1) (by decide +kernel) rfl) <|
  mj_c1 (k_gI (idx := 70) h_N (by decide) rfl w_79 (by decide +kernel)) <|
  mj_c1 (k_iconst (by decide +kernel)) <|
  mj_c1 (k_iadd (by decide +kernel)) <|
  mj_c1 (k_istoren (k := 2) (by decide +kernel) rfl (by decide)) <|
  mj_c1 (k_iloadn (k := 2) (by decide +kernel) rfl) <|
  mj_c1 (k_aloadn (k := 1) (by decide +kernel) rfl) <|
  mj_c1 (k_gI (idx := 70) h_N (by decide) rfl w_79 (by decide +kernel)) <|
  mj_c1 (k_aloadn (k := 1) (by decide +kernel) rfl) <|
  mj_c1 (k_gI (idx := 96) h_N (by decide) rfl w_85 (by decide +kernel)) <|
  mj_c1 (k_iadd (by decide +kernel)) <|
  mj_c1 (k_icgt (off := 45) (by decide +kernel) (by decide)) <|
  mj_c1 (k_aloadn (k := 0) (by decide +kernel) rfl) <|
  mj_c1 (k_gR (idx := 19) h_W (by decide) rfl w_273 (by decide +kernel)) <|
  mj_c1 (k_iloadn (k := 2) (by decide +kernel) rfl) <|
  mj_c1 (k_zal (by decide +kernel)) <|
  mj_c1 (k_ifeq (off := 30) (by decide +kernel) (by decide)) <|
  mj_c1 (k_aloadn (k := 0) (by decide +kernel) rfl) <|
  mj_c1 (k_dup (by decide +kernel)) <|
  mj_c1 (k_gI (idx := 67) h_W (by decide) rfl w_278 (by decide +kernel)) <|
  mj_c1 (k_iconst (by decide +kernel)) <|
  mj_c1 (k_iadd (by decide +kernel)) <|
  mj_c1 (k_pI (idx := 67) h_W (by decide) rfl rfl w_278 rfl (by decide +kernel)) <|
  mj_c1 (k_aloadn (k := 0) (by decide +kernel) rfl) <|
  mj_c1 (k_gR (idx := 29) h_W (by decide) rfl w_276 (by decide +kernel)) <|
  mj_c1 (k_aloadn (k := 0) (by decide +kernel) rfl) <|
  mj_c1 (k_gR (idx := 15) h_W (by decide) rfl w_272 (by decide +kernel)) <|
  mj_c1 (k_iloadn (k := 2) (by decide +kernel) rfl) <|
  mj_c1 (k_ial (by decide +kernel)) <|
  mj_c1 (k_iconst (by decide +kernel)) <|
  mj_c1 (k_iadd (by decide +kernel)) <|
  mj_c1 (k_dup2 (by decide +kernel)) <|
  mj_c1 (k_ial (by decide +kernel)) <|
  mj_c1 (k_iconst (by decide +kernel)) <|
  mj_c1 (k_iadd (by decide +kernel)) <|
  mj_c1 (k_ias (by decide +kernel)) <|
  mj_c1 (k_iinc (by decide +kernel) (by decide)) <|
  mj_c1 (k_goto (off := -52) (by decide +kernel) (by decide)) <|
  mj_c1 (k_iconst (by decide +kernel)) <|
  mj_c1 (k_istoren (k := 2) (by decide +kernel) rfl (by decide)) <|
  mj_c1 (k_iloadn (k := 2) (by decide +kernel) rfl) <|
  mj_c1 (k_sipush (by decide +kernel) (by decide)) <|
  mj_c1 (k_icgt (off := 26) (by decide +kernel) (by decide)) <|
  mj_c1 (k_aloadn (k := 0) (by decide +kernel) rfl) <|
  mj_c1 (k_gR (idx := 29) h_W (by decide) rfl w_276 (by decide +kernel)) <|
  mj_c1 (k_iloadn (k := 2) (by decide +kernel) rfl) <|
  mj_c1 (k_dup2 (by decide +kernel)) <|
  mj_c1 (k_ial (by decide +kernel)) <|
  mj_c1 (k_aloadn (k := 0) (by decide +kernel) rfl) <|
  mj_c1 (k_gR (idx := 29) h_W (by decide) rfl w_276 (by decide +kernel)) <|
  mj_c1 (k_iloadn (k := 2) (by decide +kernel) rfl) <|
  mj_c1 (k_iconst (by decide +kernel)) <|
  mj_c1 (k_isub (by decide +kernel)) <|
  mj_c1 (k_ial (by decide +kernel)) <|
  mj_c1 (k_iadd (by decide +kernel)) <|
  mj_c1 (k_ias (by decide +kernel)) <|
  mj_c1 (k_iinc (by decide +kernel) (by decide)) <|
  mj_c1 (k_goto (off := -27) (by decide +kernel) (by decide)) <|
  mj_c1 (k_retv (by decide +kernel) rfl) mj_c0
def q_W_putFirstLine : List (Nat × mj_Sem) := [(0, o_al 0 1), (1, o_ic 97 3), (3, o_call m_W_putByte 2 0 0 6 (mj_rv 5)), (6, o_al 0 7), (7, o_il 2 8), (8, o_ifeq 16 11), (11, o_ic 105 13), (13, o_goto 18), (16, o_ic 97 18), (18, o_call m_W_putByte 2 0 0 21 (mj_rv 5)), (21, o_al 0 22), (22, o_ic 103 24), (24, o_call m_W_putByte 2 0 0 27 (mj_rv 5)), (27, o_al 0 28), (28, o_ic 32 30), (30, o_call m_W_putByte 2 0 0 33 (mj_rv 5)), (33, o_al 0 34), (34, o_al 1 35), (35, o_gI 3 10 38), (38, o_al 0 39), (39, o_gI 5 8 42), (42, o_iadd 43), (43, o_ic 32 45), (45, o_call m_W_putNumber 3 0 0 48 (mj_rv 5)), (48, o_al 0 49), (49, o_al 1 50), (50, o_gI 3 10 53), (53, o_ic 32 55), (55, o_call m_W_putNumber 3 0 0 58 (mj_rv 5)), (58, o_al 0 59), (59, o_ic 0 60), (60, o_ic 32 62), (62, o_call m_W_putNumber 3 0 0 65 (mj_rv 5)), (65, o_al 0 66), (66, o_al 1 67), (67, o_gI 3 12 70), (70, o_ic 32 72), (72, o_call m_W_putNumber 3 0 0 75 (mj_rv 5)), (75, o_al 0 76), (76, o_al 0 77), (77, o_gI 5 8 80), (80, o_ic 10 82), (82, o_call m_W_putNumber 3 0 0 85 (mj_rv 5)), (85, o_retv 0 0)]
set_option maxRecDepth 100000 in
theorem z_W_putFirstLine : mj_Code (m_W_putFirstLine) (q_W_putFirstLine) :=
  mj_c1 (k_aloadn (k := 0) (by decide +kernel) rfl) <|
  mj_c1 (k_bipush (by decide +kernel) (by decide)) <|
  mj_c1 (k_callV (idx := 134) (by decide +kernel) (fit_m_W_putFirstLine_m_W_putByte) rfl rfl w_785 w_787 v_42 (by decide) (by decide +kernel)) <|
  mj_c1 (k_aloadn (k := 0) (by decide +kernel) rfl) <|
  mj_c1 (k_iloadn (k := 2) (by decide +kernel) rfl) <|
  mj_c1 (k_ifeq (off := 8) (by decide +kernel) (by decide)) <|
  mj_c1 (k_bipush (by decide +kernel) (by decide)) <|
  mj_c1 (k_goto (off := 5) (by decide +kernel) (by decide)) <|
  mj_c1 (k_bipush (by decide +kernel) (by decide)) <|
  mj_c1 (k_callV (idx := 134) (by decide +kernel) (fit_m_W_putFirstLine_m_W_putByte) rfl rfl w_785 w_787 v_42 (by decide) (by decide +kernel)) <|
  mj_c1 (k_aloadn (k := 0) (by decide +kernel) rfl) <|
  mj_c1 (k_bipush (by decide +kernel) (by decide)) <|
  mj_c1 (k_callV (idx := 134) (by decide +kernel) (fit_m_W_putFirstLine_m_W_putByte) rfl rfl w_785 w_787 v_42 (by decide) (by decide +kernel)) <|
  mj_c1 (k_aloadn (k := 0) (by decide +kernel) rfl) <|
  mj_c1 (k_bipush (by decide +kernel) (by decide)) <|
  mj_c1 (k_callV (idx := 134) (by decide +kernel) (fit_m_W_putFirstLine_m_W_putByte) rfl rfl w_785 w_787 v_42 (by decide) (by decide +kernel)) <|
  mj_c1 (k_aloadn (k := 0) (by decide +kernel) rfl) <|
  mj_c1 (k_aloadn (k := 1) (by decide +kernel) rfl) <|
  mj_c1 (k_gI (idx := 70) h_N (by decide) rfl w_79 (by decide +kernel)) <|
  mj_c1 (k_aloadn (k := 0) (by decide +kernel) rfl) <|
  mj_c1 (k_gI (idx := 67) h_W (by decide) rfl w_278 (by decide +kernel)) <|
  mj_c1 (k_iadd (by decide +kernel)) <|
  mj_c1 (k_bipush (by decide +kernel) (by decide)) <|
  mj_c1 (k_callV (idx := 138) (by decide +kernel) (fit_m_W_putFirstLine_m_W_putNumber) rfl rfl w_789 w_791 v_43 (by decide) (by decide +kernel)) <|
  mj_c1 (k_aloadn (k := 0) (by decide +kernel) rfl) <|
  mj_c1 (k_aloadn (k := 1) (by decide +kernel) rfl) <|
  mj_c1 (k_gI (idx := 70) h_N (by decide) rfl w_79 (by decide +kernel)) <|
  mj_c1 (k_bipush (by decide +kernel) (by decide)) <|
  mj_c1 (k_callV (idx := 138) (by decide +kernel) (fit_m_W_putFirstLine_m_W_putNumber) rfl rfl w_789 w_791 v_43 (by decide) (by decide +kernel)) <|
  mj_c1 (k_aloadn (k := 0) (by decide +kernel) rfl) <|
  mj_c1 (k_iconst (by decide +kernel)) <|
  mj_c1 (k_bipush (by decide +kernel) (by decide)) <|
  mj_c1 (k_callV (idx := 138) (by decide +kernel) (fit_m_W_putFirstLine_m_W_putNumber) rfl rfl w_789 w_791 v_43 (by decide) (by decide +kernel)) <|
  mj_c1 (k_aloadn (k := 0) (by decide +kernel) rfl) <|
  mj_c1 (k_aloadn (k := 1) (by decide +kernel) rfl) <|
  mj_c1 (k_gI (idx := 115) h_N (by decide) rfl w_89 (by decide +kernel)) <|
  mj_c1 (k_bipush (by decide +kernel) (by decide)) <|
  mj_c1 (k_callV (idx := 138) (by decide +kernel) (fit_m_W_putFirstLine_m_W_putNumber) rfl rfl w_789 w_791 v_43 (by decide) (by decide +kernel)) <|
  mj_c1 (k_aloadn (k := 0) (by decide +kernel) rfl) <|
  mj_c1 (k_aloadn (k := 0) (by decide +kernel) rfl) <|
  mj_c1 (k_gI (idx := 67) h_W (by decide) rfl w_278 (by decide +kernel)) <|
  mj_c1 (k_bipush (by decide +kernel) (by decide)) <|
  mj_c1 (k_callV (idx := 138) (by decide +kernel) (fit_m_W_putFirstLine_m_W_putNumber) rfl rfl w_789 w_791 v_43 (by decide) (by decide +kernel)) <|
  mj_c1 (k_retv (by decide +kernel) rfl) mj_c0
def q_W_putByte : List (Nat × mj_Sem) := [(0, o_al 0 1), (1, o_gI 5 0 4), (4, o_ic 4096 7), (7, o_icge 31 10), (10, o_al 0 11), (11, o_gR 5 1 14), (14, o_al 0 15), (15, o_gI 5 0 18), (18, o_il 1 19), (19, o_i2b 20), (20, o_bas 21), (21, o_al 0 22), (22, o_dup 23), (23, o_gI 5 0 26), (26, o_ic 1 27), (27, o_iadd 28), (28, o_pI 5 0 31), (31, o_retv 0 0)]
set_option maxRecDepth 100000 in
theorem z_W_putByte : mj_Code (m_W_putByte) (q_W_putByte) :=
  mj_c1 (k_aloadn (k := 0) (by decide +kernel) rfl) <|
  mj_c1 (k_gI (idx := 32) h_W (by decide) rfl w_269 (by decide +kernel)) <|
  mj_c1 (k_sipush (by decide +kernel) (by decide)) <|
  mj_c1 (k_icge (off := 24) (by decide +kernel) (by decide)) <|
  mj_c1 (k_aloadn (k := 0) (by decide +kernel) rfl) <|
  mj_c1 (k_gR (idx := 11) h_W (by decide) rfl w_271 (by decide +kernel)) <|
  mj_c1 (k_aloadn (k := 0) (by decide +kernel) rfl) <|
  mj_c1 (k_gI (idx := 32) h_W (by decide) rfl w_269 (by decide +kernel)) <|
  mj_c1 (k_iloadn (k := 1) (by decide +kernel) rfl) <|
  mj_c1 (k_i2b (by decide +kernel)) <|
  mj_c1 (k_bas (by decide +kernel)) <|
  mj_c1 (k_aloadn (k := 0) (by decide +kernel) rfl) <|
  mj_c1 (k_dup (by decide +kernel)) <|
  mj_c1 (k_gI (idx := 32) h_W (by decide) rfl w_269 (by decide +kernel)) <|
  mj_c1 (k_iconst (by decide +kernel)) <|
  mj_c1 (k_iadd (by decide +kernel)) <|
  mj_c1 (k_pI (idx := 32) h_W (by decide) rfl rfl w_269 rfl (by decide +kernel)) <|
  mj_c1 (k_retv (by decide +kernel) rfl) mj_c0
def q_W_putNumber : List (Nat × mj_Sem) := [(0, o_il 1 1), (1, o_ic 100 3), (3, o_iclt 17 6), (6, o_al 0 7), (7, o_ic 48 9), (9, o_il 1 10), (10, o_ic 100 12), (12, o_idiv 13), (13, o_iadd 14), (14, o_call m_W_putByte 2 0 0 17 (mj_rv 5)), (17, o_il 1 18), (18, o_ic 10 20), (20, o_iclt 37 23), (23, o_al 0 24), (24, o_ic 48 26), (26, o_il 1 27), (27, o_ic 10 29), (29, o_idiv 30), (30, o_ic 10 32), (32, o_irem 33), (33, o_iadd 34), (34, o_call m_W_putByte 2 0 0 37 (mj_rv 5)), (37, o_al 0 38), (38, o_ic 48 40), (40, o_il 1 41), (41, o_ic 10 43), (43, o_irem 44), (44, o_iadd 45), (45, o_call m_W_putByte 2 0 0 48 (mj_rv 5)), (48, o_al 0 49), (49, o_il 2 50), (50, o_call m_W_putByte 2 0 0 53 (mj_rv 5)), (53, o_retv 0 0)]
set_option maxRecDepth 100000 in
theorem z_W_putNumber : mj_Code (m_W_putNumber) (q_W_putNumber) :=
  mj_c1 (k_iloadn (k := 1) (by decide +kernel) rfl) <|
  mj_c1 (k_bipush (by decide +kernel) (by decide)) <|
  mj_c1 (k_iclt (off := 14) (by decide +kernel) (by decide)) <|
  mj_c1 (k_aloadn (k := 0) (by decide +kernel) rfl) <|
  mj_c1 (k_bipush (by decide +kernel) (by decide)) <|
  mj_c1 (k_iloadn (k := 1) (by decide +kernel) rfl) <|
  mj_c1 (k_bipush (by decide +kernel) (by decide)) <|
  mj_c1 (k_idiv (by decide +kernel)) <|
  mj_c1 (k_iadd (by decide +kernel)) <|
  mj_c1 (k_callV (idx := 134) (by decide +kernel) (fit_m_W_putNumber_m_W_putByte) rfl rfl w_785 w_787 v_42 (by decide) (by decide +kernel)) <|
  mj_c1 (k_iloadn (k := 1) (by decide +kernel) rfl) <|
  mj_c1 (k_bipush (by decide +kernel) (by decide)) <|
  mj_c1 (k_iclt (off := 17) (by decide +kernel) (by decide)) <|
  mj_c1 (k_aloadn (k := 0) (by decide +kernel) rfl) <|
  mj_c1 (k_bipush (by decide +kernel) (by decide)) <|
  mj_c1 (k_iloadn (k := 1) (by decide +kernel) rfl) <|
  mj_c1 (k_bipush (by decide +kernel) (by decide)) <|
  mj_c1 (k_idiv (by decide +kernel)) <|
  mj_c1 (k_bipush (by decide +kernel) (by decide)) <|
  mj_c1 (k_irem (by decide +kernel)) <|
  mj_c1 (k_iadd (by decide +kernel)) <|
  mj_c1 (k_callV (idx := 134) (by decide +kernel) (fit_m_W_putNumber_m_W_putByte) rfl rfl w_785 w_787 v_42 (by decide) (by decide +kernel)) <|
  mj_c1 (k_aloadn (k := 0) (by decide +kernel) rfl) <|
  mj_c1 (k_bipush (by decide +kernel) (by decide)) <|
  mj_c1 (k_iloadn (k := 1) (by decide +kernel) rfl) <|
  mj_c1 (k_bipush (by decide +kernel) (by decide)) <|
  mj_c1 (k_irem (by decide +kernel)) <|
  mj_c1 (k_iadd (by decide +kernel)) <|
  mj_c1 (k_callV (idx := 134) (by decide +kernel) (fit_m_W_putNumber_m_W_putByte) rfl rfl w_785 w_787 v_42 (by decide) (by decide +kernel)) <|
  mj_c1 (k_aloadn (k := 0) (by decide +kernel) rfl) <|
  mj_c1 (k_iloadn (k := 2) (by decide +kernel) rfl) <|
  mj_c1 (k_callV (idx := 134) (by decide +kernel) (fit_m_W_putNumber_m_W_putByte) rfl rfl w_785 w_787 v_42 (by decide) (by decide +kernel)) <|
  mj_c1 (k_retv (by decide +kernel) rfl) mj_c0
def q_W_putInputs : List (Nat × mj_Sem) := [(0, o_ic 1 1), (1, o_is 2 2), (2, o_il 2 3), (3, o_al 1 4), (4, o_gI 3 10 7), (7, o_icgt 25 10), (10, o_al 0 11), (11, o_ic 2 12), (12, o_il 2 13), (13, o_imul 14), (14, o_ic 10 16), (16, o_call m_W_putNumber 3 0 0 19 (mj_rv 5)), (19, o_inc 2 1 22), (22, o_goto 2), (25, o_retv 0 0)]
set_option maxRecDepth 100000 in
theorem z_W_putInputs : mj_Code (m_W_putInputs) (q_W_putInputs) :=
  mj_c1 (k_iconst (by decide +kernel)) <|
  mj_c1 (k_istoren (k := 2) (by decide +kernel) rfl (by decide)) <|
  mj_c1 (k_iloadn (k := 2) (by decide +kernel) rfl) <|
  mj_c1 (k_aloadn (k := 1) (by decide +kernel) rfl) <|
  mj_c1 (k_gI (idx := 70) h_N (by decide) rfl w_79 (by decide +kernel)) <|
  mj_c1 (k_icgt (off := 18) (by decide +kernel) (by decide)) <|
  mj_c1 (k_aloadn (k := 0) (by decide +kernel) rfl) <|
  mj_c1 (k_iconst (by decide +kernel)) <|
  mj_c1 (k_iloadn (k := 2) (by decide +kernel) rfl) <|
  mj_c1 (k_imul (by decide +kernel)) <|
  mj_c1 (k_bipush (by decide +kernel) (by decide)) <|
  mj_c1 (k_callV (idx := 138) (by decide +kernel) (fit_m_W_putInputs_m_W_putNumber) rfl rfl w_789 w_791 v_43 (by decide) (by decide +kernel)) <|
  mj_c1 (k_iinc (by decide +kernel) (by decide)) <|
  mj_c1 (k_goto (off := -20) (by decide +kernel) (by decide)) <|
  mj_c1 (k_retv (by decide +kernel) rfl) mj_c0
def q_W_putOutputs : List (Nat × mj_Sem) := [(0, o_ic 0 1), (1, o_is 2 2), (2, o_il 2 3), (3, o_al 1 4), (4, o_gR 1 0 7), (7, o_gI 3 12 10), (10, o_icge 39 13), (13, o_al 0 14), (14, o_al 0 15), (15, o_al 1 16), (16, o_al 1 17), (17, o_gR 1 0 20), (20, o_gR 3 4 23), (23, o_il 2 24), (24, o_ial 25), (25, o_call m_W_newLiteral 3 0 0 28 (mj_rv 5)), (28, o_ic 10 30), (30, o_call m_W_putNumber 3 0 0 33 (mj_rv 5)), (33, o_inc 2 1 36), (36, o_goto 2), (39, o_retv 0 0)]
set_option maxRecDepth 100000 in
theorem z_W_putOutputs : mj_Code (m_W_putOutputs) (q_W_putOutputs) :=
  mj_c1 (k_iconst (by decide +kernel)) <|
  mj_c1 (k_istoren (k := 2) (by decide +kernel) rfl (by decide)) <|
  mj_c1 (k_iloadn (k := 2) (by decide +kernel) rfl) <|
  mj_c1 (k_aloadn (k := 1) (by decide +kernel) rfl) <|
  mj_c1 (k_gR (idx := 47) h_C (by decide) rfl w_121 (by decide +kernel)) <|
  mj_c1 (k_gI (idx := 115) h_N (by decide) rfl w_89 (by decide +kernel)) <|
  mj_c1 (k_icge (off := 29) (by decide +kernel) (by decide)) <|
  mj_c1 (k_aloadn (k := 0) (by decide +kernel) rfl) <|
  mj_c1 (k_aloadn (k := 0) (by decide +kernel) rfl) <|
  mj_c1 (k_aloadn (k := 1) (by decide +kernel) rfl) <|
  mj_c1 (k_aloadn (k := 1) (by decide +kernel) rfl) <|
  mj_c1 (k_gR (idx := 47) h_C (by decide) rfl w_121 (by decide +kernel)) <|
  mj_c1 (k_gR (idx := 118) h_N (by decide) rfl w_63 (by decide +kernel)) <|
  mj_c1 (k_iloadn (k := 2) (by decide +kernel) rfl) <|
  mj_c1 (k_ial (by decide +kernel)) <|
  mj_c1 (k_callV (idx := 142) (by decide +kernel) (fit_m_W_putOutputs_m_W_newLiteral) rfl rfl w_801 w_803 v_46 (by decide) (by decide +kernel)) <|
  mj_c1 (k_bipush (by decide +kernel) (by decide)) <|
  mj_c1 (k_callV (idx := 138) (by decide +kernel) (fit_m_W_putOutputs_m_W_putNumber) rfl rfl w_789 w_791 v_43 (by decide) (by decide +kernel)) <|
  mj_c1 (k_iinc (by decide +kernel) (by decide)) <|
  mj_c1 (k_goto (off := -34) (by decide +kernel) (by decide)) <|
  mj_c1 (k_retv (by decide +kernel) rfl) mj_c0
def q_W_newLiteral : List (Nat × mj_Sem) := [(0, o_al 0 1), (1, o_al 1 2), (2, o_il 2 3), (3, o_call m_W_finalLiteral 3 0 0 6 (mj_rv 5)), (6, o_is 3 7), (7, o_ic 2 8), (8, o_al 0 9), (9, o_gR 5 4 12), (12, o_al 1 13), (13, o_gR 1 0 16), (16, o_il 3 17), (17, o_call m_N_slotFor 2 0 0 20 (mj_rv 3)), (20, o_ial 21), (21, o_imul 22), (22, o_il 3 23), (23, o_ic 1 24), (24, o_iand 25), (25, o_iadd 26), (26, o_iret 0 0)]
set_option maxRecDepth 100000 in
theorem z_W_newLiteral : mj_Code (m_W_newLiteral) (q_W_newLiteral) :=
  mj_c1 (k_aloadn (k := 0) (by decide +kernel) rfl) <|
  mj_c1 (k_aloadn (k := 1) (by decide +kernel) rfl) <|
  mj_c1 (k_iloadn (k := 2) (by decide +kernel) rfl) <|
  mj_c1 (k_callV (idx := 83) (by decide +kernel) (fit_m_W_newLiteral_m_W_finalLiteral) rfl rfl w_759 w_761 v_37 (by decide) (by decide +kernel)) <|
  mj_c1 (k_istoren (k := 3) (by decide +kernel) rfl (by decide)) <|
  mj_c1 (k_iconst (by decide +kernel)) <|
  mj_c1 (k_aloadn (k := 0) (by decide +kernel) rfl) <|
  mj_c1 (k_gR (idx := 23) h_W (by decide) rfl w_274 (by decide +kernel)) <|
  mj_c1 (k_aloadn (k := 1) (by decide +kernel) rfl) <|
  mj_c1 (k_gR (idx := 47) h_C (by decide) rfl w_121 (by decide +kernel)) <|
  mj_c1 (k_iloadn (k := 3) (by decide +kernel) rfl) <|
  mj_c1 (k_callV (idx := 87) (by decide +kernel) (fit_m_W_newLiteral_m_N_slotFor) rfl rfl w_764 w_197 w_198 (by decide) (by decide +kernel)) <|
  mj_c1 (k_ial (by decide +kernel)) <|
  mj_c1 (k_imul (by decide +kernel)) <|
  mj_c1 (k_iloadn (k := 3) (by decide +kernel) rfl) <|
  mj_c1 (k_iconst (by decide +kernel)) <|
  mj_c1 (k_iand (by decide +kernel)) <|
  mj_c1 (k_iadd (by decide +kernel)) <|
  mj_c1 (k_iret (by decide +kernel) rfl) mj_c0
def q_W_putGate : List (Nat × mj_Sem) := [(0, o_al 0 1), (1, o_gR 5 5 4), (4, o_il 2 5), (5, o_ial 6), (6, o_is 4 8), (8, o_al 0 9), (9, o_al 1 10), (10, o_al 1 11), (11, o_gR 1 0 14), (14, o_gR 3 2 17), (17, o_il 4 19), (19, o_ial 20), (20, o_call m_W_newLiteral 3 0 0 23 (mj_rv 5)), (23, o_is 5 25), (25, o_al 0 26), (26, o_al 1 27), (27, o_al 1 28), (28, o_gR 1 0 31), (31, o_gR 3 3 34), (34, o_il 4 36), (36, o_ial 37), (37, o_call m_W_newLiteral 3 0 0 40 (mj_rv 5)), (40, o_is 6 42), (42, o_il 5 44), (44, o_il 6 46), (46, o_call m_H_max 2 0 0 49 mj_rs), (49, o_is 7 51), (51, o_il 5 53), (53, o_il 6 55), (55, o_call m_H_min 2 0 0 58 mj_rs), (58, o_is 8 60), (60, o_il 3 61), (61, o_ifeq 86 64), (64, o_al 0 65), (65, o_ic 2 66), (66, o_il 2 67), (67, o_imul 68), (68, o_il 7 70), (70, o_isub 71), (71, o_call m_W_putStep 2 0 0 74 (mj_rv 5)), (74, o_al 0 75), (75, o_il 7 77), (77, o_il 8 79), (79, o_isub 80), (80, o_call m_W_putStep 2 0 0 83 (mj_rv 5)), (83, o_goto 111), (86, o_al 0 87), (87, o_ic 2 88), (88, o_il 2 89), (89, o_imul 90), (90, o_ic 32 92), (92, o_call m_W_putNumber 3 0 0 95 (mj_rv 5)), (95, o_al 0 96), (96, o_il 7 98), (98, o_ic 32 100), (100, o_call m_W_putNumber 3 0 0 103 (mj_rv 5)), (103, o_al 0 104), (104, o_il 8 106), (106, o_ic 10 108), (108, o_call m_W_putNumber 3 0 0 111 (mj_rv 5)), (111, o_retv 0 0)]
set_option maxRecDepth 100000 in
theorem z_W_putGate : mj_Code (m_W_putGate) (q_W_putGate) :=
  mj_c1 (k_aloadn (k := 0) (by decide +kernel) rfl) <|
  mj_c1 (k_gR (idx := 26) h_W (by decide) rfl w_275 (by decide +kernel)) <|
  mj_c1 (k_iloadn (k := 2) (by decide +kernel) rfl) <|
  mj_c1 (k_ial (by decide +kernel)) <|
  mj_c1 (k_istore (by decide +kernel) (by decide)) <|
  mj_c1 (k_aloadn (k := 0) (by decide +kernel) rfl) <|
  mj_c1 (k_aloadn (k := 1) (by decide +kernel) rfl) <|
  mj_c1 (k_aloadn (k := 1) (by decide +kernel) rfl) <|
  mj_c1 (k_gR (idx := 47) h_C (by decide) rfl w_121 (by decide +kernel)) <|
  mj_c1 (k_gR (idx := 100) h_N (by decide) rfl w_54 (by decide +kernel)) <|
  mj_c1 (k_iload (by decide +kernel)) <|
  mj_c1 (k_ial (by decide +kernel)) <|
  mj_c1 (k_callV (idx := 142) (by decide +kernel) (fit_m_W_putGate_m_W_newLiteral) rfl rfl w_801 w_803 v_46 (by decide) (by decide +kernel)) <|
  mj_c1 (k_istore (by decide +kernel) (by decide)) <|
  mj_c1 (k_aloadn (k := 0) (by decide +kernel) rfl) <|
  mj_c1 (k_aloadn (k := 1) (by decide +kernel) rfl) <|
  mj_c1 (k_aloadn (k := 1) (by decide +kernel) rfl) <|
  mj_c1 (k_gR (idx := 47) h_C (by decide) rfl w_121 (by decide +kernel)) <|
  mj_c1 (k_gR (idx := 106) h_N (by decide) rfl w_59 (by decide +kernel)) <|
  mj_c1 (k_iload (by decide +kernel)) <|
  mj_c1 (k_ial (by decide +kernel)) <|
  mj_c1 (k_callV (idx := 142) (by decide +kernel) (fit_m_W_putGate_m_W_newLiteral) rfl rfl w_801 w_803 v_46 (by decide) (by decide +kernel)) <|
  mj_c1 (k_istore (by decide +kernel) (by decide)) <|
  mj_c1 (k_iload (by decide +kernel)) <|
  mj_c1 (k_iload (by decide +kernel)) <|
  mj_c1 (k_callS (idx := 109) (by decide +kernel) (fit_m_W_putGate_m_H_max) rfl w_765 w_766 (by decide) (by decide +kernel)) <|
  mj_c1 (k_istore (by decide +kernel) (by decide)) <|
  mj_c1 (k_iload (by decide +kernel)) <|
  mj_c1 (k_iload (by decide +kernel)) <|
  mj_c1 (k_callS (idx := 145) (by decide +kernel) (fit_m_W_putGate_m_H_min) rfl w_809 w_512 (by decide) (by decide +kernel)) <|
  mj_c1 (k_istore (by decide +kernel) (by decide)) <|
  mj_c1 (k_iloadn (k := 3) (by decide +kernel) rfl) <|
  mj_c1 (k_ifeq (off := 25) (by decide +kernel) (by decide)) <|
  mj_c1 (k_aloadn (k := 0) (by decide +kernel) rfl) <|
  mj_c1 (k_iconst (by decide +kernel)) <|
  mj_c1 (k_iloadn (k := 2) (by decide +kernel) rfl) <|
  mj_c1 (k_imul (by decide +kernel)) <|
  mj_c1 (k_iload (by decide +kernel)) <|
  mj_c1 (k_isub (by decide +kernel)) <|
  mj_c1 (k_callV (idx := 148) (by decide +kernel) (fit_m_W_putGate_m_W_putStep) rfl rfl w_810 w_812 v_48 (by decide) (by decide +kernel)) <|
  mj_c1 (k_aloadn (k := 0) (by decide +kernel) rfl) <|
  mj_c1 (k_iload (by decide +kernel)) <|
  mj_c1 (k_iload (by decide +kernel)) <|
  mj_c1 (k_isub (by decide +kernel)) <|
  mj_c1 (k_callV (idx := 148) (by decide +kernel) (fit_m_W_putGate_m_W_putStep) rfl rfl w_810 w_812 v_48 (by decide) (by decide +kernel)) <|
  mj_c1 (k_goto (off := 28) (by decide +kernel) (by decide)) <|
  mj_c1 (k_aloadn (k := 0) (by decide +kernel) rfl) <|
  mj_c1 (k_iconst (by decide +kernel)) <|
  mj_c1 (k_iloadn (k := 2) (by decide +kernel) rfl) <|
  mj_c1 (k_imul (by decide +kernel)) <|
  mj_c1 (k_bipush (by decide +kernel) (by decide)) <|
  mj_c1 (k_callV (idx := 138) (by decide +kernel) (fit_m_W_putGate_m_W_putNumber) rfl rfl w_789 w_791 v_43 (by decide) (by decide +kernel)) <|
  mj_c1 (k_aloadn (k := 0) (by decide +kernel) rfl) <|
  mj_c1 (k_iload (by decide +kernel)) <|
  mj_c1 (k_bipush (by decide +kernel) (by decide)) <|
  mj_c1 (k_callV (idx := 138) (by decide +kernel) (fit_m_W_putGate_m_W_putNumber) rfl rfl w_789 w_791 v_43 (by decide) (by decide +kernel)) <|
  mj_c1 (k_aloadn (k := 0) (by decide +kernel) rfl) <|
  mj_c1 (k_iload (by decide +kernel)) <|
  mj_c1 (k_bipush (by decide +kernel) (by decide)) <|
  mj_c1 (k_callV (idx := 138) (by decide +kernel) (fit_m_W_putGate_m_W_putNumber) rfl rfl w_789 w_791 v_43 (by decide) (by decide +kernel)) <|
  mj_c1 (k_retv (by decide +kernel) rfl) mj_c0
def q_W_putStep : List (Nat × mj_Sem) := [(0, o_il 1 1), (1, o_ic 128 4), (4, o_icge 15 7), (7, o_al 0 8), (8, o_il 1 9), (9, o_call m_W_putByte 2 0 0 12 (mj_rv 5)), (12, o_goto 37), (15, o_al 0 16), (16, o_il 1 17), (17, o_ic 128 20), (20, o_irem 21), (21, o_ic 128 24), (24, o_iadd 25), (25, o_call m_W_putByte 2 0 0 28 (mj_rv 5)), (28, o_al 0 29), (29, o_il 1 30), (30, o_ic 128 33), (33, o_idiv 34), (34, o_call m_W_putByte 2 0 0 37 (mj_rv 5)), (37, o_retv 0 0)]
set_option maxRecDepth 100000 in
theorem z_W_putStep : mj_Code (m_W_putStep) (q_W_putStep) :=
  mj_c1 (k_iloadn (k := 1) (by decide +kernel) rfl) <|
  mj_c1 (k_sipush (by decide +kernel) (by decide)) <|
  mj_c1 (k_icge (off := 11) (by decide +kernel) (by decide)) <|
  mj_c1 (k_aloadn (k := 0) (by decide +kernel) rfl) <|
  mj_c1 (k_iloadn (k := 1) (by decide +kernel) rfl) <|
  mj_c1 (k_callV (idx := 134) (by decide +kernel) (fit_m_W_putStep_m_W_putByte) rfl rfl w_785 w_787 v_42 (by decide) (by decide +kernel)) <|
  mj_c1 (k_goto (off := 25) (by decide +kernel) (by decide)) <|
  mj_c1 (k_aloadn (k := 0) (by decide +kernel) rfl) <|
  mj_c1 (k_iloadn (k := 1) (by decide +kernel) rfl) <|
  mj_c1 (k_sipush (by decide +kernel) (by decide)) <|
  mj_c1 (k_irem (by decide +kernel)) <|
  mj_c1 (k_sipush (by decide +kernel) (by decide)) <|
  mj_c1 (k_iadd (by decide +kernel)) <|
  mj_c1 (k_callV (idx := 134) (by decide +kernel) (fit_m_W_putStep_m_W_putByte) rfl rfl w_785 w_787 v_42 (by decide) (by decide +kernel)) <|
  mj_c1 (k_aloadn (k := 0) (by decide +kernel) rfl) <|
  mj_c1 (k_iloadn (k := 1) (by decide +kernel) rfl) <|
  mj_c1 (k_sipush (by decide +kernel) (by decide)) <|
  mj_c1 (k_idiv (by decide +kernel)) <|
  mj_c1 (k_callV (idx := 134) (by decide +kernel) (fit_m_W_putStep_m_W_putByte) rfl rfl w_785 w_787 v_42 (by decide) (by decide +kernel)) <|
  mj_c1 (k_retv (by decide +kernel) rfl) mj_c0
def q_W_byteAt : List (Nat × mj_Sem) := [(0, o_il 1 1), (1, o_iflt 25 4), (4, o_il 1 5), (5, o_al 0 6), (6, o_gI 5 0 9), (9, o_icge 25 12), (12, o_al 0 13), (13, o_gR 5 1 16), (16, o_il 1 17), (17, o_bal 18), (18, o_ic 255 21), (21, o_iand 22), (22, o_goto 26), (25, o_ic 0 26), (26, o_iret 0 0)]
set_option maxRecDepth 100000 in
theorem z_W_byteAt : mj_Code (m_W_byteAt) (q_W_byteAt) :=
  mj_c1 (k_iloadn (k := 1) (by decide +kernel) rfl) <|
  mj_c1 (k_iflt (off := 24) (by decide +kernel) (by decide)) <|
  mj_c1 (k_iloadn (k := 1) (by decide +kernel) rfl) <|
  mj_c1 (k_aloadn (k := 0) (by decide +kernel) rfl) <|
  mj_c1 (k_gI (idx := 32) h_W (by decide) rfl w_269 (by decide +kernel)) <|
  mj_c1 (k_icge (off := 16) (by decide +kernel) (by decide)) <|
  mj_c1 (k_aloadn (k := 0) (by decide +kernel) rfl) <|
  mj_c1 (k_gR (idx := 11) h_W (by decide) rfl w_271 (by decide +kernel)) <|
  mj_c1 (k_iloadn (k := 1) (by decide +kernel) rfl) <|
  mj_c1 (k_bal (by decide +kernel)) <|
  mj_c1 (k_sipush (by decide +kernel) (by decide)) <|
  mj_c1 (k_iand (by decide +kernel)) <|
  mj_c1 (k_goto (off := 4) (by decide +kernel) (by decide)) <|
  mj_c1 (k_iconst (by decide +kernel)) <|
  mj_c1 (k_iret (by decide +kernel) rfl) mj_c0
