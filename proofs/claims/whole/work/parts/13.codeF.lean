def q_F_init : List (Nat × mj_Sem) := [(0, o_al 0 1), (1, o_oi 4), (4, o_al 0 5), (5, o_ic 300 8), (8, o_na 0 2 615 10), (10, o_pR 2 0 13), (13, o_al 0 14), (14, o_ic 315 17), (17, o_na 0 2 615 19), (19, o_pR 2 1 22), (22, o_retv 2 615)]
set_option maxRecDepth 100000 in
theorem z_F_init : mj_Code (m_F_init) (q_F_init) :=
  mj_c1 (k_aloadn (k := 0) (by decide +kernel) rfl) <|
  mj_c1 (k_oi (idx := 3) (by decide +kernel) w_215 w_24 w_25 (by decide) (by decide)) <|
  mj_c1 (k_aloadn (k := 0) (by decide +kernel) rfl) <|
  mj_c1 (k_sipush (by decide +kernel) (by decide)) <|
  mj_c1 (k_na (at0 := .int) (by decide +kernel) rfl (Or.inl ⟨rfl, rfl⟩) w_118) <|
  mj_c1 (k_pRF (idx := 9) h_F (by decide) rfl (Or.inr ⟨_, rfl⟩) w_216 rfl rfl rfl (by decide +kernel)) <|
  mj_c1 (k_aloadn (k := 0) (by decide +kernel) rfl) <|
  mj_c1 (k_sipush (by decide +kernel) (by decide)) <|
  mj_c1 (k_na (at0 := .int) (by decide +kernel) rfl (Or.inl ⟨rfl, rfl⟩) w_118) <|
  mj_c1 (k_pRF (idx := 15) h_F (by decide) rfl (Or.inr ⟨_, rfl⟩) w_217 rfl rfl rfl (by decide +kernel)) <|
  mj_c1 (k_retv (by decide +kernel) rfl) mj_c0
def q_F_leastOnLoop : List (Nat × mj_Sem) := [(0, o_al 0 1), (1, o_gR 2 1 4), (4, o_ic 0 5), (5, o_call m_A_fill 2 0 0 8 mj_rs), (8, o_ic 0 9), (9, o_is 2 10), (10, o_il 2 11), (11, o_al 1 12), (12, o_gI 3 8 15), (15, o_icge 49 18), (18, o_al 1 19), (19, o_gR 3 7 22), (22, o_il 2 23), (23, o_ial 24), (24, o_is 3 25), (25, o_al 0 26), (26, o_al 1 27), (27, o_il 3 28), (28, o_call m_F_comesBack 3 0 0 31 (mj_rv 2)), (31, o_ifeq 43 34), (34, o_al 1 35), (35, o_gR 3 1 38), (38, o_il 3 39), (39, o_ial 40), (40, o_ic 1 41), (41, o_ishr 42), (42, o_iret 0 0), (43, o_inc 2 1 46), (46, o_goto 10), (49, o_ic 0 50), (50, o_iret 0 0)]
set_option maxRecDepth 100000 in
theorem z_F_leastOnLoop : mj_Code (m_F_leastOnLoop) (q_F_leastOnLoop) :=
  mj_c1 (k_aloadn (k := 0) (by decide +kernel) rfl) <|
  mj_c1 (k_gR (idx := 15) h_F (by decide) rfl w_217 (by decide +kernel)) <|
  mj_c1 (k_iconst (by decide +kernel)) <|
  mj_c1 (k_callS (idx := 18) (by decide +kernel) (fit_m_F_leastOnLoop_m_A_fill) rfl w_531 w_43 (by decide) (by decide +kernel)) <|
  mj_c1 (k_iconst (by decide +kernel)) <|
  mj_c1 (k_istoren (k := 2) (by decide +kernel) rfl (by decide)) <|
  mj_c1 (k_iloadn (k := 2) (by decide +kernel) rfl) <|
  mj_c1 (k_aloadn (k := 1) (by decide +kernel) rfl) <|
  mj_c1 (k_gI (idx := 24) h_N (by decide) rfl w_72 (by decide +kernel)) <|
  mj_c1 (k_icge (off := 34) (by decide +kernel) (by decide)) <|
  mj_c1 (k_aloadn (k := 1) (by decide +kernel) rfl) <|
  mj_c1 (k_gR (idx := 30) h_N (by decide) rfl w_71 (by decide +kernel)) <|
  mj_c1 (k_iloadn (k := 2) (by decide +kernel) rfl) <|
  mj_c1 (k_ial (by decide +kernel)) <|
  mj_c1 (k_istoren (k := 3) (by decide +kernel) rfl (by decide)) <|
  mj_c1 (k_aloadn (k := 0) (by decide +kernel) rfl) <|
  mj_c1 (k_aloadn (k := 1) (by decide +kernel) rfl) <|
  mj_c1 (k_iloadn (k := 3) (by decide +kernel) rfl) <|
  mj_c1 (k_callV (idx := 33) (by decide +kernel) (fit_m_F_leastOnLoop_m_F_comesBack) rfl rfl w_532 w_534 v_28 (by decide) (by decide +kernel)) <|
  mj_c1 (k_ifeq (off := 12) (by decide +kernel) (by decide)) <|
  mj_c1 (k_aloadn (k := 1) (by decide +kernel) rfl) <|
  mj_c1 (k_gR (idx := 37) h_N (by decide) rfl w_48 (by decide +kernel)) <|
  mj_c1 (k_iloadn (k := 3) (by decide +kernel) rfl) <|
  mj_c1 (k_ial (by decide +kernel)) <|
  mj_c1 (k_iconst (by decide +kernel)) <|
  mj_c1 (k_ishr (by decide +kernel)) <|
  mj_c1 (k_iret (by decide +kernel) rfl) <|
  mj_c1 (k_iinc (by decide +kernel) (by decide)) <|
  mj_c1 (k_goto (off := -36) (by decide +kernel) (by decide)) <|
  mj_c1 (k_iconst (by decide +kernel)) <|
  mj_c1 (k_iret (by decide +kernel) rfl) mj_c0
def q_F_comesBack : List (Nat × mj_Sem) := [(0, o_al 0 1), (1, o_ic 0 2), (2, o_pI 2 2 5), (5, o_al 0 6), (6, o_al 1 7), (7, o_il 2 8), (8, o_il 2 9), (9, o_call m_F_reachFanins 4 0 0 12 (mj_rv 2)), (12, o_ic 0 13), (13, o_is 3 14), (14, o_il 3 15), (15, o_al 0 16), (16, o_gI 2 2 19), (19, o_icge 59 22), (22, o_il 3 23), (23, o_ic 300 26), (26, o_icge 59 29), (29, o_al 0 30), (30, o_gR 2 0 33), (33, o_il 3 34), (34, o_ial 35), (35, o_il 2 36), (36, o_icne 41 39), (39, o_ic 1 40), (40, o_zret 0 0), (41, o_al 0 42), (42, o_al 1 43), (43, o_il 2 44), (44, o_al 0 45), (45, o_gR 2 0 48), (48, o_il 3 49), (49, o_ial 50), (50, o_call m_F_reachFanins 4 0 0 53 (mj_rv 2)), (53, o_inc 3 1 56), (56, o_goto 14), (59, o_ic 0 60), (60, o_zret 0 0)]
set_option maxRecDepth 100000 in
theorem z_F_comesBack : mj_Code (m_F_comesBack) (q_F_comesBack) :=
  mj_c1 (k_aloadn (k := 0) (by decide +kernel) rfl) <|
  mj_c1 (k_iconst (by decide +kernel)) <|
  mj_c1 (k_pI (idx := 40) h_F (by decide) rfl rfl w_218 rfl (by decide +kernel)) <|
  mj_c1 (k_aloadn (k := 0) (by decide +kernel) rfl) <|
  mj_c1 (k_aloadn (k := 1) (by decide +kernel) rfl) <|
  mj_c1 (k_iloadn (k := 2) (by decide +kernel) rfl) <|
  mj_c1 (k_iloadn (k := 2) (by decide +kernel) rfl) <|
  mj_c1 (k_callV (idx := 43) (by decide +kernel) (fit_m_F_comesBack_m_F_reachFanins) rfl rfl w_536 w_538 v_29 (by decide) (by decide +kernel)) <|
  mj_c1 (k_iconst (by decide +kernel)) <|
  mj_c1 (k_istoren (k := 3) (by decide +kernel) rfl (by decide)) <|
  mj_c1 (k_iloadn (k := 3) (by decide +kernel) rfl) <|
  mj_c1 (k_aloadn (k := 0) (by decide +kernel) rfl) <|
  mj_c1 (k_gI (idx := 40) h_F (by decide) rfl w_218 (by decide +kernel)) <|
  mj_c1 (k_icge (off := 40) (by decide +kernel) (by decide)) <|
  mj_c1 (k_iloadn (k := 3) (by decide +kernel) rfl) <|
  mj_c1 (k_sipush (by decide +kernel) (by decide)) <|
  mj_c1 (k_icge (off := 33) (by decide +kernel) (by decide)) <|
  mj_c1 (k_aloadn (k := 0) (by decide +kernel) rfl) <|
  mj_c1 (k_gR (idx := 9) h_F (by decide) rfl w_216 (by decide +kernel)) <|
  mj_c1 (k_iloadn (k := 3) (by decide +kernel) rfl) <|
  mj_c1 (k_ial (by decide +kernel)) <|
  mj_c1 (k_iloadn (k := 2) (by decide +kernel) rfl) <|
  mj_c1 (k_icne (off := 5) (by decide +kernel) (by decide)) <|
  mj_c1 (k_iconst (by decide +kernel)) <|
  mj_c1 (k_zret (by decide +kernel) rfl) <|
  mj_c1 (k_aloadn (k := 0) (by decide +kernel) rfl) <|
  mj_c1 (k_aloadn (k := 1) (by decide +kernel) rfl) <|
  mj_c1 (k_iloadn (k := 2) (by decide +kernel) rfl) <|
  mj_c1 (k_aloadn (k := 0) (by decide +kernel) rfl) <|
  mj_c1 (k_gR (idx := 9) h_F (by decide) rfl w_216 (by decide +kernel)) <|
  mj_c1 (k_iloadn (k := 3) (by decide +kernel) rfl) <|
  mj_c1 (k_ial (by decide +kernel)) <|
  mj_c1 (k_callV (idx := 43) (by decide +kernel) (fit_m_F_comesBack_m_F_reachFanins) rfl rfl w_536 w_538 v_29 (by decide) (by decide +kernel)) <|
  mj_c1 (k_iinc (by decide +kernel) (by decide)) <|
  mj_c1 (k_goto (off := -42) (by decide +kernel) (by decide)) <|
  mj_c1 (k_iconst (by decide +kernel)) <|
  mj_c1 (k_zret (by decide +kernel) rfl) mj_c0
def q_F_reachFanins : List (Nat × mj_Sem) := [(0, o_al 0 1), (1, o_al 1 2), (2, o_il 2 3), (3, o_al 1 4), (4, o_al 1 5), (5, o_gR 3 2 8), (8, o_il 3 9), (9, o_ial 10), (10, o_call m_N_slotFor 2 0 0 13 (mj_rv 3)), (13, o_call m_F_reach 4 0 0 16 (mj_rv 2)), (16, o_al 0 17), (17, o_al 1 18), (18, o_il 2 19), (19, o_al 1 20), (20, o_al 1 21), (21, o_gR 3 3 24), (24, o_il 3 25), (25, o_ial 26), (26, o_call m_N_slotFor 2 0 0 29 (mj_rv 3)), (29, o_call m_F_reach 4 0 0 32 (mj_rv 2)), (32, o_retv 0 0)]
set_option maxRecDepth 100000 in
theorem z_F_reachFanins : mj_Code (m_F_reachFanins) (q_F_reachFanins) :=
  mj_c1 (k_aloadn (k := 0) (by decide +kernel) rfl) <|
  mj_c1 (k_aloadn (k := 1) (by decide +kernel) rfl) <|
  mj_c1 (k_iloadn (k := 2) (by decide +kernel) rfl) <|
  mj_c1 (k_aloadn (k := 1) (by decide +kernel) rfl) <|
  mj_c1 (k_aloadn (k := 1) (by decide +kernel) rfl) <|
  mj_c1 (k_gR (idx := 47) h_N (by decide) rfl w_52 (by decide +kernel)) <|
  mj_c1 (k_iloadn (k := 3) (by decide +kernel) rfl) <|
  mj_c1 (k_ial (by decide +kernel)) <|
  mj_c1 (k_callV (idx := 50) (by decide +kernel) (fit_m_F_reachFanins_m_N_slotFor) rfl rfl w_540 w_197 w_198 (by decide) (by decide +kernel)) <|
  mj_c1 (k_callV (idx := 54) (by decide +kernel) (fit_m_F_reachFanins_m_F_reach) rfl rfl w_541 w_543 v_30 (by decide) (by decide +kernel)) <|
  mj_c1 (k_aloadn (k := 0) (by decide +kernel) rfl) <|
  mj_c1 (k_aloadn (k := 1) (by decide +kernel) rfl) <|
  mj_c1 (k_iloadn (k := 2) (by decide +kernel) rfl) <|
  mj_c1 (k_aloadn (k := 1) (by decide +kernel) rfl) <|
  mj_c1 (k_aloadn (k := 1) (by decide +kernel) rfl) <|
  mj_c1 (k_gR (idx := 57) h_N (by decide) rfl w_57 (by decide +kernel)) <|
  mj_c1 (k_iloadn (k := 3) (by decide +kernel) rfl) <|
  mj_c1 (k_ial (by decide +kernel)) <|
  mj_c1 (k_callV (idx := 50) (by decide +kernel) (fit_m_F_reachFanins_m_N_slotFor) rfl rfl w_540 w_197 w_198 (by decide) (by decide +kernel)) <|
  mj_c1 (k_callV (idx := 54) (by decide +kernel) (fit_m_F_reachFanins_m_F_reach) rfl rfl w_541 w_543 v_30 (by decide) (by decide +kernel)) <|
  mj_c1 (k_retv (by decide +kernel) rfl) mj_c0
def q_F_reach : List (Nat × mj_Sem) := [(0, o_al 1 1), (1, o_gR 3 5 4), (4, o_il 3 5), (5, o_ial 6), (6, o_ic 1000000 8), (8, o_icne 58 11), (11, o_al 0 12), (12, o_gR 2 1 15), (15, o_il 3 16), (16, o_ial 17), (17, o_il 2 18), (18, o_iceq 58 21), (21, o_al 0 22), (22, o_gI 2 2 25), (25, o_ic 300 28), (28, o_icge 58 31), (31, o_al 0 32), (32, o_gR 2 1 35), (35, o_il 3 36), (36, o_il 2 37), (37, o_ias 38), (38, o_al 0 39), (39, o_gR 2 0 42), (42, o_al 0 43), (43, o_gI 2 2 46), (46, o_il 3 47), (47, o_ias 48), (48, o_al 0 49), (49, o_dup 50), (50, o_gI 2 2 53), (53, o_ic 1 54), (54, o_iadd 55), (55, o_pI 2 2 58), (58, o_retv 0 0)]
set_option maxRecDepth 100000 in
theorem z_F_reach : mj_Code (m_F_reach) (q_F_reach) :=
  mj_c1 (k_aloadn (k := 1) (by decide +kernel) rfl) <|
  mj_c1 (k_gR (idx := 60) h_N (by decide) rfl w_66 (by decide +kernel)) <|
  mj_c1 (k_iloadn (k := 3) (by decide +kernel) rfl) <|
  mj_c1 (k_ial (by decide +kernel)) <|
  mj_c1 (k_ldc (idx := 63) (by decide +kernel) w_545) <|
  mj_c1 (k_icne (off := 50) (by decide +kernel) (by decide)) <|
  mj_c1 (k_aloadn (k := 0) (by decide +kernel) rfl) <|
  mj_c1 (k_gR (idx := 15) h_F (by decide) rfl w_217 (by decide +kernel)) <|
  mj_c1 (k_iloadn (k := 3) (by decide +kernel) rfl) <|
  mj_c1 (k_ial (by decide +kernel)) <|
  mj_c1 (k_iloadn (k := 2) (by decide +kernel) rfl) <|
  mj_c1 (k_iceq (off := 40) (by decide +kernel) (by decide)) <|
  mj_c1 (k_aloadn (k := 0) (by decide +kernel) rfl) <|
  mj_c1 (k_gI (idx := 40) h_F (by decide) rfl w_218 (by decide +kernel)) <|
  mj_c1 (k_sipush (by decide +kernel) (by decide)) <|
  mj_c1 (k_icge (off := 30) (by decide +kernel) (by decide)) <|
  mj_c1 (k_aloadn (k := 0) (by decide +kernel) rfl) <|
  mj_c1 (k_gR (idx := 15) h_F (by decide) rfl w_217 (by decide +kernel)) <|
  mj_c1 (k_iloadn (k := 3) (by decide +kernel) rfl) <|
  mj_c1 (k_iloadn (k := 2) (by decide +kernel) rfl) <|
  mj_c1 (k_ias (by decide +kernel)) <|
  mj_c1 (k_aloadn (k := 0) (by decide +kernel) rfl) <|
  mj_c1 (k_gR (idx := 9) h_F (by decide) rfl w_216 (by decide +kernel)) <|
  mj_c1 (k_aloadn (k := 0) (by decide +kernel) rfl) <|
  mj_c1 (k_gI (idx := 40) h_F (by decide) rfl w_218 (by decide +kernel)) <|
  mj_c1 (k_iloadn (k := 3) (by decide +kernel) rfl) <|
  mj_c1 (k_ias (by decide +kernel)) <|
  mj_c1 (k_aloadn (k := 0) (by decide +kernel) rfl) <|
  mj_c1 (k_dup (by decide +kernel)) <|
  mj_c1 (k_gI (idx := 40) h_F (by decide) rfl w_218 (by decide +kernel)) <|
  mj_c1 (k_iconst (by decide +kernel)) <|
  mj_c1 (k_iadd (by decide +kernel)) <|
  mj_c1 (k_pI (idx := 40) h_F (by decide) rfl rfl w_218 rfl (by decide +kernel)) <|
  mj_c1 (k_retv (by decide +kernel) rfl) mj_c0
