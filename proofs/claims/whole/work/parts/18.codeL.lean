def q_L_feed : List (Nat × mj_Sem) := [(0, o_al 4 2), (2, o_ic 0 3), (3, o_al 0 4), (4, o_il 1 5), (5, o_ll 2 6), (6, o_callH m_T_feed 3 2 12 9 0 [(0, 16, 5), (1, 20, 5)]), (9, o_i2l 10), (10, o_las 11), (11, o_goto 22), (16, o_ic 1 17), (17, o_iret 2 12), (20, o_ic 2 21), (21, o_iret 2 12), (22, o_ic 0 23), (23, o_iret 2 12)]
set_option maxRecDepth 100000 in
theorem z_L_feed : mj_Code (m_L_feed) (q_L_feed) :=
  mj_c1 (k_aload (by decide +kernel)) <|
  mj_c1 (k_iconst (by decide +kernel)) <|
  mj_c1 (k_aloadn (k := 0) (by decide +kernel) rfl) <|
  mj_c1 (k_iloadn (k := 1) (by decide +kernel) rfl) <|
  mj_c1 (k_lloadn (k := 2) (by decide +kernel) rfl) <|
  mj_c1 (k_callH (idx := 7) (by decide +kernel) (fit_m_L_feed_m_T_feed) (ca_hs1 ⟨14, (ca_selA (by decide) (by decide) (by decide) w_315 (by decide +kernel)), by decide, Or.inl ⟨by decide +kernel, rfl⟩⟩ (ca_hs1 ⟨18, (ca_selB 0 (by decide) (by decide) (by decide) w_315 (by decide +kernel) (ca_selA (by decide) (by decide) (by decide) w_316 (by decide +kernel))), by decide, Or.inl ⟨by decide +kernel, rfl⟩⟩ ca_hs0)) rfl w_317 w_318 w_319 (by decide) (by decide +kernel)) <|
  mj_c1 (k_i2l (by decide +kernel)) <|
  mj_c1 (k_las (by decide +kernel)) <|
  mj_c1 (k_goto (off := 11) (by decide +kernel) (by decide)) <|
  mj_c1 (k_iconst (by decide +kernel)) <|
  mj_c1 (k_iret (by decide +kernel) rfl) <|
  mj_c1 (k_iconst (by decide +kernel)) <|
  mj_c1 (k_iret (by decide +kernel) rfl) <|
  mj_c1 (k_iconst (by decide +kernel)) <|
  mj_c1 (k_iret (by decide +kernel) rfl) mj_c0
def q_L_load : List (Nat × mj_Sem) := [(0, o_al 2 1), (1, o_ic 0 2), (2, o_al 0 3), (3, o_il 1 4), (4, o_callH m_T_load 2 1 6 7 0 [(0, 13, 3)]), (7, o_i2l 8), (8, o_las 9), (9, o_goto 15), (13, o_ic 1 14), (14, o_iret 1 6), (15, o_ic 0 16), (16, o_iret 1 6)]
set_option maxRecDepth 100000 in
theorem z_L_load : mj_Code (m_L_load) (q_L_load) :=
  mj_c1 (k_aloadn (k := 2) (by decide +kernel) rfl) <|
  mj_c1 (k_iconst (by decide +kernel)) <|
  mj_c1 (k_aloadn (k := 0) (by decide +kernel) rfl) <|
  mj_c1 (k_iloadn (k := 1) (by decide +kernel) rfl) <|
  mj_c1 (k_callH (idx := 17) (by decide +kernel) (fit_m_L_load_m_T_load) (ca_hs1 ⟨12, (ca_selA (by decide) (by decide) (by decide) w_315 (by decide +kernel)), by decide, Or.inr ⟨3, by decide +kernel, rfl, rfl⟩⟩ ca_hs0) rfl w_411 w_412 w_413 (by decide) (by decide +kernel)) <|
  mj_c1 (k_i2l (by decide +kernel)) <|
  mj_c1 (k_las (by decide +kernel)) <|
  mj_c1 (k_goto (off := 6) (by decide +kernel) (by decide)) <|
  mj_c1 (k_iconst (by decide +kernel)) <|
  mj_c1 (k_iret (by decide +kernel) rfl) <|
  mj_c1 (k_iconst (by decide +kernel)) <|
  mj_c1 (k_iret (by decide +kernel) rfl) mj_c0
def q_L_literal : List (Nat × mj_Sem) := [(0, o_al 4 2), (2, o_ic 0 3), (3, o_al 0 4), (4, o_il 1 5), (5, o_il 2 6), (6, o_il 3 7), (7, o_callH m_T_literal 4 2 12 10 0 [(0, 17, 5), (2, 21, 5)]), (10, o_i2l 11), (11, o_las 12), (12, o_goto 23), (17, o_ic 1 18), (18, o_iret 2 12), (21, o_ic 2 22), (22, o_iret 2 12), (23, o_ic 0 24), (24, o_iret 2 12)]
set_option maxRecDepth 100000 in
theorem z_L_literal : mj_Code (m_L_literal) (q_L_literal) :=
  mj_c1 (k_aload (by decide +kernel)) <|
  mj_c1 (k_iconst (by decide +kernel)) <|
  mj_c1 (k_aloadn (k := 0) (by decide +kernel) rfl) <|
  mj_c1 (k_iloadn (k := 1) (by decide +kernel) rfl) <|
  mj_c1 (k_iloadn (k := 2) (by decide +kernel) rfl) <|
  mj_c1 (k_iloadn (k := 3) (by decide +kernel) rfl) <|
  mj_c1 (k_callH (idx := 21) (by decide +kernel) (fit_m_L_literal_m_T_literal) (ca_hs1 ⟨15, (ca_selA (by decide) (by decide) (by decide) w_315 (by decide +kernel)), by decide, Or.inl ⟨by decide +kernel, rfl⟩⟩ (ca_hs1 ⟨19, (ca_selB 0 (by decide) (by decide) (by decide) w_315 (by decide +kernel) (ca_selA (by decide) (by decide) (by decide) w_553 (by decide +kernel))), by decide, Or.inl ⟨by decide +kernel, rfl⟩⟩ ca_hs0)) rfl w_554 w_555 w_556 (by decide) (by decide +kernel)) <|
  mj_c1 (k_i2l (by decide +kernel)) <|
  mj_c1 (k_las (by decide +kernel)) <|
  mj_c1 (k_goto (off := 11) (by decide +kernel) (by decide)) <|
  mj_c1 (k_iconst (by decide +kernel)) <|
  mj_c1 (k_iret (by decide +kernel) rfl) <|
  mj_c1 (k_iconst (by decide +kernel)) <|
  mj_c1 (k_iret (by decide +kernel) rfl) <|
  mj_c1 (k_iconst (by decide +kernel)) <|
  mj_c1 (k_iret (by decide +kernel) rfl) mj_c0
def q_L_value : List (Nat × mj_Sem) := [(0, o_al 4 2), (2, o_ic 0 3), (3, o_al 0 4), (4, o_il 1 5), (5, o_il 2 6), (6, o_il 3 7), (7, o_callH m_T_value 4 3 18 10 0 [(0, 17, 5)]), (10, o_i2l 11), (11, o_las 12), (12, o_goto 19), (17, o_ic 1 18), (18, o_iret 3 18), (19, o_ic 0 20), (20, o_iret 3 18)]
set_option maxRecDepth 100000 in
theorem z_L_value : mj_Code (m_L_value) (q_L_value) :=
  mj_c1 (k_aload (by decide +kernel)) <|
  mj_c1 (k_iconst (by decide +kernel)) <|
  mj_c1 (k_aloadn (k := 0) (by decide +kernel) rfl) <|
  mj_c1 (k_iloadn (k := 1) (by decide +kernel) rfl) <|
  mj_c1 (k_iloadn (k := 2) (by decide +kernel) rfl) <|
  mj_c1 (k_iloadn (k := 3) (by decide +kernel) rfl) <|
  mj_c1 (k_callH (idx := 27) (by decide +kernel) (fit_m_L_value_m_T_value) (ca_hs1 ⟨15, (ca_selA (by decide) (by decide) (by decide) w_315 (by decide +kernel)), by decide, Or.inl ⟨by decide +kernel, rfl⟩⟩ ca_hs0) rfl w_577 w_578 w_579 (by decide) (by decide +kernel)) <|
  mj_c1 (k_i2l (by decide +kernel)) <|
  mj_c1 (k_las (by decide +kernel)) <|
  mj_c1 (k_goto (off := 7) (by decide +kernel) (by decide)) <|
  mj_c1 (k_iconst (by decide +kernel)) <|
  mj_c1 (k_iret (by decide +kernel) rfl) <|
  mj_c1 (k_iconst (by decide +kernel)) <|
  mj_c1 (k_iret (by decide +kernel) rfl) mj_c0
def q_L_compare : List (Nat × mj_Sem) := [(0, o_al 1 1), (1, o_ic 0 2), (2, o_al 0 3), (3, o_callH m_T_compare 1 1 6 6 0 [(1, 12, 2)]), (6, o_i2l 7), (7, o_las 8), (8, o_goto 14), (12, o_ic 1 13), (13, o_iret 1 6), (14, o_ic 0 15), (15, o_iret 1 6)]
set_option maxRecDepth 100000 in
theorem z_L_compare : mj_Code (m_L_compare) (q_L_compare) :=
  mj_c1 (k_aloadn (k := 1) (by decide +kernel) rfl) <|
  mj_c1 (k_iconst (by decide +kernel)) <|
  mj_c1 (k_aloadn (k := 0) (by decide +kernel) rfl) <|
  mj_c1 (k_callH (idx := 30) (by decide +kernel) (fit_m_L_compare_m_T_compare) (ca_hs1 ⟨11, (ca_selA (by decide) (by decide) (by decide) w_316 (by decide +kernel)), by decide, Or.inr ⟨2, by decide +kernel, rfl, rfl⟩⟩ ca_hs0) rfl w_600 w_601 w_602 (by decide) (by decide +kernel)) <|
  mj_c1 (k_i2l (by decide +kernel)) <|
  mj_c1 (k_las (by decide +kernel)) <|
  mj_c1 (k_goto (off := 6) (by decide +kernel) (by decide)) <|
  mj_c1 (k_iconst (by decide +kernel)) <|
  mj_c1 (k_iret (by decide +kernel) rfl) <|
  mj_c1 (k_iconst (by decide +kernel)) <|
  mj_c1 (k_iret (by decide +kernel) rfl) mj_c0
def q_L_witness : List (Nat × mj_Sem) := [(0, o_al 2 1), (1, o_ic 0 2), (2, o_al 0 3), (3, o_il 1 4), (4, o_callH m_T_witness 2 2 12 7 0 [(1, 13, 3), (2, 16, 3)]), (7, o_i2l 8), (8, o_las 9), (9, o_goto 18), (13, o_ic 1 14), (14, o_iret 2 12), (16, o_ic 2 17), (17, o_iret 2 12), (18, o_ic 0 19), (19, o_iret 2 12)]
set_option maxRecDepth 100000 in
theorem z_L_witness : mj_Code (m_L_witness) (q_L_witness) :=
  mj_c1 (k_aloadn (k := 2) (by decide +kernel) rfl) <|
  mj_c1 (k_iconst (by decide +kernel)) <|
  mj_c1 (k_aloadn (k := 0) (by decide +kernel) rfl) <|
  mj_c1 (k_iloadn (k := 1) (by decide +kernel) rfl) <|
  mj_c1 (k_callH (idx := 34) (by decide +kernel) (fit_m_L_witness_m_T_witness) (ca_hs1 ⟨12, (ca_selA (by decide) (by decide) (by decide) w_316 (by decide +kernel)), by decide, Or.inr ⟨3, by decide +kernel, rfl, rfl⟩⟩ (ca_hs1 ⟨15, (ca_selB 1 (by decide) (by decide) (by decide) w_316 (by decide +kernel) (ca_selA (by decide) (by decide) (by decide) w_553 (by decide +kernel))), by decide, Or.inr ⟨3, by decide +kernel, rfl, rfl⟩⟩ ca_hs0)) rfl w_627 w_628 w_629 (by decide) (by decide +kernel)) <|
  mj_c1 (k_i2l (by decide +kernel)) <|
  mj_c1 (k_las (by decide +kernel)) <|
  mj_c1 (k_goto (off := 9) (by decide +kernel) (by decide)) <|
  mj_c1 (k_iconst (by decide +kernel)) <|
  mj_c1 (k_iret (by decide +kernel) rfl) <|
  mj_c1 (k_iconst (by decide +kernel)) <|
  mj_c1 (k_iret (by decide +kernel) rfl) <|
  mj_c1 (k_iconst (by decide +kernel)) <|
  mj_c1 (k_iret (by decide +kernel) rfl) mj_c0
def q_L_least : List (Nat × mj_Sem) := [(0, o_al 4 2), (2, o_ic 0 3), (3, o_al 0 4), (4, o_il 1 5), (5, o_il 2 6), (6, o_il 3 7), (7, o_callH m_T_least 4 3 18 10 0 [(0, 17, 5)]), (10, o_i2l 11), (11, o_las 12), (12, o_goto 19), (17, o_ic 1 18), (18, o_iret 3 18), (19, o_ic 0 20), (20, o_iret 3 18)]
set_option maxRecDepth 100000 in
theorem z_L_least : mj_Code (m_L_least) (q_L_least) :=
  mj_c1 (k_aload (by decide +kernel)) <|
  mj_c1 (k_iconst (by decide +kernel)) <|
  mj_c1 (k_aloadn (k := 0) (by decide +kernel) rfl) <|
  mj_c1 (k_iloadn (k := 1) (by decide +kernel) rfl) <|
  mj_c1 (k_iloadn (k := 2) (by decide +kernel) rfl) <|
  mj_c1 (k_iloadn (k := 3) (by decide +kernel) rfl) <|
  mj_c1 (k_callH (idx := 37) (by decide +kernel) (fit_m_L_least_m_T_least) (ca_hs1 ⟨15, (ca_selA (by decide) (by decide) (by decide) w_315 (by decide +kernel)), by decide, Or.inl ⟨by decide +kernel, rfl⟩⟩ ca_hs0) rfl w_635 w_636 w_637 (by decide) (by decide +kernel)) <|
  mj_c1 (k_i2l (by decide +kernel)) <|
  mj_c1 (k_las (by decide +kernel)) <|
  mj_c1 (k_goto (off := 7) (by decide +kernel) (by decide)) <|
  mj_c1 (k_iconst (by decide +kernel)) <|
  mj_c1 (k_iret (by decide +kernel) rfl) <|
  mj_c1 (k_iconst (by decide +kernel)) <|
  mj_c1 (k_iret (by decide +kernel) rfl) mj_c0
def q_L_greatest : List (Nat × mj_Sem) := [(0, o_al 3 1), (1, o_ic 0 2), (2, o_al 0 3), (3, o_il 1 4), (4, o_il 2 5), (5, o_callH m_T_greatest 3 2 12 8 0 [(0, 15, 4)]), (8, o_i2l 9), (9, o_las 10), (10, o_goto 17), (15, o_ic 1 16), (16, o_iret 2 12), (17, o_ic 0 18), (18, o_iret 2 12)]
set_option maxRecDepth 100000 in
theorem z_L_greatest : mj_Code (m_L_greatest) (q_L_greatest) :=
  mj_c1 (k_aloadn (k := 3) (by decide +kernel) rfl) <|
  mj_c1 (k_iconst (by decide +kernel)) <|
  mj_c1 (k_aloadn (k := 0) (by decide +kernel) rfl) <|
  mj_c1 (k_iloadn (k := 1) (by decide +kernel) rfl) <|
  mj_c1 (k_iloadn (k := 2) (by decide +kernel) rfl) <|
  mj_c1 (k_callH (idx := 40) (by decide +kernel) (fit_m_L_greatest_m_T_greatest) (ca_hs1 ⟨13, (ca_selA (by decide) (by decide) (by decide) w_315 (by decide +kernel)), by decide, Or.inl ⟨by decide +kernel, rfl⟩⟩ ca_hs0) rfl w_646 w_647 w_648 (by decide) (by decide +kernel)) <|
  mj_c1 (k_i2l (by decide +kernel)) <|
  mj_c1 (k_las (by decide +kernel)) <|
  mj_c1 (k_goto (off := 7) (by decide +kernel) (by decide)) <|
  mj_c1 (k_iconst (by decide +kernel)) <|
  mj_c1 (k_iret (by decide +kernel) rfl) <|
  mj_c1 (k_iconst (by decide +kernel)) <|
  mj_c1 (k_iret (by decide +kernel) rfl) mj_c0
def q_L_same : List (Nat × mj_Sem) := [(0, o_al 3 1), (1, o_ic 0 2), (2, o_al 0 3), (3, o_il 1 4), (4, o_il 2 5), (5, o_callH m_T_same 3 3 18 8 0 [(0, 15, 4), (1, 19, 4)]), (8, o_i2l 9), (9, o_las 10), (10, o_goto 21), (15, o_ic 1 16), (16, o_iret 3 18), (19, o_ic 2 20), (20, o_iret 3 18), (21, o_ic 0 22), (22, o_iret 3 18)]
set_option maxRecDepth 100000 in
theorem z_L_same : mj_Code (m_L_same) (q_L_same) :=
  mj_c1 (k_aloadn (k := 3) (by decide +kernel) rfl) <|
  mj_c1 (k_iconst (by decide +kernel)) <|
  mj_c1 (k_aloadn (k := 0) (by decide +kernel) rfl) <|
  mj_c1 (k_iloadn (k := 1) (by decide +kernel) rfl) <|
  mj_c1 (k_iloadn (k := 2) (by decide +kernel) rfl) <|
  mj_c1 (k_callH (idx := 44) (by decide +kernel) (fit_m_L_same_m_T_same) (ca_hs1 ⟨13, (ca_selA (by decide) (by decide) (by decide) w_315 (by decide +kernel)), by decide, Or.inl ⟨by decide +kernel, rfl⟩⟩ (ca_hs1 ⟨17, (ca_selB 0 (by decide) (by decide) (by decide) w_315 (by decide +kernel) (ca_selA (by decide) (by decide) (by decide) w_316 (by decide +kernel))), by decide, Or.inl ⟨by decide +kernel, rfl⟩⟩ ca_hs0)) rfl w_663 w_664 w_665 (by decide) (by decide +kernel)) <|
  mj_c1 (k_i2l (by decide +kernel)) <|
  mj_c1 (k_las (by decide +kernel)) <|
  mj_c1 (k_goto (off := 11) (by decide +kernel) (by decide)) <|
  mj_c1 (k_iconst (by decide +kernel)) <|
  mj_c1 (k_iret (by decide +kernel) rfl) <|
  mj_c1 (k_iconst (by decide +kernel)) <|
  mj_c1 (k_iret (by decide +kernel) rfl) <|
  mj_c1 (k_iconst (by decide +kernel)) <|
  mj_c1 (k_iret (by decide +kernel) rfl) mj_c0
def q_L_implies : List (Nat × mj_Sem) := [(0, o_al 4 2), (2, o_ic 0 3), (3, o_al 0 4), (4, o_il 1 5), (5, o_il 2 6), (6, o_il 3 7), (7, o_callH m_T_implies 4 3 18 10 0 [(0, 24, 5)]), (10, o_ifeq 17 13), (13, o_lc 1#64 14), (14, o_goto 18), (17, o_lc 0#64 18), (18, o_las 19), (19, o_goto 26), (24, o_ic 1 25), (25, o_iret 3 18), (26, o_ic 0 27), (27, o_iret 3 18)]
set_option maxRecDepth 100000 in
theorem z_L_implies : mj_Code (m_L_implies) (q_L_implies) :=
  mj_c1 (k_aload (by decide +kernel)) <|
  mj_c1 (k_iconst (by decide +kernel)) <|
  mj_c1 (k_aloadn (k := 0) (by decide +kernel) rfl) <|
  mj_c1 (k_iloadn (k := 1) (by decide +kernel) rfl) <|
  mj_c1 (k_iloadn (k := 2) (by decide +kernel) rfl) <|
  mj_c1 (k_iloadn (k := 3) (by decide +kernel) rfl) <|
  mj_c1 (k_callH (idx := 47) (by decide +kernel) (fit_m_L_implies_m_T_implies) (ca_hs1 ⟨22, (ca_selA (by decide) (by decide) (by decide) w_315 (by decide +kernel)), by decide, Or.inl ⟨by decide +kernel, rfl⟩⟩ ca_hs0) rfl w_672 w_673 w_674 (by decide) (by decide +kernel)) <|
  mj_c1 (k_ifeq (off := 7) (by decide +kernel) (by decide)) <|
  mj_c1 (k_lconst (k := 1) (by decide +kernel) (by decide)) <|
  mj_c1 (k_goto (off := 4) (by decide +kernel) (by decide)) <|
  mj_c1 (k_lconst (k := 0) (by decide +kernel) (by decide)) <|
  mj_c1 (k_las (by decide +kernel)) <|
  mj_c1 (k_goto (off := 7) (by decide +kernel) (by decide)) <|
  mj_c1 (k_iconst (by decide +kernel)) <|
  mj_c1 (k_iret (by decide +kernel) rfl) <|
  mj_c1 (k_iconst (by decide +kernel)) <|
  mj_c1 (k_iret (by decide +kernel) rfl) mj_c0
def q_L_depends : List (Nat × mj_Sem) := [(0, o_al 4 2), (2, o_ic 0 3), (3, o_al 0 4), (4, o_il 1 5), (5, o_il 2 6), (6, o_il 3 7), (7, o_callH m_T_depends 4 3 18 10 0 [(0, 24, 5), (2, 28, 5)]), (10, o_ifeq 17 13), (13, o_lc 1#64 14), (14, o_goto 18), (17, o_lc 0#64 18), (18, o_las 19), (19, o_goto 30), (24, o_ic 1 25), (25, o_iret 3 18), (28, o_ic 2 29), (29, o_iret 3 18), (30, o_ic 0 31), (31, o_iret 3 18)]
set_option maxRecDepth 100000 in
theorem z_L_depends : mj_Code (m_L_depends) (q_L_depends) :=
  mj_c1 (k_aload (by decide +kernel)) <|
  mj_c1 (k_iconst (by decide +kernel)) <|
  mj_c1 (k_aloadn (k := 0) (by decide +kernel) rfl) <|
  mj_c1 (k_iloadn (k := 1) (by decide +kernel) rfl) <|
  mj_c1 (k_iloadn (k := 2) (by decide +kernel) rfl) <|
  mj_c1 (k_iloadn (k := 3) (by decide +kernel) rfl) <|
  mj_c1 (k_callH (idx := 51) (by decide +kernel) (fit_m_L_depends_m_T_depends) (ca_hs1 ⟨22, (ca_selA (by decide) (by decide) (by decide) w_315 (by decide +kernel)), by decide, Or.inl ⟨by decide +kernel, rfl⟩⟩ (ca_hs1 ⟨26, (ca_selB 0 (by decide) (by decide) (by decide) w_315 (by decide +kernel) (ca_selA (by decide) (by decide) (by decide) w_553 (by decide +kernel))), by decide, Or.inl ⟨by decide +kernel, rfl⟩⟩ ca_hs0)) rfl w_683 w_684 w_685 (by decide) (by decide +kernel)) <|
  mj_c1 (k_ifeq (off := 7) (by decide +kernel) (by decide)) <|
  mj_c1 (k_lconst (k := 1) (by decide +kernel) (by decide)) <|
  mj_c1 (k_goto (off := 4) (by decide +kernel) (by decide)) <|
  mj_c1 (k_lconst (k := 0) (by decide +kernel) (by decide)) <|
  mj_c1 (k_las (by decide +kernel)) <|
  mj_c1 (k_goto (off := 11) (by decide +kernel) (by decide)) <|
  mj_c1 (k_iconst (by decide +kernel)) <|
  mj_c1 (k_iret (by decide +kernel) rfl) <|
  mj_c1 (k_iconst (by decide +kernel)) <|
  mj_c1 (k_iret (by decide +kernel) rfl) <|
  mj_c1 (k_iconst (by decide +kernel)) <|
  mj_c1 (k_iret (by decide +kernel) rfl) mj_c0
def q_L_rises : List (Nat × mj_Sem) := [(0, o_al 4 2), (2, o_ic 0 3), (3, o_al 0 4), (4, o_il 1 5), (5, o_il 2 6), (6, o_il 3 7), (7, o_callH m_T_rises 4 3 18 10 0 [(0, 17, 5), (2, 21, 5)]), (10, o_i2l 11), (11, o_las 12), (12, o_goto 23), (17, o_ic 1 18), (18, o_iret 3 18), (21, o_ic 2 22), (22, o_iret 3 18), (23, o_ic 0 24), (24, o_iret 3 18)]
set_option maxRecDepth 100000 in
theorem z_L_rises : mj_Code (m_L_rises) (q_L_rises) :=
  mj_c1 (k_aload (by decide +kernel)) <|
  mj_c1 (k_iconst (by decide +kernel)) <|
  mj_c1 (k_aloadn (k := 0) (by decide +kernel) rfl) <|
  mj_c1 (k_iloadn (k := 1) (by decide +kernel) rfl) <|
  mj_c1 (k_iloadn (k := 2) (by decide +kernel) rfl) <|
  mj_c1 (k_iloadn (k := 3) (by decide +kernel) rfl) <|
  mj_c1 (k_callH (idx := 54) (by decide +kernel) (fit_m_L_rises_m_T_rises) (ca_hs1 ⟨15, (ca_selA (by decide) (by decide) (by decide) w_315 (by decide +kernel)), by decide, Or.inl ⟨by decide +kernel, rfl⟩⟩ (ca_hs1 ⟨19, (ca_selB 0 (by decide) (by decide) (by decide) w_315 (by decide +kernel) (ca_selA (by decide) (by decide) (by decide) w_553 (by decide +kernel))), by decide, Or.inl ⟨by decide +kernel, rfl⟩⟩ ca_hs0)) rfl w_706 w_707 w_708 (by decide) (by decide +kernel)) <|
  mj_c1 (k_i2l (by decide +kernel)) <|
  mj_c1 (k_las (by decide +kernel)) <|
  mj_c1 (k_goto (off := 11) (by decide +kernel) (by decide)) <|
  mj_c1 (k_iconst (by decide +kernel)) <|
  mj_c1 (k_iret (by decide +kernel) rfl) <|
  mj_c1 (k_iconst (by decide +kernel)) <|
  mj_c1 (k_iret (by decide +kernel) rfl) <|
  mj_c1 (k_iconst (by decide +kernel)) <|
  mj_c1 (k_iret (by decide +kernel) rfl) mj_c0
def q_L_leader : List (Nat × mj_Sem) := [(0, o_al 3 1), (1, o_ic 0 2), (2, o_al 0 3), (3, o_il 1 4), (4, o_il 2 5), (5, o_callH m_T_leader 3 2 12 8 0 [(0, 15, 4)]), (8, o_i2l 9), (9, o_las 10), (10, o_goto 17), (15, o_ic 1 16), (16, o_iret 2 12), (17, o_ic 0 18), (18, o_iret 2 12)]
set_option maxRecDepth 100000 in
theorem z_L_leader : mj_Code (m_L_leader) (q_L_leader) :=
  mj_c1 (k_aloadn (k := 3) (by decide +kernel) rfl) <|
  mj_c1 (k_iconst (by decide +kernel)) <|
  mj_c1 (k_aloadn (k := 0) (by decide +kernel) rfl) <|
  mj_c1 (k_iloadn (k := 1) (by decide +kernel) rfl) <|
  mj_c1 (k_iloadn (k := 2) (by decide +kernel) rfl) <|
  mj_c1 (k_callH (idx := 57) (by decide +kernel) (fit_m_L_leader_m_T_leader) (ca_hs1 ⟨13, (ca_selA (by decide) (by decide) (by decide) w_315 (by decide +kernel)), by decide, Or.inl ⟨by decide +kernel, rfl⟩⟩ ca_hs0) rfl w_713 w_714 w_715 (by decide) (by decide +kernel)) <|
  mj_c1 (k_i2l (by decide +kernel)) <|
  mj_c1 (k_las (by decide +kernel)) <|
  mj_c1 (k_goto (off := 7) (by decide +kernel) (by decide)) <|
  mj_c1 (k_iconst (by decide +kernel)) <|
  mj_c1 (k_iret (by decide +kernel) rfl) <|
  mj_c1 (k_iconst (by decide +kernel)) <|
  mj_c1 (k_iret (by decide +kernel) rfl) mj_c0
def q_L_functions : List (Nat × mj_Sem) := [(0, o_al 2 1), (1, o_ic 0 2), (2, o_al 0 3), (3, o_il 1 4), (4, o_callH m_T_functions 2 1 6 7 0 [(0, 13, 3)]), (7, o_i2l 8), (8, o_las 9), (9, o_goto 15), (13, o_ic 1 14), (14, o_iret 1 6), (15, o_ic 0 16), (16, o_iret 1 6)]
set_option maxRecDepth 100000 in
theorem z_L_functions : mj_Code (m_L_functions) (q_L_functions) :=
  mj_c1 (k_aloadn (k := 2) (by decide +kernel) rfl) <|
  mj_c1 (k_iconst (by decide +kernel)) <|
  mj_c1 (k_aloadn (k := 0) (by decide +kernel) rfl) <|
  mj_c1 (k_iloadn (k := 1) (by decide +kernel) rfl) <|
  mj_c1 (k_callH (idx := 60) (by decide +kernel) (fit_m_L_functions_m_T_functions) (ca_hs1 ⟨12, (ca_selA (by decide) (by decide) (by decide) w_315 (by decide +kernel)), by decide, Or.inr ⟨3, by decide +kernel, rfl, rfl⟩⟩ ca_hs0) rfl w_724 w_725 w_726 (by decide) (by decide +kernel)) <|
  mj_c1 (k_i2l (by decide +kernel)) <|
  mj_c1 (k_las (by decide +kernel)) <|
  mj_c1 (k_goto (off := 6) (by decide +kernel) (by decide)) <|
  mj_c1 (k_iconst (by decide +kernel)) <|
  mj_c1 (k_iret (by decide +kernel) rfl) <|
  mj_c1 (k_iconst (by decide +kernel)) <|
  mj_c1 (k_iret (by decide +kernel) rfl) mj_c0
def q_L_allFunctions : List (Nat × mj_Sem) := [(0, o_al 1 1), (1, o_ic 0 2), (2, o_al 0 3), (3, o_callH m_T_allFunctions 1 1 6 6 0 [(1, 12, 2)]), (6, o_i2l 7), (7, o_las 8), (8, o_goto 14), (12, o_ic 1 13), (13, o_iret 1 6), (14, o_ic 0 15), (15, o_iret 1 6)]
set_option maxRecDepth 100000 in
theorem z_L_allFunctions : mj_Code (m_L_allFunctions) (q_L_allFunctions) :=
  mj_c1 (k_aloadn (k := 1) (by decide +kernel) rfl) <|
  mj_c1 (k_iconst (by decide +kernel)) <|
  mj_c1 (k_aloadn (k := 0) (by decide +kernel) rfl) <|
  mj_c1 (k_callH (idx := 63) (by decide +kernel) (fit_m_L_allFunctions_m_T_allFunctions) (ca_hs1 ⟨11, (ca_selA (by decide) (by decide) (by decide) w_316 (by decide +kernel)), by decide, Or.inr ⟨2, by decide +kernel, rfl, rfl⟩⟩ ca_hs0) rfl w_731 w_732 w_733 (by decide) (by decide +kernel)) <|
  mj_c1 (k_i2l (by decide +kernel)) <|
  mj_c1 (k_las (by decide +kernel)) <|
  mj_c1 (k_goto (off := 6) (by decide +kernel) (by decide)) <|
  mj_c1 (k_iconst (by decide +kernel)) <|
  mj_c1 (k_iret (by decide +kernel) rfl) <|
  mj_c1 (k_iconst (by decide +kernel)) <|
  mj_c1 (k_iret (by decide +kernel) rfl) mj_c0
def q_L_write : List (Nat × mj_Sem) := [(0, o_al 4 2), (2, o_ic 0 3), (3, o_al 0 4), (4, o_il 1 5), (5, o_il 2 6), (6, o_il 3 7), (7, o_callH m_T_write 4 1 6 10 0 [(0, 17, 5)]), (10, o_i2l 11), (11, o_las 12), (12, o_goto 19), (17, o_ic 1 18), (18, o_iret 1 6), (19, o_ic 0 20), (20, o_iret 1 6)]
set_option maxRecDepth 100000 in
theorem z_L_write : mj_Code (m_L_write) (q_L_write) :=
  mj_c1 (k_aload (by decide +kernel)) <|
  mj_c1 (k_iconst (by decide +kernel)) <|
  mj_c1 (k_aloadn (k := 0) (by decide +kernel) rfl) <|
  mj_c1 (k_iloadn (k := 1) (by decide +kernel) rfl) <|
  mj_c1 (k_iloadn (k := 2) (by decide +kernel) rfl) <|
  mj_c1 (k_iloadn (k := 3) (by decide +kernel) rfl) <|
  mj_c1 (k_callH (idx := 66) (by decide +kernel) (fit_m_L_write_m_T_write) (ca_hs1 ⟨15, (ca_selA (by decide) (by decide) (by decide) w_315 (by decide +kernel)), by decide, Or.inl ⟨by decide +kernel, rfl⟩⟩ ca_hs0) rfl w_742 w_743 w_744 (by decide) (by decide +kernel)) <|
  mj_c1 (k_i2l (by decide +kernel)) <|
  mj_c1 (k_las (by decide +kernel)) <|
  mj_c1 (k_goto (off := 7) (by decide +kernel) (by decide)) <|
  mj_c1 (k_iconst (by decide +kernel)) <|
  mj_c1 (k_iret (by decide +kernel) rfl) <|
  mj_c1 (k_iconst (by decide +kernel)) <|
  mj_c1 (k_iret (by decide +kernel) rfl) mj_c0
def q_L_out : List (Nat × mj_Sem) := [(0, o_al 2 1), (1, o_ic 0 2), (2, o_al 0 3), (3, o_il 1 4), (4, o_callH m_T_out 2 1 6 7 0 [(2, 12, 3)]), (7, o_las 8), (8, o_goto 14), (12, o_ic 1 13), (13, o_iret 1 6), (14, o_ic 0 15), (15, o_iret 1 6)]
set_option maxRecDepth 100000 in
theorem z_L_out : mj_Code (m_L_out) (q_L_out) :=
  mj_c1 (k_aloadn (k := 2) (by decide +kernel) rfl) <|
  mj_c1 (k_iconst (by decide +kernel)) <|
  mj_c1 (k_aloadn (k := 0) (by decide +kernel) rfl) <|
  mj_c1 (k_iloadn (k := 1) (by decide +kernel) rfl) <|
  mj_c1 (k_callH (idx := 70) (by decide +kernel) (fit_m_L_out_m_T_out) (ca_hs1 ⟨11, (ca_selA (by decide) (by decide) (by decide) w_553 (by decide +kernel)), by decide, Or.inr ⟨3, by decide +kernel, rfl, rfl⟩⟩ ca_hs0) rfl w_817 w_818 w_819 (by decide) (by decide +kernel)) <|
  mj_c1 (k_las (by decide +kernel)) <|
  mj_c1 (k_goto (off := 6) (by decide +kernel) (by decide)) <|
  mj_c1 (k_iconst (by decide +kernel)) <|
  mj_c1 (k_iret (by decide +kernel) rfl) <|
  mj_c1 (k_iconst (by decide +kernel)) <|
  mj_c1 (k_iret (by decide +kernel) rfl) mj_c0
def q_L_look : List (Nat × mj_Sem) := [(0, o_al 3 1), (1, o_ic 0 2), (2, o_al 0 3), (3, o_il 1 4), (4, o_il 2 5), (5, o_callH m_T_look 3 2 12 8 0 [(0, 15, 4)]), (8, o_i2l 9), (9, o_las 10), (10, o_goto 17), (15, o_ic 1 16), (16, o_iret 2 12), (17, o_ic 0 18), (18, o_iret 2 12)]
set_option maxRecDepth 100000 in
theorem z_L_look : mj_Code (m_L_look) (q_L_look) :=
  mj_c1 (k_aloadn (k := 3) (by decide +kernel) rfl) <|
  mj_c1 (k_iconst (by decide +kernel)) <|
  mj_c1 (k_aloadn (k := 0) (by decide +kernel) rfl) <|
  mj_c1 (k_iloadn (k := 1) (by decide +kernel) rfl) <|
  mj_c1 (k_iloadn (k := 2) (by decide +kernel) rfl) <|
  mj_c1 (k_callH (idx := 74) (by decide +kernel) (fit_m_L_look_m_T_look) (ca_hs1 ⟨13, (ca_selA (by decide) (by decide) (by decide) w_315 (by decide +kernel)), by decide, Or.inl ⟨by decide +kernel, rfl⟩⟩ ca_hs0) rfl w_829 w_830 w_831 (by decide) (by decide +kernel)) <|
  mj_c1 (k_i2l (by decide +kernel)) <|
  mj_c1 (k_las (by decide +kernel)) <|
  mj_c1 (k_goto (off := 7) (by decide +kernel) (by decide)) <|
  mj_c1 (k_iconst (by decide +kernel)) <|
  mj_c1 (k_iret (by decide +kernel) rfl) <|
  mj_c1 (k_iconst (by decide +kernel)) <|
  mj_c1 (k_iret (by decide +kernel) rfl) mj_c0
def q_L_law (L : Nat) (sc : Nat → Int) : List (Nat × mj_Sem) := [(0, o_new 0 4 601024 7293034 3), (3, o_dup 4), (4, o_call m_T_init 1 601024 7293034 7 mj_ri), (7, o_as 1 8), (8, o_new 6 30 601024 7293034 11), (11, o_dup 12), (12, o_call m_M_init 1 601024 7293034 15 mj_ri), (15, o_as 2 16), (16, o_ic 1 17), (17, o_na 3 601024 7293034 19), (19, o_as 3 20), (20, o_ic 0 21), (21, o_is 4 23), (23, o_il 4 25), (25, o_al 0 26), (26, o_slen L 27), (27, o_ic 4 28), (28, o_isub 29), (29, o_icgt 1419 32), (32, o_al 0 33), (33, o_il 4 35), (35, o_sal L sc 36), (36, o_ic 31 38), (38, o_iand 39), (39, o_tsw [124, 224, 280, 360, 440, 484, 540, 620, 688, 756, 843, 930, 1010, 1078, 1134, 1178, 1290, 1345] 1413), (124, o_al 1 125), (125, o_al 0 126), (126, o_il 4 128), (128, o_ic 1 129), (129, o_iadd 130), (130, o_sal L sc 131), (131, o_al 0 132), (132, o_il 4 134), (134, o_ic 2 135), (135, o_iadd 136), (136, o_sal L sc 137), (137, o_i2l 138), (138, o_ic 32 140), (140, o_lshl 141), (141, o_al 0 142), (142, o_il 4 144), (144, o_ic 3 145), (145, o_iadd 146), (146, o_sal L sc 147), (147, o_i2l 148), (148, o_lc 0x00000000FFFFFFFF#64 151), (151, o_land 152), (152, o_lor 153), (153, o_al 3 154), (154, o_call m_L_feed 4 601024 7293034 157 mj_rs), (157, o_is 5 159), (159, o_al 2 160), (160, o_al 0 161), (161, o_il 4 163), (163, o_ic 1 164), (164, o_iadd 165), (165, o_sal L sc 166), (166, o_al 0 167), (167, o_il 4 169), (169, o_ic 2 170), (170, o_iadd 171), (171, o_sal L sc 172), (172, o_i2l 173), (173, o_ic 32 175), (175, o_lshl 176), (176, o_al 0 177), (177, o_il 4 179), (179, o_ic 3 180), (180, o_iadd 181), (181, o_sal L sc 182), (182, o_i2l 183), (183, o_lc 0x00000000FFFFFFFF#64 186), (186, o_land 187), (187, o_lor 188), (188, o_call m_M_feed 3 601024 7293034 191 (mj_rv 6)), (191, o_is 6 193), (193, o_al 2 194), (194, o_call m_M_thrown 1 601024 7293034 197 (mj_rv 6)), (197, o_il 5 199), (199, o_iceq 204 202), (202, o_ic 0 203), (203, o_zret 601024 7293034), (204, o_il 5 206), (206, o_ifne 221 209), (209, o_al 3 210), (210, o_ic 0 211), (211, o_lal 212), (212, o_il 6 214), (214, o_i2l 215), (215, o_lcmp 216), (216, o_ifeq 221 219), (219, o_ic 0 220), (220, o_zret 601024 7293034), (221, o_goto 1413), (224, o_al 1 225), (225, o_al 0 226), (226, o_il 4 228), (228, o_ic 1 229), (229, o_iadd 230), (230, o_sal L sc 231), (231, o_al 3 232), (232, o_call m_L_load 3 601024 7293034 235 mj_rs), (235, o_is 5 237), (237, o_al 2 238), (238, o_al 0 239), (239, o_il 4 241), (241, o_ic 1 242), (242, o_iadd 243), (243, o_sal L sc 244), (244, o_call m_M_load 2 601024 7293034 247 (mj_rv 6)), (247, o_is 6 249), (249, o_al 2 250), (250, o_call m_M_thrown 1 601024 7293034 253 (mj_rv 6)), (253, o_il 5 255), (255, o_iceq 260 258), (258, o_ic 0 259), (259, o_zret 601024 7293034), (260, o_il 5 262), (262, o_ifne 277 265), (265, o_al 3 266), (266, o_ic 0 267), (267, o_lal 268), (268, o_il 6 270), (270, o_i2l 271), (271, o_lcmp 272), (272, o_ifeq 277 275), (275, o_ic 0 276), (276, o_zret 601024 7293034), (277, o_goto 1413), (280, o_al 1 281), (281, o_al 0 282), (282, o_il 4 284), (284, o_ic 1 285), (285, o_iadd 286), (286, o_sal L sc 287), (287, o_al 0 288), (288, o_il 4 290), (290, o_ic 2 291), (291, o_iadd 292), (292, o_sal L sc 293), (293, o_al 0 294), (294, o_il 4 296), (296, o_ic 3 297), (297, o_iadd 298), (298, o_sal L sc 299), (299, o_al 3 300), (300, o_call m_L_literal 5 601024 7293034 303 mj_rs), (303, o_is 5 305), (305, o_al 2 306), (306, o_al 0 307), (307, o_il 4 309), (309, o_ic 1 310), (310, o_iadd 311), (311, o_sal L sc 312), (312, o_al 0 313), (313, o_il 4 315), (315, o_ic 2 316), (316, o_iadd 317), (317, o_sal L sc 318), (318, o_al 0 319), (319, o_il 4 321), (321, o_ic 3 322), (322, o_iadd 323), (323, o_sal L sc 324), (324, o_call m_M_literal 4 601024 7293034 327 (mj_rv 6)), (327, o_is 6 329), (329, o_al 2 330), (330, o_call m_M_thrown 1 601024 7293034 333 (mj_rv 6)), (333, o_il 5 335), (335, o_iceq 340 338), (338, o_ic 0 339), (339, o_zret 601024 7293034), (340, o_il 5 342), (342, o_ifne 357 345), (345, o_al 3 346), (346, o_ic 0 347), (347, o_lal 348), (348, o_il 6 350), (350, o_i2l 351), (351, o_lcmp 352), (352, o_ifeq 357 355), (355, o_ic 0 356), (356, o_zret 601024 7293034), (357, o_goto 1413), (360, o_al 1 361), (361, o_al 0 362), (362, o_il 4 364), (364, o_ic 1 365), (365, o_iadd 366), (366, o_sal L sc 367), (367, o_al 0 368), (368, o_il 4 370), (370, o_ic 2 371), (371, o_iadd 372), (372, o_sal L sc 373), (373, o_al 0 374), (374, o_il 4 376), (376, o_ic 3 377), (377, o_iadd 378), (378, o_sal L sc 379), (379, o_al 3 380), (380, o_call m_L_value 5 601024 7293034 383 mj_rs), (383, o_is 5 385), (385, o_al 2 386), (386, o_al 0 387), (387, o_il 4 389), (389, o_ic 1 390), (390, o_iadd 391), (391, o_sal L sc 392), (392, o_al 0 393), (393, o_il 4 395), (395, o_ic 2 396), (396, o_iadd 397), (397, o_sal L sc 398), (398, o_al 0 399), (399, o_il 4 401), (401, o_ic 3 402), (402, o_iadd 403), (403, o_sal L sc 404), (404, o_call m_M_value 4 601024 7293034 407 (mj_rv 6)), (407, o_is 6 409), (409, o_al 2 410), (410, o_call m_M_thrown 1 601024 7293034 413 (mj_rv 6)), (413, o_il 5 415), (415, o_iceq 420 418), (418, o_ic 0 419), (419, o_zret 601024 7293034), (420, o_il 5 422), (422, o_ifne 437 425), (425, o_al 3 426), (426, o_ic 0 427), (427, o_lal 428), (428, o_il 6 430), (430, o_i2l 431), (431, o_lcmp 432), (432, o_ifeq 437 435), (435, o_ic 0 436), (436, o_zret 601024 7293034), (437, o_goto 1413), (440, o_al 1 441), (441, o_al 3 442), (442, o_call m_L_compare 2 601024 7293034 445 mj_rs), (445, o_is 5 447), (447, o_al 2 448), (448, o_call m_M_compare 1 601024 7293034 451 (mj_rv 6)), (451, o_is 6 453), (453, o_al 2 454), (454, o_call m_M_thrown 1 601024 7293034 457 (mj_rv 6)), (457, o_il 5 459), (459, o_iceq 464 462), (462, o_ic 0 463), (463, o_zret 601024 7293034), (464, o_il 5 466), (466, o_ifne 481 469), (469, o_al 3 470), (470, o_ic 0 471), (471, o_lal 472), (472, o_il 6 474), (474, o_i2l 475), (475, o_lcmp 476), (476, o_ifeq 481 479), (479, o_ic 0 480), (480, o_zret 601024 7293034), (481, o_goto 1413), (484, o_al 1 485), (485, o_al 0 486), (486, o_il 4 488), (488, o_ic 1 489), (489, o_iadd 490), (490, o_sal L sc 491), (491, o_al 3 492), (492, o_call m_L_witness 3 601024 7293034 495 mj_rs), (495, o_is 5 497), (497, o_al 2 498), (498, o_al 0 499), (499, o_il 4 501), (501, o_ic 1 502), (502, o_iadd 503), (503, o_sal L sc 504), (504, o_call m_M_witness 2 601024 7293034 507 (mj_rv 6)), (507, o_is 6 509), (509, o_al 2 510), (510, o_call m_M_thrown 1 601024 7293034 513 (mj_rv 6)), (513, o_il 5 515), (515, o_iceq 520 518), (518, o_ic 0 519), (519, o_zret 601024 7293034), (520, o_il 5 522), (522, o_ifne 537 525), (525, o_al 3 526), (526, o_ic 0 527), (527, o_lal 528), (528, o_il 6 530), (530, o_i2l 531), (531, o_lcmp 532), (532, o_ifeq 537 535), (535, o_ic 0 536), (536, o_zret 601024 7293034), (537, o_goto 1413), (540, o_al 1 541), (541, o_al 0 542), (542, o_il 4 544), (544, o_ic 1 545), (545, o_iadd 546), (546, o_sal L sc 547), (547, o_al 0 548), (548, o_il 4 550), (550, o_ic 2 551), (551, o_iadd 552), (552, o_sal L sc 553), (553, o_al 0 554), (554, o_il 4 556), (556, o_ic 3 557), (557, o_iadd 558), (558, o_sal L sc 559), (559, o_al 3 560), (560, o_call m_L_least 5 601024 7293034 563 mj_rs), (563, o_is 5 565), (565, o_al 2 566), (566, o_al 0 567), (567, o_il 4 569), (569, o_ic 1 570), (570, o_iadd 571), (571, o_sal L sc 572), (572, o_al 0 573), (573, o_il 4 575), (575, o_ic 2 576), (576, o_iadd 577), (577, o_sal L sc 578), (578, o_al 0 579), (579, o_il 4 581), (581, o_ic 3 582), (582, o_iadd 583), (583, o_sal L sc 584), (584, o_call m_M_least 4 601024 7293034 587 (mj_rv 6)), (587, o_is 6 589), (589, o_al 2 590), (590, o_call m_M_thrown 1 601024 7293034 593 (mj_rv 6)), (593, o_il 5 595), (595, o_iceq 600 598), (598, o_ic 0 599), (599, o_zret 601024 7293034), (600, o_il 5 602), (602, o_ifne 617 605), (605, o_al 3 606), (606, o_ic 0 607), (607, o_lal 608), (608, o_il 6 610), (610, o_i2l 611), (611, o_lcmp 612), (612, o_ifeq 617 615), (615, o_ic 0 616), (616, o_zret 601024 7293034), (617, o_goto 1413), (620, o_al 1 621), (621, o_al 0 622), (622, o_il 4 624), (624, o_ic 1 625), (625, o_iadd 626), (626, o_sal L sc 627), (627, o_al 0 628), (628, o_il 4 630), (630, o_ic 2 631), (631, o_iadd 632), (632, o_sal L sc 633), (633, o_al 3 634), (634, o_call m_L_greatest 4 601024 7293034 637 mj_rs), (637, o_is 5 639), (639, o_al 2 640), (640, o_al 0 641), (641, o_il 4 643), (643, o_ic 1 644), (644, o_iadd 645), (645, o_sal L sc 646), (646, o_al 0 647), (647, o_il 4 649), (649, o_ic 2 650), (650, o_iadd 651), (651, o_sal L sc 652), (652, o_call m_M_greatest 3 601024 7293034 655 (mj_rv 6)), (655, o_is 6 657), (657, o_al 2 658), (658, o_call m_M_thrown 1 601024 7293034 661 (mj_rv 6)), (661, o_il 5 663), (663, o_iceq 668 666), (666, o_ic 0 667), (667, o_zret 601024 7293034), (668, o_il 5 670), (670, o_ifne 685 673), (673, o_al 3 674), (674, o_ic 0 675), (675, o_lal 676), (676, o_il 6 678), (678, o_i2l 679), (679, o_lcmp 680), (680, o_ifeq 685 683), (683, o_ic 0 684), (684, o_zret 601024 7293034), (685, o_goto 1413), (688, o_al 1 689), (689, o_al 0 690), (690, o_il 4 692), (692, o_ic 1 693), (693, o_iadd 694), (694, o_sal L sc 695), (695, o_al 0 696), (696, o_il 4 698), (698, o_ic 2 699), (699, o_iadd 700), (700, o_sal L sc 701), (701, o_al 3 702), (702, o_call m_L_same 4 601024 7293034 705 mj_rs), (705, o_is 5 707), (707, o_al 2 708), (708, o_al 0 709), (709, o_il 4 711), (711, o_ic 1 712), (712, o_iadd 713), (713, o_sal L sc 714), (714, o_al 0 715), (715, o_il 4 717), (717, o_ic 2 718), (718, o_iadd 719), (719, o_sal L sc 720), (720, o_call m_M_same 3 601024 7293034 723 (mj_rv 6)), (723, o_is 6 725), (725, o_al 2 726), (726, o_call m_M_thrown 1 601024 7293034 729 (mj_rv 6)), (729, o_il 5 731), (731, o_iceq 736 734), (734, o_ic 0 735), (735, o_zret 601024 7293034), (736, o_il 5 738), (738, o_ifne 753 741), (741, o_al 3 742), (742, o_ic 0 743), (743, o_lal 744), (744, o_il 6 746), (746, o_i2l 747), (747, o_lcmp 748), (748, o_ifeq 753 751), (751, o_ic 0 752), (752, o_zret 601024 7293034), (753, o_goto 1413), (756, o_al 1 757), (757, o_al 0 758), (758, o_il 4 760), (760, o_ic 1 761), (761, o_iadd 762), (762, o_sal L sc 763), (763, o_al 0 764), (764, o_il 4 766), (766, o_ic 2 767), (767, o_iadd 768), (768, o_sal L sc 769), (769, o_al 0 770), (770, o_il 4 772), (772, o_ic 3 773), (773, o_iadd 774), (774, o_sal L sc 775), (775, o_al 3 776), (776, o_call m_L_implies 5 601024 7293034 779 mj_rs), (779, o_is 5 781), (781, o_al 2 782), (782, o_al 0 783), (783, o_il 4 785), (785, o_ic 1 786), (786, o_iadd 787), (787, o_sal L sc 788), (788, o_al 0 789), (789, o_il 4 791), (791, o_ic 2 792), (792, o_iadd 793), (793, o_sal L sc 794), (794, o_al 0 795), (795, o_il 4 797), (797, o_ic 3 798), (798, o_iadd 799), (799, o_sal L sc 800), (800, o_call m_M_implies 4 601024 7293034 803 (mj_rv 6)), (803, o_is 6 805), (805, o_al 2 806), (806, o_call m_M_thrown 1 601024 7293034 809 (mj_rv 6)), (809, o_il 5 811), (811, o_iceq 816 814), (814, o_ic 0 815), (815, o_zret 601024 7293034), (816, o_il 5 818), (818, o_ifne 840 821), (821, o_al 3 822), (822, o_ic 0 823), (823, o_lal 824), (824, o_il 6 826), (826, o_ifeq 833 829), (829, o_lc 1#64 830), (830, o_goto 834), (833, o_lc 0#64 834), (834, o_lcmp 835), (835, o_ifeq 840 838), (838, o_ic 0 839), (839, o_zret 601024 7293034), (840, o_goto 1413), (843, o_al 1 844), (844, o_al 0 845), (845, o_il 4 847), (847, o_ic 1 848), (848, o_iadd 849), (849, o_sal L sc 850), (850, o_al 0 851), (851, o_il 4 853), (853, o_ic 2 854), (854, o_iadd 855), (855, o_sal L sc 856), (856, o_al 0 857), (857, o_il 4 859), (859, o_ic 3 860), (860, o_iadd 861), (861, o_sal L sc 862), (862, o_al 3 863), (863, o_call m_L_depends 5 601024 7293034 866 mj_rs), (866, o_is 5 868), (868, o_al 2 869), (869, o_al 0 870), (870, o_il 4 872), (872, o_ic 1 873), (873, o_iadd 874), (874, o_sal L sc 875), (875, o_al 0 876), (876, o_il 4 878), (878, o_ic 2 879), (879, o_iadd 880), (880, o_sal L sc 881), (881, o_al 0 882), (882, o_il 4 884), (884, o_ic 3 885), (885, o_iadd 886), (886, o_sal L sc 887), (887, o_call m_M_depends 4 601024 7293034 890 (mj_rv 6)), (890, o_is 6 892), (892, o_al 2 893), (893, o_call m_M_thrown 1 601024 7293034 896 (mj_rv 6)), (896, o_il 5 898), (898, o_iceq 903 901), (901, o_ic 0 902), (902, o_zret 601024 7293034), (903, o_il 5 905), (905, o_ifne 927 908), (908, o_al 3 909), (909, o_ic 0 910), (910, o_lal 911), (911, o_il 6 913), (913, o_ifeq 920 916), (916, o_lc 1#64 917), (917, o_goto 921), (920, o_lc 0#64 921), (921, o_lcmp 922), (922, o_ifeq 927 925), (925, o_ic 0 926), (926, o_zret 601024 7293034), (927, o_goto 1413), (930, o_al 1 931), (931, o_al 0 932), (932, o_il 4 934), (934, o_ic 1 935), (935, o_iadd 936), (936, o_sal L sc 937), (937, o_al 0 938), (938, o_il 4 940), (940, o_ic 2 941), (941, o_iadd 942), (942, o_sal L sc 943), (943, o_al 0 944), (944, o_il 4 946), (946, o_ic 3 947), (947, o_iadd 948), (948, o_sal L sc 949), (949, o_al 3 950), (950, o_call m_L_rises 5 601024 7293034 953 mj_rs), (953, o_is 5 955), (955, o_al 2 956), (956, o_al 0 957), (957, o_il 4 959), (959, o_ic 1 960), (960, o_iadd 961), (961, o_sal L sc 962), (962, o_al 0 963), (963, o_il 4 965), (965, o_ic 2 966), (966, o_iadd 967), (967, o_sal L sc 968), (968, o_al 0 969), (969, o_il 4 971), (971, o_ic 3 972), (972, o_iadd 973), (973, o_sal L sc 974), (974, o_call m_M_rises 4 601024 7293034 977 (mj_rv 6)), (977, o_is 6 979), (979, o_al 2 980), (980, o_call m_M_thrown 1 601024 7293034 983 (mj_rv 6)), (983, o_il 5 985), (985, o_iceq 990 988), (988, o_ic 0 989), (989, o_zret 601024 7293034), (990, o_il 5 992), (992, o_ifne 1007 995), (995, o_al 3 996), (996, o_ic 0 997), (997, o_lal 998), (998, o_il 6 1000), (1000, o_i2l 1001), (1001, o_lcmp 1002), (1002, o_ifeq 1007 1005), (1005, o_ic 0 1006), (1006, o_zret 601024 7293034), (1007, o_goto 1413), (1010, o_al 1 1011), (1011, o_al 0 1012), (1012, o_il 4 1014), (1014, o_ic 1 1015), (1015, o_iadd 1016), (1016, o_sal L sc 1017), (1017, o_al 0 1018), (1018, o_il 4 1020), (1020, o_ic 2 1021), (1021, o_iadd 1022), (1022, o_sal L sc 1023), (1023, o_al 3 1024), (1024, o_call m_L_leader 4 601024 7293034 1027 mj_rs), (1027, o_is 5 1029), (1029, o_al 2 1030), (1030, o_al 0 1031), (1031, o_il 4 1033), (1033, o_ic 1 1034), (1034, o_iadd 1035), (1035, o_sal L sc 1036), (1036, o_al 0 1037), (1037, o_il 4 1039), (1039, o_ic 2 1040), (1040, o_iadd 1041), (1041, o_sal L sc 1042), (1042, o_call m_M_leader 3 601024 7293034 1045 (mj_rv 6)), (1045, o_is 6 1047), (1047, o_al 2 1048), (1048, o_call m_M_thrown 1 601024 7293034 1051 (mj_rv 6)), (1051, o_il 5 1053), (1053, o_iceq 1058 1056), (1056, o_ic 0 1057), (1057, o_zret 601024 7293034), (1058, o_il 5 1060), (1060, o_ifne 1075 1063), (1063, o_al 3 1064), (1064, o_ic 0 1065), (1065, o_lal 1066), (1066, o_il 6 1068), (1068, o_i2l 1069), (1069, o_lcmp 1070), (1070, o_ifeq 1075 1073), (1073, o_ic 0 1074), (1074, o_zret 601024 7293034), (1075, o_goto 1413), (1078, o_al 1 1079), (1079, o_al 0 1080), (1080, o_il 4 1082), (1082, o_ic 1 1083), (1083, o_iadd 1084), (1084, o_sal L sc 1085), (1085, o_al 3 1086), (1086, o_call m_L_functions 3 601024 7293034 1089 mj_rs), (1089, o_is 5 1091), (1091, o_al 2 1092), (1092, o_al 0 1093), (1093, o_il 4 1095), (1095, o_ic 1 1096), (1096, o_iadd 1097), (1097, o_sal L sc 1098), (1098, o_call m_M_functions 2 601024 7293034 1101 (mj_rv 6)), (1101, o_is 6 1103), (1103, o_al 2 1104), (1104, o_call m_M_thrown 1 601024 7293034 1107 (mj_rv 6)), (1107, o_il 5 1109), (1109, o_iceq 1114 1112), (1112, o_ic 0 1113), (1113, o_zret 601024 7293034), (1114, o_il 5 1116), (1116, o_ifne 1131 1119), (1119, o_al 3 1120), (1120, o_ic 0 1121), (1121, o_lal 1122), (1122, o_il 6 1124), (1124, o_i2l 1125), (1125, o_lcmp 1126), (1126, o_ifeq 1131 1129), (1129, o_ic 0 1130), (1130, o_zret 601024 7293034), (1131, o_goto 1413), (1134, o_al 1 1135), (1135, o_al 3 1136), (1136, o_call m_L_allFunctions 2 601024 7293034 1139 mj_rs), (1139, o_is 5 1141), (1141, o_al 2 1142), (1142, o_call m_M_allFunctions 1 601024 7293034 1145 (mj_rv 6)), (1145, o_is 6 1147), (1147, o_al 2 1148), (1148, o_call m_M_thrown 1 601024 7293034 1151 (mj_rv 6)), (1151, o_il 5 1153), (1153, o_iceq 1158 1156), (1156, o_ic 0 1157), (1157, o_zret 601024 7293034), (1158, o_il 5 1160), (1160, o_ifne 1175 1163), (1163, o_al 3 1164), (1164, o_ic 0 1165), (1165, o_lal 1166), (1166, o_il 6 1168), (1168, o_i2l 1169), (1169, o_lcmp 1170), (1170, o_ifeq 1175 1173), (1173, o_ic 0 1174), (1174, o_zret 601024 7293034), (1175, o_goto 1413), (1178, o_al 1 1179), (1179, o_al 0 1180), (1180, o_il 4 1182), (1182, o_ic 1 1183), (1183, o_iadd 1184), (1184, o_sal L sc 1185), (1185, o_al 0 1186), (1186, o_il 4 1188), (1188, o_ic 2 1189), (1189, o_iadd 1190), (1190, o_sal L sc 1191), (1191, o_ifeq 1198 1194), (1194, o_ic 1 1195), (1195, o_goto 1199), (1198, o_ic 0 1199), (1199, o_al 0 1200), (1200, o_il 4 1202), (1202, o_ic 3 1203), (1203, o_iadd 1204), (1204, o_sal L sc 1205), (1205, o_ifeq 1212 1208), (1208, o_ic 1 1209), (1209, o_goto 1213), (1212, o_ic 0 1213), (1213, o_al 3 1214), (1214, o_call m_L_write 5 601024 7293034 1217 mj_rs), (1217, o_is 5 1219), (1219, o_al 2 1220), (1220, o_al 0 1221), (1221, o_il 4 1223), (1223, o_ic 1 1224), (1224, o_iadd 1225), (1225, o_sal L sc 1226), (1226, o_al 0 1227), (1227, o_il 4 1229), (1229, o_ic 2 1230), (1230, o_iadd 1231), (1231, o_sal L sc 1232), (1232, o_ifeq 1239 1235), (1235, o_ic 1 1236), (1236, o_goto 1240), (1239, o_ic 0 1240), (1240, o_al 0 1241), (1241, o_il 4 1243), (1243, o_ic 3 1244), (1244, o_iadd 1245), (1245, o_sal L sc 1246), (1246, o_ifeq 1253 1249), (1249, o_ic 1 1250), (1250, o_goto 1254), (1253, o_ic 0 1254), (1254, o_call m_M_write 4 601024 7293034 1257 (mj_rv 6)), (1257, o_is 6 1259), (1259, o_al 2 1260), (1260, o_call m_M_thrown 1 601024 7293034 1263 (mj_rv 6)), (1263, o_il 5 1265), (1265, o_iceq 1270 1268), (1268, o_ic 0 1269), (1269, o_zret 601024 7293034), (1270, o_il 5 1272), (1272, o_ifne 1287 1275), (1275, o_al 3 1276), (1276, o_ic 0 1277), (1277, o_lal 1278), (1278, o_il 6 1280), (1280, o_i2l 1281), (1281, o_lcmp 1282), (1282, o_ifeq 1287 1285), (1285, o_ic 0 1286), (1286, o_zret 601024 7293034), (1287, o_goto 1413), (1290, o_al 1 1291), (1291, o_al 0 1292), (1292, o_il 4 1294), (1294, o_ic 1 1295), (1295, o_iadd 1296), (1296, o_sal L sc 1297), (1297, o_al 3 1298), (1298, o_call m_L_out 3 601024 7293034 1301 mj_rs), (1301, o_is 5 1303), (1303, o_al 2 1304), (1304, o_al 0 1305), (1305, o_il 4 1307), (1307, o_ic 1 1308), (1308, o_iadd 1309), (1309, o_sal L sc 1310), (1310, o_call m_M_out 2 601024 7293034 1313 (mj_rv 6)), (1313, o_ls 6 1315), (1315, o_al 2 1316), (1316, o_call m_M_thrown 1 601024 7293034 1319 (mj_rv 6)), (1319, o_il 5 1321), (1321, o_iceq 1326 1324), (1324, o_ic 0 1325), (1325, o_zret 601024 7293034), (1326, o_il 5 1328), (1328, o_ifne 1342 1331), (1331, o_al 3 1332), (1332, o_ic 0 1333), (1333, o_lal 1334), (1334, o_ll 6 1336), (1336, o_lcmp 1337), (1337, o_ifeq 1342 1340), (1340, o_ic 0 1341), (1341, o_zret 601024 7293034), (1342, o_goto 1413), (1345, o_al 1 1346), (1346, o_al 0 1347), (1347, o_il 4 1349), (1349, o_ic 1 1350), (1350, o_iadd 1351), (1351, o_sal L sc 1352), (1352, o_al 0 1353), (1353, o_il 4 1355), (1355, o_ic 2 1356), (1356, o_iadd 1357), (1357, o_sal L sc 1358), (1358, o_al 3 1359), (1359, o_call m_L_look 4 601024 7293034 1362 mj_rs), (1362, o_is 5 1364), (1364, o_al 2 1365), (1365, o_al 0 1366), (1366, o_il 4 1368), (1368, o_ic 1 1369), (1369, o_iadd 1370), (1370, o_sal L sc 1371), (1371, o_al 0 1372), (1372, o_il 4 1374), (1374, o_ic 2 1375), (1375, o_iadd 1376), (1376, o_sal L sc 1377), (1377, o_call m_M_look 3 601024 7293034 1380 (mj_rv 6)), (1380, o_is 6 1382), (1382, o_al 2 1383), (1383, o_call m_M_thrown 1 601024 7293034 1386 (mj_rv 6)), (1386, o_il 5 1388), (1388, o_iceq 1393 1391), (1391, o_ic 0 1392), (1392, o_zret 601024 7293034), (1393, o_il 5 1395), (1395, o_ifne 1410 1398), (1398, o_al 3 1399), (1399, o_ic 0 1400), (1400, o_lal 1401), (1401, o_il 6 1403), (1403, o_i2l 1404), (1404, o_lcmp 1405), (1405, o_ifeq 1410 1408), (1408, o_ic 0 1409), (1409, o_zret 601024 7293034), (1410, o_goto 1413), (1413, o_inc 4 4 1416), (1416, o_goto 23), (1419, o_ic 1 1420), (1420, o_zret 601024 7293034)]
set_option maxRecDepth 100000 in
theorem z_L_law (L : Nat) (sc : Nat → Int) : mj_Code (m_L_law L sc) (q_L_law L sc) :=
  mj_c1 (k_new (idx := 8) (show decode code 0 = .ok (.new 8, 3) by decide +kernel) h_T (by decide) w_18 w_19 w_1) <|
  mj_c1 (k_dup (show decode code 3 = .ok (.dup, 1) by decide +kernel)) <|
  mj_c1 (k_callI (idx := 77) (show decode code 4 = .ok (.invokespecial 77, 3) by decide +kernel) (fit_m_L_law_m_T_init) rfl w_20 w_21 w_22 rfl (by decide) (by decide +kernel)) <|
  mj_c1 (k_astoren (k := 1) (show decode code 7 = .ok (.astore_n 1, 1) by decide +kernel) rfl (Nat.le_of_ble_eq_true rfl)) <|
  mj_c1 (k_new (idx := 78) (show decode code 8 = .ok (.new 78, 3) by decide +kernel) h_M (by decide) w_839 w_840 w_8) <|
  mj_c1 (k_dup (show decode code 11 = .ok (.dup, 1) by decide +kernel)) <|
  mj_c1 (k_callI (idx := 80) (show decode code 12 = .ok (.invokespecial 80, 3) by decide +kernel) (fit_m_L_law_m_M_init) rfl w_841 w_842 w_843 rfl (by decide) (by decide +kernel)) <|
  mj_c1 (k_astoren (k := 2) (show decode code 15 = .ok (.astore_n 2, 1) by decide +kernel) rfl (Nat.le_of_ble_eq_true rfl)) <|
  mj_c1 (k_iconst (show decode code 16 = .ok (.iconst 1, 1) by decide +kernel)) <|
  mj_c1 (k_na (at0 := .long) (show decode code 17 = .ok (.newarray .long, 2) by decide +kernel) rfl (Or.inr (Or.inr (Or.inr ⟨rfl, rfl⟩))) w_154) <|
  mj_c1 (k_astoren (k := 3) (show decode code 19 = .ok (.astore_n 3, 1) by decide +kernel) rfl (Nat.le_of_ble_eq_true rfl)) <|
  mj_c1 (k_iconst (show decode code 20 = .ok (.iconst 0, 1) by decide +kernel)) <|
  mj_c1 (k_istore (show decode code 21 = .ok (.istore 4, 2) by decide +kernel) (Nat.le_of_ble_eq_true rfl)) <|
  mj_c1 (k_iload (show decode code 23 = .ok (.iload 4, 2) by decide +kernel)) <|
  mj_c1 (k_aloadn (k := 0) (show decode code 25 = .ok (.aload_n 0, 1) by decide +kernel) rfl) <|
  mj_c1 (k_slen (show decode code 26 = .ok (.arraylength, 1) by decide +kernel) rfl) <|
  mj_c1 (k_iconst (show decode code 27 = .ok (.iconst 4, 1) by decide +kernel)) <|
  mj_c1 (k_isub (show decode code 28 = .ok (.isub, 1) by decide +kernel)) <|
  mj_c1 (k_icgt (off := 1390) (show decode code 29 = .ok (.if_icmp .gt 1390, 3) by decide +kernel) (by decide)) <|
  mj_c1 (k_aloadn (k := 0) (show decode code 32 = .ok (.aload_n 0, 1) by decide +kernel) rfl) <|
  mj_c1 (k_iload (show decode code 33 = .ok (.iload 4, 2) by decide +kernel)) <|
  mj_c1 (k_sal (show decode code 35 = .ok (.iaload, 1) by decide +kernel) rfl) <|
  mj_c1 (k_bipush (show decode code 36 = .ok (.bipush 31, 2) by decide +kernel) (by decide)) <|
  mj_c1 (k_iand (show decode code 38 = .ok (.iand, 1) by decide +kernel)) <|
  mj_c1 (k_tsw (d := 1374) (lo := 0) (hi := 17) (offs := #[85, 185, 241, 321, 401, 445, 501, 581, 649, 717, 804, 891, 971, 1039, 1095, 1139, 1251, 1306]) (len := 85) (show decode code 39 = .ok (.tableswitch 1374 0 17 #[85, 185, 241, 321, 401, 445, 501, 581, 649, 717, 804, 891, 971, 1039, 1095, 1139, 1251, 1306], 85) by decide +kernel) rfl rfl (by decide) (by decide +kernel)) <|
  mj_c1 (k_aloadn (k := 1) (show decode code 124 = .ok (.aload_n 1, 1) by decide +kernel) rfl) <|
  mj_c1 (k_aloadn (k := 0) (show decode code 125 = .ok (.aload_n 0, 1) by decide +kernel) rfl) <|
  mj_c1 (k_iload (show decode code 126 = .ok (.iload 4, 2) by decide +kernel)) <|
  mj_c1 (k_iconst (show decode code 128 = .ok (.iconst 1, 1) by decide +kernel)) <|
  mj_c1 (k_iadd (show decode code 129 = .ok (.iadd, 1) by decide +kernel)) <|
  mj_c1 (k_sal (show decode code 130 = .ok (.iaload, 1) by decide +kernel) rfl) <|
  mj_c1 (k_aloadn (k := 0) (show decode code 131 = .ok (.aload_n 0, 1) by decide +kernel) rfl) <|
  mj_c1 (k_iload (show decode code 132 = .ok (.iload 4, 2) by decide +kernel)) <|
  mj_c1 (k_iconst (show decode code 134 = .ok (.iconst 2, 1) by decide +kernel)) <|
  mj_c1 (k_iadd (show decode code 135 = .ok (.iadd, 1) by decide +kernel)) <|
  mj_c1 (k_sal (show decode code 136 = .ok (.iaload, 1) by decide +kernel) rfl) <|
  mj_c1 (k_i2l (show decode code 137 = .ok (.i2l, 1) by decide +kernel)) <|
  mj_c1 (k_bipush (show decode code 138 = .ok (.bipush 32, 2) by decide +kernel) (by decide)) <|
  mj_c1 (k_lshl (show decode code 140 = .ok (.lshl, 1) by decide +kernel)) <|
  mj_c1 (k_aloadn (k := 0) (show decode code 141 = .ok (.aload_n 0, 1) by decide +kernel) rfl) <|
  mj_c1 (k_iload (show decode code 142 = .ok (.iload 4, 2) by decide +kernel)) <|
  mj_c1 (k_iconst (show decode code 144 = .ok (.iconst 3, 1) by decide +kernel)) <|
  mj_c1 (k_iadd (show decode code 145 = .ok (.iadd, 1) by decide +kernel)) <|
  mj_c1 (k_sal (show decode code 146 = .ok (.iaload, 1) by decide +kernel) rfl) <|
  mj_c1 (k_i2l (show decode code 147 = .ok (.i2l, 1) by decide +kernel)) <|
  mj_c1 (k_ldc2 (idx := 81) (show decode code 148 = .ok (.ldc2_w 81, 3) by decide +kernel) w_1196) <|
  mj_c1 (k_land (show decode code 151 = .ok (.land, 1) by decide +kernel)) <|
  mj_c1 (k_lor (show decode code 152 = .ok (.lor, 1) by decide +kernel)) <|
  mj_c1 (k_aloadn (k := 3) (show decode code 153 = .ok (.aload_n 3, 1) by decide +kernel) rfl) <|
  mj_c1 (k_callS (idx := 83) (show decode code 154 = .ok (.invokestatic 83, 3) by decide +kernel) (fit_m_L_law_m_L_feed) rfl w_312 w_313 (by decide) (by decide +kernel)) <|
  mj_c1 (k_istore (show decode code 157 = .ok (.istore 5, 2) by decide +kernel) (Nat.le_of_ble_eq_true rfl)) <|
  mj_c1 (k_aloadn (k := 2) (show decode code 159 = .ok (.aload_n 2, 1) by decide +kernel) rfl) <|
  mj_c1 (k_aloadn (k := 0) (show decode code 160 = .ok (.aload_n 0, 1) by decide +kernel) rfl) <|
  mj_c1 (k_iload (show decode code 161 = .ok (.iload 4, 2) by decide +kernel)) <|
  mj_c1 (k_iconst (show decode code 163 = .ok (.iconst 1, 1) by decide +kernel)) <|
  mj_c1 (k_iadd (show decode code 164 = .ok (.iadd, 1) by decide +kernel)) <|
  mj_c1 (k_sal (show decode code 165 = .ok (.iaload, 1) by decide +kernel) rfl) <|
  mj_c1 (k_aloadn (k := 0) (show decode code 166 = .ok (.aload_n 0, 1) by decide +kernel) rfl) <|
  mj_c1 (k_iload (show decode code 167 = .ok (.iload 4, 2) by decide +kernel)) <|
  mj_c1 (k_iconst (show decode code 169 = .ok (.iconst 2, 1) by decide +kernel)) <|
  mj_c1 (k_iadd (show decode code 170 = .ok (.iadd, 1) by decide +kernel)) <|
  mj_c1 (k_sal (show decode code 171 = .ok (.iaload, 1) by decide +kernel) rfl) <|
  mj_c1 (k_i2l (show decode code 172 = .ok (.i2l, 1) by decide +kernel)) <|
  mj_c1 (k_bipush (show decode code 173 = .ok (.bipush 32, 2) by decide +kernel) (by decide)) <|
  mj_c1 (k_lshl (show decode code 175 = .ok (.lshl, 1) by decide +kernel)) <|
  mj_c1 (k_aloadn (k := 0) (show decode code 176 = .ok (.aload_n 0, 1) by decide +kernel) rfl) <|
  mj_c1 (k_iload (show decode code 177 = .ok (.iload 4, 2) by decide +kernel)) <|
  mj_c1 (k_iconst (show decode code 179 = .ok (.iconst 3, 1) by decide +kernel)) <|
  mj_c1 (k_iadd (show decode code 180 = .ok (.iadd, 1) by decide +kernel)) <|
  mj_c1 (k_sal (show decode code 181 = .ok (.iaload, 1) by decide +kernel) rfl) <|
  mj_c1 (k_i2l (show decode code 182 = .ok (.i2l, 1) by decide +kernel)) <|
  mj_c1 (k_ldc2 (idx := 81) (show decode code 183 = .ok (.ldc2_w 81, 3) by decide +kernel) w_1196) <|
  mj_c1 (k_land (show decode code 186 = .ok (.land, 1) by decide +kernel)) <|
  mj_c1 (k_lor (show decode code 187 = .ok (.lor, 1) by decide +kernel)) <|
  mj_c1 (k_callV (idx := 88) (show decode code 188 = .ok (.invokevirtual 88, 3) by decide +kernel) (fit_m_L_law_m_M_feed) rfl rfl w_941 w_942 w_943 (by decide) (by decide +kernel)) <|
  mj_c1 (k_istore (show decode code 191 = .ok (.istore 6, 2) by decide +kernel) (Nat.le_of_ble_eq_true rfl)) <|
  mj_c1 (k_aloadn (k := 2) (show decode code 193 = .ok (.aload_n 2, 1) by decide +kernel) rfl) <|
  mj_c1 (k_callV (idx := 89) (show decode code 194 = .ok (.invokevirtual 89, 3) by decide +kernel) (fit_m_L_law_m_M_thrown) rfl rfl w_937 w_938 w_939 (by decide) (by decide +kernel)) <|
  mj_c1 (k_iload (show decode code 197 = .ok (.iload 5, 2) by decide +kernel)) <|
  mj_c1 (k_iceq (off := 5) (show decode code 199 = .ok (.if_icmp .eq 5, 3) by decide +kernel) (by decide)) <|
  mj_c1 (k_iconst (show decode code 202 = .ok (.iconst 0, 1) by decide +kernel)) <|
  mj_c1 (k_zret (show decode code 203 = .ok (.ireturn, 1) by decide +kernel) rfl) <|
  mj_c1 (k_iload (show decode code 204 = .ok (.iload 5, 2) by decide +kernel)) <|
  mj_c1 (k_ifne (off := 15) (show decode code 206 = .ok (.ifCond .ne 15, 3) by decide +kernel) (by decide)) <|
  mj_c1 (k_aloadn (k := 3) (show decode code 209 = .ok (.aload_n 3, 1) by decide +kernel) rfl) <|
  mj_c1 (k_iconst (show decode code 210 = .ok (.iconst 0, 1) by decide +kernel)) <|
  mj_c1 (k_lal (show decode code 211 = .ok (.laload, 1) by decide +kernel)) <|
  mj_c1 (k_iload (show decode code 212 = .ok (.iload 6, 2) by decide +kernel)) <|
  mj_c1 (k_i2l (show decode code 214 = .ok (.i2l, 1) by decide +kernel)) <|
  mj_c1 (k_lcmp (show decode code 215 = .ok (.lcmp, 1) by decide +kernel)) <|
  mj_c1 (k_ifeq (off := 5) (show decode code 216 = .ok (.ifCond .eq 5, 3) by decide +kernel) (by decide)) <|
  mj_c1 (k_iconst (show decode code 219 = .ok (.iconst 0, 1) by decide +kernel)) <|
  mj_c1 (k_zret (show decode code 220 = .ok (.ireturn, 1) by decide +kernel) rfl) <|
  mj_c1 (k_goto (off := 1192) (show decode code 221 = .ok (.goto 1192, 3) by decide +kernel) (by decide)) <|
  mj_c1 (k_aloadn (k := 1) (show decode code 224 = .ok (.aload_n 1, 1) by decide +kernel) rfl) <|
  mj_c1 (k_aloadn (k := 0) (show decode code 225 = .ok (.aload_n 0, 1) by decide +kernel) rfl) <|
  mj_c1 (k_iload (show decode code 226 = .ok (.iload 4, 2) by decide +kernel)) <|
  mj_c1 (k_iconst (show decode code 228 = .ok (.iconst 1, 1) by decide +kernel)) <|
  mj_c1 (k_iadd (show decode code 229 = .ok (.iadd, 1) by decide +kernel)) <|
  mj_c1 (k_sal (show decode code 230 = .ok (.iaload, 1) by decide +kernel) rfl) <|
  mj_c1 (k_aloadn (k := 3) (show decode code 231 = .ok (.aload_n 3, 1) by decide +kernel) rfl) <|
  mj_c1 (k_callS (idx := 92) (show decode code 232 = .ok (.invokestatic 92, 3) by decide +kernel) (fit_m_L_law_m_L_load) rfl w_408 w_409 (by decide) (by decide +kernel)) <|
  mj_c1 (k_istore (show decode code 235 = .ok (.istore 5, 2) by decide +kernel) (Nat.le_of_ble_eq_true rfl)) <|
  mj_c1 (k_aloadn (k := 2) (show decode code 237 = .ok (.aload_n 2, 1) by decide +kernel) rfl) <|
  mj_c1 (k_aloadn (k := 0) (show decode code 238 = .ok (.aload_n 0, 1) by decide +kernel) rfl) <|
  mj_c1 (k_iload (show decode code 239 = .ok (.iload 4, 2) by decide +kernel)) <|
  mj_c1 (k_iconst (show decode code 241 = .ok (.iconst 1, 1) by decide +kernel)) <|
  mj_c1 (k_iadd (show decode code 242 = .ok (.iadd, 1) by decide +kernel)) <|
  mj_c1 (k_sal (show decode code 243 = .ok (.iaload, 1) by decide +kernel) rfl) <|
  mj_c1 (k_callV (idx := 95) (show decode code 244 = .ok (.invokevirtual 95, 3) by decide +kernel) (fit_m_L_law_m_M_load) rfl rfl w_949 w_950 w_951 (by decide) (by decide +kernel)) <|
  mj_c1 (k_istore (show decode code 247 = .ok (.istore 6, 2) by decide +kernel) (Nat.le_of_ble_eq_true rfl)) <|
  mj_c1 (k_aloadn (k := 2) (show decode code 249 = .ok (.aload_n 2, 1) by decide +kernel) rfl) <|
  mj_c1 (k_callV (idx := 89) (show decode code 250 = .ok (.invokevirtual 89, 3) by decide +kernel) (fit_m_L_law_m_M_thrown) rfl rfl w_937 w_938 w_939 (by decide) (by decide +kernel)) <|
  mj_c1 (k_iload (show decode code 253 = .ok (.iload 5, 2) by decide +kernel)) <|
  mj_c1 (k_iceq (off := 5) (show decode code 255 = .ok (.if_icmp .eq 5, 3) by decide +kernel) (by decide)) <|
  mj_c1 (k_iconst (show decode code 258 = .ok (.iconst 0, 1) by decide +kernel)) <|
  mj_c1 (k_zret (show decode code 259 = .ok (.ireturn, 1) by decide +kernel) rfl) <|
  mj_c1 (k_iload (show decode code 260 = .ok (.iload 5, 2) by decide +kernel)) <|
  mj_c1 (k_ifne (off := 15) (show decode code 262 = .ok (.ifCond .ne 15, 3) by decide +kernel) (by decide)) <|
  mj_c1 (k_aloadn (k := 3) (show decode code 265 = .ok (.aload_n 3, 1) by decide +kernel) rfl) <|
  mj_c1 (k_iconst (show decode code 266 = .ok (.iconst 0, 1) by decide +kernel)) <|
  mj_c1 (k_lal (show decode code 267 = .ok (.laload, 1) by decide +kernel)) <|
  mj_c1 (k_iload (show decode code 268 = .ok (.iload 6, 2) by decide +kernel)) <|
  mj_c1 (k_i2l (show decode code 270 = .ok (.i2l, 1) by decide +kernel)) <|
  mj_c1 (k_lcmp (show decode code 271 = .ok (.lcmp, 1) by decide +kernel)) <|
  mj_c1 (k_ifeq (off := 5) (show decode code 272 = .ok (.ifCond .eq 5, 3) by decide +kernel) (by decide)) <|
  mj_c1 (k_iconst (show decode code 275 = .ok (.iconst 0, 1) by decide +kernel)) <|
  mj_c1 (k_zret (show decode code 276 = .ok (.ireturn, 1) by decide +kernel) rfl) <|
  mj_c1 (k_goto (off := 1136) (show decode code 277 = .ok (.goto 1136, 3) by decide +kernel) (by decide)) <|
  mj_c1 (k_aloadn (k := 1) (show decode code 280 = .ok (.aload_n 1, 1) by decide +kernel) rfl) <|
  mj_c1 (k_aloadn (k := 0) (show decode code 281 = .ok (.aload_n 0, 1) by decide +kernel) rfl) <|
  mj_c1 (k_iload (show decode code 282 = .ok (.iload 4, 2) by decide +kernel)) <|
  mj_c1 (k_iconst (show decode code 284 = .ok (.iconst 1, 1) by decide +kernel)) <|
  mj_c1 (k_iadd (show decode code 285 = .ok (.iadd, 1) by decide +kernel)) <|
  mj_c1 (k_sal (show decode code 286 = .ok (.iaload, 1) by decide +kernel) rfl) <|
  mj_c1 (k_aloadn (k := 0) (show decode code 287 = .ok (.aload_n 0, 1) by decide +kernel) rfl) <|
  mj_c1 (k_iload (show decode code 288 = .ok (.iload 4, 2) by decide +kernel)) <|
  mj_c1 (k_iconst (show decode code 290 = .ok (.iconst 2, 1) by decide +kernel)) <|
  mj_c1 (k_iadd (show decode code 291 = .ok (.iadd, 1) by decide +kernel)) <|
  mj_c1 (k_sal (show decode code 292 = .ok (.iaload, 1) by decide +kernel) rfl) <|
  mj_c1 (k_aloadn (k := 0) (show decode code 293 = .ok (.aload_n 0, 1) by decide +kernel) rfl) <|
  mj_c1 (k_iload (show decode code 294 = .ok (.iload 4, 2) by decide +kernel)) <|
  mj_c1 (k_iconst (show decode code 296 = .ok (.iconst 3, 1) by decide +kernel)) <|
  mj_c1 (k_iadd (show decode code 297 = .ok (.iadd, 1) by decide +kernel)) <|
  mj_c1 (k_sal (show decode code 298 = .ok (.iaload, 1) by decide +kernel) rfl) <|
  mj_c1 (k_aloadn (k := 3) (show decode code 299 = .ok (.aload_n 3, 1) by decide +kernel) rfl) <|
  mj_c1 (k_callS (idx := 96) (show decode code 300 = .ok (.invokestatic 96, 3) by decide +kernel) (fit_m_L_law_m_L_literal) rfl w_550 w_551 (by decide) (by decide +kernel)) <|
  mj_c1 (k_istore (show decode code 303 = .ok (.istore 5, 2) by decide +kernel) (Nat.le_of_ble_eq_true rfl)) <|
  mj_c1 (k_aloadn (k := 2) (show decode code 305 = .ok (.aload_n 2, 1) by decide +kernel) rfl) <|
  mj_c1 (k_aloadn (k := 0) (show decode code 306 = .ok (.aload_n 0, 1) by decide +kernel) rfl) <|
  mj_c1 (k_iload (show decode code 307 = .ok (.iload 4, 2) by decide +kernel)) <|
  mj_c1 (k_iconst (show decode code 309 = .ok (.iconst 1, 1) by decide +kernel)) <|
  mj_c1 (k_iadd (show decode code 310 = .ok (.iadd, 1) by decide +kernel)) <|
  mj_c1 (k_sal (show decode code 311 = .ok (.iaload, 1) by decide +kernel) rfl) <|
  mj_c1 (k_aloadn (k := 0) (show decode code 312 = .ok (.aload_n 0, 1) by decide +kernel) rfl) <|
  mj_c1 (k_iload (show decode code 313 = .ok (.iload 4, 2) by decide +kernel)) <|
  mj_c1 (k_iconst (show decode code 315 = .ok (.iconst 2, 1) by decide +kernel)) <|
  mj_c1 (k_iadd (show decode code 316 = .ok (.iadd, 1) by decide +kernel)) <|
  mj_c1 (k_sal (show decode code 317 = .ok (.iaload, 1) by decide +kernel) rfl) <|
  mj_c1 (k_aloadn (k := 0) (show decode code 318 = .ok (.aload_n 0, 1) by decide +kernel) rfl) <|
  mj_c1 (k_iload (show decode code 319 = .ok (.iload 4, 2) by decide +kernel)) <|
  mj_c1 (k_iconst (show decode code 321 = .ok (.iconst 3, 1) by decide +kernel)) <|
  mj_c1 (k_iadd (show decode code 322 = .ok (.iadd, 1) by decide +kernel)) <|
  mj_c1 (k_sal (show decode code 323 = .ok (.iaload, 1) by decide +kernel) rfl) <|
  mj_c1 (k_callV (idx := 99) (show decode code 324 = .ok (.invokevirtual 99, 3) by decide +kernel) (fit_m_L_law_m_M_literal) rfl rfl w_1052 w_1053 w_1054 (by decide) (by decide +kernel)) <|
  mj_c1 (k_istore (show decode code 327 = .ok (.istore 6, 2) by decide +kernel) (Nat.le_of_ble_eq_true rfl)) <|
  mj_c1 (k_aloadn (k := 2) (show decode code 329 = .ok (.aload_n 2, 1) by decide +kernel) rfl) <|
  mj_c1 (k_callV (idx := 89) (show decode code 330 = .ok (.invokevirtual 89, 3) by decide +kernel) (fit_m_L_law_m_M_thrown) rfl rfl w_937 w_938 w_939 (by decide) (by decide +kernel)) <|
  mj_c1 (k_iload (show decode code 333 = .ok (.iload 5, 2) by decide +kernel)) <|
  mj_c1 (k_iceq (off := 5) (show decode code 335 = .ok (.if_icmp .eq 5, 3) by decide +kernel) (by decide)) <|
  mj_c1 (k_iconst (show decode code 338 = .ok (.iconst 0, 1) by decide +kernel)) <|
  mj_c1 (k_zret (show decode code 339 = .ok (.ireturn, 1) by decide +kernel) rfl) <|
  mj_c1 (k_iload (show decode code 340 = .ok (.iload 5, 2) by decide +kernel)) <|
  mj_c1 (k_ifne (off := 15) (show decode code 342 = .ok (.ifCond .ne 15, 3) by decide +kernel) (by decide)) <|
  mj_c1 (k_aloadn (k := 3) (show decode code 345 = .ok (.aload_n 3, 1) by decide +kernel) rfl) <|
  mj_c1 (k_iconst (show decode code 346 = .ok (.iconst 0, 1) by decide +kernel)) <|
  mj_c1 (k_lal (show decode code 347 = .ok (.laload, 1) by decide +kernel)) <|
  mj_c1 (k_iload (show decode code 348 = .ok (.iload 6, 2) by decide +kernel)) <|
  mj_c1 (k_i2l (show decode code 350 = .ok (.i2l, 1) by decide +kernel)) <|
  mj_c1 (k_lcmp (show decode code 351 = .ok (.lcmp, 1) by decide +kernel)) <|
  mj_c1 (k_ifeq (off := 5) (show decode code 352 = .ok (.ifCond .eq 5, 3) by decide +kernel) (by decide)) <|
  mj_c1 (k_iconst (show decode code 355 = .ok (.iconst 0, 1) by decide +kernel)) <|
  mj_c1 (k_zret (show decode code 356 = .ok (.ireturn, 1) by decide +kernel) rfl) <|
  mj_c1 (k_goto (off := 1056) (show decode code 357 = .ok (.goto 1056, 3) by decide +kernel) (by decide)) <|
  mj_c1 (k_aloadn (k := 1) (show decode code 360 = .ok (.aload_n 1, 1) by decide +kernel) rfl) <|
  mj_c1 (k_aloadn (k := 0) (show decode code 361 = .ok (.aload_n 0, 1) by decide +kernel) rfl) <|
  mj_c1 (k_iload (show decode code 362 = .ok (.iload 4, 2) by decide +kernel)) <|
  mj_c1 (k_iconst (show decode code 364 = .ok (.iconst 1, 1) by decide +kernel)) <|
  mj_c1 (k_iadd (show decode code 365 = .ok (.iadd, 1) by decide +kernel)) <|
  mj_c1 (k_sal (show decode code 366 = .ok (.iaload, 1) by decide +kernel) rfl) <|
  mj_c1 (k_aloadn (k := 0) (show decode code 367 = .ok (.aload_n 0, 1) by decide +kernel) rfl) <|
  mj_c1 (k_iload (show decode code 368 = .ok (.iload 4, 2) by decide +kernel)) <|
  mj_c1 (k_iconst (show decode code 370 = .ok (.iconst 2, 1) by decide +kernel)) <|
  mj_c1 (k_iadd (show decode code 371 = .ok (.iadd, 1) by decide +kernel)) <|
  mj_c1 (k_sal (show decode code 372 = .ok (.iaload, 1) by decide +kernel) rfl) <|
  mj_c1 (k_aloadn (k := 0) (show decode code 373 = .ok (.aload_n 0, 1) by decide +kernel) rfl) <|
  mj_c1 (k_iload (show decode code 374 = .ok (.iload 4, 2) by decide +kernel)) <|
  mj_c1 (k_iconst (show decode code 376 = .ok (.iconst 3, 1) by decide +kernel)) <|
  mj_c1 (k_iadd (show decode code 377 = .ok (.iadd, 1) by decide +kernel)) <|
  mj_c1 (k_sal (show decode code 378 = .ok (.iaload, 1) by decide +kernel) rfl) <|
  mj_c1 (k_aloadn (k := 3) (show decode code 379 = .ok (.aload_n 3, 1) by decide +kernel) rfl) <|
  mj_c1 (k_callS (idx := 100) (show decode code 380 = .ok (.invokestatic 100, 3) by decide +kernel) (fit_m_L_law_m_L_value) rfl w_574 w_575 (by decide) (by decide +kernel)) <|
  mj_c1 (k_istore (show decode code 383 = .ok (.istore 5, 2) by decide +kernel) (Nat.le_of_ble_eq_true rfl)) <|
  mj_c1 (k_aloadn (k := 2) (show decode code 385 = .ok (.aload_n 2, 1) by decide +kernel) rfl) <|
  mj_c1 (k_aloadn (k := 0) (show decode code 386 = .ok (.aload_n 0, 1) by decide +kernel) rfl) <|
  mj_c1 (k_iload (show decode code 387 = .ok (.iload 4, 2) by decide +kernel)) <|
  mj_c1 (k_iconst (show decode code 389 = .ok (.iconst 1, 1) by decide +kernel)) <|
  mj_c1 (k_iadd (show decode code 390 = .ok (.iadd, 1) by decide +kernel)) <|
  mj_c1 (k_sal (show decode code 391 = .ok (.iaload, 1) by decide +kernel) rfl) <|
  mj_c1 (k_aloadn (k := 0) (show decode code 392 = .ok (.aload_n 0, 1) by decide +kernel) rfl) <|
  mj_c1 (k_iload (show decode code 393 = .ok (.iload 4, 2) by decide +kernel)) <|
  mj_c1 (k_iconst (show decode code 395 = .ok (.iconst 2, 1) by decide +kernel)) <|
  mj_c1 (k_iadd (show decode code 396 = .ok (.iadd, 1) by decide +kernel)) <|
  mj_c1 (k_sal (show decode code 397 = .ok (.iaload, 1) by decide +kernel) rfl) <|
  mj_c1 (k_aloadn (k := 0) (show decode code 398 = .ok (.aload_n 0, 1) by decide +kernel) rfl) <|
  mj_c1 (k_iload (show decode code 399 = .ok (.iload 4, 2) by decide +kernel)) <|
  mj_c1 (k_iconst (show decode code 401 = .ok (.iconst 3, 1) by decide +kernel)) <|
  mj_c1 (k_iadd (show decode code 402 = .ok (.iadd, 1) by decide +kernel)) <|
  mj_c1 (k_sal (show decode code 403 = .ok (.iaload, 1) by decide +kernel) rfl) <|
  mj_c1 (k_callV (idx := 102) (show decode code 404 = .ok (.invokevirtual 102, 3) by decide +kernel) (fit_m_L_law_m_M_value) rfl rfl w_1056 w_1057 w_1058 (by decide) (by decide +kernel)) <|
  mj_c1 (k_istore (show decode code 407 = .ok (.istore 6, 2) by decide +kernel) (Nat.le_of_ble_eq_true rfl)) <|
  mj_c1 (k_aloadn (k := 2) (show decode code 409 = .ok (.aload_n 2, 1) by decide +kernel) rfl) <|
  mj_c1 (k_callV (idx := 89) (show decode code 410 = .ok (.invokevirtual 89, 3) by decide +kernel) (fit_m_L_law_m_M_thrown) rfl rfl w_937 w_938 w_939 (by decide) (by decide +kernel)) <|
  mj_c1 (k_iload (show decode code 413 = .ok (.iload 5, 2) by decide +kernel)) <|
  mj_c1 (k_iceq (off := 5) (show decode code 415 = .ok (.if_icmp .eq 5, 3) by decide +kernel) (by decide)) <|
  mj_c1 (k_iconst (show decode code 418 = .ok (.iconst 0, 1) by decide +kernel)) <|
  mj_c1 (k_zret (show decode code 419 = .ok (.ireturn, 1) by decide +kernel) rfl) <|
  mj_c1 (k_iload (show decode code 420 = .ok (.iload 5, 2) by decide +kernel)) <|
  mj_c1 (k_ifne (off := 15) (show decode code 422 = .ok (.ifCond .ne 15, 3) by decide +kernel) (by decide)) <|
  mj_c1 (k_aloadn (k := 3) (show decode code 425 = .ok (.aload_n 3, 1) by decide +kernel) rfl) <|
  mj_c1 (k_iconst (show decode code 426 = .ok (.iconst 0, 1) by decide +kernel)) <|
  mj_c1 (k_lal (show decode code 427 = .ok (.laload, 1) by decide +kernel)) <|
  mj_c1 (k_iload (show decode code 428 = .ok (.iload 6, 2) by decide +kernel)) <|
  mj_c1 (k_i2l (show decode code 430 = .ok (.i2l, 1) by decide +kernel)) <|
  mj_c1 (k_lcmp (show decode code 431 = .ok (.lcmp, 1) by decide +kernel)) <|
  mj_c1 (k_ifeq (off := 5) (show decode code 432 = .ok (.ifCond .eq 5, 3) by decide +kernel) (by decide)) <|
  mj_c1 (k_iconst (show decode code 435 = .ok (.iconst 0, 1) by decide +kernel)) <|
  mj_c1 (k_zret (show decode code 436 = .ok (.ireturn, 1) by decide +kernel) rfl) <|
  mj_c1 (k_goto (off := 976) (show decode code 437 = .ok (.goto 976, 3) by decide +kernel) (by decide)) <|
  mj_c1 (k_aloadn (k := 1) (show decode code 440 = .ok (.aload_n 1, 1) by decide +kernel) rfl) <|
  mj_c1 (k_aloadn (k := 3) (show decode code 441 = .ok (.aload_n 3, 1) by decide +kernel) rfl) <|
  mj_c1 (k_callS (idx := 103) (show decode code 442 = .ok (.invokestatic 103, 3) by decide +kernel) (fit_m_L_law_m_L_compare) rfl w_597 w_598 (by decide) (by decide +kernel)) <|
  mj_c1 (k_istore (show decode code 445 = .ok (.istore 5, 2) by decide +kernel) (Nat.le_of_ble_eq_true rfl)) <|
  mj_c1 (k_aloadn (k := 2) (show decode code 447 = .ok (.aload_n 2, 1) by decide +kernel) rfl) <|
  mj_c1 (k_callV (idx := 106) (show decode code 448 = .ok (.invokevirtual 106, 3) by decide +kernel) (fit_m_L_law_m_M_compare) rfl rfl w_1072 w_1073 w_1074 (by decide) (by decide +kernel)) <|
  mj_c1 (k_istore (show decode code 451 = .ok (.istore 6, 2) by decide +kernel) (Nat.le_of_ble_eq_true rfl)) <|
  mj_c1 (k_aloadn (k := 2) (show decode code 453 = .ok (.aload_n 2, 1) by decide +kernel) rfl) <|
  mj_c1 (k_callV (idx := 89) (show decode code 454 = .ok (.invokevirtual 89, 3) by decide +kernel) (fit_m_L_law_m_M_thrown) rfl rfl w_937 w_938 w_939 (by decide) (by decide +kernel)) <|
  mj_c1 (k_iload (show decode code 457 = .ok (.iload 5, 2) by decide +kernel)) <|
  mj_c1 (k_iceq (off := 5) (show decode code 459 = .ok (.if_icmp .eq 5, 3) by decide +kernel) (by decide)) <|
  mj_c1 (k_iconst (show decode code 462 = .ok (.iconst 0, 1) by decide +kernel)) <|
  mj_c1 (k_zret (show decode code 463 = .ok (.ireturn, 1) by decide +kernel) rfl) <|
  mj_c1 (k_iload (show decode code 464 = .ok (.iload 5, 2) by decide +kernel)) <|
  mj_c1 (k_ifne (off := 15) (show decode code 466 = .ok (.ifCond .ne 15, 3) by decide +kernel) (by decide)) <|
  mj_c1 (k_aloadn (k := 3) (show decode code 469 = .ok (.aload_n 3, 1) by decide +kernel) rfl) <|
  mj_c1 (k_iconst (show decode code 470 = .ok (.iconst 0, 1) by decide +kernel)) <|
  mj_c1 (k_lal (show decode code 471 = .ok (.laload, 1) by decide +kernel)) <|
  mj_c1 (k_iload (show decode code 472 = .ok (.iload 6, 2) by decide +kernel)) <|
  mj_c1 (k_i2l (show decode code 474 = .ok (.i2l, 1) by decide +kernel)) <|
  mj_c1 (k_lcmp (show decode code 475 = .ok (.lcmp, 1) by decide +kernel)) <|
  mj_c1 (k_ifeq (off := 5) (show decode code 476 = .ok (.ifCond .eq 5, 3) by decide +kernel) (by decide)) <|
  mj_c1 (k_iconst (show decode code 479 = .ok (.iconst 0, 1) by decide +kernel)) <|
  mj_c1 (k_zret (show decode code 480 = .ok (.ireturn, 1) by decide +kernel) rfl) <|
  mj_c1 (k_goto (off := 932) (show decode code 481 = .ok (.goto 932, 3) by decide +kernel) (by decide)) <|
  mj_c1 (k_aloadn (k := 1) (show decode code 484 = .ok (.aload_n 1, 1) by decide +kernel) rfl) <|
  mj_c1 (k_aloadn (k := 0) (show decode code 485 = .ok (.aload_n 0, 1) by decide +kernel) rfl) <|
  mj_c1 (k_iload (show decode code 486 = .ok (.iload 4, 2) by decide +kernel)) <|
  mj_c1 (k_iconst (show decode code 488 = .ok (.iconst 1, 1) by decide +kernel)) <|
  mj_c1 (k_iadd (show decode code 489 = .ok (.iadd, 1) by decide +kernel)) <|
  mj_c1 (k_sal (show decode code 490 = .ok (.iaload, 1) by decide +kernel) rfl) <|
  mj_c1 (k_aloadn (k := 3) (show decode code 491 = .ok (.aload_n 3, 1) by decide +kernel) rfl) <|
  mj_c1 (k_callS (idx := 107) (show decode code 492 = .ok (.invokestatic 107, 3) by decide +kernel) (fit_m_L_law_m_L_witness) rfl w_624 w_625 (by decide) (by decide +kernel)) <|
  mj_c1 (k_istore (show decode code 495 = .ok (.istore 5, 2) by decide +kernel) (Nat.le_of_ble_eq_true rfl)) <|
  mj_c1 (k_aloadn (k := 2) (show decode code 497 = .ok (.aload_n 2, 1) by decide +kernel) rfl) <|
  mj_c1 (k_aloadn (k := 0) (show decode code 498 = .ok (.aload_n 0, 1) by decide +kernel) rfl) <|
  mj_c1 (k_iload (show decode code 499 = .ok (.iload 4, 2) by decide +kernel)) <|
  mj_c1 (k_iconst (show decode code 501 = .ok (.iconst 1, 1) by decide +kernel)) <|
  mj_c1 (k_iadd (show decode code 502 = .ok (.iadd, 1) by decide +kernel)) <|
  mj_c1 (k_sal (show decode code 503 = .ok (.iaload, 1) by decide +kernel) rfl) <|
  mj_c1 (k_callV (idx := 109) (show decode code 504 = .ok (.invokevirtual 109, 3) by decide +kernel) (fit_m_L_law_m_M_witness) rfl rfl w_1084 w_1085 w_1086 (by decide) (by decide +kernel)) <|
  mj_c1 (k_istore (show decode code 507 = .ok (.istore 6, 2) by decide +kernel) (Nat.le_of_ble_eq_true rfl)) <|
  mj_c1 (k_aloadn (k := 2) (show decode code 509 = .ok (.aload_n 2, 1) by decide +kernel) rfl) <|
  mj_c1 (k_callV (idx := 89) (show decode code 510 = .ok (.invokevirtual 89, 3) by decide +kernel) (fit_m_L_law_m_M_thrown) rfl rfl w_937 w_938 w_939 (by decide) (by decide +kernel)) <|
  mj_c1 (k_iload (show decode code 513 = .ok (.iload 5, 2) by decide +kernel)) <|
  mj_c1 (k_iceq (off := 5) (show decode code 515 = .ok (.if_icmp .eq 5, 3) by decide +kernel) (by decide)) <|
  mj_c1 (k_iconst (show decode code 518 = .ok (.iconst 0, 1) by decide +kernel)) <|
  mj_c1 (k_zret (show decode code 519 = .ok (.ireturn, 1) by decide +kernel) rfl) <|
  mj_c1 (k_iload (show decode code 520 = .ok (.iload 5, 2) by decide +kernel)) <|
  mj_c1 (k_ifne (off := 15) (show decode code 522 = .ok (.ifCond .ne 15, 3) by decide +kernel) (by decide)) <|
  mj_c1 (k_aloadn (k := 3) (show decode code 525 = .ok (.aload_n 3, 1) by decide +kernel) rfl) <|
  mj_c1 (k_iconst (show decode code 526 = .ok (.iconst 0, 1) by decide +kernel)) <|
  mj_c1 (k_lal (show decode code 527 = .ok (.laload, 1) by decide +kernel)) <|
  mj_c1 (k_iload (show decode code 528 = .ok (.iload 6, 2) by decide +kernel)) <|
  mj_c1 (k_i2l (show decode code 530 = .ok (.i2l, 1) by decide +kernel)) <|
  mj_c1 (k_lcmp (show decode code 531 = .ok (.lcmp, 1) by decide +kernel)) <|
  mj_c1 (k_ifeq (off := 5) (show decode code 532 = .ok (.ifCond .eq 5, 3) by decide +kernel) (by decide)) <|
  mj_c1 (k_iconst (show decode code 535 = .ok (.iconst 0, 1) by decide +kernel)) <|
  mj_c1 (k_zret (show decode code 536 = .ok (.ireturn, 1) by decide +kernel) rfl) <|
  mj_c1 (k_goto (off := 876) (show decode code 537 = .ok (.goto 876, 3) by decide +kernel) (by decide)) <|
  mj_c1 (k_aloadn (k := 1) (show decode code 540 = .ok (.aload_n 1, 1) by decide +kernel) rfl) <|
  mj_c1 (k_aloadn (k := 0) (show decode code 541 = .ok (.aload_n 0, 1) by decide +kernel) rfl) <|
  mj_c1 (k_iload (show decode code 542 = .ok (.iload 4, 2) by decide +kernel)) <|
  mj_c1 (k_iconst (show decode code 544 = .ok (.iconst 1, 1) by decide +kernel)) <|
  mj_c1 (k_iadd (show decode code 545 = .ok (.iadd, 1) by decide +kernel)) <|
  mj_c1 (k_sal (show decode code 546 = .ok (.iaload, 1) by decide +kernel) rfl) <|
  mj_c1 (k_aloadn (k := 0) (show decode code 547 = .ok (.aload_n 0, 1) by decide +kernel) rfl) <|
  mj_c1 (k_iload (show decode code 548 = .ok (.iload 4, 2) by decide +kernel)) <|
  mj_c1 (k_iconst (show decode code 550 = .ok (.iconst 2, 1) by decide +kernel)) <|
  mj_c1 (k_iadd (show decode code 551 = .ok (.iadd, 1) by decide +kernel)) <|
  mj_c1 (k_sal (show decode code 552 = .ok (.iaload, 1) by decide +kernel) rfl) <|
  mj_c1 (k_aloadn (k := 0) (show decode code 553 = .ok (.aload_n 0, 1) by decide +kernel) rfl) <|
  mj_c1 (k_iload (show decode code 554 = .ok (.iload 4, 2) by decide +kernel)) <|
  mj_c1 (k_iconst (show decode code 556 = .ok (.iconst 3, 1) by decide +kernel)) <|
  mj_c1 (k_iadd (show decode code 557 = .ok (.iadd, 1) by decide +kernel)) <|
  mj_c1 (k_sal (show decode code 558 = .ok (.iaload, 1) by decide +kernel) rfl) <|
  mj_c1 (k_aloadn (k := 3) (show decode code 559 = .ok (.aload_n 3, 1) by decide +kernel) rfl) <|
  mj_c1 (k_callS (idx := 110) (show decode code 560 = .ok (.invokestatic 110, 3) by decide +kernel) (fit_m_L_law_m_L_least) rfl w_632 w_633 (by decide) (by decide +kernel)) <|
  mj_c1 (k_istore (show decode code 563 = .ok (.istore 5, 2) by decide +kernel) (Nat.le_of_ble_eq_true rfl)) <|
  mj_c1 (k_aloadn (k := 2) (show decode code 565 = .ok (.aload_n 2, 1) by decide +kernel) rfl) <|
  mj_c1 (k_aloadn (k := 0) (show decode code 566 = .ok (.aload_n 0, 1) by decide +kernel) rfl) <|
  mj_c1 (k_iload (show decode code 567 = .ok (.iload 4, 2) by decide +kernel)) <|
  mj_c1 (k_iconst (show decode code 569 = .ok (.iconst 1, 1) by decide +kernel)) <|
  mj_c1 (k_iadd (show decode code 570 = .ok (.iadd, 1) by decide +kernel)) <|
  mj_c1 (k_sal (show decode code 571 = .ok (.iaload, 1) by decide +kernel) rfl) <|
  mj_c1 (k_aloadn (k := 0) (show decode code 572 = .ok (.aload_n 0, 1) by decide +kernel) rfl) <|
  mj_c1 (k_iload (show decode code 573 = .ok (.iload 4, 2) by decide +kernel)) <|
  mj_c1 (k_iconst (show decode code 575 = .ok (.iconst 2, 1) by decide +kernel)) <|
  mj_c1 (k_iadd (show decode code 576 = .ok (.iadd, 1) by decide +kernel)) <|
  mj_c1 (k_sal (show decode code 577 = .ok (.iaload, 1) by decide +kernel) rfl) <|
  mj_c1 (k_aloadn (k := 0) (show decode code 578 = .ok (.aload_n 0, 1) by decide +kernel) rfl) <|
  mj_c1 (k_iload (show decode code 579 = .ok (.iload 4, 2) by decide +kernel)) <|
  mj_c1 (k_iconst (show decode code 581 = .ok (.iconst 3, 1) by decide +kernel)) <|
  mj_c1 (k_iadd (show decode code 582 = .ok (.iadd, 1) by decide +kernel)) <|
  mj_c1 (k_sal (show decode code 583 = .ok (.iaload, 1) by decide +kernel) rfl) <|
  mj_c1 (k_callV (idx := 112) (show decode code 584 = .ok (.invokevirtual 112, 3) by decide +kernel) (fit_m_L_law_m_M_least) rfl rfl w_1092 w_1093 w_1094 (by decide) (by decide +kernel)) <|
  mj_c1 (k_istore (show decode code 587 = .ok (.istore 6, 2) by decide +kernel) (Nat.le_of_ble_eq_true rfl)) <|
  mj_c1 (k_aloadn (k := 2) (show decode code 589 = .ok (.aload_n 2, 1) by decide +kernel) rfl) <|
  mj_c1 (k_callV (idx := 89) (show decode code 590 = .ok (.invokevirtual 89, 3) by decide +kernel) (fit_m_L_law_m_M_thrown) rfl rfl w_937 w_938 w_939 (by decide) (by decide +kernel)) <|
  mj_c1 (k_iload (show decode code 593 = .ok (.iload 5, 2) by decide +kernel)) <|
  mj_c1 (k_iceq (off := 5) (show decode code 595 = .ok (.if_icmp .eq 5, 3) by decide +kernel) (by decide)) <|
  mj_c1 (k_iconst (show decode code 598 = .ok (.iconst 0, 1) by decide +kernel)) <|
  mj_c1 (k_zret (show decode code 599 = .ok (.ireturn, 1) by decide +kernel) rfl) <|
  mj_c1 (k_iload (show decode code 600 = .ok (.iload 5, 2) by decide +kernel)) <|
  mj_c1 (k_ifne (off := 15) (show decode code 602 = .ok (.ifCond .ne 15, 3) by decide +kernel) (by decide)) <|
  mj_c1 (k_aloadn (k := 3) (show decode code 605 = .ok (.aload_n 3, 1) by decide +kernel) rfl) <|
  mj_c1 (k_iconst (show decode code 606 = .ok (.iconst 0, 1) by decide +kernel)) <|
  mj_c1 (k_lal (show decode code 607 = .ok (.laload, 1) by decide +kernel)) <|
  mj_c1 (k_iload (show decode code 608 = .ok (.iload 6, 2) by decide +kernel)) <|
  mj_c1 (k_i2l (show decode code 610 = .ok (.i2l, 1) by decide +kernel)) <|
  mj_c1 (k_lcmp (show decode code 611 = .ok (.lcmp, 1) by decide +kernel)) <|
  mj_c1 (k_ifeq (off := 5) (show decode code 612 = .ok (.ifCond .eq 5, 3) by decide +kernel) (by decide)) <|
  mj_c1 (k_iconst (show decode code 615 = .ok (.iconst 0, 1) by decide +kernel)) <|
  mj_c1 (k_zret (show decode code 616 = .ok (.ireturn, 1) by decide +kernel) rfl) <|
  mj_c1 (k_goto (off := 796) (show decode code 617 = .ok (.goto 796, 3) by decide +kernel) (by decide)) <|
  mj_c1 (k_aloadn (k := 1) (show decode code 620 = .ok (.aload_n 1, 1) by decide +kernel) rfl) <|
  mj_c1 (k_aloadn (k := 0) (show decode code 621 = .ok (.aload_n 0, 1) by decide +kernel) rfl) <|
  mj_c1 (k_iload (show decode code 622 = .ok (.iload 4, 2) by decide +kernel)) <|
  mj_c1 (k_iconst (show decode code 624 = .ok (.iconst 1, 1) by decide +kernel)) <|
  mj_c1 (k_iadd (show decode code 625 = .ok (.iadd, 1) by decide +kernel)) <|
  mj_c1 (k_sal (show decode code 626 = .ok (.iaload, 1) by decide +kernel) rfl) <|
  mj_c1 (k_aloadn (k := 0) (show decode code 627 = .ok (.aload_n 0, 1) by decide +kernel) rfl) <|
  mj_c1 (k_iload (show decode code 628 = .ok (.iload 4, 2) by decide +kernel)) <|
  mj_c1 (k_iconst (show decode code 630 = .ok (.iconst 2, 1) by decide +kernel)) <|
  mj_c1 (k_iadd (show decode code 631 = .ok (.iadd, 1) by decide +kernel)) <|
  mj_c1 (k_sal (show decode code 632 = .ok (.iaload, 1) by decide +kernel) rfl) <|
  mj_c1 (k_aloadn (k := 3) (show decode code 633 = .ok (.aload_n 3, 1) by decide +kernel) rfl) <|
  mj_c1 (k_callS (idx := 113) (show decode code 634 = .ok (.invokestatic 113, 3) by decide +kernel) (fit_m_L_law_m_L_greatest) rfl w_643 w_644 (by decide) (by decide +kernel)) <|
  mj_c1 (k_istore (show decode code 637 = .ok (.istore 5, 2) by decide +kernel) (Nat.le_of_ble_eq_true rfl)) <|
  mj_c1 (k_aloadn (k := 2) (show decode code 639 = .ok (.aload_n 2, 1) by decide +kernel) rfl) <|
  mj_c1 (k_aloadn (k := 0) (show decode code 640 = .ok (.aload_n 0, 1) by decide +kernel) rfl) <|
  mj_c1 (k_iload (show decode code 641 = .ok (.iload 4, 2) by decide +kernel)) <|
  mj_c1 (k_iconst (show decode code 643 = .ok (.iconst 1, 1) by decide +kernel)) <|
  mj_c1 (k_iadd (show decode code 644 = .ok (.iadd, 1) by decide +kernel)) <|
  mj_c1 (k_sal (show decode code 645 = .ok (.iaload, 1) by decide +kernel) rfl) <|
  mj_c1 (k_aloadn (k := 0) (show decode code 646 = .ok (.aload_n 0, 1) by decide +kernel) rfl) <|
  mj_c1 (k_iload (show decode code 647 = .ok (.iload 4, 2) by decide +kernel)) <|
  mj_c1 (k_iconst (show decode code 649 = .ok (.iconst 2, 1) by decide +kernel)) <|
  mj_c1 (k_iadd (show decode code 650 = .ok (.iadd, 1) by decide +kernel)) <|
  mj_c1 (k_sal (show decode code 651 = .ok (.iaload, 1) by decide +kernel) rfl) <|
  mj_c1 (k_callV (idx := 116) (show decode code 652 = .ok (.invokevirtual 116, 3) by decide +kernel) (fit_m_L_law_m_M_greatest) rfl rfl w_1096 w_1097 w_1098 (by decide) (by decide +kernel)) <|
  mj_c1 (k_istore (show decode code 655 = .ok (.istore 6, 2) by decide +kernel) (Nat.le_of_ble_eq_true rfl)) <|
  mj_c1 (k_aloadn (k := 2) (show decode code 657 = .ok (.aload_n 2, 1) by decide +kernel) rfl) <|
  mj_c1 (k_callV (idx := 89) (show decode code 658 = .ok (.invokevirtual 89, 3) by decide +kernel) (fit_m_L_law_m_M_thrown) rfl rfl w_937 w_938 w_939 (by decide) (by decide +kernel)) <|
  mj_c1 (k_iload (show decode code 661 = .ok (.iload 5, 2) by decide +kernel)) <|
  mj_c1 (k_iceq (off := 5) (show decode code 663 = .ok (.if_icmp .eq 5, 3) by decide +kernel) (by decide)) <|
  mj_c1 (k_iconst (show decode code 666 = .ok (.iconst 0, 1) by decide +kernel)) <|
  mj_c1 (k_zret (show decode code 667 = .ok (.ireturn, 1) by decide +kernel) rfl) <|
  mj_c1 (k_iload (show decode code 668 = .ok (.iload 5, 2) by decide +kernel)) <|
  mj_c1 (k_ifne (off := 15) (show decode code 670 = .ok (.ifCond .ne 15, 3) by decide +kernel) (by decide)) <|
  mj_c1 (k_aloadn (k := 3) (show decode code 673 = .ok (.aload_n 3, 1) by decide +kernel) rfl) <|
  mj_c1 (k_iconst (show decode code 674 = .ok (.iconst 0, 1) by decide +kernel)) <|
  mj_c1 (k_lal (show decode code 675 = .ok (.laload, 1) by decide +kernel)) <|
  mj_c1 (k_iload (show decode code 676 = .ok (.iload 6, 2) by decide +kernel)) <|
  mj_c1 (k_i2l (show decode code 678 = .ok (.i2l, 1) by decide +kernel)) <|
  mj_c1 (k_lcmp (show decode code 679 = .ok (.lcmp, 1) by decide +kernel)) <|
  mj_c1 (k_ifeq (off := 5) (show decode code 680 = .ok (.ifCond .eq 5, 3) by decide +kernel) (by decide)) <|
  mj_c1 (k_iconst (show decode code 683 = .ok (.iconst 0, 1) by decide +kernel)) <|
  mj_c1 (k_zret (show decode code 684 = .ok (.ireturn, 1) by decide +kernel) rfl) <|
  mj_c1 (k_goto (off := 728) (show decode code 685 = .ok (.goto 728, 3) by decide +kernel) (by decide)) <|
  mj_c1 (k_aloadn (k := 1) (show decode code 688 = .ok (.aload_n 1, 1) by decide +kernel) rfl) <|
  mj_c1 (k_aloadn (k := 0) (show decode code 689 = .ok (.aload_n 0, 1) by decide +kernel) rfl) <|
  mj_c1 (k_iload (show decode code 690 = .ok (.iload 4, 2) by decide +kernel)) <|
  mj_c1 (k_iconst (show decode code 692 = .ok (.iconst 1, 1) by decide +kernel)) <|
  mj_c1 (k_iadd (show decode code 693 = .ok (.iadd, 1) by decide +kernel)) <|
  mj_c1 (k_sal (show decode code 694 = .ok (.iaload, 1) by decide +kernel) rfl) <|
  mj_c1 (k_aloadn (k := 0) (show decode code 695 = .ok (.aload_n 0, 1) by decide +kernel) rfl) <|
  mj_c1 (k_iload (show decode code 696 = .ok (.iload 4, 2) by decide +kernel)) <|
  mj_c1 (k_iconst (show decode code 698 = .ok (.iconst 2, 1) by decide +kernel)) <|
  mj_c1 (k_iadd (show decode code 699 = .ok (.iadd, 1) by decide +kernel)) <|
  mj_c1 (k_sal (show decode code 700 = .ok (.iaload, 1) by decide +kernel) rfl) <|
  mj_c1 (k_aloadn (k := 3) (show decode code 701 = .ok (.aload_n 3, 1) by decide +kernel) rfl) <|
  mj_c1 (k_callS (idx := 117) (show decode code 702 = .ok (.invokestatic 117, 3) by decide +kernel) (fit_m_L_law_m_L_same) rfl w_660 w_661 (by decide) (by decide +kernel)) <|
  mj_c1 (k_istore (show decode code 705 = .ok (.istore 5, 2) by decide +kernel) (Nat.le_of_ble_eq_true rfl)) <|
  mj_c1 (k_aloadn (k := 2) (show decode code 707 = .ok (.aload_n 2, 1) by decide +kernel) rfl) <|
  mj_c1 (k_aloadn (k := 0) (show decode code 708 = .ok (.aload_n 0, 1) by decide +kernel) rfl) <|
  mj_c1 (k_iload (show decode code 709 = .ok (.iload 4, 2) by decide +kernel)) <|
  mj_c1 (k_iconst (show decode code 711 = .ok (.iconst 1, 1) by decide +kernel)) <|
  mj_c1 (k_iadd (show decode code 712 = .ok (.iadd, 1) by decide +kernel)) <|
  mj_c1 (k_sal (show decode code 713 = .ok (.iaload, 1) by decide +kernel) rfl) <|
  mj_c1 (k_aloadn (k := 0) (show decode code 714 = .ok (.aload_n 0, 1) by decide +kernel) rfl) <|
  mj_c1 (k_iload (show decode code 715 = .ok (.iload 4, 2) by decide +kernel)) <|
  mj_c1 (k_iconst (show decode code 717 = .ok (.iconst 2, 1) by decide +kernel)) <|
  mj_c1 (k_iadd (show decode code 718 = .ok (.iadd, 1) by decide +kernel)) <|
  mj_c1 (k_sal (show decode code 719 = .ok (.iaload, 1) by decide +kernel) rfl) <|
  mj_c1 (k_callV (idx := 119) (show decode code 720 = .ok (.invokevirtual 119, 3) by decide +kernel) (fit_m_L_law_m_M_same) rfl rfl w_1100 w_1101 w_1102 (by decide) (by decide +kernel)) <|
  mj_c1 (k_istore (show decode code 723 = .ok (.istore 6, 2) by decide +kernel) (Nat.le_of_ble_eq_true rfl)) <|
  mj_c1 (k_aloadn (k := 2) (show decode code 725 = .ok (.aload_n 2, 1) by decide +kernel) rfl) <|
  mj_c1 (k_callV (idx := 89) (show decode code 726 = .ok (.invokevirtual 89, 3) by decide +kernel) (fit_m_L_law_m_M_thrown) rfl rfl w_937 w_938 w_939 (by decide) (by decide +kernel)) <|
  mj_c1 (k_iload (show decode code 729 = .ok (.iload 5, 2) by decide +kernel)) <|
  mj_c1 (k_iceq (off := 5) (show decode code 731 = .ok (.if_icmp .eq 5, 3) by decide +kernel) (by decide)) <|
  mj_c1 (k_iconst (show decode code 734 = .ok (.iconst 0, 1) by decide +kernel)) <|
  mj_c1 (k_zret (show decode code 735 = .ok (.ireturn, 1) by decide +kernel) rfl) <|
  mj_c1 (k_iload (show decode code 736 = .ok (.iload 5, 2) by decide +kernel)) <|
  mj_c1 (k_ifne (off := 15) (show decode code 738 = .ok (.ifCond .ne 15, 3) by decide +kernel) (by decide)) <|
  mj_c1 (k_aloadn (k := 3) (show decode code 741 = .ok (.aload_n 3, 1) by decide +kernel) rfl) <|
  mj_c1 (k_iconst (show decode code 742 = .ok (.iconst 0, 1) by decide +kernel)) <|
  mj_c1 (k_lal (show decode code 743 = .ok (.laload, 1) by decide +kernel)) <|
  mj_c1 (k_iload (show decode code 744 = .ok (.iload 6, 2) by decide +kernel)) <|
  mj_c1 (k_i2l (show decode code 746 = .ok (.i2l, 1) by decide +kernel)) <|
  mj_c1 (k_lcmp (show decode code 747 = .ok (.lcmp, 1) by decide +kernel)) <|
  mj_c1 (k_ifeq (off := 5) (show decode code 748 = .ok (.ifCond .eq 5, 3) by decide +kernel) (by decide)) <|
  mj_c1 (k_iconst (show decode code 751 = .ok (.iconst 0, 1) by decide +kernel)) <|
  mj_c1 (k_zret (show decode code 752 = .ok (.ireturn, 1) by decide +kernel) rfl) <|
  mj_c1 (k_goto (off := 660) (show decode code 753 = .ok (.goto 660, 3) by decide +kernel) (by decide)) <|
  mj_c1 (k_aloadn (k := 1) (show decode code 756 = .ok (.aload_n 1, 1) by decide +kernel) rfl) <|
  mj_c1 (k_aloadn (k := 0) (show decode code 757 = .ok (.aload_n 0, 1) by decide +kernel) rfl) <|
  mj_c1 (k_iload (show decode code 758 = .ok (.iload 4, 2) by decide +kernel)) <|
  mj_c1 (k_iconst (show decode code 760 = .ok (.iconst 1, 1) by decide +kernel)) <|
  mj_c1 (k_iadd (show decode code 761 = .ok (.iadd, 1) by decide +kernel)) <|
  mj_c1 (k_sal (show decode code 762 = .ok (.iaload, 1) by decide +kernel) rfl) <|
  mj_c1 (k_aloadn (k := 0) (show decode code 763 = .ok (.aload_n 0, 1) by decide +kernel) rfl) <|
  mj_c1 (k_iload (show decode code 764 = .ok (.iload 4, 2) by decide +kernel)) <|
  mj_c1 (k_iconst (show decode code 766 = .ok (.iconst 2, 1) by decide +kernel)) <|
  mj_c1 (k_iadd (show decode code 767 = .ok (.iadd, 1) by decide +kernel)) <|
  mj_c1 (k_sal (show decode code 768 = .ok (.iaload, 1) by decide +kernel) rfl) <|
  mj_c1 (k_aloadn (k := 0) (show decode code 769 = .ok (.aload_n 0, 1) by decide +kernel) rfl) <|
  mj_c1 (k_iload (show decode code 770 = .ok (.iload 4, 2) by decide +kernel)) <|
  mj_c1 (k_iconst (show decode code 772 = .ok (.iconst 3, 1) by decide +kernel)) <|
  mj_c1 (k_iadd (show decode code 773 = .ok (.iadd, 1) by decide +kernel)) <|
  mj_c1 (k_sal (show decode code 774 = .ok (.iaload, 1) by decide +kernel) rfl) <|
  mj_c1 (k_aloadn (k := 3) (show decode code 775 = .ok (.aload_n 3, 1) by decide +kernel) rfl) <|
  mj_c1 (k_callS (idx := 120) (show decode code 776 = .ok (.invokestatic 120, 3) by decide +kernel) (fit_m_L_law_m_L_implies) rfl w_669 w_670 (by decide) (by decide +kernel)) <|
  mj_c1 (k_istore (show decode code 779 = .ok (.istore 5, 2) by decide +kernel) (Nat.le_of_ble_eq_true rfl)) <|
  mj_c1 (k_aloadn (k := 2) (show decode code 781 = .ok (.aload_n 2, 1) by decide +kernel) rfl) <|
  mj_c1 (k_aloadn (k := 0) (show decode code 782 = .ok (.aload_n 0, 1) by decide +kernel) rfl) <|
  mj_c1 (k_iload (show decode code 783 = .ok (.iload 4, 2) by decide +kernel)) <|
  mj_c1 (k_iconst (show decode code 785 = .ok (.iconst 1, 1) by decide +kernel)) <|
  mj_c1 (k_iadd (show decode code 786 = .ok (.iadd, 1) by decide +kernel)) <|
  mj_c1 (k_sal (show decode code 787 = .ok (.iaload, 1) by decide +kernel) rfl) <|
  mj_c1 (k_aloadn (k := 0) (show decode code 788 = .ok (.aload_n 0, 1) by decide +kernel) rfl) <|
  mj_c1 (k_iload (show decode code 789 = .ok (.iload 4, 2) by decide +kernel)) <|
  mj_c1 (k_iconst (show decode code 791 = .ok (.iconst 2, 1) by decide +kernel)) <|
  mj_c1 (k_iadd (show decode code 792 = .ok (.iadd, 1) by decide +kernel)) <|
  mj_c1 (k_sal (show decode code 793 = .ok (.iaload, 1) by decide +kernel) rfl) <|
  mj_c1 (k_aloadn (k := 0) (show decode code 794 = .ok (.aload_n 0, 1) by decide +kernel) rfl) <|
  mj_c1 (k_iload (show decode code 795 = .ok (.iload 4, 2) by decide +kernel)) <|
  mj_c1 (k_iconst (show decode code 797 = .ok (.iconst 3, 1) by decide +kernel)) <|
  mj_c1 (k_iadd (show decode code 798 = .ok (.iadd, 1) by decide +kernel)) <|
  mj_c1 (k_sal (show decode code 799 = .ok (.iaload, 1) by decide +kernel) rfl) <|
  mj_c1 (k_callV (idx := 122) (show decode code 800 = .ok (.invokevirtual 122, 3) by decide +kernel) (fit_m_L_law_m_M_implies) rfl rfl w_1104 w_1105 w_1106 (by decide) (by decide +kernel)) <|
  mj_c1 (k_istore (show decode code 803 = .ok (.istore 6, 2) by decide +kernel) (Nat.le_of_ble_eq_true rfl)) <|
  mj_c1 (k_aloadn (k := 2) (show decode code 805 = .ok (.aload_n 2, 1) by decide +kernel) rfl) <|
  mj_c1 (k_callV (idx := 89) (show decode code 806 = .ok (.invokevirtual 89, 3) by decide +kernel) (fit_m_L_law_m_M_thrown) rfl rfl w_937 w_938 w_939 (by decide) (by decide +kernel)) <|
  mj_c1 (k_iload (show decode code 809 = .ok (.iload 5, 2) by decide +kernel)) <|
  mj_c1 (k_iceq (off := 5) (show decode code 811 = .ok (.if_icmp .eq 5, 3) by decide +kernel) (by decide)) <|
  mj_c1 (k_iconst (show decode code 814 = .ok (.iconst 0, 1) by decide +kernel)) <|
  mj_c1 (k_zret (show decode code 815 = .ok (.ireturn, 1) by decide +kernel) rfl) <|
  mj_c1 (k_iload (show decode code 816 = .ok (.iload 5, 2) by decide +kernel)) <|
  mj_c1 (k_ifne (off := 22) (show decode code 818 = .ok (.ifCond .ne 22, 3) by decide +kernel) (by decide)) <|
  mj_c1 (k_aloadn (k := 3) (show decode code 821 = .ok (.aload_n 3, 1) by decide +kernel) rfl) <|
  mj_c1 (k_iconst (show decode code 822 = .ok (.iconst 0, 1) by decide +kernel)) <|
  mj_c1 (k_lal (show decode code 823 = .ok (.laload, 1) by decide +kernel)) <|
  mj_c1 (k_iload (show decode code 824 = .ok (.iload 6, 2) by decide +kernel)) <|
  mj_c1 (k_ifeq (off := 7) (show decode code 826 = .ok (.ifCond .eq 7, 3) by decide +kernel) (by decide)) <|
  mj_c1 (k_lconst (k := 1) (show decode code 829 = .ok (.lconst 1, 1) by decide +kernel) (by decide)) <|
  mj_c1 (k_goto (off := 4) (show decode code 830 = .ok (.goto 4, 3) by decide +kernel) (by decide)) <|
  mj_c1 (k_lconst (k := 0) (show decode code 833 = .ok (.lconst 0, 1) by decide +kernel) (by decide)) <|
  mj_c1 (k_lcmp (show decode code 834 = .ok (.lcmp, 1) by decide +kernel)) <|
  mj_c1 (k_ifeq (off := 5) (show decode code 835 = .ok (.ifCond .eq 5, 3) by decide +kernel) (by decide)) <|
  mj_c1 (k_iconst (show decode code 838 = .ok (.iconst 0, 1) by decide +kernel)) <|
  mj_c1 (k_zret (show decode code 839 = .ok (.ireturn, 1) by decide +kernel) rfl) <|
  mj_c1 (k_goto (off := 573) (show decode code 840 = .ok (.goto 573, 3) by decide +kernel) (by decide)) <|
  mj_c1 (k_aloadn (k := 1) (show decode code 843 = .ok (.aload_n 1, 1) by decide +kernel) rfl) <|
  mj_c1 (k_aloadn (k := 0) (show decode code 844 = .ok (.aload_n 0, 1) by decide +kernel) rfl) <|
  mj_c1 (k_iload (show decode code 845 = .ok (.iload 4, 2) by decide +kernel)) <|
  mj_c1 (k_iconst (show decode code 847 = .ok (.iconst 1, 1) by decide +kernel)) <|
  mj_c1 (k_iadd (show decode code 848 = .ok (.iadd, 1) by decide +kernel)) <|
  mj_c1 (k_sal (show decode code 849 = .ok (.iaload, 1) by decide +kernel) rfl) <|
  mj_c1 (k_aloadn (k := 0) (show decode code 850 = .ok (.aload_n 0, 1) by decide +kernel) rfl) <|
  mj_c1 (k_iload (show decode code 851 = .ok (.iload 4, 2) by decide +kernel)) <|
  mj_c1 (k_iconst (show decode code 853 = .ok (.iconst 2, 1) by decide +kernel)) <|
  mj_c1 (k_iadd (show decode code 854 = .ok (.iadd, 1) by decide +kernel)) <|
  mj_c1 (k_sal (show decode code 855 = .ok (.iaload, 1) by decide +kernel) rfl) <|
  mj_c1 (k_aloadn (k := 0) (show decode code 856 = .ok (.aload_n 0, 1) by decide +kernel) rfl) <|
  mj_c1 (k_iload (show decode code 857 = .ok (.iload 4, 2) by decide +kernel)) <|
  mj_c1 (k_iconst (show decode code 859 = .ok (.iconst 3, 1) by decide +kernel)) <|
  mj_c1 (k_iadd (show decode code 860 = .ok (.iadd, 1) by decide +kernel)) <|
  mj_c1 (k_sal (show decode code 861 = .ok (.iaload, 1) by decide +kernel) rfl) <|
  mj_c1 (k_aloadn (k := 3) (show decode code 862 = .ok (.aload_n 3, 1) by decide +kernel) rfl) <|
  mj_c1 (k_callS (idx := 123) (show decode code 863 = .ok (.invokestatic 123, 3) by decide +kernel) (fit_m_L_law_m_L_depends) rfl w_680 w_681 (by decide) (by decide +kernel)) <|
  mj_c1 (k_istore (show decode code 866 = .ok (.istore 5, 2) by decide +kernel) (Nat.le_of_ble_eq_true rfl)) <|
  mj_c1 (k_aloadn (k := 2) (show decode code 868 = .ok (.aload_n 2, 1) by decide +kernel) rfl) <|
  mj_c1 (k_aloadn (k := 0) (show decode code 869 = .ok (.aload_n 0, 1) by decide +kernel) rfl) <|
  mj_c1 (k_iload (show decode code 870 = .ok (.iload 4, 2) by decide +kernel)) <|
  mj_c1 (k_iconst (show decode code 872 = .ok (.iconst 1, 1) by decide +kernel)) <|
  mj_c1 (k_iadd (show decode code 873 = .ok (.iadd, 1) by decide +kernel)) <|
  mj_c1 (k_sal (show decode code 874 = .ok (.iaload, 1) by decide +kernel) rfl) <|
  mj_c1 (k_aloadn (k := 0) (show decode code 875 = .ok (.aload_n 0, 1) by decide +kernel) rfl) <|
  mj_c1 (k_iload (show decode code 876 = .ok (.iload 4, 2) by decide +kernel)) <|
  mj_c1 (k_iconst (show decode code 878 = .ok (.iconst 2, 1) by decide +kernel)) <|
  mj_c1 (k_iadd (show decode code 879 = .ok (.iadd, 1) by decide +kernel)) <|
  mj_c1 (k_sal (show decode code 880 = .ok (.iaload, 1) by decide +kernel) rfl) <|
  mj_c1 (k_aloadn (k := 0) (show decode code 881 = .ok (.aload_n 0, 1) by decide +kernel) rfl) <|
  mj_c1 (k_iload (show decode code 882 = .ok (.iload 4, 2) by decide +kernel)) <|
  mj_c1 (k_iconst (show decode code 884 = .ok (.iconst 3, 1) by decide +kernel)) <|
  mj_c1 (k_iadd (show decode code 885 = .ok (.iadd, 1) by decide +kernel)) <|
  mj_c1 (k_sal (show decode code 886 = .ok (.iaload, 1) by decide +kernel) rfl) <|
  mj_c1 (k_callV (idx := 125) (show decode code 887 = .ok (.invokevirtual 125, 3) by decide +kernel) (fit_m_L_law_m_M_depends) rfl rfl w_1108 w_1109 w_1110 (by decide) (by decide +kernel)) <|
  mj_c1 (k_istore (show decode code 890 = .ok (.istore 6, 2) by decide +kernel) (Nat.le_of_ble_eq_true rfl)) <|
  mj_c1 (k_aloadn (k := 2) (show decode code 892 = .ok (.aload_n 2, 1) by decide +kernel) rfl) <|
  mj_c1 (k_callV (idx := 89) (show decode code 893 = .ok (.invokevirtual 89, 3) by decide +kernel) (fit_m_L_law_m_M_thrown) rfl rfl w_937 w_938 w_939 (by decide) (by decide +kernel)) <|
  mj_c1 (k_iload (show decode code 896 = .ok (.iload 5, 2) by decide +kernel)) <|
  mj_c1 (k_iceq (off := 5) (show decode code 898 = .ok (.if_icmp .eq 5, 3) by decide +kernel) (by decide)) <|
  mj_c1 (k_iconst (show decode code 901 = .ok (.iconst 0, 1) by decide +kernel)) <|
  mj_c1 (k_zret (show decode code 902 = .ok (.ireturn, 1) by decide +kernel) rfl) <|
  mj_c1 (k_iload (show decode code 903 = .ok (.iload 5, 2) by decide +kernel)) <|
  mj_c1 (k_ifne (off := 22) (show decode code 905 = .ok (.ifCond .ne 22, 3) by decide +kernel) (by decide)) <|
  mj_c1 (k_aloadn (k := 3) (show decode code 908 = .ok (.aload_n 3, 1) by decide +kernel) rfl) <|
  mj_c1 (k_iconst (show decode code 909 = .ok (.iconst 0, 1) by decide +kernel)) <|
  mj_c1 (k_lal (show decode code 910 = .ok (.laload, 1) by decide +kernel)) <|
  mj_c1 (k_iload (show decode code 911 = .ok (.iload 6, 2) by decide +kernel)) <|
  mj_c1 (k_ifeq (off := 7) (show decode code 913 = .ok (.ifCond .eq 7, 3) by decide +kernel) (by decide)) <|
  mj_c1 (k_lconst (k := 1) (show decode code 916 = .ok (.lconst 1, 1) by decide +kernel) (by decide)) <|
  mj_c1 (k_goto (off := 4) (show decode code 917 = .ok (.goto 4, 3) by decide +kernel) (by decide)) <|
  mj_c1 (k_lconst (k := 0) (show decode code 920 = .ok (.lconst 0, 1) by decide +kernel) (by decide)) <|
  mj_c1 (k_lcmp (show decode code 921 = .ok (.lcmp, 1) by decide +kernel)) <|
  mj_c1 (k_ifeq (off := 5) (show decode code 922 = .ok (.ifCond .eq 5, 3) by decide +kernel) (by decide)) <|
  mj_c1 (k_iconst (show decode code 925 = .ok (.iconst 0, 1) by decide +kernel)) <|
  mj_c1 (k_zret (show decode code 926 = .ok (.ireturn, 1) by decide +kernel) rfl) <|
  mj_c1 (k_goto (off := 486) (show decode code 927 = .ok (.goto 486, 3) by decide +kernel) (by decide)) <|
  mj_c1 (k_aloadn (k := 1) (show decode code 930 = .ok (.aload_n 1, 1) by decide +kernel) rfl) <|
  mj_c1 (k_aloadn (k := 0) (show decode code 931 = .ok (.aload_n 0, 1) by decide +kernel) rfl) <|
  mj_c1 (k_iload (show decode code 932 = .ok (.iload 4, 2) by decide +kernel)) <|
  mj_c1 (k_iconst (show decode code 934 = .ok (.iconst 1, 1) by decide +kernel)) <|
  mj_c1 (k_iadd (show decode code 935 = .ok (.iadd, 1) by decide +kernel)) <|
  mj_c1 (k_sal (show decode code 936 = .ok (.iaload, 1) by decide +kernel) rfl) <|
  mj_c1 (k_aloadn (k := 0) (show decode code 937 = .ok (.aload_n 0, 1) by decide +kernel) rfl) <|
  mj_c1 (k_iload (show decode code 938 = .ok (.iload 4, 2) by decide +kernel)) <|
  mj_c1 (k_iconst (show decode code 940 = .ok (.iconst 2, 1) by decide +kernel)) <|
  mj_c1 (k_iadd (show decode code 941 = .ok (.iadd, 1) by decide +kernel)) <|
  mj_c1 (k_sal (show decode code 942 = .ok (.iaload, 1) by decide +kernel) rfl) <|
  mj_c1 (k_aloadn (k := 0) (show decode code 943 = .ok (.aload_n 0, 1) by decide +kernel) rfl) <|
  mj_c1 (k_iload (show decode code 944 = .ok (.iload 4, 2) by decide +kernel)) <|
  mj_c1 (k_iconst (show decode code 946 = .ok (.iconst 3, 1) by decide +kernel)) <|
  mj_c1 (k_iadd (show decode code 947 = .ok (.iadd, 1) by decide +kernel)) <|
  mj_c1 (k_sal (show decode code 948 = .ok (.iaload, 1) by decide +kernel) rfl) <|
  mj_c1 (k_aloadn (k := 3) (show decode code 949 = .ok (.aload_n 3, 1) by decide +kernel) rfl) <|
  mj_c1 (k_callS (idx := 126) (show decode code 950 = .ok (.invokestatic 126, 3) by decide +kernel) (fit_m_L_law_m_L_rises) rfl w_703 w_704 (by decide) (by decide +kernel)) <|
  mj_c1 (k_istore (show decode code 953 = .ok (.istore 5, 2) by decide +kernel) (Nat.le_of_ble_eq_true rfl)) <|
  mj_c1 (k_aloadn (k := 2) (show decode code 955 = .ok (.aload_n 2, 1) by decide +kernel) rfl) <|
  mj_c1 (k_aloadn (k := 0) (show decode code 956 = .ok (.aload_n 0, 1) by decide +kernel) rfl) <|
  mj_c1 (k_iload (show decode code 957 = .ok (.iload 4, 2) by decide +kernel)) <|
  mj_c1 (k_iconst (show decode code 959 = .ok (.iconst 1, 1) by decide +kernel)) <|
  mj_c1 (k_iadd (show decode code 960 = .ok (.iadd, 1) by decide +kernel)) <|
  mj_c1 (k_sal (show decode code 961 = .ok (.iaload, 1) by decide +kernel) rfl) <|
  mj_c1 (k_aloadn (k := 0) (show decode code 962 = .ok (.aload_n 0, 1) by decide +kernel) rfl) <|
  mj_c1 (k_iload (show decode code 963 = .ok (.iload 4, 2) by decide +kernel)) <|
  mj_c1 (k_iconst (show decode code 965 = .ok (.iconst 2, 1) by decide +kernel)) <|
  mj_c1 (k_iadd (show decode code 966 = .ok (.iadd, 1) by decide +kernel)) <|
  mj_c1 (k_sal (show decode code 967 = .ok (.iaload, 1) by decide +kernel) rfl) <|
  mj_c1 (k_aloadn (k := 0) (show decode code 968 = .ok (.aload_n 0, 1) by decide +kernel) rfl) <|
  mj_c1 (k_iload (show decode code 969 = .ok (.iload 4, 2) by decide +kernel)) <|
  mj_c1 (k_iconst (show decode code 971 = .ok (.iconst 3, 1) by decide +kernel)) <|
  mj_c1 (k_iadd (show decode code 972 = .ok (.iadd, 1) by decide +kernel)) <|
  mj_c1 (k_sal (show decode code 973 = .ok (.iaload, 1) by decide +kernel) rfl) <|
  mj_c1 (k_callV (idx := 128) (show decode code 974 = .ok (.invokevirtual 128, 3) by decide +kernel) (fit_m_L_law_m_M_rises) rfl rfl w_1116 w_1117 w_1118 (by decide) (by decide +kernel)) <|
  mj_c1 (k_istore (show decode code 977 = .ok (.istore 6, 2) by decide +kernel) (Nat.le_of_ble_eq_true rfl)) <|
  mj_c1 (k_aloadn (k := 2) (show decode code 979 = .ok (.aload_n 2, 1) by decide +kernel) rfl) <|
  mj_c1 (k_callV (idx := 89) (show decode code 980 = .ok (.invokevirtual 89, 3) by decide +kernel) (fit_m_L_law_m_M_thrown) rfl rfl w_937 w_938 w_939 (by decide) (by decide +kernel)) <|
  mj_c1 (k_iload (show decode code 983 = .ok (.iload 5, 2) by decide +kernel)) <|
  mj_c1 (k_iceq (off := 5) (show decode code 985 = .ok (.if_icmp .eq 5, 3) by decide +kernel) (by decide)) <|
  mj_c1 (k_iconst (show decode code 988 = .ok (.iconst 0, 1) by decide +kernel)) <|
  mj_c1 (k_zret (show decode code 989 = .ok (.ireturn, 1) by decide +kernel) rfl) <|
  mj_c1 (k_iload (show decode code 990 = .ok (.iload 5, 2) by decide +kernel)) <|
  mj_c1 (k_ifne (off := 15) (show decode code 992 = .ok (.ifCond .ne 15, 3) by decide +kernel) (by decide)) <|
  mj_c1 (k_aloadn (k := 3) (show decode code 995 = .ok (.aload_n 3, 1) by decide +kernel) rfl) <|
  mj_c1 (k_iconst (show decode code 996 = .ok (.iconst 0, 1) by decide +kernel)) <|
  mj_c1 (k_lal (show decode code 997 = .ok (.laload, 1) by decide +kernel)) <|
  mj_c1 (k_iload (show decode code 998 = .ok (.iload 6, 2) by decide +kernel)) <|
  mj_c1 (k_i2l (show decode code 1000 = .ok (.i2l, 1) by decide +kernel)) <|
  mj_c1 (k_lcmp (show decode code 1001 = .ok (.lcmp, 1) by decide +kernel)) <|
  mj_c1 (k_ifeq (off := 5) (show decode code 1002 = .ok (.ifCond .eq 5, 3) by decide +kernel) (by decide)) <|
  mj_c1 (k_iconst (show decode code 1005 = .ok (.iconst 0, 1) by decide +kernel)) <|
  mj_c1 (k_zret (show decode code 1006 = .ok (.ireturn, 1) by decide +kernel) rfl) <|
  mj_c1 (k_goto (off := 406) (show decode code 1007 = .ok (.goto 406, 3) by decide +kernel) (by decide)) <|
  mj_c1 (k_aloadn (k := 1) (show decode code 1010 = .ok (.aload_n 1, 1) by decide +kernel) rfl) <|
  mj_c1 (k_aloadn (k := 0) (show decode code 1011 = .ok (.aload_n 0, 1) by decide +kernel) rfl) <|
  mj_c1 (k_iload (show decode code 1012 = .ok (.iload 4, 2) by decide +kernel)) <|
  mj_c1 (k_iconst (show decode code 1014 = .ok (.iconst 1, 1) by decide +kernel)) <|
  mj_c1 (k_iadd (show decode code 1015 = .ok (.iadd, 1) by decide +kernel)) <|
  mj_c1 (k_sal (show decode code 1016 = .ok (.iaload, 1) by decide +kernel) rfl) <|
  mj_c1 (k_aloadn (k := 0) (show decode code 1017 = .ok (.aload_n 0, 1) by decide +kernel) rfl) <|
  mj_c1 (k_iload (show decode code 1018 = .ok (.iload 4, 2) by decide +kernel)) <|
  mj_c1 (k_iconst (show decode code 1020 = .ok (.iconst 2, 1) by decide +kernel)) <|
  mj_c1 (k_iadd (show decode code 1021 = .ok (.iadd, 1) by decide +kernel)) <|
  mj_c1 (k_sal (show decode code 1022 = .ok (.iaload, 1) by decide +kernel) rfl) <|
  mj_c1 (k_aloadn (k := 3) (show decode code 1023 = .ok (.aload_n 3, 1) by decide +kernel) rfl) <|
  mj_c1 (k_callS (idx := 129) (show decode code 1024 = .ok (.invokestatic 129, 3) by decide +kernel) (fit_m_L_law_m_L_leader) rfl w_710 w_711 (by decide) (by decide +kernel)) <|
  mj_c1 (k_istore (show decode code 1027 = .ok (.istore 5, 2) by decide +kernel) (Nat.le_of_ble_eq_true rfl)) <|
  mj_c1 (k_aloadn (k := 2) (show decode code 1029 = .ok (.aload_n 2, 1) by decide +kernel) rfl) <|
  mj_c1 (k_aloadn (k := 0) (show decode code 1030 = .ok (.aload_n 0, 1) by decide +kernel) rfl) <|
  mj_c1 (k_iload (show decode code 1031 = .ok (.iload 4, 2) by decide +kernel)) <|
  mj_c1 (k_iconst (show decode code 1033 = .ok (.iconst 1, 1) by decide +kernel)) <|
  mj_c1 (k_iadd (show decode code 1034 = .ok (.iadd, 1) by decide +kernel)) <|
  mj_c1 (k_sal (show decode code 1035 = .ok (.iaload, 1) by decide +kernel) rfl) <|
  mj_c1 (k_aloadn (k := 0) (show decode code 1036 = .ok (.aload_n 0, 1) by decide +kernel) rfl) <|
  mj_c1 (k_iload (show decode code 1037 = .ok (.iload 4, 2) by decide +kernel)) <|
  mj_c1 (k_iconst (show decode code 1039 = .ok (.iconst 2, 1) by decide +kernel)) <|
  mj_c1 (k_iadd (show decode code 1040 = .ok (.iadd, 1) by decide +kernel)) <|
  mj_c1 (k_sal (show decode code 1041 = .ok (.iaload, 1) by decide +kernel) rfl) <|
  mj_c1 (k_callV (idx := 131) (show decode code 1042 = .ok (.invokevirtual 131, 3) by decide +kernel) (fit_m_L_law_m_M_leader) rfl rfl w_1120 w_1121 w_1122 (by decide) (by decide +kernel)) <|
  mj_c1 (k_istore (show decode code 1045 = .ok (.istore 6, 2) by decide +kernel) (Nat.le_of_ble_eq_true rfl)) <|
  mj_c1 (k_aloadn (k := 2) (show decode code 1047 = .ok (.aload_n 2, 1) by decide +kernel) rfl) <|
  mj_c1 (k_callV (idx := 89) (show decode code 1048 = .ok (.invokevirtual 89, 3) by decide +kernel) (fit_m_L_law_m_M_thrown) rfl rfl w_937 w_938 w_939 (by decide) (by decide +kernel)) <|
  mj_c1 (k_iload (show decode code 1051 = .ok (.iload 5, 2) by decide +kernel)) <|
  mj_c1 (k_iceq (off := 5) (show decode code 1053 = .ok (.if_icmp .eq 5, 3) by decide +kernel) (by decide)) <|
  mj_c1 (k_iconst (show decode code 1056 = .ok (.iconst 0, 1) by decide +kernel)) <|
  mj_c1 (k_zret (show decode code 1057 = .ok (.ireturn, 1) by decide +kernel) rfl) <|
  mj_c1 (k_iload (show decode code 1058 = .ok (.iload 5, 2) by decide +kernel)) <|
  mj_c1 (k_ifne (off := 15) (show decode code 1060 = .ok (.ifCond .ne 15, 3) by decide +kernel) (by decide)) <|
  mj_c1 (k_aloadn (k := 3) (show decode code 1063 = .ok (.aload_n 3, 1) by decide +kernel) rfl) <|
  mj_c1 (k_iconst (show decode code 1064 = .ok (.iconst 0, 1) by decide +kernel)) <|
  mj_c1 (k_lal (show decode code 1065 = .ok (.laload, 1) by decide +kernel)) <|
  mj_c1 (k_iload (show decode code 1066 = .ok (.iload 6, 2) by decide +kernel)) <|
  mj_c1 (k_i2l (show decode code 1068 = .ok (.i2l, 1) by decide +kernel)) <|
  mj_c1 (k_lcmp (show decode code 1069 = .ok (.lcmp, 1) by decide +kernel)) <|
  mj_c1 (k_ifeq (off := 5) (show decode code 1070 = .ok (.ifCond .eq 5, 3) by decide +kernel) (by decide)) <|
  mj_c1 (k_iconst (show decode code 1073 = .ok (.iconst 0, 1) by decide +kernel)) <|
  mj_c1 (k_zret (show decode code 1074 = .ok (.ireturn, 1) by decide +kernel) rfl) <|
  mj_c1 (k_goto (off := 338) (show decode code 1075 = .ok (.goto 338, 3) by decide +kernel) (by decide)) <|
  mj_c1 (k_aloadn (k := 1) (show decode code 1078 = .ok (.aload_n 1, 1) by decide +kernel) rfl) <|
  mj_c1 (k_aloadn (k := 0) (show decode code 1079 = .ok (.aload_n 0, 1) by decide +kernel) rfl) <|
  mj_c1 (k_iload (show decode code 1080 = .ok (.iload 4, 2) by decide +kernel)) <|
  mj_c1 (k_iconst (show decode code 1082 = .ok (.iconst 1, 1) by decide +kernel)) <|
  mj_c1 (k_iadd (show decode code 1083 = .ok (.iadd, 1) by decide +kernel)) <|
  mj_c1 (k_sal (show decode code 1084 = .ok (.iaload, 1) by decide +kernel) rfl) <|
  mj_c1 (k_aloadn (k := 3) (show decode code 1085 = .ok (.aload_n 3, 1) by decide +kernel) rfl) <|
  mj_c1 (k_callS (idx := 132) (show decode code 1086 = .ok (.invokestatic 132, 3) by decide +kernel) (fit_m_L_law_m_L_functions) rfl w_721 w_722 (by decide) (by decide +kernel)) <|
  mj_c1 (k_istore (show decode code 1089 = .ok (.istore 5, 2) by decide +kernel) (Nat.le_of_ble_eq_true rfl)) <|
  mj_c1 (k_aloadn (k := 2) (show decode code 1091 = .ok (.aload_n 2, 1) by decide +kernel) rfl) <|
  mj_c1 (k_aloadn (k := 0) (show decode code 1092 = .ok (.aload_n 0, 1) by decide +kernel) rfl) <|
  mj_c1 (k_iload (show decode code 1093 = .ok (.iload 4, 2) by decide +kernel)) <|
  mj_c1 (k_iconst (show decode code 1095 = .ok (.iconst 1, 1) by decide +kernel)) <|
  mj_c1 (k_iadd (show decode code 1096 = .ok (.iadd, 1) by decide +kernel)) <|
  mj_c1 (k_sal (show decode code 1097 = .ok (.iaload, 1) by decide +kernel) rfl) <|
  mj_c1 (k_callV (idx := 134) (show decode code 1098 = .ok (.invokevirtual 134, 3) by decide +kernel) (fit_m_L_law_m_M_functions) rfl rfl w_1136 w_1137 w_1138 (by decide) (by decide +kernel)) <|
  mj_c1 (k_istore (show decode code 1101 = .ok (.istore 6, 2) by decide +kernel) (Nat.le_of_ble_eq_true rfl)) <|
  mj_c1 (k_aloadn (k := 2) (show decode code 1103 = .ok (.aload_n 2, 1) by decide +kernel) rfl) <|
  mj_c1 (k_callV (idx := 89) (show decode code 1104 = .ok (.invokevirtual 89, 3) by decide +kernel) (fit_m_L_law_m_M_thrown) rfl rfl w_937 w_938 w_939 (by decide) (by decide +kernel)) <|
  mj_c1 (k_iload (show decode code 1107 = .ok (.iload 5, 2) by decide +kernel)) <|
  mj_c1 (k_iceq (off := 5) (show decode code 1109 = .ok (.if_icmp .eq 5, 3) by decide +kernel) (by decide)) <|
  mj_c1 (k_iconst (show decode code 1112 = .ok (.iconst 0, 1) by decide +kernel)) <|
  mj_c1 (k_zret (show decode code 1113 = .ok (.ireturn, 1) by decide +kernel) rfl) <|
  mj_c1 (k_iload (show decode code 1114 = .ok (.iload 5, 2) by decide +kernel)) <|
  mj_c1 (k_ifne (off := 15) (show decode code 1116 = .ok (.ifCond .ne 15, 3) by decide +kernel) (by decide)) <|
  mj_c1 (k_aloadn (k := 3) (show decode code 1119 = .ok (.aload_n 3, 1) by decide +kernel) rfl) <|
  mj_c1 (k_iconst (show decode code 1120 = .ok (.iconst 0, 1) by decide +kernel)) <|
  mj_c1 (k_lal (show decode code 1121 = .ok (.laload, 1) by decide +kernel)) <|
  mj_c1 (k_iload (show decode code 1122 = .ok (.iload 6, 2) by decide +kernel)) <|
  mj_c1 (k_i2l (show decode code 1124 = .ok (.i2l, 1) by decide +kernel)) <|
  mj_c1 (k_lcmp (show decode code 1125 = .ok (.lcmp, 1) by decide +kernel)) <|
  mj_c1 (k_ifeq (off := 5) (show decode code 1126 = .ok (.ifCond .eq 5, 3) by decide +kernel) (by decide)) <|
  mj_c1 (k_iconst (show decode code 1129 = .ok (.iconst 0, 1) by decide +kernel)) <|
  mj_c1 (k_zret (show decode code 1130 = .ok (.ireturn, 1) by decide +kernel) rfl) <|
  mj_c1 (k_goto (off := 282) (show decode code 1131 = .ok (.goto 282, 3) by decide +kernel) (by decide)) <|
  mj_c1 (k_aloadn (k := 1) (show decode code 1134 = .ok (.aload_n 1, 1) by decide +kernel) rfl) <|
  mj_c1 (k_aloadn (k := 3) (show decode code 1135 = .ok (.aload_n 3, 1) by decide +kernel) rfl) <|
  mj_c1 (k_callS (idx := 135) (show decode code 1136 = .ok (.invokestatic 135, 3) by decide +kernel) (fit_m_L_law_m_L_allFunctions) rfl w_728 w_729 (by decide) (by decide +kernel)) <|
  mj_c1 (k_istore (show decode code 1139 = .ok (.istore 5, 2) by decide +kernel) (Nat.le_of_ble_eq_true rfl)) <|
  mj_c1 (k_aloadn (k := 2) (show decode code 1141 = .ok (.aload_n 2, 1) by decide +kernel) rfl) <|
  mj_c1 (k_callV (idx := 137) (show decode code 1142 = .ok (.invokevirtual 137, 3) by decide +kernel) (fit_m_L_law_m_M_allFunctions) rfl rfl w_1148 w_1149 w_1150 (by decide) (by decide +kernel)) <|
  mj_c1 (k_istore (show decode code 1145 = .ok (.istore 6, 2) by decide +kernel) (Nat.le_of_ble_eq_true rfl)) <|
  mj_c1 (k_aloadn (k := 2) (show decode code 1147 = .ok (.aload_n 2, 1) by decide +kernel) rfl) <|
  mj_c1 (k_callV (idx := 89) (show decode code 1148 = .ok (.invokevirtual 89, 3) by decide +kernel) (fit_m_L_law_m_M_thrown) rfl rfl w_937 w_938 w_939 (by decide) (by decide +kernel)) <|
  mj_c1 (k_iload (show decode code 1151 = .ok (.iload 5, 2) by decide +kernel)) <|
  mj_c1 (k_iceq (off := 5) (show decode code 1153 = .ok (.if_icmp .eq 5, 3) by decide +kernel) (by decide)) <|
  mj_c1 (k_iconst (show decode code 1156 = .ok (.iconst 0, 1) by decide +kernel)) <|
  mj_c1 (k_zret (show decode code 1157 = .ok (.ireturn, 1) by decide +kernel) rfl) <|
  mj_c1 (k_iload (show decode code 1158 = .ok (.iload 5, 2) by decide +kernel)) <|
  mj_c1 (k_ifne (off := 15) (show decode code 1160 = .ok (.ifCond .ne 15, 3) by decide +kernel) (by decide)) <|
  mj_c1 (k_aloadn (k := 3) (show decode code 1163 = .ok (.aload_n 3, 1) by decide +kernel) rfl) <|
  mj_c1 (k_iconst (show decode code 1164 = .ok (.iconst 0, 1) by decide +kernel)) <|
  mj_c1 (k_lal (show decode code 1165 = .ok (.laload, 1) by decide +kernel)) <|
  mj_c1 (k_iload (show decode code 1166 = .ok (.iload 6, 2) by decide +kernel)) <|
  mj_c1 (k_i2l (show decode code 1168 = .ok (.i2l, 1) by decide +kernel)) <|
  mj_c1 (k_lcmp (show decode code 1169 = .ok (.lcmp, 1) by decide +kernel)) <|
  mj_c1 (k_ifeq (off := 5) (show decode code 1170 = .ok (.ifCond .eq 5, 3) by decide +kernel) (by decide)) <|
  mj_c1 (k_iconst (show decode code 1173 = .ok (.iconst 0, 1) by decide +kernel)) <|
  mj_c1 (k_zret (show decode code 1174 = .ok (.ireturn, 1) by decide +kernel) rfl) <|
  mj_c1 (k_goto (off := 238) (show decode code 1175 = .ok (.goto 238, 3) by decide +kernel) (by decide)) <|
  mj_c1 (k_aloadn (k := 1) (show decode code 1178 = .ok (.aload_n 1, 1) by decide +kernel) rfl) <|
  mj_c1 (k_aloadn (k := 0) (show decode code 1179 = .ok (.aload_n 0, 1) by decide +kernel) rfl) <|
  mj_c1 (k_iload (show decode code 1180 = .ok (.iload 4, 2) by decide +kernel)) <|
  mj_c1 (k_iconst (show decode code 1182 = .ok (.iconst 1, 1) by decide +kernel)) <|
  mj_c1 (k_iadd (show decode code 1183 = .ok (.iadd, 1) by decide +kernel)) <|
  mj_c1 (k_sal (show decode code 1184 = .ok (.iaload, 1) by decide +kernel) rfl) <|
  mj_c1 (k_aloadn (k := 0) (show decode code 1185 = .ok (.aload_n 0, 1) by decide +kernel) rfl) <|
  mj_c1 (k_iload (show decode code 1186 = .ok (.iload 4, 2) by decide +kernel)) <|
  mj_c1 (k_iconst (show decode code 1188 = .ok (.iconst 2, 1) by decide +kernel)) <|
  mj_c1 (k_iadd (show decode code 1189 = .ok (.iadd, 1) by decide +kernel)) <|
  mj_c1 (k_sal (show decode code 1190 = .ok (.iaload, 1) by decide +kernel) rfl) <|
  mj_c1 (k_ifeq (off := 7) (show decode code 1191 = .ok (.ifCond .eq 7, 3) by decide +kernel) (by decide)) <|
  mj_c1 (k_iconst (show decode code 1194 = .ok (.iconst 1, 1) by decide +kernel)) <|
  mj_c1 (k_goto (off := 4) (show decode code 1195 = .ok (.goto 4, 3) by decide +kernel) (by decide)) <|
  mj_c1 (k_iconst (show decode code 1198 = .ok (.iconst 0, 1) by decide +kernel)) <|
  mj_c1 (k_aloadn (k := 0) (show decode code 1199 = .ok (.aload_n 0, 1) by decide +kernel) rfl) <|
  mj_c1 (k_iload (show decode code 1200 = .ok (.iload 4, 2) by decide +kernel)) <|
  mj_c1 (k_iconst (show decode code 1202 = .ok (.iconst 3, 1) by decide +kernel)) <|
  mj_c1 (k_iadd (show decode code 1203 = .ok (.iadd, 1) by decide +kernel)) <|
  mj_c1 (k_sal (show decode code 1204 = .ok (.iaload, 1) by decide +kernel) rfl) <|
  mj_c1 (k_ifeq (off := 7) (show decode code 1205 = .ok (.ifCond .eq 7, 3) by decide +kernel) (by decide)) <|
  mj_c1 (k_iconst (show decode code 1208 = .ok (.iconst 1, 1) by decide +kernel)) <|
  mj_c1 (k_goto (off := 4) (show decode code 1209 = .ok (.goto 4, 3) by decide +kernel) (by decide)) <|
  mj_c1 (k_iconst (show decode code 1212 = .ok (.iconst 0, 1) by decide +kernel)) <|
  mj_c1 (k_aloadn (k := 3) (show decode code 1213 = .ok (.aload_n 3, 1) by decide +kernel) rfl) <|
  mj_c1 (k_callS (idx := 138) (show decode code 1214 = .ok (.invokestatic 138, 3) by decide +kernel) (fit_m_L_law_m_L_write) rfl w_739 w_740 (by decide) (by decide +kernel)) <|
  mj_c1 (k_istore (show decode code 1217 = .ok (.istore 5, 2) by decide +kernel) (Nat.le_of_ble_eq_true rfl)) <|
  mj_c1 (k_aloadn (k := 2) (show decode code 1219 = .ok (.aload_n 2, 1) by decide +kernel) rfl) <|
  mj_c1 (k_aloadn (k := 0) (show decode code 1220 = .ok (.aload_n 0, 1) by decide +kernel) rfl) <|
  mj_c1 (k_iload (show decode code 1221 = .ok (.iload 4, 2) by decide +kernel)) <|
  mj_c1 (k_iconst (show decode code 1223 = .ok (.iconst 1, 1) by decide +kernel)) <|
  mj_c1 (k_iadd (show decode code 1224 = .ok (.iadd, 1) by decide +kernel)) <|
  mj_c1 (k_sal (show decode code 1225 = .ok (.iaload, 1) by decide +kernel) rfl) <|
  mj_c1 (k_aloadn (k := 0) (show decode code 1226 = .ok (.aload_n 0, 1) by decide +kernel) rfl) <|
  mj_c1 (k_iload (show decode code 1227 = .ok (.iload 4, 2) by decide +kernel)) <|
  mj_c1 (k_iconst (show decode code 1229 = .ok (.iconst 2, 1) by decide +kernel)) <|
  mj_c1 (k_iadd (show decode code 1230 = .ok (.iadd, 1) by decide +kernel)) <|
  mj_c1 (k_sal (show decode code 1231 = .ok (.iaload, 1) by decide +kernel) rfl) <|
  mj_c1 (k_ifeq (off := 7) (show decode code 1232 = .ok (.ifCond .eq 7, 3) by decide +kernel) (by decide)) <|
  mj_c1 (k_iconst (show decode code 1235 = .ok (.iconst 1, 1) by decide +kernel)) <|
  mj_c1 (k_goto (off := 4) (show decode code 1236 = .ok (.goto 4, 3) by decide +kernel) (by decide)) <|
  mj_c1 (k_iconst (show decode code 1239 = .ok (.iconst 0, 1) by decide +kernel)) <|
  mj_c1 (k_aloadn (k := 0) (show decode code 1240 = .ok (.aload_n 0, 1) by decide +kernel) rfl) <|
  mj_c1 (k_iload (show decode code 1241 = .ok (.iload 4, 2) by decide +kernel)) <|
  mj_c1 (k_iconst (show decode code 1243 = .ok (.iconst 3, 1) by decide +kernel)) <|
  mj_c1 (k_iadd (show decode code 1244 = .ok (.iadd, 1) by decide +kernel)) <|
  mj_c1 (k_sal (show decode code 1245 = .ok (.iaload, 1) by decide +kernel) rfl) <|
  mj_c1 (k_ifeq (off := 7) (show decode code 1246 = .ok (.ifCond .eq 7, 3) by decide +kernel) (by decide)) <|
  mj_c1 (k_iconst (show decode code 1249 = .ok (.iconst 1, 1) by decide +kernel)) <|
  mj_c1 (k_goto (off := 4) (show decode code 1250 = .ok (.goto 4, 3) by decide +kernel) (by decide)) <|
  mj_c1 (k_iconst (show decode code 1253 = .ok (.iconst 0, 1) by decide +kernel)) <|
  mj_c1 (k_callV (idx := 141) (show decode code 1254 = .ok (.invokevirtual 141, 3) by decide +kernel) (fit_m_L_law_m_M_write) rfl rfl w_1152 w_1153 w_1154 (by decide) (by decide +kernel)) <|
  mj_c1 (k_istore (show decode code 1257 = .ok (.istore 6, 2) by decide +kernel) (Nat.le_of_ble_eq_true rfl)) <|
  mj_c1 (k_aloadn (k := 2) (show decode code 1259 = .ok (.aload_n 2, 1) by decide +kernel) rfl) <|
  mj_c1 (k_callV (idx := 89) (show decode code 1260 = .ok (.invokevirtual 89, 3) by decide +kernel) (fit_m_L_law_m_M_thrown) rfl rfl w_937 w_938 w_939 (by decide) (by decide +kernel)) <|
  mj_c1 (k_iload (show decode code 1263 = .ok (.iload 5, 2) by decide +kernel)) <|
  mj_c1 (k_iceq (off := 5) (show decode code 1265 = .ok (.if_icmp .eq 5, 3) by decide +kernel) (by decide)) <|
  mj_c1 (k_iconst (show decode code 1268 = .ok (.iconst 0, 1) by decide +kernel)) <|
  mj_c1 (k_zret (show decode code 1269 = .ok (.ireturn, 1) by decide +kernel) rfl) <|
  mj_c1 (k_iload (show decode code 1270 = .ok (.iload 5, 2) by decide +kernel)) <|
  mj_c1 (k_ifne (off := 15) (show decode code 1272 = .ok (.ifCond .ne 15, 3) by decide +kernel) (by decide)) <|
  mj_c1 (k_aloadn (k := 3) (show decode code 1275 = .ok (.aload_n 3, 1) by decide +kernel) rfl) <|
  mj_c1 (k_iconst (show decode code 1276 = .ok (.iconst 0, 1) by decide +kernel)) <|
  mj_c1 (k_lal (show decode code 1277 = .ok (.laload, 1) by decide +kernel)) <|
  mj_c1 (k_iload (show decode code 1278 = .ok (.iload 6, 2) by decide +kernel)) <|
  mj_c1 (k_i2l (show decode code 1280 = .ok (.i2l, 1) by decide +kernel)) <|
  mj_c1 (k_lcmp (show decode code 1281 = .ok (.lcmp, 1) by decide +kernel)) <|
  mj_c1 (k_ifeq (off := 5) (show decode code 1282 = .ok (.ifCond .eq 5, 3) by decide +kernel) (by decide)) <|
  mj_c1 (k_iconst (show decode code 1285 = .ok (.iconst 0, 1) by decide +kernel)) <|
  mj_c1 (k_zret (show decode code 1286 = .ok (.ireturn, 1) by decide +kernel) rfl) <|
  mj_c1 (k_goto (off := 126) (show decode code 1287 = .ok (.goto 126, 3) by decide +kernel) (by decide)) <|
  mj_c1 (k_aloadn (k := 1) (show decode code 1290 = .ok (.aload_n 1, 1) by decide +kernel) rfl) <|
  mj_c1 (k_aloadn (k := 0) (show decode code 1291 = .ok (.aload_n 0, 1) by decide +kernel) rfl) <|
  mj_c1 (k_iload (show decode code 1292 = .ok (.iload 4, 2) by decide +kernel)) <|
  mj_c1 (k_iconst (show decode code 1294 = .ok (.iconst 1, 1) by decide +kernel)) <|
  mj_c1 (k_iadd (show decode code 1295 = .ok (.iadd, 1) by decide +kernel)) <|
  mj_c1 (k_sal (show decode code 1296 = .ok (.iaload, 1) by decide +kernel) rfl) <|
  mj_c1 (k_aloadn (k := 3) (show decode code 1297 = .ok (.aload_n 3, 1) by decide +kernel) rfl) <|
  mj_c1 (k_callS (idx := 142) (show decode code 1298 = .ok (.invokestatic 142, 3) by decide +kernel) (fit_m_L_law_m_L_out) rfl w_814 w_815 (by decide) (by decide +kernel)) <|
  mj_c1 (k_istore (show decode code 1301 = .ok (.istore 5, 2) by decide +kernel) (Nat.le_of_ble_eq_true rfl)) <|
  mj_c1 (k_aloadn (k := 2) (show decode code 1303 = .ok (.aload_n 2, 1) by decide +kernel) rfl) <|
  mj_c1 (k_aloadn (k := 0) (show decode code 1304 = .ok (.aload_n 0, 1) by decide +kernel) rfl) <|
  mj_c1 (k_iload (show decode code 1305 = .ok (.iload 4, 2) by decide +kernel)) <|
  mj_c1 (k_iconst (show decode code 1307 = .ok (.iconst 1, 1) by decide +kernel)) <|
  mj_c1 (k_iadd (show decode code 1308 = .ok (.iadd, 1) by decide +kernel)) <|
  mj_c1 (k_sal (show decode code 1309 = .ok (.iaload, 1) by decide +kernel) rfl) <|
  mj_c1 (k_callV (idx := 144) (show decode code 1310 = .ok (.invokevirtual 144, 3) by decide +kernel) (fit_m_L_law_m_M_out) rfl rfl w_1188 w_1189 w_1190 (by decide) (by decide +kernel)) <|
  mj_c1 (k_lstore (show decode code 1313 = .ok (.lstore 6, 2) by decide +kernel) (Nat.le_of_ble_eq_true rfl)) <|
  mj_c1 (k_aloadn (k := 2) (show decode code 1315 = .ok (.aload_n 2, 1) by decide +kernel) rfl) <|
  mj_c1 (k_callV (idx := 89) (show decode code 1316 = .ok (.invokevirtual 89, 3) by decide +kernel) (fit_m_L_law_m_M_thrown) rfl rfl w_937 w_938 w_939 (by decide) (by decide +kernel)) <|
  mj_c1 (k_iload (show decode code 1319 = .ok (.iload 5, 2) by decide +kernel)) <|
  mj_c1 (k_iceq (off := 5) (show decode code 1321 = .ok (.if_icmp .eq 5, 3) by decide +kernel) (by decide)) <|
  mj_c1 (k_iconst (show decode code 1324 = .ok (.iconst 0, 1) by decide +kernel)) <|
  mj_c1 (k_zret (show decode code 1325 = .ok (.ireturn, 1) by decide +kernel) rfl) <|
  mj_c1 (k_iload (show decode code 1326 = .ok (.iload 5, 2) by decide +kernel)) <|
  mj_c1 (k_ifne (off := 14) (show decode code 1328 = .ok (.ifCond .ne 14, 3) by decide +kernel) (by decide)) <|
  mj_c1 (k_aloadn (k := 3) (show decode code 1331 = .ok (.aload_n 3, 1) by decide +kernel) rfl) <|
  mj_c1 (k_iconst (show decode code 1332 = .ok (.iconst 0, 1) by decide +kernel)) <|
  mj_c1 (k_lal (show decode code 1333 = .ok (.laload, 1) by decide +kernel)) <|
  mj_c1 (k_lload (show decode code 1334 = .ok (.lload 6, 2) by decide +kernel)) <|
  mj_c1 (k_lcmp (show decode code 1336 = .ok (.lcmp, 1) by decide +kernel)) <|
  mj_c1 (k_ifeq (off := 5) (show decode code 1337 = .ok (.ifCond .eq 5, 3) by decide +kernel) (by decide)) <|
  mj_c1 (k_iconst (show decode code 1340 = .ok (.iconst 0, 1) by decide +kernel)) <|
  mj_c1 (k_zret (show decode code 1341 = .ok (.ireturn, 1) by decide +kernel) rfl) <|
  mj_c1 (k_goto (off := 71) (show decode code 1342 = .ok (.goto 71, 3) by decide +kernel) (by decide)) <|
  mj_c1 (k_aloadn (k := 1) (show decode code 1345 = .ok (.aload_n 1, 1) by decide +kernel) rfl) <|
  mj_c1 (k_aloadn (k := 0) (show decode code 1346 = .ok (.aload_n 0, 1) by decide +kernel) rfl) <|
  mj_c1 (k_iload (show decode code 1347 = .ok (.iload 4, 2) by decide +kernel)) <|
  mj_c1 (k_iconst (show decode code 1349 = .ok (.iconst 1, 1) by decide +kernel)) <|
  mj_c1 (k_iadd (show decode code 1350 = .ok (.iadd, 1) by decide +kernel)) <|
  mj_c1 (k_sal (show decode code 1351 = .ok (.iaload, 1) by decide +kernel) rfl) <|
  mj_c1 (k_aloadn (k := 0) (show decode code 1352 = .ok (.aload_n 0, 1) by decide +kernel) rfl) <|
  mj_c1 (k_iload (show decode code 1353 = .ok (.iload 4, 2) by decide +kernel)) <|
  mj_c1 (k_iconst (show decode code 1355 = .ok (.iconst 2, 1) by decide +kernel)) <|
  mj_c1 (k_iadd (show decode code 1356 = .ok (.iadd, 1) by decide +kernel)) <|
  mj_c1 (k_sal (show decode code 1357 = .ok (.iaload, 1) by decide +kernel) rfl) <|
  mj_c1 (k_aloadn (k := 3) (show decode code 1358 = .ok (.aload_n 3, 1) by decide +kernel) rfl) <|
  mj_c1 (k_callS (idx := 145) (show decode code 1359 = .ok (.invokestatic 145, 3) by decide +kernel) (fit_m_L_law_m_L_look) rfl w_826 w_827 (by decide) (by decide +kernel)) <|
  mj_c1 (k_istore (show decode code 1362 = .ok (.istore 5, 2) by decide +kernel) (Nat.le_of_ble_eq_true rfl)) <|
  mj_c1 (k_aloadn (k := 2) (show decode code 1364 = .ok (.aload_n 2, 1) by decide +kernel) rfl) <|
  mj_c1 (k_aloadn (k := 0) (show decode code 1365 = .ok (.aload_n 0, 1) by decide +kernel) rfl) <|
  mj_c1 (k_iload (show decode code 1366 = .ok (.iload 4, 2) by decide +kernel)) <|
  mj_c1 (k_iconst (show decode code 1368 = .ok (.iconst 1, 1) by decide +kernel)) <|
  mj_c1 (k_iadd (show decode code 1369 = .ok (.iadd, 1) by decide +kernel)) <|
  mj_c1 (k_sal (show decode code 1370 = .ok (.iaload, 1) by decide +kernel) rfl) <|
  mj_c1 (k_aloadn (k := 0) (show decode code 1371 = .ok (.aload_n 0, 1) by decide +kernel) rfl) <|
  mj_c1 (k_iload (show decode code 1372 = .ok (.iload 4, 2) by decide +kernel)) <|
  mj_c1 (k_iconst (show decode code 1374 = .ok (.iconst 2, 1) by decide +kernel)) <|
  mj_c1 (k_iadd (show decode code 1375 = .ok (.iadd, 1) by decide +kernel)) <|
  mj_c1 (k_sal (show decode code 1376 = .ok (.iaload, 1) by decide +kernel) rfl) <|
  mj_c1 (k_callV (idx := 147) (show decode code 1377 = .ok (.invokevirtual 147, 3) by decide +kernel) (fit_m_L_law_m_M_look) rfl rfl w_1192 w_1193 w_1194 (by decide) (by decide +kernel)) <|
  mj_c1 (k_istore (show decode code 1380 = .ok (.istore 6, 2) by decide +kernel) (Nat.le_of_ble_eq_true rfl)) <|
  mj_c1 (k_aloadn (k := 2) (show decode code 1382 = .ok (.aload_n 2, 1) by decide +kernel) rfl) <|
  mj_c1 (k_callV (idx := 89) (show decode code 1383 = .ok (.invokevirtual 89, 3) by decide +kernel) (fit_m_L_law_m_M_thrown) rfl rfl w_937 w_938 w_939 (by decide) (by decide +kernel)) <|
  mj_c1 (k_iload (show decode code 1386 = .ok (.iload 5, 2) by decide +kernel)) <|
  mj_c1 (k_iceq (off := 5) (show decode code 1388 = .ok (.if_icmp .eq 5, 3) by decide +kernel) (by decide)) <|
  mj_c1 (k_iconst (show decode code 1391 = .ok (.iconst 0, 1) by decide +kernel)) <|
  mj_c1 (k_zret (show decode code 1392 = .ok (.ireturn, 1) by decide +kernel) rfl) <|
  mj_c1 (k_iload (show decode code 1393 = .ok (.iload 5, 2) by decide +kernel)) <|
  mj_c1 (k_ifne (off := 15) (show decode code 1395 = .ok (.ifCond .ne 15, 3) by decide +kernel) (by decide)) <|
  mj_c1 (k_aloadn (k := 3) (show decode code 1398 = .ok (.aload_n 3, 1) by decide +kernel) rfl) <|
  mj_c1 (k_iconst (show decode code 1399 = .ok (.iconst 0, 1) by decide +kernel)) <|
  mj_c1 (k_lal (show decode code 1400 = .ok (.laload, 1) by decide +kernel)) <|
  mj_c1 (k_iload (show decode code 1401 = .ok (.iload 6, 2) by decide +kernel)) <|
  mj_c1 (k_i2l (show decode code 1403 = .ok (.i2l, 1) by decide +kernel)) <|
  mj_c1 (k_lcmp (show decode code 1404 = .ok (.lcmp, 1) by decide +kernel)) <|
  mj_c1 (k_ifeq (off := 5) (show decode code 1405 = .ok (.ifCond .eq 5, 3) by decide +kernel) (by decide)) <|
  mj_c1 (k_iconst (show decode code 1408 = .ok (.iconst 0, 1) by decide +kernel)) <|
  mj_c1 (k_zret (show decode code 1409 = .ok (.ireturn, 1) by decide +kernel) rfl) <|
  mj_c1 (k_goto (off := 3) (show decode code 1410 = .ok (.goto 3, 3) by decide +kernel) (by decide)) <|
  mj_c1 (k_iinc (show decode code 1413 = .ok (.iinc 4 4, 3) by decide +kernel) (Nat.le_of_ble_eq_true rfl)) <|
  mj_c1 (k_goto (off := -1393) (show decode code 1416 = .ok (.goto (-1393), 3) by decide +kernel) (by decide)) <|
  mj_c1 (k_iconst (show decode code 1419 = .ok (.iconst 1, 1) by decide +kernel)) <|
  mj_c1 (k_zret (show decode code 1420 = .ok (.ireturn, 1) by decide +kernel) rfl) mj_c0
