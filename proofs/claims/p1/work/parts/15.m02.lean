/-! ROWS OF THE TABLE, method by method (written by wip/p1/genrows.py) -/
abbrev zM_B_partsOf : zr_M := (RX0, cX0_partsOf, 2, (some (.object "EvenBodies$Parts")), "partsOf")
theorem zk_B_partsOf_0 : zr_Ok zM_B_partsOf zp_B_partsOf 0 (zz_load zz_isA 0) := zo_aload_n (pc := 0) (i := 0) (f := 0) rfl rfl rfl (by decide +kernel)
theorem zk_B_partsOf_1 : zr_Ok zM_B_partsOf zp_B_partsOf 1 (zz_get 0 3) := zo_getf (pc := 1) (idx := 62) (C := RX0) (T := TX0) (N := 12) rfl rfl (by decide +kernel) rfl zin_X0 (by decide) zw_151
theorem zk_B_partsOf_2 : zr_Ok zM_B_partsOf zp_B_partsOf 2 (zz_ifnn 12) := zo_ifnn (pc := 4) (t := 12) (tgt := 26) (off := 22) rfl rfl rfl (by decide +kernel) (by decide)
theorem zk_B_partsOf_3 : zr_Ok zM_B_partsOf zp_B_partsOf 3 (zz_load zz_isA 0) := zo_aload_n (pc := 7) (i := 0) (f := 0) rfl rfl rfl (by decide +kernel)
theorem zk_B_partsOf_4 : zr_Ok zM_B_partsOf zp_B_partsOf 4 (zz_new 4 5 [.inr (.inl 0), .inr (.inl 0), .inr (.inl 0), .inr (.inl 0), .inr (.inl 0)]) := zo_new (pc := 8) (idx := 66) (C := RX4) (T := TX4) (ty0 := tyX4) (vs := zvs_X4) rfl rfl (by decide +kernel) rfl zin_X4 tyX4_ok zw_152 zw_153 zw_154 zvs_X4_ok zvs_X4_d
theorem zk_B_partsOf_5 : zr_Ok zM_B_partsOf zp_B_partsOf 5 (zz_dup) := zo_dup (pc := 11) rfl rfl (by decide +kernel)
theorem zk_B_partsOf_6 : zr_Ok zM_B_partsOf zp_B_partsOf 6 (zz_load zz_isA 0) := zo_aload_n (pc := 12) (i := 0) (f := 0) rfl rfl rfl (by decide +kernel)
theorem zk_B_partsOf_7 : zr_Ok zM_B_partsOf zp_B_partsOf 7 (zz_get 0 0) := zo_getf (pc := 13) (idx := 12) (C := RX0) (T := TX0) (N := 12) rfl rfl (by decide +kernel) rfl zin_X0 (by decide) zw_23
theorem zk_B_partsOf_8 : zr_Ok zM_B_partsOf zp_B_partsOf 8 (zz_load zz_isA 0) := zo_aload_n (pc := 16) (i := 0) (f := 0) rfl rfl rfl (by decide +kernel)
theorem zk_B_partsOf_9 : zr_Ok zM_B_partsOf zp_B_partsOf 9 (zz_call (zz_recv 0) 14 1) := zo_callV (C := RX0) (T := TX0) (N := 12) (idx := 68) (mi := 14) (n := 0) (pc := 17) zg_ok rfl rfl (by decide +kernel) rfl zw_91 (by decide) rfl zw_155 zw_93 zw_94 zw_28 (by decide +kernel)
theorem zk_B_partsOf_10 : zr_Ok zM_B_partsOf zp_B_partsOf 10 (zz_call (zz_recv 4) 25 3) := zo_callI (ret2 := none) (idx := 72) (mi := 25) (n := 2) (pc := 20) zg_ok rfl rfl (by decide +kernel) rfl zw_156 (by decide) zw_158 zw_157 zw_154 rfl (by decide +kernel)
theorem zk_B_partsOf_11 : zr_Ok zM_B_partsOf zp_B_partsOf 11 (zz_putf 0 3 2) := zo_putf (pc := 23) (idx := 62) (C := RX0) (T := TX0) (N := 12) (ty0 := tyX0) rfl rfl (by decide +kernel) rfl zin_X0 tyX0_ok nmX0 (by decide) zw_151 rfl (Or.inl ⟨_, rfl⟩)
theorem zk_B_partsOf_12 : zr_Ok zM_B_partsOf zp_B_partsOf 12 (zz_load zz_isA 0) := zo_aload_n (pc := 26) (i := 0) (f := 0) rfl rfl rfl (by decide +kernel)
theorem zk_B_partsOf_13 : zr_Ok zM_B_partsOf zp_B_partsOf 13 (zz_get 0 8) := zo_getf (pc := 27) (idx := 32) (C := RX0) (T := TX0) (N := 12) rfl rfl (by decide +kernel) rfl zin_X0 (by decide) zw_96
theorem zk_B_partsOf_14 : zr_Ok zM_B_partsOf zp_B_partsOf 14 (zz_eq0 14 0 25) := zo_if_ne (pc := 30) (t := 24) (tgt := 50) (off := 20) rfl rfl rfl (by decide +kernel) (by decide)
theorem zk_B_partsOf_15 : zr_Ok zM_B_partsOf zp_B_partsOf 15 (zz_load zz_isA 0) := zo_aload_n (pc := 33) (i := 0) (f := 0) rfl rfl rfl (by decide +kernel)
theorem zk_B_partsOf_16 : zr_Ok zM_B_partsOf zp_B_partsOf 16 (zz_call (zz_recv 0) 14 1) := zo_callV (C := RX0) (T := TX0) (N := 12) (idx := 68) (mi := 14) (n := 0) (pc := 34) zg_ok rfl rfl (by decide +kernel) rfl zw_91 (by decide) rfl zw_155 zw_93 zw_94 zw_28 (by decide +kernel)
theorem zk_B_partsOf_17 : zr_Ok zM_B_partsOf zp_B_partsOf 17 (zz_pop) := zo_pop (pc := 37) rfl rfl (by decide +kernel)
theorem zk_B_partsOf_18 : zr_Ok zM_B_partsOf zp_B_partsOf 18 (zz_load zz_isA 0) := zo_aload_n (pc := 38) (i := 0) (f := 0) rfl rfl rfl (by decide +kernel)
theorem zk_B_partsOf_19 : zr_Ok zM_B_partsOf zp_B_partsOf 19 (zz_get 0 3) := zo_getf (pc := 39) (idx := 62) (C := RX0) (T := TX0) (N := 12) rfl rfl (by decide +kernel) rfl zin_X0 (by decide) zw_151
theorem zk_B_partsOf_20 : zr_Ok zM_B_partsOf zp_B_partsOf 20 (zz_call (zz_recv 4) 26 1) := zo_callV (C := RX4) (T := TX4) (N := 5) (idx := 75) (mi := 26) (n := 0) (pc := 42) zg_ok rfl rfl (by decide +kernel) rfl zw_159 (by decide) rfl zw_160 zw_161 zw_162 zw_154 (by decide +kernel)
theorem zk_B_partsOf_21 : zr_Ok zM_B_partsOf zp_B_partsOf 21 (zz_load zz_isA 0) := zo_aload_n (pc := 45) (i := 0) (f := 0) rfl rfl rfl (by decide +kernel)
theorem zk_B_partsOf_22 : zr_Ok zM_B_partsOf zp_B_partsOf 22 (zz_push (.inl 1)) := zo_iconst (pc := 46) (n := 1) (v := 1) rfl rfl (by decide +kernel) (by decide +kernel)
theorem zk_B_partsOf_23 : zr_Ok zM_B_partsOf zp_B_partsOf 23 (zz_putf 0 8 1) := zo_putf (pc := 47) (idx := 32) (C := RX0) (T := TX0) (N := 12) (ty0 := tyX0) rfl rfl (by decide +kernel) rfl zin_X0 tyX0_ok nmX0 (by decide) zw_96 rfl rfl
theorem zk_B_partsOf_24 : zr_Ok zM_B_partsOf zp_B_partsOf 24 (zz_load zz_isA 0) := zo_aload_n (pc := 50) (i := 0) (f := 0) rfl rfl rfl (by decide +kernel)
theorem zk_B_partsOf_25 : zr_Ok zM_B_partsOf zp_B_partsOf 25 (zz_get 0 3) := zo_getf (pc := 51) (idx := 62) (C := RX0) (T := TX0) (N := 12) rfl rfl (by decide +kernel) rfl zin_X0 (by decide) zw_151
theorem zk_B_partsOf_26 : zr_Ok zM_B_partsOf zp_B_partsOf 26 (zz_load zz_isI 1) := zo_iload_n (pc := 54) (i := 1) (f := 1) rfl rfl rfl (by decide +kernel)
theorem zk_B_partsOf_27 : zr_Ok zM_B_partsOf zp_B_partsOf 27 (zz_call (zz_recv 4) 31 2) := zo_callV (C := RX4) (T := TX4) (N := 5) (idx := 78) (mi := 31) (n := 1) (pc := 55) zg_ok rfl rfl (by decide +kernel) rfl zw_163 (by decide) rfl zw_164 zw_165 zw_166 zw_154 (by decide +kernel)
theorem zk_B_partsOf_28 : zr_Ok zM_B_partsOf zp_B_partsOf 28 (zz_load zz_isA 0) := zo_aload_n (pc := 58) (i := 0) (f := 0) rfl rfl rfl (by decide +kernel)
theorem zk_B_partsOf_29 : zr_Ok zM_B_partsOf zp_B_partsOf 29 (zz_get 0 3) := zo_getf (pc := 59) (idx := 62) (C := RX0) (T := TX0) (N := 12) rfl rfl (by decide +kernel) rfl zin_X0 (by decide) zw_151
theorem zk_B_partsOf_30 : zr_Ok zM_B_partsOf zp_B_partsOf 30 (zz_ret1 zz_isA) := zo_areturn (pc := 62) rfl (by decide +kernel) rfl
theorem zk_B_partsOf : zr_OkL zM_B_partsOf zp_B_partsOf 0 zc_B_partsOf := ⟨zk_B_partsOf_0, zk_B_partsOf_1, zk_B_partsOf_2, zk_B_partsOf_3, zk_B_partsOf_4, zk_B_partsOf_5, zk_B_partsOf_6, zk_B_partsOf_7, zk_B_partsOf_8, zk_B_partsOf_9, zk_B_partsOf_10, zk_B_partsOf_11, zk_B_partsOf_12, zk_B_partsOf_13, zk_B_partsOf_14, zk_B_partsOf_15, zk_B_partsOf_16, zk_B_partsOf_17, zk_B_partsOf_18, zk_B_partsOf_19, zk_B_partsOf_20, zk_B_partsOf_21, zk_B_partsOf_22, zk_B_partsOf_23, zk_B_partsOf_24, zk_B_partsOf_25, zk_B_partsOf_26, zk_B_partsOf_27, zk_B_partsOf_28, zk_B_partsOf_29, zk_B_partsOf_30, trivial⟩
abbrev zM_C_init : zr_M := (RX1, cX1_init, 4, none, "<init>")
theorem zk_C_init_0 : zr_Ok zM_C_init zp_C_init 0 (zz_load zz_isA 0) := zo_aload_n (pc := 0) (i := 0) (f := 0) rfl rfl rfl (by decide +kernel)
theorem zk_C_init_1 : zr_Ok zM_C_init zp_C_init 1 (zz_obj) := zo_obj (pc := 1) (idx := 3) rfl rfl (by decide +kernel) zw_167 zw_9 zw_10
theorem zk_C_init_2 : zr_Ok zM_C_init zp_C_init 2 (zz_load zz_isA 0) := zo_aload_n (pc := 4) (i := 0) (f := 0) rfl rfl rfl (by decide +kernel)
theorem zk_C_init_3 : zr_Ok zM_C_init zp_C_init 3 (zz_push (.inl 500)) := zo_sipush (pc := 5) (n := 500) (v := 500) rfl rfl (by decide +kernel) (by decide +kernel)
theorem zk_C_init_4 : zr_Ok zM_C_init zp_C_init 4 (zz_newa 0) := zo_newi (pc := 8) rfl rfl (by decide +kernel) zw_11
theorem zk_C_init_5 : zr_Ok zM_C_init zp_C_init 5 (zz_putf 1 5 2) := zo_putF (pc := 10) (idx := 9) (C := RX1) (T := TX1) (N := 11) (ty0 := tyX1) rfl rfl (by decide +kernel) rfl zin_X1 tyX1_ok nmX1 (by decide) zw_168 rfl (Or.inr ⟨_, rfl⟩) rfl rfl
theorem zk_C_init_6 : zr_Ok zM_C_init zp_C_init 6 (zz_load zz_isA 0) := zo_aload_n (pc := 13) (i := 0) (f := 0) rfl rfl rfl (by decide +kernel)
theorem zk_C_init_7 : zr_Ok zM_C_init zp_C_init 7 (zz_push (.inl 2000)) := zo_sipush (pc := 14) (n := 2000) (v := 2000) rfl rfl (by decide +kernel) (by decide +kernel)
theorem zk_C_init_8 : zr_Ok zM_C_init zp_C_init 8 (zz_newa 0) := zo_newi (pc := 17) rfl rfl (by decide +kernel) zw_11
theorem zk_C_init_9 : zr_Ok zM_C_init zp_C_init 9 (zz_putf 1 6 2) := zo_putF (pc := 19) (idx := 15) (C := RX1) (T := TX1) (N := 11) (ty0 := tyX1) rfl rfl (by decide +kernel) rfl zin_X1 tyX1_ok nmX1 (by decide) zw_169 rfl (Or.inr ⟨_, rfl⟩) rfl rfl
theorem zk_C_init_10 : zr_Ok zM_C_init zp_C_init 10 (zz_load zz_isA 0) := zo_aload_n (pc := 22) (i := 0) (f := 0) rfl rfl rfl (by decide +kernel)
theorem zk_C_init_11 : zr_Ok zM_C_init zp_C_init 11 (zz_push (.inl 500)) := zo_sipush (pc := 23) (n := 500) (v := 500) rfl rfl (by decide +kernel) (by decide +kernel)
theorem zk_C_init_12 : zr_Ok zM_C_init zp_C_init 12 (zz_newa 0) := zo_newi (pc := 26) rfl rfl (by decide +kernel) zw_11
theorem zk_C_init_13 : zr_Ok zM_C_init zp_C_init 13 (zz_putf 1 7 2) := zo_putF (pc := 28) (idx := 18) (C := RX1) (T := TX1) (N := 11) (ty0 := tyX1) rfl rfl (by decide +kernel) rfl zin_X1 tyX1_ok nmX1 (by decide) zw_170 rfl (Or.inr ⟨_, rfl⟩) rfl rfl
theorem zk_C_init_14 : zr_Ok zM_C_init zp_C_init 14 (zz_load zz_isA 0) := zo_aload_n (pc := 31) (i := 0) (f := 0) rfl rfl rfl (by decide +kernel)
theorem zk_C_init_15 : zr_Ok zM_C_init zp_C_init 15 (zz_push (.inl 500)) := zo_sipush (pc := 32) (n := 500) (v := 500) rfl rfl (by decide +kernel) (by decide +kernel)
theorem zk_C_init_16 : zr_Ok zM_C_init zp_C_init 16 (zz_newa 0) := zo_newi (pc := 35) rfl rfl (by decide +kernel) zw_11
theorem zk_C_init_17 : zr_Ok zM_C_init zp_C_init 17 (zz_putf 1 8 2) := zo_putF (pc := 37) (idx := 21) (C := RX1) (T := TX1) (N := 11) (ty0 := tyX1) rfl rfl (by decide +kernel) rfl zin_X1 tyX1_ok nmX1 (by decide) zw_171 rfl (Or.inr ⟨_, rfl⟩) rfl rfl
theorem zk_C_init_18 : zr_Ok zM_C_init zp_C_init 18 (zz_load zz_isA 0) := zo_aload_n (pc := 40) (i := 0) (f := 0) rfl rfl rfl (by decide +kernel)
theorem zk_C_init_19 : zr_Ok zM_C_init zp_C_init 19 (zz_push (.inl 500)) := zo_sipush (pc := 41) (n := 500) (v := 500) rfl rfl (by decide +kernel) (by decide +kernel)
theorem zk_C_init_20 : zr_Ok zM_C_init zp_C_init 20 (zz_newa 2) := zo_newj (pc := 44) rfl rfl (by decide +kernel) zw_35
theorem zk_C_init_21 : zr_Ok zM_C_init zp_C_init 21 (zz_putf 1 9 2) := zo_putF (pc := 46) (idx := 24) (C := RX1) (T := TX1) (N := 11) (ty0 := tyX1) rfl rfl (by decide +kernel) rfl zin_X1 tyX1_ok nmX1 (by decide) zw_172 rfl (Or.inr ⟨_, rfl⟩) rfl rfl
theorem zk_C_init_22 : zr_Ok zM_C_init zp_C_init 22 (zz_load zz_isA 0) := zo_aload_n (pc := 49) (i := 0) (f := 0) rfl rfl rfl (by decide +kernel)
theorem zk_C_init_23 : zr_Ok zM_C_init zp_C_init 23 (zz_push (.inl 500)) := zo_sipush (pc := 50) (n := 500) (v := 500) rfl rfl (by decide +kernel) (by decide +kernel)
theorem zk_C_init_24 : zr_Ok zM_C_init zp_C_init 24 (zz_newa 2) := zo_newj (pc := 53) rfl rfl (by decide +kernel) zw_35
theorem zk_C_init_25 : zr_Ok zM_C_init zp_C_init 25 (zz_putf 1 10 2) := zo_putF (pc := 55) (idx := 28) (C := RX1) (T := TX1) (N := 11) (ty0 := tyX1) rfl rfl (by decide +kernel) rfl zin_X1 tyX1_ok nmX1 (by decide) zw_173 rfl (Or.inr ⟨_, rfl⟩) rfl rfl
theorem zk_C_init_26 : zr_Ok zM_C_init zp_C_init 26 (zz_load zz_isA 0) := zo_aload_n (pc := 58) (i := 0) (f := 0) rfl rfl rfl (by decide +kernel)
theorem zk_C_init_27 : zr_Ok zM_C_init zp_C_init 27 (zz_load zz_isA 1) := zo_aload_n (pc := 59) (i := 1) (f := 1) rfl rfl rfl (by decide +kernel)
theorem zk_C_init_28 : zr_Ok zM_C_init zp_C_init 28 (zz_putf 1 1 2) := zo_putF (pc := 60) (idx := 31) (C := RX1) (T := TX1) (N := 11) (ty0 := tyX1) rfl rfl (by decide +kernel) rfl zin_X1 tyX1_ok nmX1 (by decide) zw_174 rfl (Or.inl ⟨_, rfl⟩) rfl rfl
theorem zk_C_init_29 : zr_Ok zM_C_init zp_C_init 29 (zz_load zz_isA 0) := zo_aload_n (pc := 63) (i := 0) (f := 0) rfl rfl rfl (by decide +kernel)
theorem zk_C_init_30 : zr_Ok zM_C_init zp_C_init 30 (zz_load zz_isA 2) := zo_aload_n (pc := 64) (i := 2) (f := 2) rfl rfl rfl (by decide +kernel)
theorem zk_C_init_31 : zr_Ok zM_C_init zp_C_init 31 (zz_putf 1 2 2) := zo_putF (pc := 65) (idx := 35) (C := RX1) (T := TX1) (N := 11) (ty0 := tyX1) rfl rfl (by decide +kernel) rfl zin_X1 tyX1_ok nmX1 (by decide) zw_175 rfl (Or.inl ⟨_, rfl⟩) rfl rfl
theorem zk_C_init_32 : zr_Ok zM_C_init zp_C_init 32 (zz_load zz_isA 0) := zo_aload_n (pc := 68) (i := 0) (f := 0) rfl rfl rfl (by decide +kernel)
theorem zk_C_init_33 : zr_Ok zM_C_init zp_C_init 33 (zz_load zz_isA 3) := zo_aload_n (pc := 69) (i := 3) (f := 3) rfl rfl rfl (by decide +kernel)
theorem zk_C_init_34 : zr_Ok zM_C_init zp_C_init 34 (zz_putf 1 3 2) := zo_putF (pc := 70) (idx := 39) (C := RX1) (T := TX1) (N := 11) (ty0 := tyX1) rfl rfl (by decide +kernel) rfl zin_X1 tyX1_ok nmX1 (by decide) zw_176 rfl (Or.inl ⟨_, rfl⟩) rfl rfl
theorem zk_C_init_35 : zr_Ok zM_C_init zp_C_init 35 (zz_ret0) := zo_return (pc := 73) rfl (by decide +kernel) rfl
theorem zk_C_init : zr_OkL zM_C_init zp_C_init 0 zc_C_init := ⟨zk_C_init_0, zk_C_init_1, zk_C_init_2, zk_C_init_3, zk_C_init_4, zk_C_init_5, zk_C_init_6, zk_C_init_7, zk_C_init_8, zk_C_init_9, zk_C_init_10, zk_C_init_11, zk_C_init_12, zk_C_init_13, zk_C_init_14, zk_C_init_15, zk_C_init_16, zk_C_init_17, zk_C_init_18, zk_C_init_19, zk_C_init_20, zk_C_init_21, zk_C_init_22, zk_C_init_23, zk_C_init_24, zk_C_init_25, zk_C_init_26, zk_C_init_27, zk_C_init_28, zk_C_init_29, zk_C_init_30, zk_C_init_31, zk_C_init_32, zk_C_init_33, zk_C_init_34, zk_C_init_35, trivial⟩
abbrev zM_P_countOf : zr_M := (RX4, cX4_countOf, 2, (some .int), "countOf")
theorem zk_P_countOf_0 : zr_Ok zM_P_countOf zp_P_countOf 0 (zz_load zz_isA 0) := zo_aload_n (pc := 0) (i := 0) (f := 0) rfl rfl rfl (by decide +kernel)
theorem zk_P_countOf_1 : zr_Ok zM_P_countOf zp_P_countOf 1 (zz_get 4 3) := zo_getf (pc := 1) (idx := 15) (C := RX4) (T := TX4) (N := 5) rfl rfl (by decide +kernel) rfl zin_X4 (by decide) zw_129
theorem zk_P_countOf_2 : zr_Ok zM_P_countOf zp_P_countOf 2 (zz_load zz_isI 1) := zo_iload_n (pc := 4) (i := 1) (f := 1) rfl rfl rfl (by decide +kernel)
theorem zk_P_countOf_3 : zr_Ok zM_P_countOf zp_P_countOf 3 (zz_ald 3 0) := zo_iald (pc := 5) rfl rfl (by decide +kernel)
theorem zk_P_countOf_4 : zr_Ok zM_P_countOf zp_P_countOf 4 (zz_ret1 zz_isI) := zo_ireturn (pc := 6) rfl (by decide +kernel) rfl
theorem zk_P_countOf : zr_OkL zM_P_countOf zp_P_countOf 0 zc_P_countOf := ⟨zk_P_countOf_0, zk_P_countOf_1, zk_P_countOf_2, zk_P_countOf_3, zk_P_countOf_4, trivial⟩
abbrev zM_P_partWith : zr_M := (RX4, cX4_partWith, 3, (some .int), "partWith")
theorem zk_P_partWith_0 : zr_Ok zM_P_partWith zp_P_partWith 0 (zz_load zz_isA 0) := zo_aload_n (pc := 0) (i := 0) (f := 0) rfl rfl rfl (by decide +kernel)
theorem zk_P_partWith_1 : zr_Ok zM_P_partWith zp_P_partWith 1 (zz_get 4 2) := zo_getf (pc := 1) (idx := 9) (C := RX4) (T := TX4) (N := 5) rfl rfl (by decide +kernel) rfl zin_X4 (by decide) zw_128
theorem zk_P_partWith_2 : zr_Ok zM_P_partWith zp_P_partWith 2 (zz_load zz_isI 1) := zo_iload_n (pc := 4) (i := 1) (f := 1) rfl rfl rfl (by decide +kernel)
theorem zk_P_partWith_3 : zr_Ok zM_P_partWith zp_P_partWith 3 (zz_push (.inl 500)) := zo_sipush (pc := 5) (n := 500) (v := 500) rfl rfl (by decide +kernel) (by decide +kernel)
theorem zk_P_partWith_4 : zr_Ok zM_P_partWith zp_P_partWith 4 (zz_bin 4 zz_mul) := zo_imul (pc := 8) rfl rfl (by decide +kernel)
theorem zk_P_partWith_5 : zr_Ok zM_P_partWith zp_P_partWith 5 (zz_load zz_isI 2) := zo_iload_n (pc := 9) (i := 2) (f := 2) rfl rfl rfl (by decide +kernel)
theorem zk_P_partWith_6 : zr_Ok zM_P_partWith zp_P_partWith 6 (zz_bin 6 zz_add) := zo_iadd (pc := 10) rfl rfl (by decide +kernel)
theorem zk_P_partWith_7 : zr_Ok zM_P_partWith zp_P_partWith 7 (zz_ald 7 0) := zo_iald (pc := 11) rfl rfl (by decide +kernel)
theorem zk_P_partWith_8 : zr_Ok zM_P_partWith zp_P_partWith 8 (zz_ret1 zz_isI) := zo_ireturn (pc := 12) rfl (by decide +kernel) rfl
theorem zk_P_partWith : zr_OkL zM_P_partWith zp_P_partWith 0 zc_P_partWith := ⟨zk_P_partWith_0, zk_P_partWith_1, zk_P_partWith_2, zk_P_partWith_3, zk_P_partWith_4, zk_P_partWith_5, zk_P_partWith_6, zk_P_partWith_7, zk_P_partWith_8, trivial⟩
abbrev zM_G_withBehind : zr_M := (RX3, cX3_withBehind, 3, (some .int), "withBehind")
theorem zk_G_withBehind_0 : zr_Ok zM_G_withBehind zp_G_withBehind 0 (zz_load zz_isA 0) := zo_aload_n (pc := 0) (i := 0) (f := 0) rfl rfl rfl (by decide +kernel)
theorem zk_G_withBehind_1 : zr_Ok zM_G_withBehind zp_G_withBehind 1 (zz_get 3 8) := zo_getf (pc := 1) (idx := 27) (C := RX3) (T := TX3) (N := 12) rfl rfl (by decide +kernel) rfl zin_X3 (by decide) zw_58
theorem zk_G_withBehind_2 : zr_Ok zM_G_withBehind zp_G_withBehind 2 (zz_load zz_isI 1) := zo_iload_n (pc := 4) (i := 1) (f := 1) rfl rfl rfl (by decide +kernel)
theorem zk_G_withBehind_3 : zr_Ok zM_G_withBehind zp_G_withBehind 3 (zz_push (.inl 4)) := zo_iconst (pc := 5) (n := 4) (v := 4) rfl rfl (by decide +kernel) (by decide +kernel)
theorem zk_G_withBehind_4 : zr_Ok zM_G_withBehind zp_G_withBehind 4 (zz_bin 4 zz_mul) := zo_imul (pc := 6) rfl rfl (by decide +kernel)
theorem zk_G_withBehind_5 : zr_Ok zM_G_withBehind zp_G_withBehind 5 (zz_load zz_isI 2) := zo_iload_n (pc := 7) (i := 2) (f := 2) rfl rfl rfl (by decide +kernel)
theorem zk_G_withBehind_6 : zr_Ok zM_G_withBehind zp_G_withBehind 6 (zz_bin 6 zz_add) := zo_iadd (pc := 8) rfl rfl (by decide +kernel)
theorem zk_G_withBehind_7 : zr_Ok zM_G_withBehind zp_G_withBehind 7 (zz_ald 7 0) := zo_iald (pc := 9) rfl rfl (by decide +kernel)
theorem zk_G_withBehind_8 : zr_Ok zM_G_withBehind zp_G_withBehind 8 (zz_ret1 zz_isI) := zo_ireturn (pc := 10) rfl (by decide +kernel) rfl
theorem zk_G_withBehind : zr_OkL zM_G_withBehind zp_G_withBehind 0 zc_G_withBehind := ⟨zk_G_withBehind_0, zk_G_withBehind_1, zk_G_withBehind_2, zk_G_withBehind_3, zk_G_withBehind_4, zk_G_withBehind_5, zk_G_withBehind_6, zk_G_withBehind_7, zk_G_withBehind_8, trivial⟩
abbrev zM_C_addFirstNeighbour : zr_M := (RX1, cX1_addFirstNeighbour, 3, none, "addFirstNeighbour")
theorem zk_C_addFirstNeighbour_0 : zr_Ok zM_C_addFirstNeighbour zp_C_addFirstNeighbour 0 (zz_push (.inl 0)) := zo_iconst (pc := 0) (n := 0) (v := 0) rfl rfl (by decide +kernel) (by decide +kernel)
theorem zk_C_addFirstNeighbour_1 : zr_Ok zM_C_addFirstNeighbour zp_C_addFirstNeighbour 1 (zz_store zz_isI 2) := zo_istore_n (pc := 1) (i := 2) (f := 2) rfl rfl rfl (by decide +kernel) (by decide)
theorem zk_C_addFirstNeighbour_2 : zr_Ok zM_C_addFirstNeighbour zp_C_addFirstNeighbour 2 (zz_load zz_isI 2) := zo_iload_n (pc := 2) (i := 2) (f := 2) rfl rfl rfl (by decide +kernel)
theorem zk_C_addFirstNeighbour_3 : zr_Ok zM_C_addFirstNeighbour zp_C_addFirstNeighbour 3 (zz_load zz_isA 0) := zo_aload_n (pc := 3) (i := 0) (f := 0) rfl rfl rfl (by decide +kernel)
theorem zk_C_addFirstNeighbour_4 : zr_Ok zM_C_addFirstNeighbour zp_C_addFirstNeighbour 4 (zz_get 1 0) := zo_getf (pc := 4) (idx := 65) (C := RX1) (T := TX1) (N := 11) rfl rfl (by decide +kernel) rfl zin_X1 (by decide) zw_177
theorem zk_C_addFirstNeighbour_5 : zr_Ok zM_C_addFirstNeighbour zp_C_addFirstNeighbour 5 (zz_ilt 5 0 16) := zo_icmp_ge (pc := 7) (t := 15) (tgt := 27) (off := 20) rfl rfl rfl (by decide +kernel) (by decide)
theorem zk_C_addFirstNeighbour_15 : zr_Ok zM_C_addFirstNeighbour zp_C_addFirstNeighbour 15 (zz_load zz_isA 0) := zo_aload_n (pc := 27) (i := 0) (f := 0) rfl rfl rfl (by decide +kernel)
theorem zk_C_addFirstNeighbour_16 : zr_Ok zM_C_addFirstNeighbour zp_C_addFirstNeighbour 16 (zz_get 1 6) := zo_getf (pc := 28) (idx := 15) (C := RX1) (T := TX1) (N := 11) rfl rfl (by decide +kernel) rfl zin_X1 (by decide) zw_169
theorem zk_C_addFirstNeighbour_17 : zr_Ok zM_C_addFirstNeighbour zp_C_addFirstNeighbour 17 (zz_load zz_isA 0) := zo_aload_n (pc := 31) (i := 0) (f := 0) rfl rfl rfl (by decide +kernel)
theorem zk_C_addFirstNeighbour_18 : zr_Ok zM_C_addFirstNeighbour zp_C_addFirstNeighbour 18 (zz_get 1 0) := zo_getf (pc := 32) (idx := 65) (C := RX1) (T := TX1) (N := 11) rfl rfl (by decide +kernel) rfl zin_X1 (by decide) zw_177
theorem zk_C_addFirstNeighbour_19 : zr_Ok zM_C_addFirstNeighbour zp_C_addFirstNeighbour 19 (zz_load zz_isI 1) := zo_iload_n (pc := 35) (i := 1) (f := 1) rfl rfl rfl (by decide +kernel)
theorem zk_C_addFirstNeighbour_20 : zr_Ok zM_C_addFirstNeighbour zp_C_addFirstNeighbour 20 (zz_ast 20 0) := zo_iast (pc := 36) rfl rfl (by decide +kernel)
theorem zk_C_addFirstNeighbour_21 : zr_Ok zM_C_addFirstNeighbour zp_C_addFirstNeighbour 21 (zz_load zz_isA 0) := zo_aload_n (pc := 37) (i := 0) (f := 0) rfl rfl rfl (by decide +kernel)
theorem zk_C_addFirstNeighbour_22 : zr_Ok zM_C_addFirstNeighbour zp_C_addFirstNeighbour 22 (zz_dup) := zo_dup (pc := 38) rfl rfl (by decide +kernel)
theorem zk_C_addFirstNeighbour_23 : zr_Ok zM_C_addFirstNeighbour zp_C_addFirstNeighbour 23 (zz_get 1 0) := zo_getf (pc := 39) (idx := 65) (C := RX1) (T := TX1) (N := 11) rfl rfl (by decide +kernel) rfl zin_X1 (by decide) zw_177
theorem zk_C_addFirstNeighbour_24 : zr_Ok zM_C_addFirstNeighbour zp_C_addFirstNeighbour 24 (zz_push (.inl 1)) := zo_iconst (pc := 42) (n := 1) (v := 1) rfl rfl (by decide +kernel) (by decide +kernel)
theorem zk_C_addFirstNeighbour_25 : zr_Ok zM_C_addFirstNeighbour zp_C_addFirstNeighbour 25 (zz_bin 25 zz_add) := zo_iadd (pc := 43) rfl rfl (by decide +kernel)
theorem zk_C_addFirstNeighbour_26 : zr_Ok zM_C_addFirstNeighbour zp_C_addFirstNeighbour 26 (zz_putf 1 0 0) := zo_putf (pc := 44) (idx := 65) (C := RX1) (T := TX1) (N := 11) (ty0 := tyX1) rfl rfl (by decide +kernel) rfl zin_X1 tyX1_ok nmX1 (by decide) zw_177 rfl rfl
theorem zk_C_addFirstNeighbour_27 : zr_Ok zM_C_addFirstNeighbour zp_C_addFirstNeighbour 27 (zz_ret0) := zo_return (pc := 47) rfl (by decide +kernel) rfl
theorem zk_C_addFirstNeighbour : zr_OkL zM_C_addFirstNeighbour zp_C_addFirstNeighbour 0 zc_C_addFirstNeighbour := ⟨zk_C_addFirstNeighbour_0, zk_C_addFirstNeighbour_1, zk_C_addFirstNeighbour_2, zk_C_addFirstNeighbour_3, zk_C_addFirstNeighbour_4, zk_C_addFirstNeighbour_5, zo_no, zo_no, zo_no, zo_no, zo_no, zo_no, zo_no, zo_no, zo_no, zk_C_addFirstNeighbour_15, zk_C_addFirstNeighbour_16, zk_C_addFirstNeighbour_17, zk_C_addFirstNeighbour_18, zk_C_addFirstNeighbour_19, zk_C_addFirstNeighbour_20, zk_C_addFirstNeighbour_21, zk_C_addFirstNeighbour_22, zk_C_addFirstNeighbour_23, zk_C_addFirstNeighbour_24, zk_C_addFirstNeighbour_25, zk_C_addFirstNeighbour_26, zk_C_addFirstNeighbour_27, trivial⟩
abbrev zM_C_findFirstNeighbours : zr_M := (RX1, cX1_findFirstNeighbours, 3, none, "findFirstNeighbours")
theorem zk_C_findFirstNeighbours_0 : zr_Ok zM_C_findFirstNeighbours zp_C_findFirstNeighbours 0 (zz_load zz_isA 0) := zo_aload_n (pc := 0) (i := 0) (f := 0) rfl rfl rfl (by decide +kernel)
theorem zk_C_findFirstNeighbours_1 : zr_Ok zM_C_findFirstNeighbours zp_C_findFirstNeighbours 1 (zz_push (.inl 0)) := zo_iconst (pc := 1) (n := 0) (v := 0) rfl rfl (by decide +kernel) (by decide +kernel)
theorem zk_C_findFirstNeighbours_2 : zr_Ok zM_C_findFirstNeighbours zp_C_findFirstNeighbours 2 (zz_putf 1 0 0) := zo_putf (pc := 2) (idx := 65) (C := RX1) (T := TX1) (N := 11) (ty0 := tyX1) rfl rfl (by decide +kernel) rfl zin_X1 tyX1_ok nmX1 (by decide) zw_177 rfl rfl
theorem zk_C_findFirstNeighbours_3 : zr_Ok zM_C_findFirstNeighbours zp_C_findFirstNeighbours 3 (zz_push (.inl 0)) := zo_iconst (pc := 5) (n := 0) (v := 0) rfl rfl (by decide +kernel) (by decide +kernel)
theorem zk_C_findFirstNeighbours_4 : zr_Ok zM_C_findFirstNeighbours zp_C_findFirstNeighbours 4 (zz_store zz_isI 1) := zo_istore_n (pc := 6) (i := 1) (f := 1) rfl rfl rfl (by decide +kernel) (by decide)
theorem zk_C_findFirstNeighbours_5 : zr_Ok zM_C_findFirstNeighbours zp_C_findFirstNeighbours 5 (zz_load zz_isI 1) := zo_iload_n (pc := 7) (i := 1) (f := 1) rfl rfl rfl (by decide +kernel)
theorem zk_C_findFirstNeighbours_6 : zr_Ok zM_C_findFirstNeighbours zp_C_findFirstNeighbours 6 (zz_load zz_isA 0) := zo_aload_n (pc := 8) (i := 0) (f := 0) rfl rfl rfl (by decide +kernel)
theorem zk_C_findFirstNeighbours_7 : zr_Ok zM_C_findFirstNeighbours zp_C_findFirstNeighbours 7 (zz_get 1 2) := zo_getf (pc := 9) (idx := 35) (C := RX1) (T := TX1) (N := 11) rfl rfl (by decide +kernel) rfl zin_X1 (by decide) zw_175
theorem zk_C_findFirstNeighbours_8 : zr_Ok zM_C_findFirstNeighbours zp_C_findFirstNeighbours 8 (zz_get 3 0) := zo_getf (pc := 12) (idx := 53) (C := RX3) (T := TX3) (N := 12) rfl rfl (by decide +kernel) rfl zin_X3 (by decide) zw_178
theorem zk_C_findFirstNeighbours_9 : zr_Ok zM_C_findFirstNeighbours zp_C_findFirstNeighbours 9 (zz_ilt 9 0 47) := zo_icmp_ge (pc := 15) (t := 46) (tgt := 90) (off := 75) rfl rfl rfl (by decide +kernel) (by decide)
theorem zk_C_findFirstNeighbours_10 : zr_Ok zM_C_findFirstNeighbours zp_C_findFirstNeighbours 10 (zz_push (.inl 0)) := zo_iconst (pc := 18) (n := 0) (v := 0) rfl rfl (by decide +kernel) (by decide +kernel)
theorem zk_C_findFirstNeighbours_11 : zr_Ok zM_C_findFirstNeighbours zp_C_findFirstNeighbours 11 (zz_store zz_isI 2) := zo_istore_n (pc := 19) (i := 2) (f := 2) rfl rfl rfl (by decide +kernel) (by decide)
theorem zk_C_findFirstNeighbours_12 : zr_Ok zM_C_findFirstNeighbours zp_C_findFirstNeighbours 12 (zz_load zz_isI 2) := zo_iload_n (pc := 20) (i := 2) (f := 2) rfl rfl rfl (by decide +kernel)
theorem zk_C_findFirstNeighbours_13 : zr_Ok zM_C_findFirstNeighbours zp_C_findFirstNeighbours 13 (zz_load zz_isA 0) := zo_aload_n (pc := 21) (i := 0) (f := 0) rfl rfl rfl (by decide +kernel)
theorem zk_C_findFirstNeighbours_14 : zr_Ok zM_C_findFirstNeighbours zp_C_findFirstNeighbours 14 (zz_get 1 1) := zo_getf (pc := 22) (idx := 31) (C := RX1) (T := TX1) (N := 11) rfl rfl (by decide +kernel) rfl zin_X1 (by decide) zw_174
theorem zk_C_findFirstNeighbours_15 : zr_Ok zM_C_findFirstNeighbours zp_C_findFirstNeighbours 15 (zz_get 2 0) := zo_getf (pc := 25) (idx := 74) (C := RX2) (T := TX2) (N := 4) rfl rfl (by decide +kernel) rfl zin_X2 (by decide) zw_179
theorem zk_C_findFirstNeighbours_16 : zr_Ok zM_C_findFirstNeighbours zp_C_findFirstNeighbours 16 (zz_ilt 16 0 45) := zo_icmp_ge (pc := 28) (t := 44) (tgt := 84) (off := 56) rfl rfl rfl (by decide +kernel) (by decide)
theorem zk_C_findFirstNeighbours_17 : zr_Ok zM_C_findFirstNeighbours zp_C_findFirstNeighbours 17 (zz_load zz_isA 0) := zo_aload_n (pc := 31) (i := 0) (f := 0) rfl rfl rfl (by decide +kernel)
theorem zk_C_findFirstNeighbours_18 : zr_Ok zM_C_findFirstNeighbours zp_C_findFirstNeighbours 18 (zz_get 1 3) := zo_getf (pc := 32) (idx := 39) (C := RX1) (T := TX1) (N := 11) rfl rfl (by decide +kernel) rfl zin_X1 (by decide) zw_176
theorem zk_C_findFirstNeighbours_19 : zr_Ok zM_C_findFirstNeighbours zp_C_findFirstNeighbours 19 (zz_push (.inl 0)) := zo_iconst (pc := 35) (n := 0) (v := 0) rfl rfl (by decide +kernel) (by decide +kernel)
theorem zk_C_findFirstNeighbours_20 : zr_Ok zM_C_findFirstNeighbours zp_C_findFirstNeighbours 20 (zz_load zz_isI 1) := zo_iload_n (pc := 36) (i := 1) (f := 1) rfl rfl rfl (by decide +kernel)
theorem zk_C_findFirstNeighbours_21 : zr_Ok zM_C_findFirstNeighbours zp_C_findFirstNeighbours 21 (zz_call (zz_recv 4) 35 3) := zo_callV (C := RX4) (T := TX4) (N := 5) (idx := 58) (mi := 35) (n := 2) (pc := 37) zg_ok rfl rfl (by decide +kernel) rfl zw_180 (by decide) rfl zw_181 zw_182 zw_183 zw_154 (by decide +kernel)
theorem zk_C_findFirstNeighbours_22 : zr_Ok zM_C_findFirstNeighbours zp_C_findFirstNeighbours 22 (zz_eq0 22 0 43) := zo_if_ne (pc := 40) (t := 42) (tgt := 78) (off := 38) rfl rfl rfl (by decide +kernel) (by decide)
theorem zk_C_findFirstNeighbours_23 : zr_Ok zM_C_findFirstNeighbours zp_C_findFirstNeighbours 23 (zz_load zz_isA 0) := zo_aload_n (pc := 43) (i := 0) (f := 0) rfl rfl rfl (by decide +kernel)
theorem zk_C_findFirstNeighbours_24 : zr_Ok zM_C_findFirstNeighbours zp_C_findFirstNeighbours 24 (zz_get 1 1) := zo_getf (pc := 44) (idx := 31) (C := RX1) (T := TX1) (N := 11) rfl rfl (by decide +kernel) rfl zin_X1 (by decide) zw_174
theorem zk_C_findFirstNeighbours_25 : zr_Ok zM_C_findFirstNeighbours zp_C_findFirstNeighbours 25 (zz_get 2 1) := zo_getf (pc := 47) (idx := 79) (C := RX2) (T := TX2) (N := 4) rfl rfl (by decide +kernel) rfl zin_X2 (by decide) zw_184
theorem zk_C_findFirstNeighbours_26 : zr_Ok zM_C_findFirstNeighbours zp_C_findFirstNeighbours 26 (zz_load zz_isI 2) := zo_iload_n (pc := 50) (i := 2) (f := 2) rfl rfl rfl (by decide +kernel)
theorem zk_C_findFirstNeighbours_27 : zr_Ok zM_C_findFirstNeighbours zp_C_findFirstNeighbours 27 (zz_bin 27 zz_shr) := zo_ishr (pc := 51) rfl rfl (by decide +kernel)
theorem zk_C_findFirstNeighbours_28 : zr_Ok zM_C_findFirstNeighbours zp_C_findFirstNeighbours 28 (zz_push (.inl 1)) := zo_iconst (pc := 52) (n := 1) (v := 1) rfl rfl (by decide +kernel) (by decide +kernel)
theorem zk_C_findFirstNeighbours_29 : zr_Ok zM_C_findFirstNeighbours zp_C_findFirstNeighbours 29 (zz_bin 29 zz_and) := zo_iand (pc := 53) rfl rfl (by decide +kernel)
theorem zk_C_findFirstNeighbours_30 : zr_Ok zM_C_findFirstNeighbours zp_C_findFirstNeighbours 30 (zz_eq0 30 43 0) := zo_if_eq (pc := 54) (t := 42) (tgt := 78) (off := 24) rfl rfl rfl (by decide +kernel) (by decide)
theorem zk_C_findFirstNeighbours_31 : zr_Ok zM_C_findFirstNeighbours zp_C_findFirstNeighbours 31 (zz_load zz_isA 0) := zo_aload_n (pc := 57) (i := 0) (f := 0) rfl rfl rfl (by decide +kernel)
theorem zk_C_findFirstNeighbours_32 : zr_Ok zM_C_findFirstNeighbours zp_C_findFirstNeighbours 32 (zz_load zz_isA 0) := zo_aload_n (pc := 58) (i := 0) (f := 0) rfl rfl rfl (by decide +kernel)
theorem zk_C_findFirstNeighbours_33 : zr_Ok zM_C_findFirstNeighbours zp_C_findFirstNeighbours 33 (zz_get 1 3) := zo_getf (pc := 59) (idx := 39) (C := RX1) (T := TX1) (N := 11) rfl rfl (by decide +kernel) rfl zin_X1 (by decide) zw_176
theorem zk_C_findFirstNeighbours_34 : zr_Ok zM_C_findFirstNeighbours zp_C_findFirstNeighbours 34 (zz_push (.inl 0)) := zo_iconst (pc := 62) (n := 0) (v := 0) rfl rfl (by decide +kernel) (by decide +kernel)
theorem zk_C_findFirstNeighbours_35 : zr_Ok zM_C_findFirstNeighbours zp_C_findFirstNeighbours 35 (zz_load zz_isA 0) := zo_aload_n (pc := 63) (i := 0) (f := 0) rfl rfl rfl (by decide +kernel)
theorem zk_C_findFirstNeighbours_36 : zr_Ok zM_C_findFirstNeighbours zp_C_findFirstNeighbours 36 (zz_get 1 2) := zo_getf (pc := 64) (idx := 35) (C := RX1) (T := TX1) (N := 11) rfl rfl (by decide +kernel) rfl zin_X1 (by decide) zw_175
theorem zk_C_findFirstNeighbours_37 : zr_Ok zM_C_findFirstNeighbours zp_C_findFirstNeighbours 37 (zz_load zz_isI 1) := zo_iload_n (pc := 67) (i := 1) (f := 1) rfl rfl rfl (by decide +kernel)
theorem zk_C_findFirstNeighbours_38 : zr_Ok zM_C_findFirstNeighbours zp_C_findFirstNeighbours 38 (zz_load zz_isI 2) := zo_iload_n (pc := 68) (i := 2) (f := 2) rfl rfl rfl (by decide +kernel)
theorem zk_C_findFirstNeighbours_39 : zr_Ok zM_C_findFirstNeighbours zp_C_findFirstNeighbours 39 (zz_call (zz_recv 3) 36 3) := zo_callV (C := RX3) (T := TX3) (N := 12) (idx := 82) (mi := 36) (n := 2) (pc := 69) zg_ok rfl rfl (by decide +kernel) rfl zw_185 (by decide) rfl zw_186 zw_187 zw_188 zw_68 (by decide +kernel)
theorem zk_C_findFirstNeighbours_40 : zr_Ok zM_C_findFirstNeighbours zp_C_findFirstNeighbours 40 (zz_call (zz_recv 4) 35 3) := zo_callV (C := RX4) (T := TX4) (N := 5) (idx := 58) (mi := 35) (n := 2) (pc := 72) zg_ok rfl rfl (by decide +kernel) rfl zw_180 (by decide) rfl zw_181 zw_182 zw_183 zw_154 (by decide +kernel)
theorem zk_C_findFirstNeighbours_41 : zr_Ok zM_C_findFirstNeighbours zp_C_findFirstNeighbours 41 (zz_call (zz_recv 1) 37 2) := zo_callV (C := RX1) (T := TX1) (N := 11) (idx := 85) (mi := 37) (n := 1) (pc := 75) zg_ok rfl rfl (by decide +kernel) rfl zw_189 (by decide) rfl zw_190 zw_191 zw_192 zw_193 (by decide +kernel)
theorem zk_C_findFirstNeighbours_42 : zr_Ok zM_C_findFirstNeighbours zp_C_findFirstNeighbours 42 (zz_inc 42 2 1) := zo_iinc (pc := 78) (i := 2) (n2 := 1) (n := 1) rfl rfl (by decide +kernel) (by decide +kernel) (by decide)
theorem zk_C_findFirstNeighbours_43 : zr_Ok zM_C_findFirstNeighbours zp_C_findFirstNeighbours 43 (zz_goto 12) := zo_goto (pc := 81) (t := 12) (tgt := 20) (off := -61) rfl rfl (by decide +kernel) (by decide)
theorem zk_C_findFirstNeighbours_44 : zr_Ok zM_C_findFirstNeighbours zp_C_findFirstNeighbours 44 (zz_inc 44 1 1) := zo_iinc (pc := 84) (i := 1) (n2 := 1) (n := 1) rfl rfl (by decide +kernel) (by decide +kernel) (by decide)
theorem zk_C_findFirstNeighbours_45 : zr_Ok zM_C_findFirstNeighbours zp_C_findFirstNeighbours 45 (zz_goto 5) := zo_goto (pc := 87) (t := 5) (tgt := 7) (off := -80) rfl rfl (by decide +kernel) (by decide)
theorem zk_C_findFirstNeighbours_46 : zr_Ok zM_C_findFirstNeighbours zp_C_findFirstNeighbours 46 (zz_ret0) := zo_return (pc := 90) rfl (by decide +kernel) rfl
theorem zk_C_findFirstNeighbours : zr_OkL zM_C_findFirstNeighbours zp_C_findFirstNeighbours 0 zc_C_findFirstNeighbours := ⟨zk_C_findFirstNeighbours_0, zk_C_findFirstNeighbours_1, zk_C_findFirstNeighbours_2, zk_C_findFirstNeighbours_3, zk_C_findFirstNeighbours_4, zk_C_findFirstNeighbours_5, zk_C_findFirstNeighbours_6, zk_C_findFirstNeighbours_7, zk_C_findFirstNeighbours_8, zk_C_findFirstNeighbours_9, zk_C_findFirstNeighbours_10, zk_C_findFirstNeighbours_11, zk_C_findFirstNeighbours_12, zk_C_findFirstNeighbours_13, zk_C_findFirstNeighbours_14, zk_C_findFirstNeighbours_15, zk_C_findFirstNeighbours_16, zk_C_findFirstNeighbours_17, zk_C_findFirstNeighbours_18, zk_C_findFirstNeighbours_19, zk_C_findFirstNeighbours_20, zk_C_findFirstNeighbours_21, zk_C_findFirstNeighbours_22, zk_C_findFirstNeighbours_23, zk_C_findFirstNeighbours_24, zk_C_findFirstNeighbours_25, zk_C_findFirstNeighbours_26, zk_C_findFirstNeighbours_27, zk_C_findFirstNeighbours_28, zk_C_findFirstNeighbours_29, zk_C_findFirstNeighbours_30, zk_C_findFirstNeighbours_31, zk_C_findFirstNeighbours_32, zk_C_findFirstNeighbours_33, zk_C_findFirstNeighbours_34, zk_C_findFirstNeighbours_35, zk_C_findFirstNeighbours_36, zk_C_findFirstNeighbours_37, zk_C_findFirstNeighbours_38, zk_C_findFirstNeighbours_39, zk_C_findFirstNeighbours_40, zk_C_findFirstNeighbours_41, zk_C_findFirstNeighbours_42, zk_C_findFirstNeighbours_43, zk_C_findFirstNeighbours_44, zk_C_findFirstNeighbours_45, zk_C_findFirstNeighbours_46, trivial⟩
abbrev zM_G_productOf : zr_M := (RX3, cX3_productOf, 6, (some .int), "productOf")
theorem zk_G_productOf_0 : zr_Ok zM_G_productOf zp_G_productOf 0 (zz_load zz_isI 2) := zo_iload_n (pc := 0) (i := 2) (f := 2) rfl rfl rfl (by decide +kernel)
theorem zk_G_productOf_1 : zr_Ok zM_G_productOf zp_G_productOf 1 (zz_store zz_isI 3) := zo_istore_n (pc := 1) (i := 3) (f := 3) rfl rfl rfl (by decide +kernel) (by decide)
theorem zk_G_productOf_2 : zr_Ok zM_G_productOf zp_G_productOf 2 (zz_load zz_isI 1) := zo_iload_n (pc := 2) (i := 1) (f := 1) rfl rfl rfl (by decide +kernel)
theorem zk_G_productOf_3 : zr_Ok zM_G_productOf zp_G_productOf 3 (zz_store zz_isI 4) := zo_istore (pc := 3) (i := 4) rfl rfl (by decide +kernel) (by decide)
theorem zk_G_productOf_4 : zr_Ok zM_G_productOf zp_G_productOf 4 (zz_load zz_isA 0) := zo_aload_n (pc := 5) (i := 0) (f := 0) rfl rfl rfl (by decide +kernel)
theorem zk_G_productOf_5 : zr_Ok zM_G_productOf zp_G_productOf 5 (zz_get 3 3) := zo_getf (pc := 6) (idx := 9) (C := RX3) (T := TX3) (N := 12) rfl rfl (by decide +kernel) rfl zin_X3 (by decide) zw_53
theorem zk_G_productOf_6 : zr_Ok zM_G_productOf zp_G_productOf 6 (zz_load zz_isI 1) := zo_iload_n (pc := 9) (i := 1) (f := 1) rfl rfl rfl (by decide +kernel)
theorem zk_G_productOf_7 : zr_Ok zM_G_productOf zp_G_productOf 7 (zz_ald 7 0) := zo_iald (pc := 10) rfl rfl (by decide +kernel)
theorem zk_G_productOf_8 : zr_Ok zM_G_productOf zp_G_productOf 8 (zz_store zz_isI 5) := zo_istore (pc := 11) (i := 5) rfl rfl (by decide +kernel) (by decide)
theorem zk_G_productOf_9 : zr_Ok zM_G_productOf zp_G_productOf 9 (zz_load zz_isI 5) := zo_iload (pc := 13) (i := 5) rfl rfl (by decide +kernel)
theorem zk_G_productOf_10 : zr_Ok zM_G_productOf zp_G_productOf 10 (zz_gt0 10 0 31) := zo_if_le (pc := 15) (t := 30) (tgt := 50) (off := 35) rfl rfl rfl (by decide +kernel) (by decide)
theorem zk_G_productOf_11 : zr_Ok zM_G_productOf zp_G_productOf 11 (zz_load zz_isA 0) := zo_aload_n (pc := 18) (i := 0) (f := 0) rfl rfl rfl (by decide +kernel)
theorem zk_G_productOf_12 : zr_Ok zM_G_productOf zp_G_productOf 12 (zz_get 3 9) := zo_getf (pc := 19) (idx := 30) (C := RX3) (T := TX3) (N := 12) rfl rfl (by decide +kernel) rfl zin_X3 (by decide) zw_59
theorem zk_G_productOf_13 : zr_Ok zM_G_productOf zp_G_productOf 13 (zz_load zz_isI 3) := zo_iload_n (pc := 22) (i := 3) (f := 3) rfl rfl rfl (by decide +kernel)
theorem zk_G_productOf_14 : zr_Ok zM_G_productOf zp_G_productOf 14 (zz_push (.inl 4)) := zo_iconst (pc := 23) (n := 4) (v := 4) rfl rfl (by decide +kernel) (by decide +kernel)
theorem zk_G_productOf_15 : zr_Ok zM_G_productOf zp_G_productOf 15 (zz_bin 15 zz_mul) := zo_imul (pc := 24) rfl rfl (by decide +kernel)
theorem zk_G_productOf_16 : zr_Ok zM_G_productOf zp_G_productOf 16 (zz_load zz_isA 0) := zo_aload_n (pc := 25) (i := 0) (f := 0) rfl rfl rfl (by decide +kernel)
theorem zk_G_productOf_17 : zr_Ok zM_G_productOf zp_G_productOf 17 (zz_get 3 5) := zo_getf (pc := 26) (idx := 18) (C := RX3) (T := TX3) (N := 12) rfl rfl (by decide +kernel) rfl zin_X3 (by decide) zw_55
theorem zk_G_productOf_18 : zr_Ok zM_G_productOf zp_G_productOf 18 (zz_load zz_isI 4) := zo_iload (pc := 29) (i := 4) rfl rfl (by decide +kernel)
theorem zk_G_productOf_19 : zr_Ok zM_G_productOf zp_G_productOf 19 (zz_ald 19 0) := zo_iald (pc := 31) rfl rfl (by decide +kernel)
theorem zk_G_productOf_20 : zr_Ok zM_G_productOf zp_G_productOf 20 (zz_bin 20 zz_add) := zo_iadd (pc := 32) rfl rfl (by decide +kernel)
theorem zk_G_productOf_21 : zr_Ok zM_G_productOf zp_G_productOf 21 (zz_ald 21 0) := zo_iald (pc := 33) rfl rfl (by decide +kernel)
theorem zk_G_productOf_22 : zr_Ok zM_G_productOf zp_G_productOf 22 (zz_store zz_isI 3) := zo_istore_n (pc := 34) (i := 3) (f := 3) rfl rfl rfl (by decide +kernel) (by decide)
theorem zk_G_productOf_23 : zr_Ok zM_G_productOf zp_G_productOf 23 (zz_load zz_isA 0) := zo_aload_n (pc := 35) (i := 0) (f := 0) rfl rfl rfl (by decide +kernel)
theorem zk_G_productOf_24 : zr_Ok zM_G_productOf zp_G_productOf 24 (zz_get 3 4) := zo_getf (pc := 36) (idx := 15) (C := RX3) (T := TX3) (N := 12) rfl rfl (by decide +kernel) rfl zin_X3 (by decide) zw_54
theorem zk_G_productOf_25 : zr_Ok zM_G_productOf zp_G_productOf 25 (zz_load zz_isI 4) := zo_iload (pc := 39) (i := 4) rfl rfl (by decide +kernel)
theorem zk_G_productOf_26 : zr_Ok zM_G_productOf zp_G_productOf 26 (zz_ald 26 0) := zo_iald (pc := 41) rfl rfl (by decide +kernel)
theorem zk_G_productOf_27 : zr_Ok zM_G_productOf zp_G_productOf 27 (zz_store zz_isI 4) := zo_istore (pc := 42) (i := 4) rfl rfl (by decide +kernel) (by decide)
theorem zk_G_productOf_28 : zr_Ok zM_G_productOf zp_G_productOf 28 (zz_inc 28 5 4294967295) := zo_iinc (pc := 44) (i := 5) (n2 := 4294967295) (n := -1) rfl rfl (by decide +kernel) (by decide +kernel) (by decide)
theorem zk_G_productOf_29 : zr_Ok zM_G_productOf zp_G_productOf 29 (zz_goto 9) := zo_goto (pc := 47) (t := 9) (tgt := 13) (off := -34) rfl rfl (by decide +kernel) (by decide)
theorem zk_G_productOf_30 : zr_Ok zM_G_productOf zp_G_productOf 30 (zz_load zz_isI 3) := zo_iload_n (pc := 50) (i := 3) (f := 3) rfl rfl rfl (by decide +kernel)
theorem zk_G_productOf_31 : zr_Ok zM_G_productOf zp_G_productOf 31 (zz_ret1 zz_isI) := zo_ireturn (pc := 51) rfl (by decide +kernel) rfl
theorem zk_G_productOf : zr_OkL zM_G_productOf zp_G_productOf 0 zc_G_productOf := ⟨zk_G_productOf_0, zk_G_productOf_1, zk_G_productOf_2, zk_G_productOf_3, zk_G_productOf_4, zk_G_productOf_5, zk_G_productOf_6, zk_G_productOf_7, zk_G_productOf_8, zk_G_productOf_9, zk_G_productOf_10, zk_G_productOf_11, zk_G_productOf_12, zk_G_productOf_13, zk_G_productOf_14, zk_G_productOf_15, zk_G_productOf_16, zk_G_productOf_17, zk_G_productOf_18, zk_G_productOf_19, zk_G_productOf_20, zk_G_productOf_21, zk_G_productOf_22, zk_G_productOf_23, zk_G_productOf_24, zk_G_productOf_25, zk_G_productOf_26, zk_G_productOf_27, zk_G_productOf_28, zk_G_productOf_29, zk_G_productOf_30, zk_G_productOf_31, trivial⟩
abbrev zM_C_moved : zr_M := (RX1, cX1_moved, 3, (some .int), "moved")
theorem zk_C_moved_0 : zr_Ok zM_C_moved zp_C_moved 0 (zz_load zz_isA 0) := zo_aload_n (pc := 0) (i := 0) (f := 0) rfl rfl rfl (by decide +kernel)
theorem zk_C_moved_1 : zr_Ok zM_C_moved zp_C_moved 1 (zz_get 1 3) := zo_getf (pc := 1) (idx := 39) (C := RX1) (T := TX1) (N := 11) rfl rfl (by decide +kernel) rfl zin_X1 (by decide) zw_176
theorem zk_C_moved_2 : zr_Ok zM_C_moved zp_C_moved 2 (zz_push (.inl 0)) := zo_iconst (pc := 4) (n := 0) (v := 0) rfl rfl (by decide +kernel) (by decide +kernel)
theorem zk_C_moved_3 : zr_Ok zM_C_moved zp_C_moved 3 (zz_load zz_isA 0) := zo_aload_n (pc := 5) (i := 0) (f := 0) rfl rfl rfl (by decide +kernel)
theorem zk_C_moved_4 : zr_Ok zM_C_moved zp_C_moved 4 (zz_get 1 2) := zo_getf (pc := 6) (idx := 35) (C := RX1) (T := TX1) (N := 11) rfl rfl (by decide +kernel) rfl zin_X1 (by decide) zw_175
theorem zk_C_moved_5 : zr_Ok zM_C_moved zp_C_moved 5 (zz_load zz_isI 1) := zo_iload_n (pc := 9) (i := 1) (f := 1) rfl rfl rfl (by decide +kernel)
theorem zk_C_moved_6 : zr_Ok zM_C_moved zp_C_moved 6 (zz_load zz_isA 0) := zo_aload_n (pc := 10) (i := 0) (f := 0) rfl rfl rfl (by decide +kernel)
theorem zk_C_moved_7 : zr_Ok zM_C_moved zp_C_moved 7 (zz_get 1 5) := zo_getf (pc := 11) (idx := 9) (C := RX1) (T := TX1) (N := 11) rfl rfl (by decide +kernel) rfl zin_X1 (by decide) zw_168
theorem zk_C_moved_8 : zr_Ok zM_C_moved zp_C_moved 8 (zz_load zz_isI 2) := zo_iload_n (pc := 14) (i := 2) (f := 2) rfl rfl rfl (by decide +kernel)
theorem zk_C_moved_9 : zr_Ok zM_C_moved zp_C_moved 9 (zz_ald 9 0) := zo_iald (pc := 15) rfl rfl (by decide +kernel)
theorem zk_C_moved_10 : zr_Ok zM_C_moved zp_C_moved 10 (zz_call (zz_recv 3) 39 3) := zo_callV (C := RX3) (T := TX3) (N := 12) (idx := 95) (mi := 39) (n := 2) (pc := 16) zg_ok rfl rfl (by decide +kernel) rfl zw_194 (by decide) rfl zw_195 zw_196 zw_197 zw_68 (by decide +kernel)
theorem zk_C_moved_11 : zr_Ok zM_C_moved zp_C_moved 11 (zz_call (zz_recv 4) 35 3) := zo_callV (C := RX4) (T := TX4) (N := 5) (idx := 58) (mi := 35) (n := 2) (pc := 19) zg_ok rfl rfl (by decide +kernel) rfl zw_180 (by decide) rfl zw_181 zw_182 zw_183 zw_154 (by decide +kernel)
theorem zk_C_moved_12 : zr_Ok zM_C_moved zp_C_moved 12 (zz_ret1 zz_isI) := zo_ireturn (pc := 22) rfl (by decide +kernel) rfl
theorem zk_C_moved : zr_OkL zM_C_moved zp_C_moved 0 zc_C_moved := ⟨zk_C_moved_0, zk_C_moved_1, zk_C_moved_2, zk_C_moved_3, zk_C_moved_4, zk_C_moved_5, zk_C_moved_6, zk_C_moved_7, zk_C_moved_8, zk_C_moved_9, zk_C_moved_10, zk_C_moved_11, zk_C_moved_12, trivial⟩
abbrev zM_C_findSteps : zr_M := (RX1, cX1_findSteps, 6, none, "findSteps")
theorem zk_C_findSteps_0 : zr_Ok zM_C_findSteps zp_C_findSteps 0 (zz_load zz_isA 0) := zo_aload_n (pc := 0) (i := 0) (f := 0) rfl rfl rfl (by decide +kernel)
theorem zk_C_findSteps_1 : zr_Ok zM_C_findSteps zp_C_findSteps 1 (zz_get 1 7) := zo_getf (pc := 1) (idx := 18) (C := RX1) (T := TX1) (N := 11) rfl rfl (by decide +kernel) rfl zin_X1 (by decide) zw_170
theorem zk_C_findSteps_2 : zr_Ok zM_C_findSteps zp_C_findSteps 2 (zz_push (.inl 4294967295)) := zo_iconst (pc := 4) (n := -1) (v := 4294967295) rfl rfl (by decide +kernel) (by decide +kernel)
theorem zk_C_findSteps_3 : zr_Ok zM_C_findSteps zp_C_findSteps 3 (zz_call zz_any 0 2) := zo_callS (idx := 89) (mi := 0) (n := 2) (pc := 5) zg_ok rfl rfl (by decide +kernel) rfl zw_3 (by decide) zw_198 zw_6 zw_4 (by decide +kernel)
theorem zk_C_findSteps_4 : zr_Ok zM_C_findSteps zp_C_findSteps 4 (zz_load zz_isA 0) := zo_aload_n (pc := 8) (i := 0) (f := 0) rfl rfl rfl (by decide +kernel)
theorem zk_C_findSteps_5 : zr_Ok zM_C_findSteps zp_C_findSteps 5 (zz_get 1 7) := zo_getf (pc := 9) (idx := 18) (C := RX1) (T := TX1) (N := 11) rfl rfl (by decide +kernel) rfl zin_X1 (by decide) zw_170
theorem zk_C_findSteps_6 : zr_Ok zM_C_findSteps zp_C_findSteps 6 (zz_push (.inl 0)) := zo_iconst (pc := 12) (n := 0) (v := 0) rfl rfl (by decide +kernel) (by decide +kernel)
theorem zk_C_findSteps_7 : zr_Ok zM_C_findSteps zp_C_findSteps 7 (zz_push (.inl 0)) := zo_iconst (pc := 13) (n := 0) (v := 0) rfl rfl (by decide +kernel) (by decide +kernel)
theorem zk_C_findSteps_8 : zr_Ok zM_C_findSteps zp_C_findSteps 8 (zz_ast 8 0) := zo_iast (pc := 14) rfl rfl (by decide +kernel)
theorem zk_C_findSteps_9 : zr_Ok zM_C_findSteps zp_C_findSteps 9 (zz_load zz_isA 0) := zo_aload_n (pc := 15) (i := 0) (f := 0) rfl rfl rfl (by decide +kernel)
theorem zk_C_findSteps_10 : zr_Ok zM_C_findSteps zp_C_findSteps 10 (zz_get 1 8) := zo_getf (pc := 16) (idx := 21) (C := RX1) (T := TX1) (N := 11) rfl rfl (by decide +kernel) rfl zin_X1 (by decide) zw_171
theorem zk_C_findSteps_11 : zr_Ok zM_C_findSteps zp_C_findSteps 11 (zz_push (.inl 0)) := zo_iconst (pc := 19) (n := 0) (v := 0) rfl rfl (by decide +kernel) (by decide +kernel)
theorem zk_C_findSteps_12 : zr_Ok zM_C_findSteps zp_C_findSteps 12 (zz_push (.inl 0)) := zo_iconst (pc := 20) (n := 0) (v := 0) rfl rfl (by decide +kernel) (by decide +kernel)
theorem zk_C_findSteps_13 : zr_Ok zM_C_findSteps zp_C_findSteps 13 (zz_ast 13 0) := zo_iast (pc := 21) rfl rfl (by decide +kernel)
theorem zk_C_findSteps_14 : zr_Ok zM_C_findSteps zp_C_findSteps 14 (zz_push (.inl 1)) := zo_iconst (pc := 22) (n := 1) (v := 1) rfl rfl (by decide +kernel) (by decide +kernel)
theorem zk_C_findSteps_15 : zr_Ok zM_C_findSteps zp_C_findSteps 15 (zz_store zz_isI 1) := zo_istore_n (pc := 23) (i := 1) (f := 1) rfl rfl rfl (by decide +kernel) (by decide)
theorem zk_C_findSteps_16 : zr_Ok zM_C_findSteps zp_C_findSteps 16 (zz_push (.inl 0)) := zo_iconst (pc := 24) (n := 0) (v := 0) rfl rfl (by decide +kernel) (by decide +kernel)
theorem zk_C_findSteps_17 : zr_Ok zM_C_findSteps zp_C_findSteps 17 (zz_store zz_isI 2) := zo_istore_n (pc := 25) (i := 2) (f := 2) rfl rfl rfl (by decide +kernel) (by decide)
theorem zk_C_findSteps_18 : zr_Ok zM_C_findSteps zp_C_findSteps 18 (zz_load zz_isI 2) := zo_iload_n (pc := 26) (i := 2) (f := 2) rfl rfl rfl (by decide +kernel)
theorem zk_C_findSteps_19 : zr_Ok zM_C_findSteps zp_C_findSteps 19 (zz_load zz_isI 1) := zo_iload_n (pc := 27) (i := 1) (f := 1) rfl rfl rfl (by decide +kernel)
theorem zk_C_findSteps_20 : zr_Ok zM_C_findSteps zp_C_findSteps 20 (zz_ilt 20 0 72) := zo_icmp_ge (pc := 28) (t := 71) (tgt := 122) (off := 94) rfl rfl rfl (by decide +kernel) (by decide)
theorem zk_C_findSteps_21 : zr_Ok zM_C_findSteps zp_C_findSteps 21 (zz_load zz_isI 2) := zo_iload_n (pc := 31) (i := 2) (f := 2) rfl rfl rfl (by decide +kernel)
theorem zk_C_findSteps_22 : zr_Ok zM_C_findSteps zp_C_findSteps 22 (zz_push (.inl 500)) := zo_sipush (pc := 32) (n := 500) (v := 500) rfl rfl (by decide +kernel) (by decide +kernel)
theorem zk_C_findSteps_23 : zr_Ok zM_C_findSteps zp_C_findSteps 23 (zz_ilt 23 0 72) := zo_icmp_ge (pc := 35) (t := 71) (tgt := 122) (off := 87) rfl rfl rfl (by decide +kernel) (by decide)
theorem zk_C_findSteps_24 : zr_Ok zM_C_findSteps zp_C_findSteps 24 (zz_load zz_isA 0) := zo_aload_n (pc := 38) (i := 0) (f := 0) rfl rfl rfl (by decide +kernel)
theorem zk_C_findSteps_25 : zr_Ok zM_C_findSteps zp_C_findSteps 25 (zz_get 1 8) := zo_getf (pc := 39) (idx := 21) (C := RX1) (T := TX1) (N := 11) rfl rfl (by decide +kernel) rfl zin_X1 (by decide) zw_171
theorem zk_C_findSteps_26 : zr_Ok zM_C_findSteps zp_C_findSteps 26 (zz_load zz_isI 2) := zo_iload_n (pc := 42) (i := 2) (f := 2) rfl rfl rfl (by decide +kernel)
theorem zk_C_findSteps_27 : zr_Ok zM_C_findSteps zp_C_findSteps 27 (zz_ald 27 0) := zo_iald (pc := 43) rfl rfl (by decide +kernel)
theorem zk_C_findSteps_28 : zr_Ok zM_C_findSteps zp_C_findSteps 28 (zz_store zz_isI 3) := zo_istore_n (pc := 44) (i := 3) (f := 3) rfl rfl rfl (by decide +kernel) (by decide)
theorem zk_C_findSteps_29 : zr_Ok zM_C_findSteps zp_C_findSteps 29 (zz_push (.inl 0)) := zo_iconst (pc := 45) (n := 0) (v := 0) rfl rfl (by decide +kernel) (by decide +kernel)
theorem zk_C_findSteps_30 : zr_Ok zM_C_findSteps zp_C_findSteps 30 (zz_store zz_isI 4) := zo_istore (pc := 46) (i := 4) rfl rfl (by decide +kernel) (by decide)
theorem zk_C_findSteps_31 : zr_Ok zM_C_findSteps zp_C_findSteps 31 (zz_load zz_isI 4) := zo_iload (pc := 48) (i := 4) rfl rfl (by decide +kernel)
theorem zk_C_findSteps_32 : zr_Ok zM_C_findSteps zp_C_findSteps 32 (zz_load zz_isA 0) := zo_aload_n (pc := 50) (i := 0) (f := 0) rfl rfl rfl (by decide +kernel)
theorem zk_C_findSteps_33 : zr_Ok zM_C_findSteps zp_C_findSteps 33 (zz_get 1 0) := zo_getf (pc := 51) (idx := 65) (C := RX1) (T := TX1) (N := 11) rfl rfl (by decide +kernel) rfl zin_X1 (by decide) zw_177
theorem zk_C_findSteps_34 : zr_Ok zM_C_findSteps zp_C_findSteps 34 (zz_ilt 34 0 70) := zo_icmp_ge (pc := 54) (t := 69) (tgt := 116) (off := 62) rfl rfl rfl (by decide +kernel) (by decide)
theorem zk_C_findSteps_35 : zr_Ok zM_C_findSteps zp_C_findSteps 35 (zz_load zz_isA 0) := zo_aload_n (pc := 57) (i := 0) (f := 0) rfl rfl rfl (by decide +kernel)
theorem zk_C_findSteps_36 : zr_Ok zM_C_findSteps zp_C_findSteps 36 (zz_get 1 6) := zo_getf (pc := 58) (idx := 15) (C := RX1) (T := TX1) (N := 11) rfl rfl (by decide +kernel) rfl zin_X1 (by decide) zw_169
theorem zk_C_findSteps_37 : zr_Ok zM_C_findSteps zp_C_findSteps 37 (zz_load zz_isI 3) := zo_iload_n (pc := 61) (i := 3) (f := 3) rfl rfl rfl (by decide +kernel)
theorem zk_C_findSteps_38 : zr_Ok zM_C_findSteps zp_C_findSteps 38 (zz_load zz_isA 0) := zo_aload_n (pc := 62) (i := 0) (f := 0) rfl rfl rfl (by decide +kernel)
theorem zk_C_findSteps_39 : zr_Ok zM_C_findSteps zp_C_findSteps 39 (zz_get 1 0) := zo_getf (pc := 63) (idx := 65) (C := RX1) (T := TX1) (N := 11) rfl rfl (by decide +kernel) rfl zin_X1 (by decide) zw_177
theorem zk_C_findSteps_40 : zr_Ok zM_C_findSteps zp_C_findSteps 40 (zz_bin 40 zz_mul) := zo_imul (pc := 66) rfl rfl (by decide +kernel)
theorem zk_C_findSteps_41 : zr_Ok zM_C_findSteps zp_C_findSteps 41 (zz_load zz_isI 4) := zo_iload (pc := 67) (i := 4) rfl rfl (by decide +kernel)
theorem zk_C_findSteps_42 : zr_Ok zM_C_findSteps zp_C_findSteps 42 (zz_bin 42 zz_add) := zo_iadd (pc := 69) rfl rfl (by decide +kernel)
theorem zk_C_findSteps_43 : zr_Ok zM_C_findSteps zp_C_findSteps 43 (zz_ald 43 0) := zo_iald (pc := 70) rfl rfl (by decide +kernel)
theorem zk_C_findSteps_44 : zr_Ok zM_C_findSteps zp_C_findSteps 44 (zz_store zz_isI 5) := zo_istore (pc := 71) (i := 5) rfl rfl (by decide +kernel) (by decide)
theorem zk_C_findSteps_45 : zr_Ok zM_C_findSteps zp_C_findSteps 45 (zz_load zz_isA 0) := zo_aload_n (pc := 73) (i := 0) (f := 0) rfl rfl rfl (by decide +kernel)
theorem zk_C_findSteps_46 : zr_Ok zM_C_findSteps zp_C_findSteps 46 (zz_get 1 7) := zo_getf (pc := 74) (idx := 18) (C := RX1) (T := TX1) (N := 11) rfl rfl (by decide +kernel) rfl zin_X1 (by decide) zw_170
theorem zk_C_findSteps_47 : zr_Ok zM_C_findSteps zp_C_findSteps 47 (zz_load zz_isI 5) := zo_iload (pc := 77) (i := 5) rfl rfl (by decide +kernel)
theorem zk_C_findSteps_48 : zr_Ok zM_C_findSteps zp_C_findSteps 48 (zz_ald 48 0) := zo_iald (pc := 79) rfl rfl (by decide +kernel)
theorem zk_C_findSteps_49 : zr_Ok zM_C_findSteps zp_C_findSteps 49 (zz_push (.inl 4294967295)) := zo_iconst (pc := 80) (n := -1) (v := 4294967295) rfl rfl (by decide +kernel) (by decide +kernel)
theorem zk_C_findSteps_50 : zr_Ok zM_C_findSteps zp_C_findSteps 50 (zz_ieq 50 0 68) := zo_icmp_ne (pc := 81) (t := 67) (tgt := 110) (off := 29) rfl rfl rfl (by decide +kernel) (by decide)
theorem zk_C_findSteps_51 : zr_Ok zM_C_findSteps zp_C_findSteps 51 (zz_load zz_isA 0) := zo_aload_n (pc := 84) (i := 0) (f := 0) rfl rfl rfl (by decide +kernel)
theorem zk_C_findSteps_52 : zr_Ok zM_C_findSteps zp_C_findSteps 52 (zz_get 1 7) := zo_getf (pc := 85) (idx := 18) (C := RX1) (T := TX1) (N := 11) rfl rfl (by decide +kernel) rfl zin_X1 (by decide) zw_170
theorem zk_C_findSteps_53 : zr_Ok zM_C_findSteps zp_C_findSteps 53 (zz_load zz_isI 5) := zo_iload (pc := 88) (i := 5) rfl rfl (by decide +kernel)
theorem zk_C_findSteps_54 : zr_Ok zM_C_findSteps zp_C_findSteps 54 (zz_load zz_isA 0) := zo_aload_n (pc := 90) (i := 0) (f := 0) rfl rfl rfl (by decide +kernel)
theorem zk_C_findSteps_55 : zr_Ok zM_C_findSteps zp_C_findSteps 55 (zz_get 1 7) := zo_getf (pc := 91) (idx := 18) (C := RX1) (T := TX1) (N := 11) rfl rfl (by decide +kernel) rfl zin_X1 (by decide) zw_170
theorem zk_C_findSteps_56 : zr_Ok zM_C_findSteps zp_C_findSteps 56 (zz_load zz_isI 3) := zo_iload_n (pc := 94) (i := 3) (f := 3) rfl rfl rfl (by decide +kernel)
theorem zk_C_findSteps_57 : zr_Ok zM_C_findSteps zp_C_findSteps 57 (zz_ald 57 0) := zo_iald (pc := 95) rfl rfl (by decide +kernel)
theorem zk_C_findSteps_58 : zr_Ok zM_C_findSteps zp_C_findSteps 58 (zz_push (.inl 1)) := zo_iconst (pc := 96) (n := 1) (v := 1) rfl rfl (by decide +kernel) (by decide +kernel)
theorem zk_C_findSteps_59 : zr_Ok zM_C_findSteps zp_C_findSteps 59 (zz_bin 59 zz_add) := zo_iadd (pc := 97) rfl rfl (by decide +kernel)
theorem zk_C_findSteps_60 : zr_Ok zM_C_findSteps zp_C_findSteps 60 (zz_ast 60 0) := zo_iast (pc := 98) rfl rfl (by decide +kernel)
theorem zk_C_findSteps_61 : zr_Ok zM_C_findSteps zp_C_findSteps 61 (zz_load zz_isA 0) := zo_aload_n (pc := 99) (i := 0) (f := 0) rfl rfl rfl (by decide +kernel)
theorem zk_C_findSteps_62 : zr_Ok zM_C_findSteps zp_C_findSteps 62 (zz_get 1 8) := zo_getf (pc := 100) (idx := 21) (C := RX1) (T := TX1) (N := 11) rfl rfl (by decide +kernel) rfl zin_X1 (by decide) zw_171
theorem zk_C_findSteps_63 : zr_Ok zM_C_findSteps zp_C_findSteps 63 (zz_load zz_isI 1) := zo_iload_n (pc := 103) (i := 1) (f := 1) rfl rfl rfl (by decide +kernel)
theorem zk_C_findSteps_64 : zr_Ok zM_C_findSteps zp_C_findSteps 64 (zz_load zz_isI 5) := zo_iload (pc := 104) (i := 5) rfl rfl (by decide +kernel)
theorem zk_C_findSteps_65 : zr_Ok zM_C_findSteps zp_C_findSteps 65 (zz_ast 65 0) := zo_iast (pc := 106) rfl rfl (by decide +kernel)
theorem zk_C_findSteps_66 : zr_Ok zM_C_findSteps zp_C_findSteps 66 (zz_inc 66 1 1) := zo_iinc (pc := 107) (i := 1) (n2 := 1) (n := 1) rfl rfl (by decide +kernel) (by decide +kernel) (by decide)
theorem zk_C_findSteps_67 : zr_Ok zM_C_findSteps zp_C_findSteps 67 (zz_inc 67 4 1) := zo_iinc (pc := 110) (i := 4) (n2 := 1) (n := 1) rfl rfl (by decide +kernel) (by decide +kernel) (by decide)
theorem zk_C_findSteps_68 : zr_Ok zM_C_findSteps zp_C_findSteps 68 (zz_goto 31) := zo_goto (pc := 113) (t := 31) (tgt := 48) (off := -65) rfl rfl (by decide +kernel) (by decide)
theorem zk_C_findSteps_69 : zr_Ok zM_C_findSteps zp_C_findSteps 69 (zz_inc 69 2 1) := zo_iinc (pc := 116) (i := 2) (n2 := 1) (n := 1) rfl rfl (by decide +kernel) (by decide +kernel) (by decide)
theorem zk_C_findSteps_70 : zr_Ok zM_C_findSteps zp_C_findSteps 70 (zz_goto 18) := zo_goto (pc := 119) (t := 18) (tgt := 26) (off := -93) rfl rfl (by decide +kernel) (by decide)
theorem zk_C_findSteps_71 : zr_Ok zM_C_findSteps zp_C_findSteps 71 (zz_ret0) := zo_return (pc := 122) rfl (by decide +kernel) rfl
theorem zk_C_findSteps : zr_OkL zM_C_findSteps zp_C_findSteps 0 zc_C_findSteps := ⟨zk_C_findSteps_0, zk_C_findSteps_1, zk_C_findSteps_2, zk_C_findSteps_3, zk_C_findSteps_4, zk_C_findSteps_5, zk_C_findSteps_6, zk_C_findSteps_7, zk_C_findSteps_8, zk_C_findSteps_9, zk_C_findSteps_10, zk_C_findSteps_11, zk_C_findSteps_12, zk_C_findSteps_13, zk_C_findSteps_14, zk_C_findSteps_15, zk_C_findSteps_16, zk_C_findSteps_17, zk_C_findSteps_18, zk_C_findSteps_19, zk_C_findSteps_20, zk_C_findSteps_21, zk_C_findSteps_22, zk_C_findSteps_23, zk_C_findSteps_24, zk_C_findSteps_25, zk_C_findSteps_26, zk_C_findSteps_27, zk_C_findSteps_28, zk_C_findSteps_29, zk_C_findSteps_30, zk_C_findSteps_31, zk_C_findSteps_32, zk_C_findSteps_33, zk_C_findSteps_34, zk_C_findSteps_35, zk_C_findSteps_36, zk_C_findSteps_37, zk_C_findSteps_38, zk_C_findSteps_39, zk_C_findSteps_40, zk_C_findSteps_41, zk_C_findSteps_42, zk_C_findSteps_43, zk_C_findSteps_44, zk_C_findSteps_45, zk_C_findSteps_46, zk_C_findSteps_47, zk_C_findSteps_48, zk_C_findSteps_49, zk_C_findSteps_50, zk_C_findSteps_51, zk_C_findSteps_52, zk_C_findSteps_53, zk_C_findSteps_54, zk_C_findSteps_55, zk_C_findSteps_56, zk_C_findSteps_57, zk_C_findSteps_58, zk_C_findSteps_59, zk_C_findSteps_60, zk_C_findSteps_61, zk_C_findSteps_62, zk_C_findSteps_63, zk_C_findSteps_64, zk_C_findSteps_65, zk_C_findSteps_66, zk_C_findSteps_67, zk_C_findSteps_68, zk_C_findSteps_69, zk_C_findSteps_70, zk_C_findSteps_71, trivial⟩
abbrev zM_C_build : zr_M := (RX1, cX1_build, 3, none, "build")
theorem zk_C_build_0 : zr_Ok zM_C_build zp_C_build 0 (zz_load zz_isA 0) := zo_aload_n (pc := 0) (i := 0) (f := 0) rfl rfl rfl (by decide +kernel)
theorem zk_C_build_1 : zr_Ok zM_C_build zp_C_build 1 (zz_load zz_isA 0) := zo_aload_n (pc := 1) (i := 0) (f := 0) rfl rfl rfl (by decide +kernel)
theorem zk_C_build_2 : zr_Ok zM_C_build zp_C_build 2 (zz_get 1 3) := zo_getf (pc := 2) (idx := 39) (C := RX1) (T := TX1) (N := 11) rfl rfl (by decide +kernel) rfl zin_X1 (by decide) zw_176
theorem zk_C_build_3 : zr_Ok zM_C_build zp_C_build 3 (zz_push (.inl 0)) := zo_iconst (pc := 5) (n := 0) (v := 0) rfl rfl (by decide +kernel) (by decide +kernel)
theorem zk_C_build_4 : zr_Ok zM_C_build zp_C_build 4 (zz_call (zz_recv 4) 34 2) := zo_callV (C := RX4) (T := TX4) (N := 5) (idx := 43) (mi := 34) (n := 1) (pc := 6) zg_ok rfl rfl (by decide +kernel) rfl zw_199 (by decide) rfl zw_200 zw_201 zw_202 zw_154 (by decide +kernel)
theorem zk_C_build_5 : zr_Ok zM_C_build zp_C_build 5 (zz_putf 1 4 0) := zo_putf (pc := 9) (idx := 49) (C := RX1) (T := TX1) (N := 11) (ty0 := tyX1) rfl rfl (by decide +kernel) rfl zin_X1 tyX1_ok nmX1 (by decide) zw_203 rfl rfl
theorem zk_C_build_6 : zr_Ok zM_C_build zp_C_build 6 (zz_load zz_isA 0) := zo_aload_n (pc := 12) (i := 0) (f := 0) rfl rfl rfl (by decide +kernel)
theorem zk_C_build_7 : zr_Ok zM_C_build zp_C_build 7 (zz_get 1 2) := zo_getf (pc := 13) (idx := 35) (C := RX1) (T := TX1) (N := 11) rfl rfl (by decide +kernel) rfl zin_X1 (by decide) zw_175
theorem zk_C_build_8 : zr_Ok zM_C_build zp_C_build 8 (zz_get 3 0) := zo_getf (pc := 16) (idx := 53) (C := RX3) (T := TX3) (N := 12) rfl rfl (by decide +kernel) rfl zin_X3 (by decide) zw_178
theorem zk_C_build_9 : zr_Ok zM_C_build zp_C_build 9 (zz_push (.inl 1)) := zo_iconst (pc := 19) (n := 1) (v := 1) rfl rfl (by decide +kernel) (by decide +kernel)
theorem zk_C_build_10 : zr_Ok zM_C_build zp_C_build 10 (zz_bin 10 zz_sub) := zo_isub (pc := 20) rfl rfl (by decide +kernel)
theorem zk_C_build_11 : zr_Ok zM_C_build zp_C_build 11 (zz_store zz_isI 1) := zo_istore_n (pc := 21) (i := 1) (f := 1) rfl rfl rfl (by decide +kernel) (by decide)
theorem zk_C_build_12 : zr_Ok zM_C_build zp_C_build 12 (zz_load zz_isI 1) := zo_iload_n (pc := 22) (i := 1) (f := 1) rfl rfl rfl (by decide +kernel)
theorem zk_C_build_13 : zr_Ok zM_C_build zp_C_build 13 (zz_lt0 13 26 0) := zo_if_lt (pc := 23) (t := 25) (tgt := 47) (off := 24) rfl rfl rfl (by decide +kernel) (by decide)
theorem zk_C_build_14 : zr_Ok zM_C_build zp_C_build 14 (zz_load zz_isA 0) := zo_aload_n (pc := 26) (i := 0) (f := 0) rfl rfl rfl (by decide +kernel)
theorem zk_C_build_15 : zr_Ok zM_C_build zp_C_build 15 (zz_get 1 5) := zo_getf (pc := 27) (idx := 9) (C := RX1) (T := TX1) (N := 11) rfl rfl (by decide +kernel) rfl zin_X1 (by decide) zw_168
theorem zk_C_build_16 : zr_Ok zM_C_build zp_C_build 16 (zz_load zz_isA 0) := zo_aload_n (pc := 30) (i := 0) (f := 0) rfl rfl rfl (by decide +kernel)
theorem zk_C_build_17 : zr_Ok zM_C_build zp_C_build 17 (zz_get 1 3) := zo_getf (pc := 31) (idx := 39) (C := RX1) (T := TX1) (N := 11) rfl rfl (by decide +kernel) rfl zin_X1 (by decide) zw_176
theorem zk_C_build_18 : zr_Ok zM_C_build zp_C_build 18 (zz_push (.inl 0)) := zo_iconst (pc := 34) (n := 0) (v := 0) rfl rfl (by decide +kernel) (by decide +kernel)
theorem zk_C_build_19 : zr_Ok zM_C_build zp_C_build 19 (zz_load zz_isI 1) := zo_iload_n (pc := 35) (i := 1) (f := 1) rfl rfl rfl (by decide +kernel)
theorem zk_C_build_20 : zr_Ok zM_C_build zp_C_build 20 (zz_call (zz_recv 4) 35 3) := zo_callV (C := RX4) (T := TX4) (N := 5) (idx := 58) (mi := 35) (n := 2) (pc := 36) zg_ok rfl rfl (by decide +kernel) rfl zw_180 (by decide) rfl zw_181 zw_182 zw_183 zw_154 (by decide +kernel)
theorem zk_C_build_21 : zr_Ok zM_C_build zp_C_build 21 (zz_load zz_isI 1) := zo_iload_n (pc := 39) (i := 1) (f := 1) rfl rfl rfl (by decide +kernel)
theorem zk_C_build_22 : zr_Ok zM_C_build zp_C_build 22 (zz_ast 22 0) := zo_iast (pc := 40) rfl rfl (by decide +kernel)
theorem zk_C_build_23 : zr_Ok zM_C_build zp_C_build 23 (zz_inc 23 1 4294967295) := zo_iinc (pc := 41) (i := 1) (n2 := 4294967295) (n := -1) rfl rfl (by decide +kernel) (by decide +kernel) (by decide)
theorem zk_C_build_24 : zr_Ok zM_C_build zp_C_build 24 (zz_goto 12) := zo_goto (pc := 44) (t := 12) (tgt := 22) (off := -22) rfl rfl (by decide +kernel) (by decide)
theorem zk_C_build_25 : zr_Ok zM_C_build zp_C_build 25 (zz_load zz_isA 0) := zo_aload_n (pc := 47) (i := 0) (f := 0) rfl rfl rfl (by decide +kernel)
theorem zk_C_build_26 : zr_Ok zM_C_build zp_C_build 26 (zz_call (zz_recv 1) 38 1) := zo_callV (C := RX1) (T := TX1) (N := 11) (idx := 62) (mi := 38) (n := 0) (pc := 48) zg_ok rfl rfl (by decide +kernel) rfl zw_204 (by decide) rfl zw_205 zw_206 zw_207 zw_193 (by decide +kernel)
theorem zk_C_build_27 : zr_Ok zM_C_build zp_C_build 27 (zz_push (.inl 1)) := zo_iconst (pc := 51) (n := 1) (v := 1) rfl rfl (by decide +kernel) (by decide +kernel)
theorem zk_C_build_28 : zr_Ok zM_C_build zp_C_build 28 (zz_store zz_isI 1) := zo_istore_n (pc := 52) (i := 1) (f := 1) rfl rfl rfl (by decide +kernel) (by decide)
theorem zk_C_build_29 : zr_Ok zM_C_build zp_C_build 29 (zz_load zz_isI 1) := zo_iload_n (pc := 53) (i := 1) (f := 1) rfl rfl rfl (by decide +kernel)
theorem zk_C_build_30 : zr_Ok zM_C_build zp_C_build 30 (zz_load zz_isA 0) := zo_aload_n (pc := 54) (i := 0) (f := 0) rfl rfl rfl (by decide +kernel)
theorem zk_C_build_31 : zr_Ok zM_C_build zp_C_build 31 (zz_get 1 4) := zo_getf (pc := 55) (idx := 49) (C := RX1) (T := TX1) (N := 11) rfl rfl (by decide +kernel) rfl zin_X1 (by decide) zw_203
theorem zk_C_build_32 : zr_Ok zM_C_build zp_C_build 32 (zz_ilt 32 0 63) := zo_icmp_ge (pc := 58) (t := 62) (tgt := 112) (off := 54) rfl rfl rfl (by decide +kernel) (by decide)
theorem zk_C_build_33 : zr_Ok zM_C_build zp_C_build 33 (zz_push (.inl 0)) := zo_iconst (pc := 61) (n := 0) (v := 0) rfl rfl (by decide +kernel) (by decide +kernel)
theorem zk_C_build_34 : zr_Ok zM_C_build zp_C_build 34 (zz_store zz_isI 2) := zo_istore_n (pc := 62) (i := 2) (f := 2) rfl rfl rfl (by decide +kernel) (by decide)
theorem zk_C_build_35 : zr_Ok zM_C_build zp_C_build 35 (zz_load zz_isI 2) := zo_iload_n (pc := 63) (i := 2) (f := 2) rfl rfl rfl (by decide +kernel)
theorem zk_C_build_36 : zr_Ok zM_C_build zp_C_build 36 (zz_load zz_isA 0) := zo_aload_n (pc := 64) (i := 0) (f := 0) rfl rfl rfl (by decide +kernel)
theorem zk_C_build_37 : zr_Ok zM_C_build zp_C_build 37 (zz_get 1 0) := zo_getf (pc := 65) (idx := 65) (C := RX1) (T := TX1) (N := 11) rfl rfl (by decide +kernel) rfl zin_X1 (by decide) zw_177
theorem zk_C_build_38 : zr_Ok zM_C_build zp_C_build 38 (zz_ilt 38 0 61) := zo_icmp_ge (pc := 68) (t := 60) (tgt := 106) (off := 38) rfl rfl rfl (by decide +kernel) (by decide)
theorem zk_C_build_39 : zr_Ok zM_C_build zp_C_build 39 (zz_load zz_isA 0) := zo_aload_n (pc := 71) (i := 0) (f := 0) rfl rfl rfl (by decide +kernel)
theorem zk_C_build_40 : zr_Ok zM_C_build zp_C_build 40 (zz_get 1 6) := zo_getf (pc := 72) (idx := 15) (C := RX1) (T := TX1) (N := 11) rfl rfl (by decide +kernel) rfl zin_X1 (by decide) zw_169
theorem zk_C_build_41 : zr_Ok zM_C_build zp_C_build 41 (zz_load zz_isI 1) := zo_iload_n (pc := 75) (i := 1) (f := 1) rfl rfl rfl (by decide +kernel)
theorem zk_C_build_42 : zr_Ok zM_C_build zp_C_build 42 (zz_load zz_isA 0) := zo_aload_n (pc := 76) (i := 0) (f := 0) rfl rfl rfl (by decide +kernel)
theorem zk_C_build_43 : zr_Ok zM_C_build zp_C_build 43 (zz_get 1 0) := zo_getf (pc := 77) (idx := 65) (C := RX1) (T := TX1) (N := 11) rfl rfl (by decide +kernel) rfl zin_X1 (by decide) zw_177
theorem zk_C_build_44 : zr_Ok zM_C_build zp_C_build 44 (zz_bin 44 zz_mul) := zo_imul (pc := 80) rfl rfl (by decide +kernel)
theorem zk_C_build_45 : zr_Ok zM_C_build zp_C_build 45 (zz_load zz_isI 2) := zo_iload_n (pc := 81) (i := 2) (f := 2) rfl rfl rfl (by decide +kernel)
theorem zk_C_build_46 : zr_Ok zM_C_build zp_C_build 46 (zz_bin 46 zz_add) := zo_iadd (pc := 82) rfl rfl (by decide +kernel)
theorem zk_C_build_47 : zr_Ok zM_C_build zp_C_build 47 (zz_load zz_isA 0) := zo_aload_n (pc := 83) (i := 0) (f := 0) rfl rfl rfl (by decide +kernel)
theorem zk_C_build_48 : zr_Ok zM_C_build zp_C_build 48 (zz_load zz_isA 0) := zo_aload_n (pc := 84) (i := 0) (f := 0) rfl rfl rfl (by decide +kernel)
theorem zk_C_build_49 : zr_Ok zM_C_build zp_C_build 49 (zz_get 1 5) := zo_getf (pc := 85) (idx := 9) (C := RX1) (T := TX1) (N := 11) rfl rfl (by decide +kernel) rfl zin_X1 (by decide) zw_168
theorem zk_C_build_50 : zr_Ok zM_C_build zp_C_build 50 (zz_load zz_isI 1) := zo_iload_n (pc := 88) (i := 1) (f := 1) rfl rfl rfl (by decide +kernel)
theorem zk_C_build_51 : zr_Ok zM_C_build zp_C_build 51 (zz_ald 51 0) := zo_iald (pc := 89) rfl rfl (by decide +kernel)
theorem zk_C_build_52 : zr_Ok zM_C_build zp_C_build 52 (zz_load zz_isA 0) := zo_aload_n (pc := 90) (i := 0) (f := 0) rfl rfl rfl (by decide +kernel)
theorem zk_C_build_53 : zr_Ok zM_C_build zp_C_build 53 (zz_get 1 6) := zo_getf (pc := 91) (idx := 15) (C := RX1) (T := TX1) (N := 11) rfl rfl (by decide +kernel) rfl zin_X1 (by decide) zw_169
theorem zk_C_build_54 : zr_Ok zM_C_build zp_C_build 54 (zz_load zz_isI 2) := zo_iload_n (pc := 94) (i := 2) (f := 2) rfl rfl rfl (by decide +kernel)
theorem zk_C_build_55 : zr_Ok zM_C_build zp_C_build 55 (zz_ald 55 0) := zo_iald (pc := 95) rfl rfl (by decide +kernel)
theorem zk_C_build_56 : zr_Ok zM_C_build zp_C_build 56 (zz_call (zz_recv 1) 40 3) := zo_callV (C := RX1) (T := TX1) (N := 11) (idx := 68) (mi := 40) (n := 2) (pc := 96) zg_ok rfl rfl (by decide +kernel) rfl zw_208 (by decide) rfl zw_209 zw_210 zw_211 zw_193 (by decide +kernel)
theorem zk_C_build_57 : zr_Ok zM_C_build zp_C_build 57 (zz_ast 57 0) := zo_iast (pc := 99) rfl rfl (by decide +kernel)
theorem zk_C_build_58 : zr_Ok zM_C_build zp_C_build 58 (zz_inc 58 2 1) := zo_iinc (pc := 100) (i := 2) (n2 := 1) (n := 1) rfl rfl (by decide +kernel) (by decide +kernel) (by decide)
theorem zk_C_build_59 : zr_Ok zM_C_build zp_C_build 59 (zz_goto 35) := zo_goto (pc := 103) (t := 35) (tgt := 63) (off := -40) rfl rfl (by decide +kernel) (by decide)
theorem zk_C_build_60 : zr_Ok zM_C_build zp_C_build 60 (zz_inc 60 1 1) := zo_iinc (pc := 106) (i := 1) (n2 := 1) (n := 1) rfl rfl (by decide +kernel) (by decide +kernel) (by decide)
theorem zk_C_build_61 : zr_Ok zM_C_build zp_C_build 61 (zz_goto 29) := zo_goto (pc := 109) (t := 29) (tgt := 53) (off := -56) rfl rfl (by decide +kernel) (by decide)
theorem zk_C_build_62 : zr_Ok zM_C_build zp_C_build 62 (zz_load zz_isA 0) := zo_aload_n (pc := 112) (i := 0) (f := 0) rfl rfl rfl (by decide +kernel)
theorem zk_C_build_63 : zr_Ok zM_C_build zp_C_build 63 (zz_call (zz_recv 1) 41 1) := zo_callV (C := RX1) (T := TX1) (N := 11) (idx := 71) (mi := 41) (n := 0) (pc := 113) zg_ok rfl rfl (by decide +kernel) rfl zw_212 (by decide) rfl zw_213 zw_214 zw_215 zw_193 (by decide +kernel)
theorem zk_C_build_64 : zr_Ok zM_C_build zp_C_build 64 (zz_ret0) := zo_return (pc := 116) rfl (by decide +kernel) rfl
theorem zk_C_build : zr_OkL zM_C_build zp_C_build 0 zc_C_build := ⟨zk_C_build_0, zk_C_build_1, zk_C_build_2, zk_C_build_3, zk_C_build_4, zk_C_build_5, zk_C_build_6, zk_C_build_7, zk_C_build_8, zk_C_build_9, zk_C_build_10, zk_C_build_11, zk_C_build_12, zk_C_build_13, zk_C_build_14, zk_C_build_15, zk_C_build_16, zk_C_build_17, zk_C_build_18, zk_C_build_19, zk_C_build_20, zk_C_build_21, zk_C_build_22, zk_C_build_23, zk_C_build_24, zk_C_build_25, zk_C_build_26, zk_C_build_27, zk_C_build_28, zk_C_build_29, zk_C_build_30, zk_C_build_31, zk_C_build_32, zk_C_build_33, zk_C_build_34, zk_C_build_35, zk_C_build_36, zk_C_build_37, zk_C_build_38, zk_C_build_39, zk_C_build_40, zk_C_build_41, zk_C_build_42, zk_C_build_43, zk_C_build_44, zk_C_build_45, zk_C_build_46, zk_C_build_47, zk_C_build_48, zk_C_build_49, zk_C_build_50, zk_C_build_51, zk_C_build_52, zk_C_build_53, zk_C_build_54, zk_C_build_55, zk_C_build_56, zk_C_build_57, zk_C_build_58, zk_C_build_59, zk_C_build_60, zk_C_build_61, zk_C_build_62, zk_C_build_63, zk_C_build_64, trivial⟩
abbrev zM_B_theCorners : zr_M := (RX0, cX0_theCorners, 1, (some (.object "EvenBodies$Corners")), "theCorners")
theorem zk_B_theCorners_0 : zr_Ok zM_B_theCorners zp_B_theCorners 0 (zz_load zz_isA 0) := zo_aload_n (pc := 0) (i := 0) (f := 0) rfl rfl rfl (by decide +kernel)
theorem zk_B_theCorners_1 : zr_Ok zM_B_theCorners zp_B_theCorners 1 (zz_get 0 4) := zo_getf (pc := 1) (idx := 82) (C := RX0) (T := TX0) (N := 12) rfl rfl (by decide +kernel) rfl zin_X0 (by decide) zw_216
theorem zk_B_theCorners_2 : zr_Ok zM_B_theCorners zp_B_theCorners 2 (zz_ifnn 15) := zo_ifnn (pc := 4) (t := 15) (tgt := 31) (off := 27) rfl rfl rfl (by decide +kernel) (by decide)
theorem zk_B_theCorners_3 : zr_Ok zM_B_theCorners zp_B_theCorners 3 (zz_load zz_isA 0) := zo_aload_n (pc := 7) (i := 0) (f := 0) rfl rfl rfl (by decide +kernel)
theorem zk_B_theCorners_4 : zr_Ok zM_B_theCorners zp_B_theCorners 4 (zz_new 1 11 [.inl 0, .inr (.inl 0), .inr (.inl 0), .inr (.inl 0), .inl 0, .inr (.inl 0), .inr (.inl 0), .inr (.inl 0), .inr (.inl 0), .inr (.inl 0), .inr (.inl 0)]) := zo_new (pc := 8) (idx := 86) (C := RX1) (T := TX1) (ty0 := tyX1) (vs := zvs_X1) rfl rfl (by decide +kernel) rfl zin_X1 tyX1_ok zw_217 zw_218 zw_193 zvs_X1_ok zvs_X1_d
theorem zk_B_theCorners_5 : zr_Ok zM_B_theCorners zp_B_theCorners 5 (zz_dup) := zo_dup (pc := 11) rfl rfl (by decide +kernel)
theorem zk_B_theCorners_6 : zr_Ok zM_B_theCorners zp_B_theCorners 6 (zz_load zz_isA 0) := zo_aload_n (pc := 12) (i := 0) (f := 0) rfl rfl rfl (by decide +kernel)
theorem zk_B_theCorners_7 : zr_Ok zM_B_theCorners zp_B_theCorners 7 (zz_get 0 0) := zo_getf (pc := 13) (idx := 12) (C := RX0) (T := TX0) (N := 12) rfl rfl (by decide +kernel) rfl zin_X0 (by decide) zw_23
theorem zk_B_theCorners_8 : zr_Ok zM_B_theCorners zp_B_theCorners 8 (zz_load zz_isA 0) := zo_aload_n (pc := 16) (i := 0) (f := 0) rfl rfl rfl (by decide +kernel)
theorem zk_B_theCorners_9 : zr_Ok zM_B_theCorners zp_B_theCorners 9 (zz_call (zz_recv 0) 14 1) := zo_callV (C := RX0) (T := TX0) (N := 12) (idx := 68) (mi := 14) (n := 0) (pc := 17) zg_ok rfl rfl (by decide +kernel) rfl zw_91 (by decide) rfl zw_155 zw_93 zw_94 zw_28 (by decide +kernel)
theorem zk_B_theCorners_10 : zr_Ok zM_B_theCorners zp_B_theCorners 10 (zz_load zz_isA 0) := zo_aload_n (pc := 20) (i := 0) (f := 0) rfl rfl rfl (by decide +kernel)
theorem zk_B_theCorners_11 : zr_Ok zM_B_theCorners zp_B_theCorners 11 (zz_push (.inl 0)) := zo_iconst (pc := 21) (n := 0) (v := 0) rfl rfl (by decide +kernel) (by decide +kernel)
theorem zk_B_theCorners_12 : zr_Ok zM_B_theCorners zp_B_theCorners 12 (zz_call (zz_recv 0) 32 2) := zo_callV (C := RX0) (T := TX0) (N := 12) (idx := 88) (mi := 32) (n := 1) (pc := 22) zg_ok rfl rfl (by decide +kernel) rfl zw_219 (by decide) rfl zw_220 zw_221 zw_222 zw_28 (by decide +kernel)
theorem zk_B_theCorners_13 : zr_Ok zM_B_theCorners zp_B_theCorners 13 (zz_call (zz_recv 1) 33 4) := zo_callI (ret2 := none) (idx := 92) (mi := 33) (n := 3) (pc := 25) zg_ok rfl rfl (by decide +kernel) rfl zw_223 (by decide) zw_225 zw_224 zw_193 rfl (by decide +kernel)
theorem zk_B_theCorners_14 : zr_Ok zM_B_theCorners zp_B_theCorners 14 (zz_putf 0 4 2) := zo_putf (pc := 28) (idx := 82) (C := RX0) (T := TX0) (N := 12) (ty0 := tyX0) rfl rfl (by decide +kernel) rfl zin_X0 tyX0_ok nmX0 (by decide) zw_216 rfl (Or.inl ⟨_, rfl⟩)
theorem zk_B_theCorners_15 : zr_Ok zM_B_theCorners zp_B_theCorners 15 (zz_load zz_isA 0) := zo_aload_n (pc := 31) (i := 0) (f := 0) rfl rfl rfl (by decide +kernel)
theorem zk_B_theCorners_16 : zr_Ok zM_B_theCorners zp_B_theCorners 16 (zz_get 0 9) := zo_getf (pc := 32) (idx := 35) (C := RX0) (T := TX0) (N := 12) rfl rfl (by decide +kernel) rfl zin_X0 (by decide) zw_97
theorem zk_B_theCorners_17 : zr_Ok zM_B_theCorners zp_B_theCorners 17 (zz_eq0 17 0 29) := zo_if_ne (pc := 35) (t := 28) (tgt := 56) (off := 21) rfl rfl rfl (by decide +kernel) (by decide)
theorem zk_B_theCorners_18 : zr_Ok zM_B_theCorners zp_B_theCorners 18 (zz_load zz_isA 0) := zo_aload_n (pc := 38) (i := 0) (f := 0) rfl rfl rfl (by decide +kernel)
theorem zk_B_theCorners_19 : zr_Ok zM_B_theCorners zp_B_theCorners 19 (zz_push (.inl 0)) := zo_iconst (pc := 39) (n := 0) (v := 0) rfl rfl (by decide +kernel) (by decide +kernel)
theorem zk_B_theCorners_20 : zr_Ok zM_B_theCorners zp_B_theCorners 20 (zz_call (zz_recv 0) 32 2) := zo_callV (C := RX0) (T := TX0) (N := 12) (idx := 88) (mi := 32) (n := 1) (pc := 40) zg_ok rfl rfl (by decide +kernel) rfl zw_219 (by decide) rfl zw_220 zw_221 zw_222 zw_28 (by decide +kernel)
theorem zk_B_theCorners_21 : zr_Ok zM_B_theCorners zp_B_theCorners 21 (zz_pop) := zo_pop (pc := 43) rfl rfl (by decide +kernel)
theorem zk_B_theCorners_22 : zr_Ok zM_B_theCorners zp_B_theCorners 22 (zz_load zz_isA 0) := zo_aload_n (pc := 44) (i := 0) (f := 0) rfl rfl rfl (by decide +kernel)
theorem zk_B_theCorners_23 : zr_Ok zM_B_theCorners zp_B_theCorners 23 (zz_get 0 4) := zo_getf (pc := 45) (idx := 82) (C := RX0) (T := TX0) (N := 12) rfl rfl (by decide +kernel) rfl zin_X0 (by decide) zw_216
theorem zk_B_theCorners_24 : zr_Ok zM_B_theCorners zp_B_theCorners 24 (zz_call (zz_recv 1) 42 1) := zo_callV (C := RX1) (T := TX1) (N := 11) (idx := 95) (mi := 42) (n := 0) (pc := 48) zg_ok rfl rfl (by decide +kernel) rfl zw_226 (by decide) rfl zw_227 zw_228 zw_229 zw_193 (by decide +kernel)
theorem zk_B_theCorners_25 : zr_Ok zM_B_theCorners zp_B_theCorners 25 (zz_load zz_isA 0) := zo_aload_n (pc := 51) (i := 0) (f := 0) rfl rfl rfl (by decide +kernel)
theorem zk_B_theCorners_26 : zr_Ok zM_B_theCorners zp_B_theCorners 26 (zz_push (.inl 1)) := zo_iconst (pc := 52) (n := 1) (v := 1) rfl rfl (by decide +kernel) (by decide +kernel)
theorem zk_B_theCorners_27 : zr_Ok zM_B_theCorners zp_B_theCorners 27 (zz_putf 0 9 1) := zo_putf (pc := 53) (idx := 35) (C := RX0) (T := TX0) (N := 12) (ty0 := tyX0) rfl rfl (by decide +kernel) rfl zin_X0 tyX0_ok nmX0 (by decide) zw_97 rfl rfl
theorem zk_B_theCorners_28 : zr_Ok zM_B_theCorners zp_B_theCorners 28 (zz_load zz_isA 0) := zo_aload_n (pc := 56) (i := 0) (f := 0) rfl rfl rfl (by decide +kernel)
theorem zk_B_theCorners_29 : zr_Ok zM_B_theCorners zp_B_theCorners 29 (zz_get 0 4) := zo_getf (pc := 57) (idx := 82) (C := RX0) (T := TX0) (N := 12) rfl rfl (by decide +kernel) rfl zin_X0 (by decide) zw_216
theorem zk_B_theCorners_30 : zr_Ok zM_B_theCorners zp_B_theCorners 30 (zz_ret1 zz_isA) := zo_areturn (pc := 60) rfl (by decide +kernel) rfl
theorem zk_B_theCorners : zr_OkL zM_B_theCorners zp_B_theCorners 0 zc_B_theCorners := ⟨zk_B_theCorners_0, zk_B_theCorners_1, zk_B_theCorners_2, zk_B_theCorners_3, zk_B_theCorners_4, zk_B_theCorners_5, zk_B_theCorners_6, zk_B_theCorners_7, zk_B_theCorners_8, zk_B_theCorners_9, zk_B_theCorners_10, zk_B_theCorners_11, zk_B_theCorners_12, zk_B_theCorners_13, zk_B_theCorners_14, zk_B_theCorners_15, zk_B_theCorners_16, zk_B_theCorners_17, zk_B_theCorners_18, zk_B_theCorners_19, zk_B_theCorners_20, zk_B_theCorners_21, zk_B_theCorners_22, zk_B_theCorners_23, zk_B_theCorners_24, zk_B_theCorners_25, zk_B_theCorners_26, zk_B_theCorners_27, zk_B_theCorners_28, zk_B_theCorners_29, zk_B_theCorners_30, trivial⟩
abbrev zM_C_hasTwoColours : zr_M := (RX1, cX1_hasTwoColours, 4, (some .boolean), "hasTwoColours")
theorem zk_C_hasTwoColours_0 : zr_Ok zM_C_hasTwoColours zp_C_hasTwoColours 0 (zz_push (.inl 0)) := zo_iconst (pc := 0) (n := 0) (v := 0) rfl rfl (by decide +kernel) (by decide +kernel)
theorem zk_C_hasTwoColours_1 : zr_Ok zM_C_hasTwoColours zp_C_hasTwoColours 1 (zz_store zz_isI 1) := zo_istore_n (pc := 1) (i := 1) (f := 1) rfl rfl rfl (by decide +kernel) (by decide)
theorem zk_C_hasTwoColours_2 : zr_Ok zM_C_hasTwoColours zp_C_hasTwoColours 2 (zz_load zz_isI 1) := zo_iload_n (pc := 2) (i := 1) (f := 1) rfl rfl rfl (by decide +kernel)
theorem zk_C_hasTwoColours_3 : zr_Ok zM_C_hasTwoColours zp_C_hasTwoColours 3 (zz_load zz_isA 0) := zo_aload_n (pc := 3) (i := 0) (f := 0) rfl rfl rfl (by decide +kernel)
theorem zk_C_hasTwoColours_4 : zr_Ok zM_C_hasTwoColours zp_C_hasTwoColours 4 (zz_get 1 4) := zo_getf (pc := 4) (idx := 49) (C := RX1) (T := TX1) (N := 11) rfl rfl (by decide +kernel) rfl zin_X1 (by decide) zw_203
theorem zk_C_hasTwoColours_5 : zr_Ok zM_C_hasTwoColours zp_C_hasTwoColours 5 (zz_ilt 5 0 41) := zo_icmp_ge (pc := 7) (t := 40) (tgt := 66) (off := 59) rfl rfl rfl (by decide +kernel) (by decide)
theorem zk_C_hasTwoColours_6 : zr_Ok zM_C_hasTwoColours zp_C_hasTwoColours 6 (zz_push (.inl 0)) := zo_iconst (pc := 10) (n := 0) (v := 0) rfl rfl (by decide +kernel) (by decide +kernel)
theorem zk_C_hasTwoColours_7 : zr_Ok zM_C_hasTwoColours zp_C_hasTwoColours 7 (zz_store zz_isI 2) := zo_istore_n (pc := 11) (i := 2) (f := 2) rfl rfl rfl (by decide +kernel) (by decide)
theorem zk_C_hasTwoColours_8 : zr_Ok zM_C_hasTwoColours zp_C_hasTwoColours 8 (zz_load zz_isI 2) := zo_iload_n (pc := 12) (i := 2) (f := 2) rfl rfl rfl (by decide +kernel)
theorem zk_C_hasTwoColours_9 : zr_Ok zM_C_hasTwoColours zp_C_hasTwoColours 9 (zz_load zz_isA 0) := zo_aload_n (pc := 13) (i := 0) (f := 0) rfl rfl rfl (by decide +kernel)
theorem zk_C_hasTwoColours_10 : zr_Ok zM_C_hasTwoColours zp_C_hasTwoColours 10 (zz_get 1 0) := zo_getf (pc := 14) (idx := 65) (C := RX1) (T := TX1) (N := 11) rfl rfl (by decide +kernel) rfl zin_X1 (by decide) zw_177
theorem zk_C_hasTwoColours_11 : zr_Ok zM_C_hasTwoColours zp_C_hasTwoColours 11 (zz_ilt 11 0 39) := zo_icmp_ge (pc := 17) (t := 38) (tgt := 60) (off := 43) rfl rfl rfl (by decide +kernel) (by decide)
theorem zk_C_hasTwoColours_12 : zr_Ok zM_C_hasTwoColours zp_C_hasTwoColours 12 (zz_load zz_isA 0) := zo_aload_n (pc := 20) (i := 0) (f := 0) rfl rfl rfl (by decide +kernel)
theorem zk_C_hasTwoColours_13 : zr_Ok zM_C_hasTwoColours zp_C_hasTwoColours 13 (zz_get 1 7) := zo_getf (pc := 21) (idx := 18) (C := RX1) (T := TX1) (N := 11) rfl rfl (by decide +kernel) rfl zin_X1 (by decide) zw_170
theorem zk_C_hasTwoColours_14 : zr_Ok zM_C_hasTwoColours zp_C_hasTwoColours 14 (zz_load zz_isI 1) := zo_iload_n (pc := 24) (i := 1) (f := 1) rfl rfl rfl (by decide +kernel)
theorem zk_C_hasTwoColours_15 : zr_Ok zM_C_hasTwoColours zp_C_hasTwoColours 15 (zz_ald 15 0) := zo_iald (pc := 25) rfl rfl (by decide +kernel)
theorem zk_C_hasTwoColours_16 : zr_Ok zM_C_hasTwoColours zp_C_hasTwoColours 16 (zz_load zz_isA 0) := zo_aload_n (pc := 26) (i := 0) (f := 0) rfl rfl rfl (by decide +kernel)
theorem zk_C_hasTwoColours_17 : zr_Ok zM_C_hasTwoColours zp_C_hasTwoColours 17 (zz_get 1 7) := zo_getf (pc := 27) (idx := 18) (C := RX1) (T := TX1) (N := 11) rfl rfl (by decide +kernel) rfl zin_X1 (by decide) zw_170
theorem zk_C_hasTwoColours_18 : zr_Ok zM_C_hasTwoColours zp_C_hasTwoColours 18 (zz_load zz_isA 0) := zo_aload_n (pc := 30) (i := 0) (f := 0) rfl rfl rfl (by decide +kernel)
theorem zk_C_hasTwoColours_19 : zr_Ok zM_C_hasTwoColours zp_C_hasTwoColours 19 (zz_get 1 6) := zo_getf (pc := 31) (idx := 15) (C := RX1) (T := TX1) (N := 11) rfl rfl (by decide +kernel) rfl zin_X1 (by decide) zw_169
theorem zk_C_hasTwoColours_20 : zr_Ok zM_C_hasTwoColours zp_C_hasTwoColours 20 (zz_load zz_isI 1) := zo_iload_n (pc := 34) (i := 1) (f := 1) rfl rfl rfl (by decide +kernel)
theorem zk_C_hasTwoColours_21 : zr_Ok zM_C_hasTwoColours zp_C_hasTwoColours 21 (zz_load zz_isA 0) := zo_aload_n (pc := 35) (i := 0) (f := 0) rfl rfl rfl (by decide +kernel)
theorem zk_C_hasTwoColours_22 : zr_Ok zM_C_hasTwoColours zp_C_hasTwoColours 22 (zz_get 1 0) := zo_getf (pc := 36) (idx := 65) (C := RX1) (T := TX1) (N := 11) rfl rfl (by decide +kernel) rfl zin_X1 (by decide) zw_177
theorem zk_C_hasTwoColours_23 : zr_Ok zM_C_hasTwoColours zp_C_hasTwoColours 23 (zz_bin 23 zz_mul) := zo_imul (pc := 39) rfl rfl (by decide +kernel)
theorem zk_C_hasTwoColours_24 : zr_Ok zM_C_hasTwoColours zp_C_hasTwoColours 24 (zz_load zz_isI 2) := zo_iload_n (pc := 40) (i := 2) (f := 2) rfl rfl rfl (by decide +kernel)
theorem zk_C_hasTwoColours_25 : zr_Ok zM_C_hasTwoColours zp_C_hasTwoColours 25 (zz_bin 25 zz_add) := zo_iadd (pc := 41) rfl rfl (by decide +kernel)
theorem zk_C_hasTwoColours_26 : zr_Ok zM_C_hasTwoColours zp_C_hasTwoColours 26 (zz_ald 26 0) := zo_iald (pc := 42) rfl rfl (by decide +kernel)
theorem zk_C_hasTwoColours_27 : zr_Ok zM_C_hasTwoColours zp_C_hasTwoColours 27 (zz_ald 27 0) := zo_iald (pc := 43) rfl rfl (by decide +kernel)
theorem zk_C_hasTwoColours_28 : zr_Ok zM_C_hasTwoColours zp_C_hasTwoColours 28 (zz_bin 28 zz_add) := zo_iadd (pc := 44) rfl rfl (by decide +kernel)
theorem zk_C_hasTwoColours_29 : zr_Ok zM_C_hasTwoColours zp_C_hasTwoColours 29 (zz_store zz_isI 3) := zo_istore_n (pc := 45) (i := 3) (f := 3) rfl rfl rfl (by decide +kernel) (by decide)
theorem zk_C_hasTwoColours_30 : zr_Ok zM_C_hasTwoColours zp_C_hasTwoColours 30 (zz_load zz_isI 3) := zo_iload_n (pc := 46) (i := 3) (f := 3) rfl rfl rfl (by decide +kernel)
theorem zk_C_hasTwoColours_31 : zr_Ok zM_C_hasTwoColours zp_C_hasTwoColours 31 (zz_push (.inl 2)) := zo_iconst (pc := 47) (n := 2) (v := 2) rfl rfl (by decide +kernel) (by decide +kernel)
theorem zk_C_hasTwoColours_32 : zr_Ok zM_C_hasTwoColours zp_C_hasTwoColours 32 (zz_rem 32) := zo_irem (pc := 48) rfl rfl (by decide +kernel)
theorem zk_C_hasTwoColours_33 : zr_Ok zM_C_hasTwoColours zp_C_hasTwoColours 33 (zz_eq0 33 0 37) := zo_if_ne (pc := 49) (t := 36) (tgt := 54) (off := 5) rfl rfl rfl (by decide +kernel) (by decide)
theorem zk_C_hasTwoColours_36 : zr_Ok zM_C_hasTwoColours zp_C_hasTwoColours 36 (zz_inc 36 2 1) := zo_iinc (pc := 54) (i := 2) (n2 := 1) (n := 1) rfl rfl (by decide +kernel) (by decide +kernel) (by decide)
theorem zk_C_hasTwoColours_37 : zr_Ok zM_C_hasTwoColours zp_C_hasTwoColours 37 (zz_goto 8) := zo_goto (pc := 57) (t := 8) (tgt := 12) (off := -45) rfl rfl (by decide +kernel) (by decide)
theorem zk_C_hasTwoColours_38 : zr_Ok zM_C_hasTwoColours zp_C_hasTwoColours 38 (zz_inc 38 1 1) := zo_iinc (pc := 60) (i := 1) (n2 := 1) (n := 1) rfl rfl (by decide +kernel) (by decide +kernel) (by decide)
theorem zk_C_hasTwoColours_39 : zr_Ok zM_C_hasTwoColours zp_C_hasTwoColours 39 (zz_goto 2) := zo_goto (pc := 63) (t := 2) (tgt := 2) (off := -61) rfl rfl (by decide +kernel) (by decide)
theorem zk_C_hasTwoColours_40 : zr_Ok zM_C_hasTwoColours zp_C_hasTwoColours 40 (zz_push (.inl 1)) := zo_iconst (pc := 66) (n := 1) (v := 1) rfl rfl (by decide +kernel) (by decide +kernel)
theorem zk_C_hasTwoColours_41 : zr_Ok zM_C_hasTwoColours zp_C_hasTwoColours 41 (zz_ret1 zz_is01) := zo_zreturn (pc := 67) rfl (by decide +kernel) rfl
theorem zk_C_hasTwoColours : zr_OkL zM_C_hasTwoColours zp_C_hasTwoColours 0 zc_C_hasTwoColours := ⟨zk_C_hasTwoColours_0, zk_C_hasTwoColours_1, zk_C_hasTwoColours_2, zk_C_hasTwoColours_3, zk_C_hasTwoColours_4, zk_C_hasTwoColours_5, zk_C_hasTwoColours_6, zk_C_hasTwoColours_7, zk_C_hasTwoColours_8, zk_C_hasTwoColours_9, zk_C_hasTwoColours_10, zk_C_hasTwoColours_11, zk_C_hasTwoColours_12, zk_C_hasTwoColours_13, zk_C_hasTwoColours_14, zk_C_hasTwoColours_15, zk_C_hasTwoColours_16, zk_C_hasTwoColours_17, zk_C_hasTwoColours_18, zk_C_hasTwoColours_19, zk_C_hasTwoColours_20, zk_C_hasTwoColours_21, zk_C_hasTwoColours_22, zk_C_hasTwoColours_23, zk_C_hasTwoColours_24, zk_C_hasTwoColours_25, zk_C_hasTwoColours_26, zk_C_hasTwoColours_27, zk_C_hasTwoColours_28, zk_C_hasTwoColours_29, zk_C_hasTwoColours_30, zk_C_hasTwoColours_31, zk_C_hasTwoColours_32, zk_C_hasTwoColours_33, zo_no, zo_no, zk_C_hasTwoColours_36, zk_C_hasTwoColours_37, zk_C_hasTwoColours_38, zk_C_hasTwoColours_39, zk_C_hasTwoColours_40, zk_C_hasTwoColours_41, trivial⟩
abbrev zM_E_coloured : zr_M := (RX7, cX7_coloured, 3, (some .int), "coloured")
theorem zk_E_coloured_0 : zr_Ok zM_E_coloured zp_E_coloured 0 (zz_load zz_isA 0) := zo_aload_n (pc := 0) (i := 0) (f := 0) rfl rfl rfl (by decide +kernel)
theorem zk_E_coloured_1 : zr_Ok zM_E_coloured zp_E_coloured 1 (zz_load zz_isI 1) := zo_iload_n (pc := 1) (i := 1) (f := 1) rfl rfl rfl (by decide +kernel)
theorem zk_E_coloured_2 : zr_Ok zM_E_coloured zp_E_coloured 2 (zz_push (.inl 0)) := zo_iconst (pc := 2) (n := 0) (v := 0) rfl rfl (by decide +kernel) (by decide +kernel)
theorem zk_E_coloured_3 : zr_Ok zM_E_coloured zp_E_coloured 3 (zz_call (zz_recv 5) 20 3) := zo_callV (C := RX7) (T := TX7) (N := 4) (idx := 86) (mi := 20) (n := 2) (pc := 3) zg_ok rfl rfl (by decide +kernel) rfl zw_110 (by decide) rfl zw_111 zw_112 zw_113 zw_38 (by decide +kernel)
theorem zk_E_coloured_4 : zr_Ok zM_E_coloured zp_E_coloured 4 (zz_store zz_isI 2) := zo_istore_n (pc := 6) (i := 2) (f := 2) rfl rfl rfl (by decide +kernel) (by decide)
theorem zk_E_coloured_5 : zr_Ok zM_E_coloured zp_E_coloured 5 (zz_load zz_isI 2) := zo_iload_n (pc := 7) (i := 2) (f := 2) rfl rfl rfl (by decide +kernel)
theorem zk_E_coloured_6 : zr_Ok zM_E_coloured zp_E_coloured 6 (zz_eq0 6 10 0) := zo_if_eq (pc := 8) (t := 9) (tgt := 13) (off := 5) rfl rfl rfl (by decide +kernel) (by decide)
theorem zk_E_coloured_7 : zr_Ok zM_E_coloured zp_E_coloured 7 (zz_load zz_isI 2) := zo_iload_n (pc := 11) (i := 2) (f := 2) rfl rfl rfl (by decide +kernel)
theorem zk_E_coloured_8 : zr_Ok zM_E_coloured zp_E_coloured 8 (zz_ret1 zz_isI) := zo_ireturn (pc := 12) rfl (by decide +kernel) rfl
theorem zk_E_coloured_9 : zr_Ok zM_E_coloured zp_E_coloured 9 (zz_load zz_isA 0) := zo_aload_n (pc := 13) (i := 0) (f := 0) rfl rfl rfl (by decide +kernel)
theorem zk_E_coloured_10 : zr_Ok zM_E_coloured zp_E_coloured 10 (zz_get 5 0) := zo_getf (pc := 14) (idx := 11) (C := RX7) (T := TX7) (N := 4) rfl rfl (by decide +kernel) rfl zin_X7 (by decide) zw_26
theorem zk_E_coloured_11 : zr_Ok zM_E_coloured zp_E_coloured 11 (zz_load zz_isI 1) := zo_iload_n (pc := 17) (i := 1) (f := 1) rfl rfl rfl (by decide +kernel)
theorem zk_E_coloured_12 : zr_Ok zM_E_coloured zp_E_coloured 12 (zz_ald 12 3) := zo_aald (pc := 18) rfl rfl (by decide +kernel)
theorem zk_E_coloured_13 : zr_Ok zM_E_coloured zp_E_coloured 13 (zz_call (zz_recv 0) 43 1) := zo_callV (C := RX0) (T := TX0) (N := 12) (idx := 182) (mi := 43) (n := 0) (pc := 19) zg_ok rfl rfl (by decide +kernel) rfl zw_230 (by decide) rfl zw_231 zw_232 zw_233 zw_28 (by decide +kernel)
theorem zk_E_coloured_14 : zr_Ok zM_E_coloured zp_E_coloured 14 (zz_call (zz_recv 1) 44 1) := zo_callV (C := RX1) (T := TX1) (N := 11) (idx := 206) (mi := 44) (n := 0) (pc := 22) zg_ok rfl rfl (by decide +kernel) rfl zw_234 (by decide) rfl zw_235 zw_236 zw_237 zw_193 (by decide +kernel)
theorem zk_E_coloured_15 : zr_Ok zM_E_coloured zp_E_coloured 15 (zz_eq0 15 19 0) := zo_if_eq (pc := 25) (t := 18) (tgt := 32) (off := 7) rfl rfl rfl (by decide +kernel) (by decide)
theorem zk_E_coloured_16 : zr_Ok zM_E_coloured zp_E_coloured 16 (zz_push (.inl 1)) := zo_iconst (pc := 28) (n := 1) (v := 1) rfl rfl (by decide +kernel) (by decide +kernel)
theorem zk_E_coloured_17 : zr_Ok zM_E_coloured zp_E_coloured 17 (zz_goto 19) := zo_goto (pc := 29) (t := 19) (tgt := 33) (off := 4) rfl rfl (by decide +kernel) (by decide)
theorem zk_E_coloured_19 : zr_Ok zM_E_coloured zp_E_coloured 19 (zz_ret1 zz_isI) := zo_ireturn (pc := 33) rfl (by decide +kernel) rfl
theorem zk_E_coloured : zr_OkL zM_E_coloured zp_E_coloured 0 zc_E_coloured := ⟨zk_E_coloured_0, zk_E_coloured_1, zk_E_coloured_2, zk_E_coloured_3, zk_E_coloured_4, zk_E_coloured_5, zk_E_coloured_6, zk_E_coloured_7, zk_E_coloured_8, zk_E_coloured_9, zk_E_coloured_10, zk_E_coloured_11, zk_E_coloured_12, zk_E_coloured_13, zk_E_coloured_14, zk_E_coloured_15, zk_E_coloured_16, zk_E_coloured_17, zo_no, zk_E_coloured_19, trivial⟩
abbrev zM_D_isKind : zr_M := (RX2, cX2_isKind, 4, (some .boolean), "isKind")
theorem zk_D_isKind_0 : zr_Ok zM_D_isKind zp_D_isKind 0 (zz_load zz_isI 1) := zo_iload_n (pc := 0) (i := 1) (f := 1) rfl rfl rfl (by decide +kernel)
theorem zk_D_isKind_1 : zr_Ok zM_D_isKind zp_D_isKind 1 (zz_lt0 1 7 0) := zo_if_lt (pc := 1) (t := 6) (tgt := 12) (off := 11) rfl rfl rfl (by decide +kernel) (by decide)
theorem zk_D_isKind_2 : zr_Ok zM_D_isKind zp_D_isKind 2 (zz_load zz_isI 1) := zo_iload_n (pc := 4) (i := 1) (f := 1) rfl rfl rfl (by decide +kernel)
theorem zk_D_isKind_3 : zr_Ok zM_D_isKind zp_D_isKind 3 (zz_load zz_isA 0) := zo_aload_n (pc := 5) (i := 0) (f := 0) rfl rfl rfl (by decide +kernel)
theorem zk_D_isKind_4 : zr_Ok zM_D_isKind zp_D_isKind 4 (zz_call (zz_recv 2) 28 1) := zo_callV (C := RX2) (T := TX2) (N := 4) (idx := 41) (mi := 28) (n := 0) (pc := 6) zg_ok rfl rfl (by decide +kernel) rfl zw_138 (by decide) rfl zw_139 zw_140 zw_141 zw_16 (by decide +kernel)
theorem zk_D_isKind_5 : zr_Ok zM_D_isKind zp_D_isKind 5 (zz_ilt 5 9 0) := zo_icmp_lt (pc := 9) (t := 8) (tgt := 14) (off := 5) rfl rfl rfl (by decide +kernel) (by decide)
theorem zk_D_isKind_6 : zr_Ok zM_D_isKind zp_D_isKind 6 (zz_push (.inl 0)) := zo_iconst (pc := 12) (n := 0) (v := 0) rfl rfl (by decide +kernel) (by decide +kernel)
theorem zk_D_isKind_7 : zr_Ok zM_D_isKind zp_D_isKind 7 (zz_ret1 zz_is01) := zo_zreturn (pc := 13) rfl (by decide +kernel) rfl
theorem zk_D_isKind_8 : zr_Ok zM_D_isKind zp_D_isKind 8 (zz_load zz_isI 1) := zo_iload_n (pc := 14) (i := 1) (f := 1) rfl rfl rfl (by decide +kernel)
theorem zk_D_isKind_9 : zr_Ok zM_D_isKind zp_D_isKind 9 (zz_load zz_isA 0) := zo_aload_n (pc := 15) (i := 0) (f := 0) rfl rfl rfl (by decide +kernel)
theorem zk_D_isKind_10 : zr_Ok zM_D_isKind zp_D_isKind 10 (zz_get 2 1) := zo_getf (pc := 16) (idx := 26) (C := RX2) (T := TX2) (N := 4) rfl rfl (by decide +kernel) rfl zin_X2 (by decide) zw_1
theorem zk_D_isKind_11 : zr_Ok zM_D_isKind zp_D_isKind 11 (zz_bin 11 zz_and) := zo_iand (pc := 19) rfl rfl (by decide +kernel)
theorem zk_D_isKind_12 : zr_Ok zM_D_isKind zp_D_isKind 12 (zz_store zz_isI 2) := zo_istore_n (pc := 20) (i := 2) (f := 2) rfl rfl rfl (by decide +kernel) (by decide)
theorem zk_D_isKind_13 : zr_Ok zM_D_isKind zp_D_isKind 13 (zz_push (.inl 1)) := zo_iconst (pc := 21) (n := 1) (v := 1) rfl rfl (by decide +kernel) (by decide +kernel)
theorem zk_D_isKind_14 : zr_Ok zM_D_isKind zp_D_isKind 14 (zz_store zz_isI 3) := zo_istore_n (pc := 22) (i := 3) (f := 3) rfl rfl rfl (by decide +kernel) (by decide)
theorem zk_D_isKind_15 : zr_Ok zM_D_isKind zp_D_isKind 15 (zz_load zz_isI 3) := zo_iload_n (pc := 23) (i := 3) (f := 3) rfl rfl rfl (by decide +kernel)
theorem zk_D_isKind_16 : zr_Ok zM_D_isKind zp_D_isKind 16 (zz_load zz_isA 0) := zo_aload_n (pc := 24) (i := 0) (f := 0) rfl rfl rfl (by decide +kernel)
theorem zk_D_isKind_17 : zr_Ok zM_D_isKind zp_D_isKind 17 (zz_get 2 0) := zo_getf (pc := 25) (idx := 22) (C := RX2) (T := TX2) (N := 4) rfl rfl (by decide +kernel) rfl zin_X2 (by decide) zw_0
theorem zk_D_isKind_18 : zr_Ok zM_D_isKind zp_D_isKind 18 (zz_ilt 18 0 30) := zo_icmp_ge (pc := 28) (t := 29) (tgt := 47) (off := 19) rfl rfl rfl (by decide +kernel) (by decide)
theorem zk_D_isKind_29 : zr_Ok zM_D_isKind zp_D_isKind 29 (zz_load zz_isI 2) := zo_iload_n (pc := 47) (i := 2) (f := 2) rfl rfl rfl (by decide +kernel)
theorem zk_D_isKind_30 : zr_Ok zM_D_isKind zp_D_isKind 30 (zz_load zz_isI 1) := zo_iload_n (pc := 48) (i := 1) (f := 1) rfl rfl rfl (by decide +kernel)
theorem zk_D_isKind_31 : zr_Ok zM_D_isKind zp_D_isKind 31 (zz_ieq 31 0 35) := zo_icmp_ne (pc := 49) (t := 34) (tgt := 56) (off := 7) rfl rfl rfl (by decide +kernel) (by decide)
theorem zk_D_isKind_32 : zr_Ok zM_D_isKind zp_D_isKind 32 (zz_push (.inl 1)) := zo_iconst (pc := 52) (n := 1) (v := 1) rfl rfl (by decide +kernel) (by decide +kernel)
theorem zk_D_isKind_33 : zr_Ok zM_D_isKind zp_D_isKind 33 (zz_goto 35) := zo_goto (pc := 53) (t := 35) (tgt := 57) (off := 4) rfl rfl (by decide +kernel) (by decide)
theorem zk_D_isKind_35 : zr_Ok zM_D_isKind zp_D_isKind 35 (zz_ret1 zz_is01) := zo_zreturn (pc := 57) rfl (by decide +kernel) rfl
theorem zk_D_isKind : zr_OkL zM_D_isKind zp_D_isKind 0 zc_D_isKind := ⟨zk_D_isKind_0, zk_D_isKind_1, zk_D_isKind_2, zk_D_isKind_3, zk_D_isKind_4, zk_D_isKind_5, zk_D_isKind_6, zk_D_isKind_7, zk_D_isKind_8, zk_D_isKind_9, zk_D_isKind_10, zk_D_isKind_11, zk_D_isKind_12, zk_D_isKind_13, zk_D_isKind_14, zk_D_isKind_15, zk_D_isKind_16, zk_D_isKind_17, zk_D_isKind_18, zo_no, zo_no, zo_no, zo_no, zo_no, zo_no, zo_no, zo_no, zo_no, zo_no, zk_D_isKind_29, zk_D_isKind_30, zk_D_isKind_31, zk_D_isKind_32, zk_D_isKind_33, zo_no, zk_D_isKind_35, trivial⟩
