/-! ROWS OF THE TABLE, method by method (written by wip/p1/genrows.py) -/
abbrev zM_A_fill : zr_M := (RJ7, cJ7_fill_53178, 4, none, "fill")
theorem zk_A_fill_0 : zr_Ok zM_A_fill zp_A_fill 0 (zz_push (.inl 0)) := zo_iconst (pc := 0) (n := 0) (v := 0) rfl rfl (by decide +kernel) (by decide +kernel)
theorem zk_A_fill_1 : zr_Ok zM_A_fill zp_A_fill 1 (zz_store zz_isI 2) := zo_istore_n (pc := 1) (i := 2) (f := 2) rfl rfl rfl (by decide +kernel) (by decide)
theorem zk_A_fill_2 : zr_Ok zM_A_fill zp_A_fill 2 (zz_load zz_isA 0) := zo_aload_n (pc := 2) (i := 0) (f := 0) rfl rfl rfl (by decide +kernel)
theorem zk_A_fill_3 : zr_Ok zM_A_fill zp_A_fill 3 (zz_alen) := zo_alen (pc := 3) rfl rfl (by decide +kernel)
theorem zk_A_fill_4 : zr_Ok zM_A_fill zp_A_fill 4 (zz_store zz_isI 3) := zo_istore_n (pc := 4) (i := 3) (f := 3) rfl rfl rfl (by decide +kernel) (by decide)
theorem zj_A_fill_5 : zr_Ok zM_A_fill zp_A_fill 5 (zz_load zz_isI 2) := zo_iload_n (pc := 5) (i := 2) (f := 2) rfl rfl rfl (by decide +kernel)
theorem zj_A_fill_6 : zr_Ok zM_A_fill zp_A_fill 6 (zz_load zz_isI 3) := zo_iload_n (pc := 6) (i := 3) (f := 3) rfl rfl rfl (by decide +kernel)
theorem zj_A_fill_7 : zr_Ok zM_A_fill zp_A_fill 7 (zz_ilt 7 0 15) := zo_icmp_ge (pc := 7) (t := 14) (tgt := 20) (off := 13) rfl rfl rfl (by decide +kernel) (by decide)
theorem zj_A_fill_8 : zr_Ok zM_A_fill zp_A_fill 8 (zz_load zz_isA 0) := zo_aload_n (pc := 10) (i := 0) (f := 0) rfl rfl rfl (by decide +kernel)
theorem zj_A_fill_9 : zr_Ok zM_A_fill zp_A_fill 9 (zz_load zz_isI 2) := zo_iload_n (pc := 11) (i := 2) (f := 2) rfl rfl rfl (by decide +kernel)
theorem zj_A_fill_10 : zr_Ok zM_A_fill zp_A_fill 10 (zz_load zz_isI 1) := zo_iload_n (pc := 12) (i := 1) (f := 1) rfl rfl rfl (by decide +kernel)
theorem zj_A_fill_11 : zr_Ok zM_A_fill zp_A_fill 11 (zz_ast 11 0) := zo_iast (pc := 13) rfl rfl (by decide +kernel)
theorem zj_A_fill_12 : zr_Ok zM_A_fill zp_A_fill 12 (zz_inc 12 2 1) := zo_iinc (pc := 14) (i := 2) (n2 := 1) (n := 1) rfl rfl (by decide +kernel) (by decide +kernel) (by decide)
theorem zj_A_fill_13 : zr_Ok zM_A_fill zp_A_fill 13 (zz_goto 5) := zo_goto (pc := 17) (t := 5) (tgt := 5) (off := -12) rfl rfl (by decide +kernel) (by decide)
theorem zk_A_fill_6 : zr_Ok zM_A_fill zp_A_fill 6 (zz_load zz_isI 3) := zo_iload_n (pc := 6) (i := 3) (f := 3) rfl rfl rfl (by decide +kernel)
theorem zk_A_fill_7 : zr_Ok zM_A_fill zp_A_fill 7 (zz_ilt 7 0 15) := zo_icmp_ge (pc := 7) (t := 14) (tgt := 20) (off := 13) rfl rfl rfl (by decide +kernel) (by decide)
theorem zk_A_fill_8 : zr_Ok zM_A_fill zp_A_fill 8 (zz_load zz_isA 0) := zo_aload_n (pc := 10) (i := 0) (f := 0) rfl rfl rfl (by decide +kernel)
theorem zk_A_fill_9 : zr_Ok zM_A_fill zp_A_fill 9 (zz_load zz_isI 2) := zo_iload_n (pc := 11) (i := 2) (f := 2) rfl rfl rfl (by decide +kernel)
theorem zk_A_fill_10 : zr_Ok zM_A_fill zp_A_fill 10 (zz_load zz_isI 1) := zo_iload_n (pc := 12) (i := 1) (f := 1) rfl rfl rfl (by decide +kernel)
theorem zk_A_fill_11 : zr_Ok zM_A_fill zp_A_fill 11 (zz_ast 11 0) := zo_iast (pc := 13) rfl rfl (by decide +kernel)
theorem zk_A_fill_12 : zr_Ok zM_A_fill zp_A_fill 12 (zz_inc 12 2 1) := zo_iinc (pc := 14) (i := 2) (n2 := 1) (n := 1) rfl rfl (by decide +kernel) (by decide +kernel) (by decide)
theorem zk_A_fill_13 : zr_Ok zM_A_fill zp_A_fill 13 (zz_goto 5) := zo_goto (pc := 17) (t := 5) (tgt := 5) (off := -12) rfl rfl (by decide +kernel) (by decide)
theorem zk_A_fill_14 : zr_Ok zM_A_fill zp_A_fill 14 (zz_ret0) := zo_return (pc := 20) rfl (by decide +kernel) rfl
abbrev zM_D_begin : zr_M := (RX2, cX2_begin, 2, none, "begin")
theorem zk_D_begin_0 : zr_Ok zM_D_begin zp_D_begin 0 (zz_load zz_isA 0) := zo_aload_n (pc := 0) (i := 0) (f := 0) rfl rfl rfl (by decide +kernel)
theorem zk_D_begin_1 : zr_Ok zM_D_begin zp_D_begin 1 (zz_load zz_isI 1) := zo_iload_n (pc := 1) (i := 1) (f := 1) rfl rfl rfl (by decide +kernel)
theorem zk_D_begin_2 : zr_Ok zM_D_begin zp_D_begin 2 (zz_putf 2 0 0) := zo_putf (pc := 2) (idx := 22) (C := RX2) (T := TX2) (N := 4) (ty0 := tyX2) rfl rfl (by decide +kernel) rfl zin_X2 tyX2_ok nmX2 (by decide) zw_0 rfl rfl
theorem zk_D_begin_3 : zr_Ok zM_D_begin zp_D_begin 3 (zz_load zz_isA 0) := zo_aload_n (pc := 5) (i := 0) (f := 0) rfl rfl rfl (by decide +kernel)
theorem zk_D_begin_4 : zr_Ok zM_D_begin zp_D_begin 4 (zz_push (.inl 1)) := zo_iconst (pc := 6) (n := 1) (v := 1) rfl rfl (by decide +kernel) (by decide +kernel)
theorem zk_D_begin_5 : zr_Ok zM_D_begin zp_D_begin 5 (zz_putf 2 1 0) := zo_putf (pc := 7) (idx := 26) (C := RX2) (T := TX2) (N := 4) (ty0 := tyX2) rfl rfl (by decide +kernel) rfl zin_X2 tyX2_ok nmX2 (by decide) zw_1 rfl rfl
theorem zk_D_begin_6 : zr_Ok zM_D_begin zp_D_begin 6 (zz_load zz_isA 0) := zo_aload_n (pc := 10) (i := 0) (f := 0) rfl rfl rfl (by decide +kernel)
theorem zk_D_begin_7 : zr_Ok zM_D_begin zp_D_begin 7 (zz_get 2 2) := zo_getf (pc := 11) (idx := 9) (C := RX2) (T := TX2) (N := 4) rfl rfl (by decide +kernel) rfl zin_X2 (by decide) zw_2
theorem zk_D_begin_8 : zr_Ok zM_D_begin zp_D_begin 8 (zz_push (.inl 2)) := zo_iconst (pc := 14) (n := 2) (v := 2) rfl rfl (by decide +kernel) (by decide +kernel)
theorem zk_D_begin_9 : zr_Ok zM_D_begin zp_D_begin 9 (zz_call zz_any 0 2) := zo_callS (idx := 29) (mi := 0) (n := 2) (pc := 15) zg_ok rfl rfl (by decide +kernel) rfl zw_3 (by decide) zw_5 zw_6 zw_4 (by decide +kernel)
theorem zk_D_begin_10 : zr_Ok zM_D_begin zp_D_begin 10 (zz_load zz_isA 0) := zo_aload_n (pc := 18) (i := 0) (f := 0) rfl rfl rfl (by decide +kernel)
theorem zk_D_begin_11 : zr_Ok zM_D_begin zp_D_begin 11 (zz_get 2 3) := zo_getf (pc := 19) (idx := 15) (C := RX2) (T := TX2) (N := 4) rfl rfl (by decide +kernel) rfl zin_X2 (by decide) zw_7
theorem zk_D_begin_12 : zr_Ok zM_D_begin zp_D_begin 12 (zz_push (.inl 0)) := zo_iconst (pc := 22) (n := 0) (v := 0) rfl rfl (by decide +kernel) (by decide +kernel)
theorem zk_D_begin_13 : zr_Ok zM_D_begin zp_D_begin 13 (zz_call zz_any 0 2) := zo_callS (idx := 29) (mi := 0) (n := 2) (pc := 23) zg_ok rfl rfl (by decide +kernel) rfl zw_3 (by decide) zw_5 zw_6 zw_4 (by decide +kernel)
theorem zk_D_begin_14 : zr_Ok zM_D_begin zp_D_begin 14 (zz_ret0) := zo_return (pc := 26) rfl (by decide +kernel) rfl
theorem zk_D_begin : zr_OkL zM_D_begin zp_D_begin 0 zc_D_begin := ⟨zk_D_begin_0, zk_D_begin_1, zk_D_begin_2, zk_D_begin_3, zk_D_begin_4, zk_D_begin_5, zk_D_begin_6, zk_D_begin_7, zk_D_begin_8, zk_D_begin_9, zk_D_begin_10, zk_D_begin_11, zk_D_begin_12, zk_D_begin_13, zk_D_begin_14, trivial⟩
abbrev zM_D_init : zr_M := (RX2, cX2_init, 1, none, "<init>")
theorem zk_D_init_0 : zr_Ok zM_D_init zp_D_init 0 (zz_load zz_isA 0) := zo_aload_n (pc := 0) (i := 0) (f := 0) rfl rfl rfl (by decide +kernel)
theorem zk_D_init_1 : zr_Ok zM_D_init zp_D_init 1 (zz_obj) := zo_obj (pc := 1) (idx := 3) rfl rfl (by decide +kernel) zw_8 zw_9 zw_10
theorem zk_D_init_2 : zr_Ok zM_D_init zp_D_init 2 (zz_load zz_isA 0) := zo_aload_n (pc := 4) (i := 0) (f := 0) rfl rfl rfl (by decide +kernel)
theorem zk_D_init_3 : zr_Ok zM_D_init zp_D_init 3 (zz_push (.inl 16)) := zo_bipush (pc := 5) (n := 16) (v := 16) rfl rfl (by decide +kernel) (by decide +kernel)
theorem zk_D_init_4 : zr_Ok zM_D_init zp_D_init 4 (zz_newa 0) := zo_newi (pc := 7) rfl rfl (by decide +kernel) zw_11
theorem zk_D_init_5 : zr_Ok zM_D_init zp_D_init 5 (zz_putf 2 2 2) := zo_putF (pc := 9) (idx := 9) (C := RX2) (T := TX2) (N := 4) (ty0 := tyX2) rfl rfl (by decide +kernel) rfl zin_X2 tyX2_ok nmX2 (by decide) zw_2 rfl (Or.inr ⟨_, rfl⟩) rfl rfl
theorem zk_D_init_6 : zr_Ok zM_D_init zp_D_init 6 (zz_load zz_isA 0) := zo_aload_n (pc := 12) (i := 0) (f := 0) rfl rfl rfl (by decide +kernel)
theorem zk_D_init_7 : zr_Ok zM_D_init zp_D_init 7 (zz_push (.inl 4)) := zo_iconst (pc := 13) (n := 4) (v := 4) rfl rfl (by decide +kernel) (by decide +kernel)
theorem zk_D_init_8 : zr_Ok zM_D_init zp_D_init 8 (zz_newa 0) := zo_newi (pc := 14) rfl rfl (by decide +kernel) zw_11
theorem zk_D_init_9 : zr_Ok zM_D_init zp_D_init 9 (zz_putf 2 3 2) := zo_putF (pc := 16) (idx := 15) (C := RX2) (T := TX2) (N := 4) (ty0 := tyX2) rfl rfl (by decide +kernel) rfl zin_X2 tyX2_ok nmX2 (by decide) zw_7 rfl (Or.inr ⟨_, rfl⟩) rfl rfl
theorem zk_D_init_10 : zr_Ok zM_D_init zp_D_init 10 (zz_load zz_isA 0) := zo_aload_n (pc := 19) (i := 0) (f := 0) rfl rfl rfl (by decide +kernel)
theorem zk_D_init_11 : zr_Ok zM_D_init zp_D_init 11 (zz_push (.inl 1)) := zo_iconst (pc := 20) (n := 1) (v := 1) rfl rfl (by decide +kernel) (by decide +kernel)
theorem zk_D_init_12 : zr_Ok zM_D_init zp_D_init 12 (zz_call (zz_recv 2) 1 2) := zo_callV (C := RX2) (T := TX2) (N := 4) (idx := 18) (mi := 1) (n := 1) (pc := 21) zg_ok rfl rfl (by decide +kernel) rfl zw_12 (by decide) rfl zw_13 zw_14 zw_15 zw_16 (by decide +kernel)
theorem zk_D_init_13 : zr_Ok zM_D_init zp_D_init 13 (zz_ret0) := zo_return (pc := 24) rfl (by decide +kernel) rfl
theorem zk_D_init : zr_OkL zM_D_init zp_D_init 0 zc_D_init := ⟨zk_D_init_0, zk_D_init_1, zk_D_init_2, zk_D_init_3, zk_D_init_4, zk_D_init_5, zk_D_init_6, zk_D_init_7, zk_D_init_8, zk_D_init_9, zk_D_init_10, zk_D_init_11, zk_D_init_12, zk_D_init_13, trivial⟩
abbrev zM_B_init : zr_M := (RX0, cX0_init, 1, none, "<init>")
theorem zk_B_init_0 : zr_Ok zM_B_init zp_B_init 0 (zz_load zz_isA 0) := zo_aload_n (pc := 0) (i := 0) (f := 0) rfl rfl rfl (by decide +kernel)
theorem zk_B_init_1 : zr_Ok zM_B_init zp_B_init 1 (zz_obj) := zo_obj (pc := 1) (idx := 3) rfl rfl (by decide +kernel) zw_17 zw_9 zw_10
theorem zk_B_init_2 : zr_Ok zM_B_init zp_B_init 2 (zz_load zz_isA 0) := zo_aload_n (pc := 4) (i := 0) (f := 0) rfl rfl rfl (by decide +kernel)
theorem zk_B_init_3 : zr_Ok zM_B_init zp_B_init 3 (zz_new 2 4 [.inl 0, .inl 0, .inr (.inl 0), .inr (.inl 0)]) := zo_new (pc := 5) (idx := 9) (C := RX2) (T := TX2) (ty0 := tyX2) (vs := zvs_X2) rfl rfl (by decide +kernel) rfl zin_X2 tyX2_ok zw_18 zw_19 zw_16 zvs_X2_ok zvs_X2_d
theorem zk_B_init_4 : zr_Ok zM_B_init zp_B_init 4 (zz_dup) := zo_dup (pc := 8) rfl rfl (by decide +kernel)
theorem zk_B_init_5 : zr_Ok zM_B_init zp_B_init 5 (zz_call (zz_recv 2) 2 1) := zo_callI (ret2 := none) (idx := 11) (mi := 2) (n := 0) (pc := 9) zg_ok rfl rfl (by decide +kernel) rfl zw_20 (by decide) zw_22 zw_21 zw_16 rfl (by decide +kernel)
theorem zk_B_init_6 : zr_Ok zM_B_init zp_B_init 6 (zz_putf 0 0 2) := zo_putF (pc := 12) (idx := 12) (C := RX0) (T := TX0) (N := 12) (ty0 := tyX0) rfl rfl (by decide +kernel) rfl zin_X0 tyX0_ok nmX0 (by decide) zw_23 rfl (Or.inl ⟨_, rfl⟩) rfl rfl
theorem zk_B_init_7 : zr_Ok zM_B_init zp_B_init 7 (zz_ret0) := zo_return (pc := 15) rfl (by decide +kernel) rfl
theorem zk_B_init : zr_OkL zM_B_init zp_B_init 0 zc_B_init := ⟨zk_B_init_0, zk_B_init_1, zk_B_init_2, zk_B_init_3, zk_B_init_4, zk_B_init_5, zk_B_init_6, zk_B_init_7, trivial⟩
abbrev zM_E_init : zr_M := (RX7, cX7_init, 2, none, "<init>")
theorem zk_E_init_0 : zr_Ok zM_E_init zp_E_init 0 (zz_load zz_isA 0) := zo_aload_n (pc := 0) (i := 0) (f := 0) rfl rfl rfl (by decide +kernel)
theorem zk_E_init_1 : zr_Ok zM_E_init zp_E_init 1 (zz_obj) := zo_obj (pc := 1) (idx := 3) rfl rfl (by decide +kernel) zw_24 zw_9 zw_10
theorem zk_E_init_2 : zr_Ok zM_E_init zp_E_init 2 (zz_load zz_isA 0) := zo_aload_n (pc := 4) (i := 0) (f := 0) rfl rfl rfl (by decide +kernel)
theorem zk_E_init_3 : zr_Ok zM_E_init zp_E_init 3 (zz_push (.inl 4)) := zo_iconst (pc := 5) (n := 4) (v := 4) rfl rfl (by decide +kernel) (by decide +kernel)
theorem zk_E_init_4 : zr_Ok zM_E_init zp_E_init 4 (zz_newa 3) := zo_newq (pc := 6) (idx := 9) rfl rfl (by decide +kernel) zw_25
theorem zk_E_init_5 : zr_Ok zM_E_init zp_E_init 5 (zz_putf 5 0 2) := zo_putF (pc := 9) (idx := 11) (C := RX7) (T := TX7) (N := 4) (ty0 := tyX7) rfl rfl (by decide +kernel) rfl zin_X7 tyX7_ok nmX7 (by decide) zw_26 rfl (Or.inr ⟨_, rfl⟩) rfl rfl
theorem zk_E_init_6 : zr_Ok zM_E_init zp_E_init 6 (zz_load zz_isA 0) := zo_aload_n (pc := 12) (i := 0) (f := 0) rfl rfl rfl (by decide +kernel)
theorem zk_E_init_7 : zr_Ok zM_E_init zp_E_init 7 (zz_new 0 12 [.inr (.inl 0), .inl 0, .inr (.inl 0), .inr (.inl 0), .inr (.inl 0), .inr (.inl 0), .inr (.inl 0), .inl 0, .inl 0, .inl 0, .inl 0, .inl 0]) := zo_new (pc := 13) (idx := 9) (C := RX0) (T := TX0) (ty0 := tyX0) (vs := zvs_X0) rfl rfl (by decide +kernel) rfl zin_X0 tyX0_ok zw_25 zw_27 zw_28 zvs_X0_ok zvs_X0_d
theorem zk_E_init_8 : zr_Ok zM_E_init zp_E_init 8 (zz_dup) := zo_dup (pc := 16) rfl rfl (by decide +kernel)
theorem zk_E_init_9 : zr_Ok zM_E_init zp_E_init 9 (zz_call (zz_recv 0) 3 1) := zo_callIN (ret2 := none) (idx := 15) (mi := 3) (n := 0) (pc := 17) (host := "EvenBodies") zg_ok rfl rfl (by decide +kernel) rfl zw_29 (by decide) (fun _ h => h.2) zw_30 zw_28 rfl (by decide +kernel)
theorem zk_E_init_10 : zr_Ok zM_E_init zp_E_init 10 (zz_putf 5 1 2) := zo_putF (pc := 20) (idx := 16) (C := RX7) (T := TX7) (N := 4) (ty0 := tyX7) rfl rfl (by decide +kernel) rfl zin_X7 tyX7_ok nmX7 (by decide) zw_31 rfl (Or.inl ⟨_, rfl⟩) rfl rfl
theorem zk_E_init_11 : zr_Ok zM_E_init zp_E_init 11 (zz_load zz_isA 0) := zo_aload_n (pc := 23) (i := 0) (f := 0) rfl rfl rfl (by decide +kernel)
theorem zk_E_init_12 : zr_Ok zM_E_init zp_E_init 12 (zz_new 2 4 [.inl 0, .inl 0, .inr (.inl 0), .inr (.inl 0)]) := zo_new (pc := 24) (idx := 20) (C := RX2) (T := TX2) (ty0 := tyX2) (vs := zvs_X2) rfl rfl (by decide +kernel) rfl zin_X2 tyX2_ok zw_32 zw_19 zw_16 zvs_X2_ok zvs_X2_d
theorem zk_E_init_13 : zr_Ok zM_E_init zp_E_init 13 (zz_dup) := zo_dup (pc := 27) rfl rfl (by decide +kernel)
theorem zk_E_init_14 : zr_Ok zM_E_init zp_E_init 14 (zz_call (zz_recv 2) 2 1) := zo_callI (ret2 := none) (idx := 22) (mi := 2) (n := 0) (pc := 28) zg_ok rfl rfl (by decide +kernel) rfl zw_20 (by decide) zw_33 zw_21 zw_16 rfl (by decide +kernel)
theorem zk_E_init_15 : zr_Ok zM_E_init zp_E_init 15 (zz_putf 5 2 2) := zo_putF (pc := 31) (idx := 23) (C := RX7) (T := TX7) (N := 4) (ty0 := tyX7) rfl rfl (by decide +kernel) rfl zin_X7 tyX7_ok nmX7 (by decide) zw_34 rfl (Or.inl ⟨_, rfl⟩) rfl rfl
theorem zk_E_init_16 : zr_Ok zM_E_init zp_E_init 16 (zz_load zz_isA 0) := zo_aload_n (pc := 34) (i := 0) (f := 0) rfl rfl rfl (by decide +kernel)
theorem zk_E_init_17 : zr_Ok zM_E_init zp_E_init 17 (zz_push (.inl 8)) := zo_bipush (pc := 35) (n := 8) (v := 8) rfl rfl (by decide +kernel) (by decide +kernel)
theorem zk_E_init_18 : zr_Ok zM_E_init zp_E_init 18 (zz_newa 2) := zo_newj (pc := 37) rfl rfl (by decide +kernel) zw_35
theorem zk_E_init_19 : zr_Ok zM_E_init zp_E_init 19 (zz_putf 5 3 2) := zo_putF (pc := 39) (idx := 27) (C := RX7) (T := TX7) (N := 4) (ty0 := tyX7) rfl rfl (by decide +kernel) rfl zin_X7 tyX7_ok nmX7 (by decide) zw_36 rfl (Or.inr ⟨_, rfl⟩) rfl rfl
theorem zk_E_init_20 : zr_Ok zM_E_init zp_E_init 20 (zz_push (.inl 0)) := zo_iconst (pc := 42) (n := 0) (v := 0) rfl rfl (by decide +kernel) (by decide +kernel)
theorem zk_E_init_21 : zr_Ok zM_E_init zp_E_init 21 (zz_store zz_isI 1) := zo_istore_n (pc := 43) (i := 1) (f := 1) rfl rfl rfl (by decide +kernel) (by decide)
theorem zk_E_init_22 : zr_Ok zM_E_init zp_E_init 22 (zz_load zz_isI 1) := zo_iload_n (pc := 44) (i := 1) (f := 1) rfl rfl rfl (by decide +kernel)
theorem zk_E_init_23 : zr_Ok zM_E_init zp_E_init 23 (zz_push (.inl 4)) := zo_iconst (pc := 45) (n := 4) (v := 4) rfl rfl (by decide +kernel) (by decide +kernel)
theorem zk_E_init_24 : zr_Ok zM_E_init zp_E_init 24 (zz_ilt 24 0 35) := zo_icmp_ge (pc := 46) (t := 34) (tgt := 68) (off := 22) rfl rfl rfl (by decide +kernel) (by decide)
theorem zk_E_init_25 : zr_Ok zM_E_init zp_E_init 25 (zz_load zz_isA 0) := zo_aload_n (pc := 49) (i := 0) (f := 0) rfl rfl rfl (by decide +kernel)
theorem zk_E_init_26 : zr_Ok zM_E_init zp_E_init 26 (zz_get 5 0) := zo_getf (pc := 50) (idx := 11) (C := RX7) (T := TX7) (N := 4) rfl rfl (by decide +kernel) rfl zin_X7 (by decide) zw_26
theorem zk_E_init_27 : zr_Ok zM_E_init zp_E_init 27 (zz_load zz_isI 1) := zo_iload_n (pc := 53) (i := 1) (f := 1) rfl rfl rfl (by decide +kernel)
theorem zk_E_init_28 : zr_Ok zM_E_init zp_E_init 28 (zz_new 0 12 [.inr (.inl 0), .inl 0, .inr (.inl 0), .inr (.inl 0), .inr (.inl 0), .inr (.inl 0), .inr (.inl 0), .inl 0, .inl 0, .inl 0, .inl 0, .inl 0]) := zo_new (pc := 54) (idx := 9) (C := RX0) (T := TX0) (ty0 := tyX0) (vs := zvs_X0) rfl rfl (by decide +kernel) rfl zin_X0 tyX0_ok zw_25 zw_27 zw_28 zvs_X0_ok zvs_X0_d
theorem zk_E_init_29 : zr_Ok zM_E_init zp_E_init 29 (zz_dup) := zo_dup (pc := 57) rfl rfl (by decide +kernel)
theorem zk_E_init_30 : zr_Ok zM_E_init zp_E_init 30 (zz_call (zz_recv 0) 3 1) := zo_callIN (ret2 := none) (idx := 15) (mi := 3) (n := 0) (pc := 58) (host := "EvenBodies") zg_ok rfl rfl (by decide +kernel) rfl zw_29 (by decide) (fun _ h => h.2) zw_30 zw_28 rfl (by decide +kernel)
theorem zk_E_init_31 : zr_Ok zM_E_init zp_E_init 31 (zz_aast 0) := zo_aast (pc := 61) rfl rfl (by decide +kernel)
theorem zk_E_init_32 : zr_Ok zM_E_init zp_E_init 32 (zz_inc 32 1 1) := zo_iinc (pc := 62) (i := 1) (n2 := 1) (n := 1) rfl rfl (by decide +kernel) (by decide +kernel) (by decide)
theorem zk_E_init_33 : zr_Ok zM_E_init zp_E_init 33 (zz_goto 22) := zo_goto (pc := 65) (t := 22) (tgt := 44) (off := -21) rfl rfl (by decide +kernel) (by decide)
theorem zk_E_init_34 : zr_Ok zM_E_init zp_E_init 34 (zz_ret0) := zo_return (pc := 68) rfl (by decide +kernel) rfl
theorem zk_E_init : zr_OkL zM_E_init zp_E_init 0 zc_E_init := ⟨zk_E_init_0, zk_E_init_1, zk_E_init_2, zk_E_init_3, zk_E_init_4, zk_E_init_5, zk_E_init_6, zk_E_init_7, zk_E_init_8, zk_E_init_9, zk_E_init_10, zk_E_init_11, zk_E_init_12, zk_E_init_13, zk_E_init_14, zk_E_init_15, zk_E_init_16, zk_E_init_17, zk_E_init_18, zk_E_init_19, zk_E_init_20, zk_E_init_21, zk_E_init_22, zk_E_init_23, zk_E_init_24, zk_E_init_25, zk_E_init_26, zk_E_init_27, zk_E_init_28, zk_E_init_29, zk_E_init_30, zk_E_init_31, zk_E_init_32, zk_E_init_33, zk_E_init_34, trivial⟩
abbrev zM_E_isNoBody : zr_M := (RX7, cX7_isNoBody, 1, (some .boolean), "isNoBody")
theorem zk_E_isNoBody_0 : zr_Ok zM_E_isNoBody zp_E_isNoBody 0 (zz_load zz_isI 0) := zo_iload_n (pc := 0) (i := 0) (f := 0) rfl rfl rfl (by decide +kernel)
theorem zk_E_isNoBody_1 : zr_Ok zM_E_isNoBody zp_E_isNoBody 1 (zz_lt0 1 6 0) := zo_if_lt (pc := 1) (t := 5) (tgt := 9) (off := 8) rfl rfl rfl (by decide +kernel) (by decide)
theorem zk_E_isNoBody_2 : zr_Ok zM_E_isNoBody zp_E_isNoBody 2 (zz_load zz_isI 0) := zo_iload_n (pc := 4) (i := 0) (f := 0) rfl rfl rfl (by decide +kernel)
theorem zk_E_isNoBody_3 : zr_Ok zM_E_isNoBody zp_E_isNoBody 3 (zz_push (.inl 4)) := zo_iconst (pc := 5) (n := 4) (v := 4) rfl rfl (by decide +kernel) (by decide +kernel)
theorem zk_E_isNoBody_4 : zr_Ok zM_E_isNoBody zp_E_isNoBody 4 (zz_ilt 4 8 0) := zo_icmp_lt (pc := 6) (t := 7) (tgt := 13) (off := 7) rfl rfl rfl (by decide +kernel) (by decide)
theorem zk_E_isNoBody_5 : zr_Ok zM_E_isNoBody zp_E_isNoBody 5 (zz_push (.inl 1)) := zo_iconst (pc := 9) (n := 1) (v := 1) rfl rfl (by decide +kernel) (by decide +kernel)
theorem zk_E_isNoBody_6 : zr_Ok zM_E_isNoBody zp_E_isNoBody 6 (zz_goto 8) := zo_goto (pc := 10) (t := 8) (tgt := 14) (off := 4) rfl rfl (by decide +kernel) (by decide)
theorem zk_E_isNoBody_7 : zr_Ok zM_E_isNoBody zp_E_isNoBody 7 (zz_push (.inl 0)) := zo_iconst (pc := 13) (n := 0) (v := 0) rfl rfl (by decide +kernel) (by decide +kernel)
theorem zk_E_isNoBody_8 : zr_Ok zM_E_isNoBody zp_E_isNoBody 8 (zz_ret1 zz_is01) := zo_zreturn (pc := 14) rfl (by decide +kernel) rfl
theorem zk_E_isNoBody : zr_OkL zM_E_isNoBody zp_E_isNoBody 0 zc_E_isNoBody := ⟨zk_E_isNoBody_0, zk_E_isNoBody_1, zk_E_isNoBody_2, zk_E_isNoBody_3, zk_E_isNoBody_4, zk_E_isNoBody_5, zk_E_isNoBody_6, zk_E_isNoBody_7, zk_E_isNoBody_8, trivial⟩
abbrev zM_E_isNoMirror : zr_M := (RX7, cX7_isNoMirror, 3, (some .boolean), "isNoMirror")
theorem zk_E_isNoMirror_0 : zr_Ok zM_E_isNoMirror zp_E_isNoMirror 0 (zz_load zz_isI 1) := zo_iload_n (pc := 0) (i := 1) (f := 1) rfl rfl rfl (by decide +kernel)
theorem zk_E_isNoMirror_1 : zr_Ok zM_E_isNoMirror zp_E_isNoMirror 1 (zz_call zz_any 5 1) := zo_callS (idx := 31) (mi := 5) (n := 1) (pc := 1) zg_ok rfl rfl (by decide +kernel) rfl zw_37 (by decide) zw_39 zw_40 zw_38 (by decide +kernel)
theorem zk_E_isNoMirror_2 : zr_Ok zM_E_isNoMirror zp_E_isNoMirror 2 (zz_eq0 2 0 14) := zo_if_ne (pc := 4) (t := 13) (tgt := 27) (off := 23) rfl rfl rfl (by decide +kernel) (by decide)
theorem zk_E_isNoMirror_3 : zr_Ok zM_E_isNoMirror zp_E_isNoMirror 3 (zz_load zz_isI 2) := zo_iload_n (pc := 7) (i := 2) (f := 2) rfl rfl rfl (by decide +kernel)
theorem zk_E_isNoMirror_4 : zr_Ok zM_E_isNoMirror zp_E_isNoMirror 4 (zz_lt0 4 14 0) := zo_if_lt (pc := 8) (t := 13) (tgt := 27) (off := 19) rfl rfl rfl (by decide +kernel) (by decide)
theorem zk_E_isNoMirror_5 : zr_Ok zM_E_isNoMirror zp_E_isNoMirror 5 (zz_load zz_isI 2) := zo_iload_n (pc := 11) (i := 2) (f := 2) rfl rfl rfl (by decide +kernel)
theorem zk_E_isNoMirror_6 : zr_Ok zM_E_isNoMirror zp_E_isNoMirror 6 (zz_load zz_isA 0) := zo_aload_n (pc := 12) (i := 0) (f := 0) rfl rfl rfl (by decide +kernel)
theorem zk_E_isNoMirror_7 : zr_Ok zM_E_isNoMirror zp_E_isNoMirror 7 (zz_get 5 0) := zo_getf (pc := 13) (idx := 11) (C := RX7) (T := TX7) (N := 4) rfl rfl (by decide +kernel) rfl zin_X7 (by decide) zw_26
theorem zk_E_isNoMirror_8 : zr_Ok zM_E_isNoMirror zp_E_isNoMirror 8 (zz_load zz_isI 1) := zo_iload_n (pc := 16) (i := 1) (f := 1) rfl rfl rfl (by decide +kernel)
theorem zk_E_isNoMirror_9 : zr_Ok zM_E_isNoMirror zp_E_isNoMirror 9 (zz_ald 9 3) := zo_aald (pc := 17) rfl rfl (by decide +kernel)
theorem zk_E_isNoMirror_10 : zr_Ok zM_E_isNoMirror zp_E_isNoMirror 10 (zz_get 0 0) := zo_getf (pc := 18) (idx := 35) (C := RX0) (T := TX0) (N := 12) rfl rfl (by decide +kernel) rfl zin_X0 (by decide) zw_41
theorem zk_E_isNoMirror_11 : zr_Ok zM_E_isNoMirror zp_E_isNoMirror 11 (zz_get 2 0) := zo_getf (pc := 21) (idx := 76) (C := RX2) (T := TX2) (N := 4) rfl rfl (by decide +kernel) rfl zin_X2 (by decide) zw_42
theorem zk_E_isNoMirror_12 : zr_Ok zM_E_isNoMirror zp_E_isNoMirror 12 (zz_ilt 12 16 0) := zo_icmp_lt (pc := 24) (t := 15) (tgt := 31) (off := 7) rfl rfl rfl (by decide +kernel) (by decide)
theorem zk_E_isNoMirror_13 : zr_Ok zM_E_isNoMirror zp_E_isNoMirror 13 (zz_push (.inl 1)) := zo_iconst (pc := 27) (n := 1) (v := 1) rfl rfl (by decide +kernel) (by decide +kernel)
theorem zk_E_isNoMirror_14 : zr_Ok zM_E_isNoMirror zp_E_isNoMirror 14 (zz_goto 16) := zo_goto (pc := 28) (t := 16) (tgt := 32) (off := 4) rfl rfl (by decide +kernel) (by decide)
theorem zk_E_isNoMirror_15 : zr_Ok zM_E_isNoMirror zp_E_isNoMirror 15 (zz_push (.inl 0)) := zo_iconst (pc := 31) (n := 0) (v := 0) rfl rfl (by decide +kernel) (by decide +kernel)
theorem zk_E_isNoMirror_16 : zr_Ok zM_E_isNoMirror zp_E_isNoMirror 16 (zz_ret1 zz_is01) := zo_zreturn (pc := 32) rfl (by decide +kernel) rfl
theorem zk_E_isNoMirror : zr_OkL zM_E_isNoMirror zp_E_isNoMirror 0 zc_E_isNoMirror := ⟨zk_E_isNoMirror_0, zk_E_isNoMirror_1, zk_E_isNoMirror_2, zk_E_isNoMirror_3, zk_E_isNoMirror_4, zk_E_isNoMirror_5, zk_E_isNoMirror_6, zk_E_isNoMirror_7, zk_E_isNoMirror_8, zk_E_isNoMirror_9, zk_E_isNoMirror_10, zk_E_isNoMirror_11, zk_E_isNoMirror_12, zk_E_isNoMirror_13, zk_E_isNoMirror_14, zk_E_isNoMirror_15, zk_E_isNoMirror_16, trivial⟩
abbrev zM_D_joinedTo : zr_M := (RX2, cX2_joinedTo, 2, (some .int), "joinedTo")
theorem zk_D_joinedTo_0 : zr_Ok zM_D_joinedTo zp_D_joinedTo 0 (zz_load zz_isA 0) := zo_aload_n (pc := 0) (i := 0) (f := 0) rfl rfl rfl (by decide +kernel)
theorem zk_D_joinedTo_1 : zr_Ok zM_D_joinedTo zp_D_joinedTo 1 (zz_get 2 3) := zo_getf (pc := 1) (idx := 15) (C := RX2) (T := TX2) (N := 4) rfl rfl (by decide +kernel) rfl zin_X2 (by decide) zw_7
theorem zk_D_joinedTo_2 : zr_Ok zM_D_joinedTo zp_D_joinedTo 2 (zz_load zz_isI 1) := zo_iload_n (pc := 4) (i := 1) (f := 1) rfl rfl rfl (by decide +kernel)
theorem zk_D_joinedTo_3 : zr_Ok zM_D_joinedTo zp_D_joinedTo 3 (zz_ald 3 0) := zo_iald (pc := 5) rfl rfl (by decide +kernel)
theorem zk_D_joinedTo_4 : zr_Ok zM_D_joinedTo zp_D_joinedTo 4 (zz_ret1 zz_isI) := zo_ireturn (pc := 6) rfl (by decide +kernel) rfl
theorem zk_D_joinedTo : zr_OkL zM_D_joinedTo zp_D_joinedTo 0 zc_D_joinedTo := ⟨zk_D_joinedTo_0, zk_D_joinedTo_1, zk_D_joinedTo_2, zk_D_joinedTo_3, zk_D_joinedTo_4, trivial⟩
abbrev zM_E_about : zr_M := (RX7, cX7_about, 4, (some .int), "about")
theorem zk_E_about_0 : zr_Ok zM_E_about zp_E_about 0 (zz_load zz_isI 1) := zo_iload_n (pc := 0) (i := 1) (f := 1) rfl rfl rfl (by decide +kernel)
theorem zk_E_about_1 : zr_Ok zM_E_about zp_E_about 1 (zz_call zz_any 5 1) := zo_callS (idx := 31) (mi := 5) (n := 1) (pc := 1) zg_ok rfl rfl (by decide +kernel) rfl zw_37 (by decide) zw_39 zw_40 zw_38 (by decide +kernel)
theorem zk_E_about_2 : zr_Ok zM_E_about zp_E_about 2 (zz_eq0 2 0 9) := zo_if_ne (pc := 4) (t := 8) (tgt := 16) (off := 12) rfl rfl rfl (by decide +kernel) (by decide)
theorem zk_E_about_3 : zr_Ok zM_E_about zp_E_about 3 (zz_load zz_isI 2) := zo_iload_n (pc := 7) (i := 2) (f := 2) rfl rfl rfl (by decide +kernel)
theorem zk_E_about_4 : zr_Ok zM_E_about zp_E_about 4 (zz_lt0 4 9 0) := zo_if_lt (pc := 8) (t := 8) (tgt := 16) (off := 8) rfl rfl rfl (by decide +kernel) (by decide)
theorem zk_E_about_5 : zr_Ok zM_E_about zp_E_about 5 (zz_load zz_isI 2) := zo_iload_n (pc := 11) (i := 2) (f := 2) rfl rfl rfl (by decide +kernel)
theorem zk_E_about_6 : zr_Ok zM_E_about zp_E_about 6 (zz_push (.inl 2)) := zo_iconst (pc := 12) (n := 2) (v := 2) rfl rfl (by decide +kernel) (by decide +kernel)
theorem zk_E_about_7 : zr_Ok zM_E_about zp_E_about 7 (zz_igt 7 0 11) := zo_icmp_le (pc := 13) (t := 10) (tgt := 19) (off := 6) rfl rfl rfl (by decide +kernel) (by decide)
theorem zk_E_about_8 : zr_Ok zM_E_about zp_E_about 8 (zz_push (.inl 4294967294)) := zo_bipush (pc := 16) (n := -2) (v := 4294967294) rfl rfl (by decide +kernel) (by decide +kernel)
theorem zk_E_about_9 : zr_Ok zM_E_about zp_E_about 9 (zz_ret1 zz_isI) := zo_ireturn (pc := 18) rfl (by decide +kernel) rfl
theorem zk_E_about_10 : zr_Ok zM_E_about zp_E_about 10 (zz_load zz_isI 2) := zo_iload_n (pc := 19) (i := 2) (f := 2) rfl rfl rfl (by decide +kernel)
theorem zk_E_about_11 : zr_Ok zM_E_about zp_E_about 11 (zz_eq0 11 0 20) := zo_if_ne (pc := 20) (t := 19) (tgt := 36) (off := 16) rfl rfl rfl (by decide +kernel) (by decide)
theorem zk_E_about_12 : zr_Ok zM_E_about zp_E_about 12 (zz_load zz_isA 0) := zo_aload_n (pc := 23) (i := 0) (f := 0) rfl rfl rfl (by decide +kernel)
theorem zk_E_about_13 : zr_Ok zM_E_about zp_E_about 13 (zz_get 5 0) := zo_getf (pc := 24) (idx := 11) (C := RX7) (T := TX7) (N := 4) rfl rfl (by decide +kernel) rfl zin_X7 (by decide) zw_26
theorem zk_E_about_14 : zr_Ok zM_E_about zp_E_about 14 (zz_load zz_isI 1) := zo_iload_n (pc := 27) (i := 1) (f := 1) rfl rfl rfl (by decide +kernel)
theorem zk_E_about_15 : zr_Ok zM_E_about zp_E_about 15 (zz_ald 15 3) := zo_aald (pc := 28) rfl rfl (by decide +kernel)
theorem zk_E_about_16 : zr_Ok zM_E_about zp_E_about 16 (zz_get 0 0) := zo_getf (pc := 29) (idx := 35) (C := RX0) (T := TX0) (N := 12) rfl rfl (by decide +kernel) rfl zin_X0 (by decide) zw_41
theorem zk_E_about_17 : zr_Ok zM_E_about zp_E_about 17 (zz_get 2 0) := zo_getf (pc := 32) (idx := 76) (C := RX2) (T := TX2) (N := 4) rfl rfl (by decide +kernel) rfl zin_X2 (by decide) zw_42
theorem zk_E_about_18 : zr_Ok zM_E_about zp_E_about 18 (zz_ret1 zz_isI) := zo_ireturn (pc := 35) rfl (by decide +kernel) rfl
theorem zk_E_about_19 : zr_Ok zM_E_about zp_E_about 19 (zz_load zz_isI 2) := zo_iload_n (pc := 36) (i := 2) (f := 2) rfl rfl rfl (by decide +kernel)
theorem zk_E_about_20 : zr_Ok zM_E_about zp_E_about 20 (zz_push (.inl 1)) := zo_iconst (pc := 37) (n := 1) (v := 1) rfl rfl (by decide +kernel) (by decide +kernel)
theorem zk_E_about_21 : zr_Ok zM_E_about zp_E_about 21 (zz_ieq 21 0 30) := zo_icmp_ne (pc := 38) (t := 29) (tgt := 54) (off := 16) rfl rfl rfl (by decide +kernel) (by decide)
theorem zk_E_about_22 : zr_Ok zM_E_about zp_E_about 22 (zz_load zz_isA 0) := zo_aload_n (pc := 41) (i := 0) (f := 0) rfl rfl rfl (by decide +kernel)
theorem zk_E_about_23 : zr_Ok zM_E_about zp_E_about 23 (zz_get 5 0) := zo_getf (pc := 42) (idx := 11) (C := RX7) (T := TX7) (N := 4) rfl rfl (by decide +kernel) rfl zin_X7 (by decide) zw_26
theorem zk_E_about_24 : zr_Ok zM_E_about zp_E_about 24 (zz_load zz_isI 1) := zo_iload_n (pc := 45) (i := 1) (f := 1) rfl rfl rfl (by decide +kernel)
theorem zk_E_about_25 : zr_Ok zM_E_about zp_E_about 25 (zz_ald 25 3) := zo_aald (pc := 46) rfl rfl (by decide +kernel)
theorem zk_E_about_26 : zr_Ok zM_E_about zp_E_about 26 (zz_get 0 0) := zo_getf (pc := 47) (idx := 35) (C := RX0) (T := TX0) (N := 12) rfl rfl (by decide +kernel) rfl zin_X0 (by decide) zw_41
theorem zk_E_about_27 : zr_Ok zM_E_about zp_E_about 27 (zz_get 2 1) := zo_getf (pc := 50) (idx := 80) (C := RX2) (T := TX2) (N := 4) rfl rfl (by decide +kernel) rfl zin_X2 (by decide) zw_43
theorem zk_E_about_28 : zr_Ok zM_E_about zp_E_about 28 (zz_ret1 zz_isI) := zo_ireturn (pc := 53) rfl (by decide +kernel) rfl
theorem zk_E_about_29 : zr_Ok zM_E_about zp_E_about 29 (zz_load zz_isA 0) := zo_aload_n (pc := 54) (i := 0) (f := 0) rfl rfl rfl (by decide +kernel)
theorem zk_E_about_30 : zr_Ok zM_E_about zp_E_about 30 (zz_load zz_isI 1) := zo_iload_n (pc := 55) (i := 1) (f := 1) rfl rfl rfl (by decide +kernel)
theorem zk_E_about_31 : zr_Ok zM_E_about zp_E_about 31 (zz_load zz_isI 3) := zo_iload_n (pc := 56) (i := 3) (f := 3) rfl rfl rfl (by decide +kernel)
theorem zk_E_about_32 : zr_Ok zM_E_about zp_E_about 32 (zz_call (zz_recv 5) 6 3) := zo_callV (C := RX7) (T := TX7) (N := 4) (idx := 45) (mi := 6) (n := 2) (pc := 57) zg_ok rfl rfl (by decide +kernel) rfl zw_44 (by decide) rfl zw_45 zw_46 zw_47 zw_38 (by decide +kernel)
theorem zk_E_about_33 : zr_Ok zM_E_about zp_E_about 33 (zz_eq0 33 37 0) := zo_if_eq (pc := 60) (t := 36) (tgt := 68) (off := 8) rfl rfl rfl (by decide +kernel) (by decide)
theorem zk_E_about_34 : zr_Ok zM_E_about zp_E_about 34 (zz_push (.inl 4294967294)) := zo_bipush (pc := 63) (n := -2) (v := 4294967294) rfl rfl (by decide +kernel) (by decide +kernel)
theorem zk_E_about_35 : zr_Ok zM_E_about zp_E_about 35 (zz_goto 43) := zo_goto (pc := 65) (t := 43) (tgt := 81) (off := 16) rfl rfl (by decide +kernel) (by decide)
theorem zk_E_about_36 : zr_Ok zM_E_about zp_E_about 36 (zz_load zz_isA 0) := zo_aload_n (pc := 68) (i := 0) (f := 0) rfl rfl rfl (by decide +kernel)
theorem zk_E_about_37 : zr_Ok zM_E_about zp_E_about 37 (zz_get 5 0) := zo_getf (pc := 69) (idx := 11) (C := RX7) (T := TX7) (N := 4) rfl rfl (by decide +kernel) rfl zin_X7 (by decide) zw_26
theorem zk_E_about_38 : zr_Ok zM_E_about zp_E_about 38 (zz_load zz_isI 1) := zo_iload_n (pc := 72) (i := 1) (f := 1) rfl rfl rfl (by decide +kernel)
theorem zk_E_about_39 : zr_Ok zM_E_about zp_E_about 39 (zz_ald 39 3) := zo_aald (pc := 73) rfl rfl (by decide +kernel)
theorem zk_E_about_40 : zr_Ok zM_E_about zp_E_about 40 (zz_get 0 0) := zo_getf (pc := 74) (idx := 35) (C := RX0) (T := TX0) (N := 12) rfl rfl (by decide +kernel) rfl zin_X0 (by decide) zw_41
theorem zk_E_about_41 : zr_Ok zM_E_about zp_E_about 41 (zz_load zz_isI 3) := zo_iload_n (pc := 77) (i := 3) (f := 3) rfl rfl rfl (by decide +kernel)
theorem zk_E_about_42 : zr_Ok zM_E_about zp_E_about 42 (zz_call (zz_recv 2) 7 2) := zo_callV (C := RX2) (T := TX2) (N := 4) (idx := 83) (mi := 7) (n := 1) (pc := 78) zg_ok rfl rfl (by decide +kernel) rfl zw_48 (by decide) rfl zw_49 zw_50 zw_51 zw_16 (by decide +kernel)
theorem zk_E_about_43 : zr_Ok zM_E_about zp_E_about 43 (zz_ret1 zz_isI) := zo_ireturn (pc := 81) rfl (by decide +kernel) rfl
theorem zk_E_about : zr_OkL zM_E_about zp_E_about 0 zc_E_about := ⟨zk_E_about_0, zk_E_about_1, zk_E_about_2, zk_E_about_3, zk_E_about_4, zk_E_about_5, zk_E_about_6, zk_E_about_7, zk_E_about_8, zk_E_about_9, zk_E_about_10, zk_E_about_11, zk_E_about_12, zk_E_about_13, zk_E_about_14, zk_E_about_15, zk_E_about_16, zk_E_about_17, zk_E_about_18, zk_E_about_19, zk_E_about_20, zk_E_about_21, zk_E_about_22, zk_E_about_23, zk_E_about_24, zk_E_about_25, zk_E_about_26, zk_E_about_27, zk_E_about_28, zk_E_about_29, zk_E_about_30, zk_E_about_31, zk_E_about_32, zk_E_about_33, zk_E_about_34, zk_E_about_35, zk_E_about_36, zk_E_about_37, zk_E_about_38, zk_E_about_39, zk_E_about_40, zk_E_about_41, zk_E_about_42, zk_E_about_43, trivial⟩
abbrev zM_G_init : zr_M := (RX3, cX3_init, 2, none, "<init>")
theorem zk_G_init_0 : zr_Ok zM_G_init zp_G_init 0 (zz_load zz_isA 0) := zo_aload_n (pc := 0) (i := 0) (f := 0) rfl rfl rfl (by decide +kernel)
theorem zk_G_init_1 : zr_Ok zM_G_init zp_G_init 1 (zz_obj) := zo_obj (pc := 1) (idx := 3) rfl rfl (by decide +kernel) zw_52 zw_9 zw_10
theorem zk_G_init_2 : zr_Ok zM_G_init zp_G_init 2 (zz_load zz_isA 0) := zo_aload_n (pc := 4) (i := 0) (f := 0) rfl rfl rfl (by decide +kernel)
theorem zk_G_init_3 : zr_Ok zM_G_init zp_G_init 3 (zz_push (.inl 500)) := zo_sipush (pc := 5) (n := 500) (v := 500) rfl rfl (by decide +kernel) (by decide +kernel)
theorem zk_G_init_4 : zr_Ok zM_G_init zp_G_init 4 (zz_newa 0) := zo_newi (pc := 8) rfl rfl (by decide +kernel) zw_11
theorem zk_G_init_5 : zr_Ok zM_G_init zp_G_init 5 (zz_putf 3 3 2) := zo_putF (pc := 10) (idx := 9) (C := RX3) (T := TX3) (N := 12) (ty0 := tyX3) rfl rfl (by decide +kernel) rfl zin_X3 tyX3_ok nmX3 (by decide) zw_53 rfl (Or.inr ⟨_, rfl⟩) rfl rfl
theorem zk_G_init_6 : zr_Ok zM_G_init zp_G_init 6 (zz_load zz_isA 0) := zo_aload_n (pc := 13) (i := 0) (f := 0) rfl rfl rfl (by decide +kernel)
theorem zk_G_init_7 : zr_Ok zM_G_init zp_G_init 7 (zz_push (.inl 500)) := zo_sipush (pc := 14) (n := 500) (v := 500) rfl rfl (by decide +kernel) (by decide +kernel)
theorem zk_G_init_8 : zr_Ok zM_G_init zp_G_init 8 (zz_newa 0) := zo_newi (pc := 17) rfl rfl (by decide +kernel) zw_11
theorem zk_G_init_9 : zr_Ok zM_G_init zp_G_init 9 (zz_putf 3 4 2) := zo_putF (pc := 19) (idx := 15) (C := RX3) (T := TX3) (N := 12) (ty0 := tyX3) rfl rfl (by decide +kernel) rfl zin_X3 tyX3_ok nmX3 (by decide) zw_54 rfl (Or.inr ⟨_, rfl⟩) rfl rfl
theorem zk_G_init_10 : zr_Ok zM_G_init zp_G_init 10 (zz_load zz_isA 0) := zo_aload_n (pc := 22) (i := 0) (f := 0) rfl rfl rfl (by decide +kernel)
theorem zk_G_init_11 : zr_Ok zM_G_init zp_G_init 11 (zz_push (.inl 500)) := zo_sipush (pc := 23) (n := 500) (v := 500) rfl rfl (by decide +kernel) (by decide +kernel)
theorem zk_G_init_12 : zr_Ok zM_G_init zp_G_init 12 (zz_newa 0) := zo_newi (pc := 26) rfl rfl (by decide +kernel) zw_11
theorem zk_G_init_13 : zr_Ok zM_G_init zp_G_init 13 (zz_putf 3 5 2) := zo_putF (pc := 28) (idx := 18) (C := RX3) (T := TX3) (N := 12) (ty0 := tyX3) rfl rfl (by decide +kernel) rfl zin_X3 tyX3_ok nmX3 (by decide) zw_55 rfl (Or.inr ⟨_, rfl⟩) rfl rfl
theorem zk_G_init_14 : zr_Ok zM_G_init zp_G_init 14 (zz_load zz_isA 0) := zo_aload_n (pc := 31) (i := 0) (f := 0) rfl rfl rfl (by decide +kernel)
theorem zk_G_init_15 : zr_Ok zM_G_init zp_G_init 15 (zz_push (.inl 500)) := zo_sipush (pc := 32) (n := 500) (v := 500) rfl rfl (by decide +kernel) (by decide +kernel)
theorem zk_G_init_16 : zr_Ok zM_G_init zp_G_init 16 (zz_newa 0) := zo_newi (pc := 35) rfl rfl (by decide +kernel) zw_11
theorem zk_G_init_17 : zr_Ok zM_G_init zp_G_init 17 (zz_putf 3 6 2) := zo_putF (pc := 37) (idx := 21) (C := RX3) (T := TX3) (N := 12) (ty0 := tyX3) rfl rfl (by decide +kernel) rfl zin_X3 tyX3_ok nmX3 (by decide) zw_56 rfl (Or.inr ⟨_, rfl⟩) rfl rfl
theorem zk_G_init_18 : zr_Ok zM_G_init zp_G_init 18 (zz_load zz_isA 0) := zo_aload_n (pc := 40) (i := 0) (f := 0) rfl rfl rfl (by decide +kernel)
theorem zk_G_init_19 : zr_Ok zM_G_init zp_G_init 19 (zz_push (.inl 500)) := zo_sipush (pc := 41) (n := 500) (v := 500) rfl rfl (by decide +kernel) (by decide +kernel)
theorem zk_G_init_20 : zr_Ok zM_G_init zp_G_init 20 (zz_newa 0) := zo_newi (pc := 44) rfl rfl (by decide +kernel) zw_11
theorem zk_G_init_21 : zr_Ok zM_G_init zp_G_init 21 (zz_putf 3 7 2) := zo_putF (pc := 46) (idx := 24) (C := RX3) (T := TX3) (N := 12) (ty0 := tyX3) rfl rfl (by decide +kernel) rfl zin_X3 tyX3_ok nmX3 (by decide) zw_57 rfl (Or.inr ⟨_, rfl⟩) rfl rfl
theorem zk_G_init_22 : zr_Ok zM_G_init zp_G_init 22 (zz_load zz_isA 0) := zo_aload_n (pc := 49) (i := 0) (f := 0) rfl rfl rfl (by decide +kernel)
theorem zk_G_init_23 : zr_Ok zM_G_init zp_G_init 23 (zz_push (.inl 2000)) := zo_sipush (pc := 50) (n := 2000) (v := 2000) rfl rfl (by decide +kernel) (by decide +kernel)
theorem zk_G_init_24 : zr_Ok zM_G_init zp_G_init 24 (zz_newa 0) := zo_newi (pc := 53) rfl rfl (by decide +kernel) zw_11
theorem zk_G_init_25 : zr_Ok zM_G_init zp_G_init 25 (zz_putf 3 8 2) := zo_putF (pc := 55) (idx := 27) (C := RX3) (T := TX3) (N := 12) (ty0 := tyX3) rfl rfl (by decide +kernel) rfl zin_X3 tyX3_ok nmX3 (by decide) zw_58 rfl (Or.inr ⟨_, rfl⟩) rfl rfl
theorem zk_G_init_26 : zr_Ok zM_G_init zp_G_init 26 (zz_load zz_isA 0) := zo_aload_n (pc := 58) (i := 0) (f := 0) rfl rfl rfl (by decide +kernel)
theorem zk_G_init_27 : zr_Ok zM_G_init zp_G_init 27 (zz_push (.inl 2000)) := zo_sipush (pc := 59) (n := 2000) (v := 2000) rfl rfl (by decide +kernel) (by decide +kernel)
theorem zk_G_init_28 : zr_Ok zM_G_init zp_G_init 28 (zz_newa 0) := zo_newi (pc := 62) rfl rfl (by decide +kernel) zw_11
theorem zk_G_init_29 : zr_Ok zM_G_init zp_G_init 29 (zz_putf 3 9 2) := zo_putF (pc := 64) (idx := 30) (C := RX3) (T := TX3) (N := 12) (ty0 := tyX3) rfl rfl (by decide +kernel) rfl zin_X3 tyX3_ok nmX3 (by decide) zw_59 rfl (Or.inr ⟨_, rfl⟩) rfl rfl
theorem zk_G_init_30 : zr_Ok zM_G_init zp_G_init 30 (zz_load zz_isA 0) := zo_aload_n (pc := 67) (i := 0) (f := 0) rfl rfl rfl (by decide +kernel)
theorem zk_G_init_31 : zr_Ok zM_G_init zp_G_init 31 (zz_push (.inl 500)) := zo_sipush (pc := 68) (n := 500) (v := 500) rfl rfl (by decide +kernel) (by decide +kernel)
theorem zk_G_init_32 : zr_Ok zM_G_init zp_G_init 32 (zz_newa 0) := zo_newi (pc := 71) rfl rfl (by decide +kernel) zw_11
theorem zk_G_init_33 : zr_Ok zM_G_init zp_G_init 33 (zz_putf 3 10 2) := zo_putF (pc := 73) (idx := 33) (C := RX3) (T := TX3) (N := 12) (ty0 := tyX3) rfl rfl (by decide +kernel) rfl zin_X3 tyX3_ok nmX3 (by decide) zw_60 rfl (Or.inr ⟨_, rfl⟩) rfl rfl
theorem zk_G_init_34 : zr_Ok zM_G_init zp_G_init 34 (zz_load zz_isA 0) := zo_aload_n (pc := 76) (i := 0) (f := 0) rfl rfl rfl (by decide +kernel)
theorem zk_G_init_35 : zr_Ok zM_G_init zp_G_init 35 (zz_push (.inl 500)) := zo_sipush (pc := 77) (n := 500) (v := 500) rfl rfl (by decide +kernel) (by decide +kernel)
theorem zk_G_init_36 : zr_Ok zM_G_init zp_G_init 36 (zz_newa 0) := zo_newi (pc := 80) rfl rfl (by decide +kernel) zw_11
theorem zk_G_init_37 : zr_Ok zM_G_init zp_G_init 37 (zz_putf 3 11 2) := zo_putF (pc := 82) (idx := 36) (C := RX3) (T := TX3) (N := 12) (ty0 := tyX3) rfl rfl (by decide +kernel) rfl zin_X3 tyX3_ok nmX3 (by decide) zw_61 rfl (Or.inr ⟨_, rfl⟩) rfl rfl
theorem zk_G_init_38 : zr_Ok zM_G_init zp_G_init 38 (zz_load zz_isA 0) := zo_aload_n (pc := 85) (i := 0) (f := 0) rfl rfl rfl (by decide +kernel)
theorem zk_G_init_39 : zr_Ok zM_G_init zp_G_init 39 (zz_load zz_isA 1) := zo_aload_n (pc := 86) (i := 1) (f := 1) rfl rfl rfl (by decide +kernel)
theorem zk_G_init_40 : zr_Ok zM_G_init zp_G_init 40 (zz_putf 3 2 2) := zo_putF (pc := 87) (idx := 39) (C := RX3) (T := TX3) (N := 12) (ty0 := tyX3) rfl rfl (by decide +kernel) rfl zin_X3 tyX3_ok nmX3 (by decide) zw_62 rfl (Or.inl ⟨_, rfl⟩) rfl rfl
theorem zk_G_init_41 : zr_Ok zM_G_init zp_G_init 41 (zz_ret0) := zo_return (pc := 90) rfl (by decide +kernel) rfl
theorem zk_G_init : zr_OkL zM_G_init zp_G_init 0 zc_G_init := ⟨zk_G_init_0, zk_G_init_1, zk_G_init_2, zk_G_init_3, zk_G_init_4, zk_G_init_5, zk_G_init_6, zk_G_init_7, zk_G_init_8, zk_G_init_9, zk_G_init_10, zk_G_init_11, zk_G_init_12, zk_G_init_13, zk_G_init_14, zk_G_init_15, zk_G_init_16, zk_G_init_17, zk_G_init_18, zk_G_init_19, zk_G_init_20, zk_G_init_21, zk_G_init_22, zk_G_init_23, zk_G_init_24, zk_G_init_25, zk_G_init_26, zk_G_init_27, zk_G_init_28, zk_G_init_29, zk_G_init_30, zk_G_init_31, zk_G_init_32, zk_G_init_33, zk_G_init_34, zk_G_init_35, zk_G_init_36, zk_G_init_37, zk_G_init_38, zk_G_init_39, zk_G_init_40, zk_G_init_41, trivial⟩
abbrev zM_G_link : zr_M := (RX3, cX3_link, 4, none, "link")
theorem zk_G_link_0 : zr_Ok zM_G_link zp_G_link 0 (zz_load zz_isA 0) := zo_aload_n (pc := 0) (i := 0) (f := 0) rfl rfl rfl (by decide +kernel)
theorem zk_G_link_1 : zr_Ok zM_G_link zp_G_link 1 (zz_get 3 8) := zo_getf (pc := 1) (idx := 27) (C := RX3) (T := TX3) (N := 12) rfl rfl (by decide +kernel) rfl zin_X3 (by decide) zw_58
theorem zk_G_link_2 : zr_Ok zM_G_link zp_G_link 2 (zz_load zz_isI 1) := zo_iload_n (pc := 4) (i := 1) (f := 1) rfl rfl rfl (by decide +kernel)
theorem zk_G_link_3 : zr_Ok zM_G_link zp_G_link 3 (zz_push (.inl 4)) := zo_iconst (pc := 5) (n := 4) (v := 4) rfl rfl (by decide +kernel) (by decide +kernel)
theorem zk_G_link_4 : zr_Ok zM_G_link zp_G_link 4 (zz_bin 4 zz_mul) := zo_imul (pc := 6) rfl rfl (by decide +kernel)
theorem zk_G_link_5 : zr_Ok zM_G_link zp_G_link 5 (zz_load zz_isI 2) := zo_iload_n (pc := 7) (i := 2) (f := 2) rfl rfl rfl (by decide +kernel)
theorem zk_G_link_6 : zr_Ok zM_G_link zp_G_link 6 (zz_bin 6 zz_add) := zo_iadd (pc := 8) rfl rfl (by decide +kernel)
theorem zk_G_link_7 : zr_Ok zM_G_link zp_G_link 7 (zz_load zz_isI 3) := zo_iload_n (pc := 9) (i := 3) (f := 3) rfl rfl rfl (by decide +kernel)
theorem zk_G_link_8 : zr_Ok zM_G_link zp_G_link 8 (zz_ast 8 0) := zo_iast (pc := 10) rfl rfl (by decide +kernel)
theorem zk_G_link_9 : zr_Ok zM_G_link zp_G_link 9 (zz_load zz_isA 0) := zo_aload_n (pc := 11) (i := 0) (f := 0) rfl rfl rfl (by decide +kernel)
theorem zk_G_link_10 : zr_Ok zM_G_link zp_G_link 10 (zz_get 3 8) := zo_getf (pc := 12) (idx := 27) (C := RX3) (T := TX3) (N := 12) rfl rfl (by decide +kernel) rfl zin_X3 (by decide) zw_58
theorem zk_G_link_11 : zr_Ok zM_G_link zp_G_link 11 (zz_load zz_isI 3) := zo_iload_n (pc := 15) (i := 3) (f := 3) rfl rfl rfl (by decide +kernel)
theorem zk_G_link_12 : zr_Ok zM_G_link zp_G_link 12 (zz_push (.inl 4)) := zo_iconst (pc := 16) (n := 4) (v := 4) rfl rfl (by decide +kernel) (by decide +kernel)
theorem zk_G_link_13 : zr_Ok zM_G_link zp_G_link 13 (zz_bin 13 zz_mul) := zo_imul (pc := 17) rfl rfl (by decide +kernel)
theorem zk_G_link_14 : zr_Ok zM_G_link zp_G_link 14 (zz_load zz_isI 2) := zo_iload_n (pc := 18) (i := 2) (f := 2) rfl rfl rfl (by decide +kernel)
theorem zk_G_link_15 : zr_Ok zM_G_link zp_G_link 15 (zz_bin 15 zz_add) := zo_iadd (pc := 19) rfl rfl (by decide +kernel)
theorem zk_G_link_16 : zr_Ok zM_G_link zp_G_link 16 (zz_load zz_isI 1) := zo_iload_n (pc := 20) (i := 1) (f := 1) rfl rfl rfl (by decide +kernel)
theorem zk_G_link_17 : zr_Ok zM_G_link zp_G_link 17 (zz_ast 17 0) := zo_iast (pc := 21) rfl rfl (by decide +kernel)
theorem zk_G_link_18 : zr_Ok zM_G_link zp_G_link 18 (zz_load zz_isA 0) := zo_aload_n (pc := 22) (i := 0) (f := 0) rfl rfl rfl (by decide +kernel)
theorem zk_G_link_19 : zr_Ok zM_G_link zp_G_link 19 (zz_get 3 6) := zo_getf (pc := 23) (idx := 21) (C := RX3) (T := TX3) (N := 12) rfl rfl (by decide +kernel) rfl zin_X3 (by decide) zw_56
theorem zk_G_link_20 : zr_Ok zM_G_link zp_G_link 20 (zz_load zz_isI 3) := zo_iload_n (pc := 26) (i := 3) (f := 3) rfl rfl rfl (by decide +kernel)
theorem zk_G_link_21 : zr_Ok zM_G_link zp_G_link 21 (zz_dup2) := zo_dup2 (pc := 27) rfl rfl (by decide +kernel)
theorem zk_G_link_22 : zr_Ok zM_G_link zp_G_link 22 (zz_ald 22 0) := zo_iald (pc := 28) rfl rfl (by decide +kernel)
theorem zk_G_link_23 : zr_Ok zM_G_link zp_G_link 23 (zz_push (.inl 1)) := zo_iconst (pc := 29) (n := 1) (v := 1) rfl rfl (by decide +kernel) (by decide +kernel)
theorem zk_G_link_24 : zr_Ok zM_G_link zp_G_link 24 (zz_load zz_isI 2) := zo_iload_n (pc := 30) (i := 2) (f := 2) rfl rfl rfl (by decide +kernel)
theorem zk_G_link_25 : zr_Ok zM_G_link zp_G_link 25 (zz_bin 25 zz_shl) := zo_ishl (pc := 31) rfl rfl (by decide +kernel)
theorem zk_G_link_26 : zr_Ok zM_G_link zp_G_link 26 (zz_bin 26 zz_or) := zo_ior (pc := 32) rfl rfl (by decide +kernel)
theorem zk_G_link_27 : zr_Ok zM_G_link zp_G_link 27 (zz_ast 27 0) := zo_iast (pc := 33) rfl rfl (by decide +kernel)
theorem zk_G_link_28 : zr_Ok zM_G_link zp_G_link 28 (zz_ret0) := zo_return (pc := 34) rfl (by decide +kernel) rfl
theorem zk_G_link : zr_OkL zM_G_link zp_G_link 0 zc_G_link := ⟨zk_G_link_0, zk_G_link_1, zk_G_link_2, zk_G_link_3, zk_G_link_4, zk_G_link_5, zk_G_link_6, zk_G_link_7, zk_G_link_8, zk_G_link_9, zk_G_link_10, zk_G_link_11, zk_G_link_12, zk_G_link_13, zk_G_link_14, zk_G_link_15, zk_G_link_16, zk_G_link_17, zk_G_link_18, zk_G_link_19, zk_G_link_20, zk_G_link_21, zk_G_link_22, zk_G_link_23, zk_G_link_24, zk_G_link_25, zk_G_link_26, zk_G_link_27, zk_G_link_28, trivial⟩
abbrev zM_G_addBehind : zr_M := (RX3, cX3_addBehind, 6, none, "addBehind")
theorem zk_G_addBehind_0 : zr_Ok zM_G_addBehind zp_G_addBehind 0 (zz_load zz_isA 0) := zo_aload_n (pc := 0) (i := 0) (f := 0) rfl rfl rfl (by decide +kernel)
theorem zk_G_addBehind_1 : zr_Ok zM_G_addBehind zp_G_addBehind 1 (zz_get 3 0) := zo_getf (pc := 1) (idx := 49) (C := RX3) (T := TX3) (N := 12) rfl rfl (by decide +kernel) rfl zin_X3 (by decide) zw_63
theorem zk_G_addBehind_2 : zr_Ok zM_G_addBehind zp_G_addBehind 2 (zz_push (.inl 500)) := zo_sipush (pc := 4) (n := 500) (v := 500) rfl rfl (by decide +kernel) (by decide +kernel)
theorem zk_G_addBehind_3 : zr_Ok zM_G_addBehind zp_G_addBehind 3 (zz_ilt 3 9 0) := zo_icmp_lt (pc := 7) (t := 8) (tgt := 16) (off := 9) rfl rfl rfl (by decide +kernel) (by decide)
theorem zk_G_addBehind_8 : zr_Ok zM_G_addBehind zp_G_addBehind 8 (zz_load zz_isA 0) := zo_aload_n (pc := 16) (i := 0) (f := 0) rfl rfl rfl (by decide +kernel)
theorem zk_G_addBehind_9 : zr_Ok zM_G_addBehind zp_G_addBehind 9 (zz_get 3 0) := zo_getf (pc := 17) (idx := 49) (C := RX3) (T := TX3) (N := 12) rfl rfl (by decide +kernel) rfl zin_X3 (by decide) zw_63
theorem zk_G_addBehind_10 : zr_Ok zM_G_addBehind zp_G_addBehind 10 (zz_store zz_isI 3) := zo_istore_n (pc := 20) (i := 3) (f := 3) rfl rfl rfl (by decide +kernel) (by decide)
theorem zk_G_addBehind_11 : zr_Ok zM_G_addBehind zp_G_addBehind 11 (zz_load zz_isA 0) := zo_aload_n (pc := 21) (i := 0) (f := 0) rfl rfl rfl (by decide +kernel)
theorem zk_G_addBehind_12 : zr_Ok zM_G_addBehind zp_G_addBehind 12 (zz_dup) := zo_dup (pc := 22) rfl rfl (by decide +kernel)
theorem zk_G_addBehind_13 : zr_Ok zM_G_addBehind zp_G_addBehind 13 (zz_get 3 0) := zo_getf (pc := 23) (idx := 49) (C := RX3) (T := TX3) (N := 12) rfl rfl (by decide +kernel) rfl zin_X3 (by decide) zw_63
theorem zk_G_addBehind_14 : zr_Ok zM_G_addBehind zp_G_addBehind 14 (zz_push (.inl 1)) := zo_iconst (pc := 26) (n := 1) (v := 1) rfl rfl (by decide +kernel) (by decide +kernel)
theorem zk_G_addBehind_15 : zr_Ok zM_G_addBehind zp_G_addBehind 15 (zz_bin 15 zz_add) := zo_iadd (pc := 27) rfl rfl (by decide +kernel)
theorem zk_G_addBehind_16 : zr_Ok zM_G_addBehind zp_G_addBehind 16 (zz_putf 3 0 0) := zo_putf (pc := 28) (idx := 49) (C := RX3) (T := TX3) (N := 12) (ty0 := tyX3) rfl rfl (by decide +kernel) rfl zin_X3 tyX3_ok nmX3 (by decide) zw_63 rfl rfl
theorem zk_G_addBehind_17 : zr_Ok zM_G_addBehind zp_G_addBehind 17 (zz_load zz_isA 0) := zo_aload_n (pc := 31) (i := 0) (f := 0) rfl rfl rfl (by decide +kernel)
theorem zk_G_addBehind_18 : zr_Ok zM_G_addBehind zp_G_addBehind 18 (zz_get 3 3) := zo_getf (pc := 32) (idx := 9) (C := RX3) (T := TX3) (N := 12) rfl rfl (by decide +kernel) rfl zin_X3 (by decide) zw_53
theorem zk_G_addBehind_19 : zr_Ok zM_G_addBehind zp_G_addBehind 19 (zz_load zz_isI 3) := zo_iload_n (pc := 35) (i := 3) (f := 3) rfl rfl rfl (by decide +kernel)
theorem zk_G_addBehind_20 : zr_Ok zM_G_addBehind zp_G_addBehind 20 (zz_load zz_isA 0) := zo_aload_n (pc := 36) (i := 0) (f := 0) rfl rfl rfl (by decide +kernel)
theorem zk_G_addBehind_21 : zr_Ok zM_G_addBehind zp_G_addBehind 21 (zz_get 3 3) := zo_getf (pc := 37) (idx := 9) (C := RX3) (T := TX3) (N := 12) rfl rfl (by decide +kernel) rfl zin_X3 (by decide) zw_53
theorem zk_G_addBehind_22 : zr_Ok zM_G_addBehind zp_G_addBehind 22 (zz_load zz_isI 1) := zo_iload_n (pc := 40) (i := 1) (f := 1) rfl rfl rfl (by decide +kernel)
theorem zk_G_addBehind_23 : zr_Ok zM_G_addBehind zp_G_addBehind 23 (zz_ald 23 0) := zo_iald (pc := 41) rfl rfl (by decide +kernel)
theorem zk_G_addBehind_24 : zr_Ok zM_G_addBehind zp_G_addBehind 24 (zz_push (.inl 1)) := zo_iconst (pc := 42) (n := 1) (v := 1) rfl rfl (by decide +kernel) (by decide +kernel)
theorem zk_G_addBehind_25 : zr_Ok zM_G_addBehind zp_G_addBehind 25 (zz_bin 25 zz_add) := zo_iadd (pc := 43) rfl rfl (by decide +kernel)
theorem zk_G_addBehind_26 : zr_Ok zM_G_addBehind zp_G_addBehind 26 (zz_ast 26 0) := zo_iast (pc := 44) rfl rfl (by decide +kernel)
theorem zk_G_addBehind_27 : zr_Ok zM_G_addBehind zp_G_addBehind 27 (zz_load zz_isA 0) := zo_aload_n (pc := 45) (i := 0) (f := 0) rfl rfl rfl (by decide +kernel)
theorem zk_G_addBehind_28 : zr_Ok zM_G_addBehind zp_G_addBehind 28 (zz_get 3 4) := zo_getf (pc := 46) (idx := 15) (C := RX3) (T := TX3) (N := 12) rfl rfl (by decide +kernel) rfl zin_X3 (by decide) zw_54
theorem zk_G_addBehind_29 : zr_Ok zM_G_addBehind zp_G_addBehind 29 (zz_load zz_isI 3) := zo_iload_n (pc := 49) (i := 3) (f := 3) rfl rfl rfl (by decide +kernel)
theorem zk_G_addBehind_30 : zr_Ok zM_G_addBehind zp_G_addBehind 30 (zz_load zz_isI 1) := zo_iload_n (pc := 50) (i := 1) (f := 1) rfl rfl rfl (by decide +kernel)
theorem zk_G_addBehind_31 : zr_Ok zM_G_addBehind zp_G_addBehind 31 (zz_ast 31 0) := zo_iast (pc := 51) rfl rfl (by decide +kernel)
theorem zk_G_addBehind_32 : zr_Ok zM_G_addBehind zp_G_addBehind 32 (zz_load zz_isA 0) := zo_aload_n (pc := 52) (i := 0) (f := 0) rfl rfl rfl (by decide +kernel)
theorem zk_G_addBehind_33 : zr_Ok zM_G_addBehind zp_G_addBehind 33 (zz_get 3 5) := zo_getf (pc := 53) (idx := 18) (C := RX3) (T := TX3) (N := 12) rfl rfl (by decide +kernel) rfl zin_X3 (by decide) zw_55
theorem zk_G_addBehind_34 : zr_Ok zM_G_addBehind zp_G_addBehind 34 (zz_load zz_isI 3) := zo_iload_n (pc := 56) (i := 3) (f := 3) rfl rfl rfl (by decide +kernel)
theorem zk_G_addBehind_35 : zr_Ok zM_G_addBehind zp_G_addBehind 35 (zz_load zz_isI 2) := zo_iload_n (pc := 57) (i := 2) (f := 2) rfl rfl rfl (by decide +kernel)
theorem zk_G_addBehind_36 : zr_Ok zM_G_addBehind zp_G_addBehind 36 (zz_ast 36 0) := zo_iast (pc := 58) rfl rfl (by decide +kernel)
theorem zk_G_addBehind_37 : zr_Ok zM_G_addBehind zp_G_addBehind 37 (zz_load zz_isA 0) := zo_aload_n (pc := 59) (i := 0) (f := 0) rfl rfl rfl (by decide +kernel)
theorem zk_G_addBehind_38 : zr_Ok zM_G_addBehind zp_G_addBehind 38 (zz_get 3 6) := zo_getf (pc := 60) (idx := 21) (C := RX3) (T := TX3) (N := 12) rfl rfl (by decide +kernel) rfl zin_X3 (by decide) zw_56
theorem zk_G_addBehind_39 : zr_Ok zM_G_addBehind zp_G_addBehind 39 (zz_load zz_isI 3) := zo_iload_n (pc := 63) (i := 3) (f := 3) rfl rfl rfl (by decide +kernel)
theorem zk_G_addBehind_40 : zr_Ok zM_G_addBehind zp_G_addBehind 40 (zz_push (.inl 0)) := zo_iconst (pc := 64) (n := 0) (v := 0) rfl rfl (by decide +kernel) (by decide +kernel)
theorem zk_G_addBehind_41 : zr_Ok zM_G_addBehind zp_G_addBehind 41 (zz_ast 41 0) := zo_iast (pc := 65) rfl rfl (by decide +kernel)
theorem zk_G_addBehind_42 : zr_Ok zM_G_addBehind zp_G_addBehind 42 (zz_load zz_isA 0) := zo_aload_n (pc := 66) (i := 0) (f := 0) rfl rfl rfl (by decide +kernel)
theorem zk_G_addBehind_43 : zr_Ok zM_G_addBehind zp_G_addBehind 43 (zz_load zz_isI 1) := zo_iload_n (pc := 67) (i := 1) (f := 1) rfl rfl rfl (by decide +kernel)
theorem zk_G_addBehind_44 : zr_Ok zM_G_addBehind zp_G_addBehind 44 (zz_load zz_isI 2) := zo_iload_n (pc := 68) (i := 2) (f := 2) rfl rfl rfl (by decide +kernel)
theorem zk_G_addBehind_45 : zr_Ok zM_G_addBehind zp_G_addBehind 45 (zz_load zz_isI 3) := zo_iload_n (pc := 69) (i := 3) (f := 3) rfl rfl rfl (by decide +kernel)
theorem zk_G_addBehind_46 : zr_Ok zM_G_addBehind zp_G_addBehind 46 (zz_call (zz_recv 3) 10 4) := zo_callV (C := RX3) (T := TX3) (N := 12) (idx := 69) (mi := 10) (n := 3) (pc := 70) zg_ok rfl rfl (by decide +kernel) rfl zw_64 (by decide) rfl zw_65 zw_66 zw_67 zw_68 (by decide +kernel)
theorem zk_G_addBehind_47 : zr_Ok zM_G_addBehind zp_G_addBehind 47 (zz_push (.inl 0)) := zo_iconst (pc := 73) (n := 0) (v := 0) rfl rfl (by decide +kernel) (by decide +kernel)
theorem zk_G_addBehind_48 : zr_Ok zM_G_addBehind zp_G_addBehind 48 (zz_store zz_isI 4) := zo_istore (pc := 74) (i := 4) rfl rfl (by decide +kernel) (by decide)
theorem zk_G_addBehind_49 : zr_Ok zM_G_addBehind zp_G_addBehind 49 (zz_load zz_isI 4) := zo_iload (pc := 76) (i := 4) rfl rfl (by decide +kernel)
theorem zk_G_addBehind_50 : zr_Ok zM_G_addBehind zp_G_addBehind 50 (zz_load zz_isA 0) := zo_aload_n (pc := 78) (i := 0) (f := 0) rfl rfl rfl (by decide +kernel)
theorem zk_G_addBehind_51 : zr_Ok zM_G_addBehind zp_G_addBehind 51 (zz_get 3 2) := zo_getf (pc := 79) (idx := 39) (C := RX3) (T := TX3) (N := 12) rfl rfl (by decide +kernel) rfl zin_X3 (by decide) zw_62
theorem zk_G_addBehind_52 : zr_Ok zM_G_addBehind zp_G_addBehind 52 (zz_get 2 0) := zo_getf (pc := 82) (idx := 57) (C := RX2) (T := TX2) (N := 4) rfl rfl (by decide +kernel) rfl zin_X2 (by decide) zw_69
theorem zk_G_addBehind_53 : zr_Ok zM_G_addBehind zp_G_addBehind 53 (zz_ilt 53 0 81) := zo_icmp_ge (pc := 85) (t := 80) (tgt := 139) (off := 54) rfl rfl rfl (by decide +kernel) (by decide)
theorem zk_G_addBehind_54 : zr_Ok zM_G_addBehind zp_G_addBehind 54 (zz_load zz_isI 4) := zo_iload (pc := 88) (i := 4) rfl rfl (by decide +kernel)
theorem zk_G_addBehind_55 : zr_Ok zM_G_addBehind zp_G_addBehind 55 (zz_load zz_isI 2) := zo_iload_n (pc := 90) (i := 2) (f := 2) rfl rfl rfl (by decide +kernel)
theorem zk_G_addBehind_56 : zr_Ok zM_G_addBehind zp_G_addBehind 56 (zz_ieq 56 0 60) := zo_icmp_ne (pc := 91) (t := 59) (tgt := 98) (off := 7) rfl rfl rfl (by decide +kernel) (by decide)
theorem zk_G_addBehind_57 : zr_Ok zM_G_addBehind zp_G_addBehind 57 (zz_push (.inl 4294967295)) := zo_iconst (pc := 94) (n := -1) (v := 4294967295) rfl rfl (by decide +kernel) (by decide +kernel)
theorem zk_G_addBehind_58 : zr_Ok zM_G_addBehind zp_G_addBehind 58 (zz_goto 69) := zo_goto (pc := 95) (t := 69) (tgt := 116) (off := 21) rfl rfl (by decide +kernel) (by decide)
theorem zk_G_addBehind_69 : zr_Ok zM_G_addBehind zp_G_addBehind 69 (zz_store zz_isI 5) := zo_istore (pc := 116) (i := 5) rfl rfl (by decide +kernel) (by decide)
theorem zk_G_addBehind_70 : zr_Ok zM_G_addBehind zp_G_addBehind 70 (zz_load zz_isI 5) := zo_iload (pc := 118) (i := 5) rfl rfl (by decide +kernel)
theorem zk_G_addBehind_71 : zr_Ok zM_G_addBehind zp_G_addBehind 71 (zz_push (.inl 4294967295)) := zo_iconst (pc := 120) (n := -1) (v := 4294967295) rfl rfl (by decide +kernel) (by decide +kernel)
theorem zk_G_addBehind_72 : zr_Ok zM_G_addBehind zp_G_addBehind 72 (zz_ieq 72 79 0) := zo_icmp_eq (pc := 121) (t := 78) (tgt := 133) (off := 12) rfl rfl rfl (by decide +kernel) (by decide)
theorem zk_G_addBehind_78 : zr_Ok zM_G_addBehind zp_G_addBehind 78 (zz_inc 78 4 1) := zo_iinc (pc := 133) (i := 4) (n2 := 1) (n := 1) rfl rfl (by decide +kernel) (by decide +kernel) (by decide)
theorem zk_G_addBehind_79 : zr_Ok zM_G_addBehind zp_G_addBehind 79 (zz_goto 49) := zo_goto (pc := 136) (t := 49) (tgt := 76) (off := -60) rfl rfl (by decide +kernel) (by decide)
theorem zk_G_addBehind_80 : zr_Ok zM_G_addBehind zp_G_addBehind 80 (zz_ret0) := zo_return (pc := 139) rfl (by decide +kernel) rfl
theorem zk_G_addBehind : zr_OkL zM_G_addBehind zp_G_addBehind 0 zc_G_addBehind := ⟨zk_G_addBehind_0, zk_G_addBehind_1, zk_G_addBehind_2, zk_G_addBehind_3, zo_no, zo_no, zo_no, zo_no, zk_G_addBehind_8, zk_G_addBehind_9, zk_G_addBehind_10, zk_G_addBehind_11, zk_G_addBehind_12, zk_G_addBehind_13, zk_G_addBehind_14, zk_G_addBehind_15, zk_G_addBehind_16, zk_G_addBehind_17, zk_G_addBehind_18, zk_G_addBehind_19, zk_G_addBehind_20, zk_G_addBehind_21, zk_G_addBehind_22, zk_G_addBehind_23, zk_G_addBehind_24, zk_G_addBehind_25, zk_G_addBehind_26, zk_G_addBehind_27, zk_G_addBehind_28, zk_G_addBehind_29, zk_G_addBehind_30, zk_G_addBehind_31, zk_G_addBehind_32, zk_G_addBehind_33, zk_G_addBehind_34, zk_G_addBehind_35, zk_G_addBehind_36, zk_G_addBehind_37, zk_G_addBehind_38, zk_G_addBehind_39, zk_G_addBehind_40, zk_G_addBehind_41, zk_G_addBehind_42, zk_G_addBehind_43, zk_G_addBehind_44, zk_G_addBehind_45, zk_G_addBehind_46, zk_G_addBehind_47, zk_G_addBehind_48, zk_G_addBehind_49, zk_G_addBehind_50, zk_G_addBehind_51, zk_G_addBehind_52, zk_G_addBehind_53, zk_G_addBehind_54, zk_G_addBehind_55, zk_G_addBehind_56, zk_G_addBehind_57, zk_G_addBehind_58, zo_no, zo_no, zo_no, zo_no, zo_no, zo_no, zo_no, zo_no, zo_no, zo_no, zk_G_addBehind_69, zk_G_addBehind_70, zk_G_addBehind_71, zk_G_addBehind_72, zo_no, zo_no, zo_no, zo_no, zo_no, zk_G_addBehind_78, zk_G_addBehind_79, zk_G_addBehind_80, trivial⟩
abbrev zM_G_turnRound : zr_M := (RX3, cX3_turnRound, 4, none, "turnRound")
theorem zk_G_turnRound_0 : zr_Ok zM_G_turnRound zp_G_turnRound 0 (zz_load zz_isA 0) := zo_aload_n (pc := 0) (i := 0) (f := 0) rfl rfl rfl (by decide +kernel)
theorem zk_G_turnRound_1 : zr_Ok zM_G_turnRound zp_G_turnRound 1 (zz_get 3 7) := zo_getf (pc := 1) (idx := 24) (C := RX3) (T := TX3) (N := 12) rfl rfl (by decide +kernel) rfl zin_X3 (by decide) zw_57
theorem zk_G_turnRound_2 : zr_Ok zM_G_turnRound zp_G_turnRound 2 (zz_push (.inl 0)) := zo_iconst (pc := 4) (n := 0) (v := 0) rfl rfl (by decide +kernel) (by decide +kernel)
theorem zk_G_turnRound_3 : zr_Ok zM_G_turnRound zp_G_turnRound 3 (zz_push (.inl 0)) := zo_iconst (pc := 5) (n := 0) (v := 0) rfl rfl (by decide +kernel) (by decide +kernel)
theorem zk_G_turnRound_4 : zr_Ok zM_G_turnRound zp_G_turnRound 4 (zz_ast 4 0) := zo_iast (pc := 6) rfl rfl (by decide +kernel)
theorem zk_G_turnRound_5 : zr_Ok zM_G_turnRound zp_G_turnRound 5 (zz_push (.inl 0)) := zo_iconst (pc := 7) (n := 0) (v := 0) rfl rfl (by decide +kernel) (by decide +kernel)
theorem zk_G_turnRound_6 : zr_Ok zM_G_turnRound zp_G_turnRound 6 (zz_store zz_isI 1) := zo_istore_n (pc := 8) (i := 1) (f := 1) rfl rfl rfl (by decide +kernel) (by decide)
theorem zk_G_turnRound_7 : zr_Ok zM_G_turnRound zp_G_turnRound 7 (zz_load zz_isI 1) := zo_iload_n (pc := 9) (i := 1) (f := 1) rfl rfl rfl (by decide +kernel)
theorem zk_G_turnRound_8 : zr_Ok zM_G_turnRound zp_G_turnRound 8 (zz_load zz_isA 0) := zo_aload_n (pc := 10) (i := 0) (f := 0) rfl rfl rfl (by decide +kernel)
theorem zk_G_turnRound_9 : zr_Ok zM_G_turnRound zp_G_turnRound 9 (zz_get 3 2) := zo_getf (pc := 11) (idx := 39) (C := RX3) (T := TX3) (N := 12) rfl rfl (by decide +kernel) rfl zin_X3 (by decide) zw_62
theorem zk_G_turnRound_10 : zr_Ok zM_G_turnRound zp_G_turnRound 10 (zz_get 2 0) := zo_getf (pc := 14) (idx := 57) (C := RX2) (T := TX2) (N := 4) rfl rfl (by decide +kernel) rfl zin_X2 (by decide) zw_69
theorem zk_G_turnRound_11 : zr_Ok zM_G_turnRound zp_G_turnRound 11 (zz_ilt 11 0 23) := zo_icmp_ge (pc := 17) (t := 22) (tgt := 38) (off := 21) rfl rfl rfl (by decide +kernel) (by decide)
theorem zk_G_turnRound_12 : zr_Ok zM_G_turnRound zp_G_turnRound 12 (zz_load zz_isA 0) := zo_aload_n (pc := 20) (i := 0) (f := 0) rfl rfl rfl (by decide +kernel)
theorem zk_G_turnRound_13 : zr_Ok zM_G_turnRound zp_G_turnRound 13 (zz_get 3 9) := zo_getf (pc := 21) (idx := 30) (C := RX3) (T := TX3) (N := 12) rfl rfl (by decide +kernel) rfl zin_X3 (by decide) zw_59
theorem zk_G_turnRound_14 : zr_Ok zM_G_turnRound zp_G_turnRound 14 (zz_load zz_isI 1) := zo_iload_n (pc := 24) (i := 1) (f := 1) rfl rfl rfl (by decide +kernel)
theorem zk_G_turnRound_15 : zr_Ok zM_G_turnRound zp_G_turnRound 15 (zz_load zz_isA 0) := zo_aload_n (pc := 25) (i := 0) (f := 0) rfl rfl rfl (by decide +kernel)
theorem zk_G_turnRound_16 : zr_Ok zM_G_turnRound zp_G_turnRound 16 (zz_get 3 8) := zo_getf (pc := 26) (idx := 27) (C := RX3) (T := TX3) (N := 12) rfl rfl (by decide +kernel) rfl zin_X3 (by decide) zw_58
theorem zk_G_turnRound_17 : zr_Ok zM_G_turnRound zp_G_turnRound 17 (zz_load zz_isI 1) := zo_iload_n (pc := 29) (i := 1) (f := 1) rfl rfl rfl (by decide +kernel)
theorem zk_G_turnRound_18 : zr_Ok zM_G_turnRound zp_G_turnRound 18 (zz_ald 18 0) := zo_iald (pc := 30) rfl rfl (by decide +kernel)
theorem zk_G_turnRound_19 : zr_Ok zM_G_turnRound zp_G_turnRound 19 (zz_ast 19 0) := zo_iast (pc := 31) rfl rfl (by decide +kernel)
theorem zk_G_turnRound_20 : zr_Ok zM_G_turnRound zp_G_turnRound 20 (zz_inc 20 1 1) := zo_iinc (pc := 32) (i := 1) (n2 := 1) (n := 1) rfl rfl (by decide +kernel) (by decide +kernel) (by decide)
theorem zk_G_turnRound_21 : zr_Ok zM_G_turnRound zp_G_turnRound 21 (zz_goto 7) := zo_goto (pc := 35) (t := 7) (tgt := 9) (off := -26) rfl rfl (by decide +kernel) (by decide)
theorem zk_G_turnRound_22 : zr_Ok zM_G_turnRound zp_G_turnRound 22 (zz_push (.inl 1)) := zo_iconst (pc := 38) (n := 1) (v := 1) rfl rfl (by decide +kernel) (by decide +kernel)
theorem zk_G_turnRound_23 : zr_Ok zM_G_turnRound zp_G_turnRound 23 (zz_store zz_isI 1) := zo_istore_n (pc := 39) (i := 1) (f := 1) rfl rfl rfl (by decide +kernel) (by decide)
theorem zk_G_turnRound_24 : zr_Ok zM_G_turnRound zp_G_turnRound 24 (zz_load zz_isI 1) := zo_iload_n (pc := 40) (i := 1) (f := 1) rfl rfl rfl (by decide +kernel)
theorem zk_G_turnRound_25 : zr_Ok zM_G_turnRound zp_G_turnRound 25 (zz_load zz_isA 0) := zo_aload_n (pc := 41) (i := 0) (f := 0) rfl rfl rfl (by decide +kernel)
theorem zk_G_turnRound_26 : zr_Ok zM_G_turnRound zp_G_turnRound 26 (zz_get 3 0) := zo_getf (pc := 42) (idx := 49) (C := RX3) (T := TX3) (N := 12) rfl rfl (by decide +kernel) rfl zin_X3 (by decide) zw_63
theorem zk_G_turnRound_27 : zr_Ok zM_G_turnRound zp_G_turnRound 27 (zz_ilt 27 0 71) := zo_icmp_ge (pc := 45) (t := 70) (tgt := 114) (off := 69) rfl rfl rfl (by decide +kernel) (by decide)
theorem zk_G_turnRound_28 : zr_Ok zM_G_turnRound zp_G_turnRound 28 (zz_load zz_isA 0) := zo_aload_n (pc := 48) (i := 0) (f := 0) rfl rfl rfl (by decide +kernel)
theorem zk_G_turnRound_29 : zr_Ok zM_G_turnRound zp_G_turnRound 29 (zz_get 3 4) := zo_getf (pc := 49) (idx := 15) (C := RX3) (T := TX3) (N := 12) rfl rfl (by decide +kernel) rfl zin_X3 (by decide) zw_54
theorem zk_G_turnRound_30 : zr_Ok zM_G_turnRound zp_G_turnRound 30 (zz_load zz_isI 1) := zo_iload_n (pc := 52) (i := 1) (f := 1) rfl rfl rfl (by decide +kernel)
theorem zk_G_turnRound_31 : zr_Ok zM_G_turnRound zp_G_turnRound 31 (zz_ald 31 0) := zo_iald (pc := 53) rfl rfl (by decide +kernel)
theorem zk_G_turnRound_32 : zr_Ok zM_G_turnRound zp_G_turnRound 32 (zz_push (.inl 4)) := zo_iconst (pc := 54) (n := 4) (v := 4) rfl rfl (by decide +kernel) (by decide +kernel)
theorem zk_G_turnRound_33 : zr_Ok zM_G_turnRound zp_G_turnRound 33 (zz_bin 33 zz_mul) := zo_imul (pc := 55) rfl rfl (by decide +kernel)
theorem zk_G_turnRound_34 : zr_Ok zM_G_turnRound zp_G_turnRound 34 (zz_store zz_isI 2) := zo_istore_n (pc := 56) (i := 2) (f := 2) rfl rfl rfl (by decide +kernel) (by decide)
theorem zk_G_turnRound_35 : zr_Ok zM_G_turnRound zp_G_turnRound 35 (zz_push (.inl 0)) := zo_iconst (pc := 57) (n := 0) (v := 0) rfl rfl (by decide +kernel) (by decide +kernel)
theorem zk_G_turnRound_36 : zr_Ok zM_G_turnRound zp_G_turnRound 36 (zz_store zz_isI 3) := zo_istore_n (pc := 58) (i := 3) (f := 3) rfl rfl rfl (by decide +kernel) (by decide)
theorem zk_G_turnRound_37 : zr_Ok zM_G_turnRound zp_G_turnRound 37 (zz_load zz_isI 3) := zo_iload_n (pc := 59) (i := 3) (f := 3) rfl rfl rfl (by decide +kernel)
theorem zk_G_turnRound_38 : zr_Ok zM_G_turnRound zp_G_turnRound 38 (zz_load zz_isA 0) := zo_aload_n (pc := 60) (i := 0) (f := 0) rfl rfl rfl (by decide +kernel)
theorem zk_G_turnRound_39 : zr_Ok zM_G_turnRound zp_G_turnRound 39 (zz_get 3 2) := zo_getf (pc := 61) (idx := 39) (C := RX3) (T := TX3) (N := 12) rfl rfl (by decide +kernel) rfl zin_X3 (by decide) zw_62
theorem zk_G_turnRound_40 : zr_Ok zM_G_turnRound zp_G_turnRound 40 (zz_get 2 0) := zo_getf (pc := 64) (idx := 57) (C := RX2) (T := TX2) (N := 4) rfl rfl (by decide +kernel) rfl zin_X2 (by decide) zw_69
theorem zk_G_turnRound_41 : zr_Ok zM_G_turnRound zp_G_turnRound 41 (zz_ilt 41 0 69) := zo_icmp_ge (pc := 67) (t := 68) (tgt := 108) (off := 41) rfl rfl rfl (by decide +kernel) (by decide)
theorem zk_G_turnRound_42 : zr_Ok zM_G_turnRound zp_G_turnRound 42 (zz_load zz_isA 0) := zo_aload_n (pc := 70) (i := 0) (f := 0) rfl rfl rfl (by decide +kernel)
theorem zk_G_turnRound_43 : zr_Ok zM_G_turnRound zp_G_turnRound 43 (zz_get 3 9) := zo_getf (pc := 71) (idx := 30) (C := RX3) (T := TX3) (N := 12) rfl rfl (by decide +kernel) rfl zin_X3 (by decide) zw_59
theorem zk_G_turnRound_44 : zr_Ok zM_G_turnRound zp_G_turnRound 44 (zz_load zz_isI 1) := zo_iload_n (pc := 74) (i := 1) (f := 1) rfl rfl rfl (by decide +kernel)
theorem zk_G_turnRound_45 : zr_Ok zM_G_turnRound zp_G_turnRound 45 (zz_push (.inl 4)) := zo_iconst (pc := 75) (n := 4) (v := 4) rfl rfl (by decide +kernel) (by decide +kernel)
theorem zk_G_turnRound_46 : zr_Ok zM_G_turnRound zp_G_turnRound 46 (zz_bin 46 zz_mul) := zo_imul (pc := 76) rfl rfl (by decide +kernel)
theorem zk_G_turnRound_47 : zr_Ok zM_G_turnRound zp_G_turnRound 47 (zz_load zz_isI 3) := zo_iload_n (pc := 77) (i := 3) (f := 3) rfl rfl rfl (by decide +kernel)
theorem zk_G_turnRound_48 : zr_Ok zM_G_turnRound zp_G_turnRound 48 (zz_bin 48 zz_add) := zo_iadd (pc := 78) rfl rfl (by decide +kernel)
theorem zk_G_turnRound_49 : zr_Ok zM_G_turnRound zp_G_turnRound 49 (zz_load zz_isA 0) := zo_aload_n (pc := 79) (i := 0) (f := 0) rfl rfl rfl (by decide +kernel)
theorem zk_G_turnRound_50 : zr_Ok zM_G_turnRound zp_G_turnRound 50 (zz_get 3 8) := zo_getf (pc := 80) (idx := 27) (C := RX3) (T := TX3) (N := 12) rfl rfl (by decide +kernel) rfl zin_X3 (by decide) zw_58
theorem zk_G_turnRound_51 : zr_Ok zM_G_turnRound zp_G_turnRound 51 (zz_load zz_isA 0) := zo_aload_n (pc := 83) (i := 0) (f := 0) rfl rfl rfl (by decide +kernel)
theorem zk_G_turnRound_52 : zr_Ok zM_G_turnRound zp_G_turnRound 52 (zz_get 3 9) := zo_getf (pc := 84) (idx := 30) (C := RX3) (T := TX3) (N := 12) rfl rfl (by decide +kernel) rfl zin_X3 (by decide) zw_59
theorem zk_G_turnRound_53 : zr_Ok zM_G_turnRound zp_G_turnRound 53 (zz_load zz_isI 2) := zo_iload_n (pc := 87) (i := 2) (f := 2) rfl rfl rfl (by decide +kernel)
theorem zk_G_turnRound_54 : zr_Ok zM_G_turnRound zp_G_turnRound 54 (zz_load zz_isI 3) := zo_iload_n (pc := 88) (i := 3) (f := 3) rfl rfl rfl (by decide +kernel)
theorem zk_G_turnRound_55 : zr_Ok zM_G_turnRound zp_G_turnRound 55 (zz_bin 55 zz_add) := zo_iadd (pc := 89) rfl rfl (by decide +kernel)
theorem zk_G_turnRound_56 : zr_Ok zM_G_turnRound zp_G_turnRound 56 (zz_ald 56 0) := zo_iald (pc := 90) rfl rfl (by decide +kernel)
theorem zk_G_turnRound_57 : zr_Ok zM_G_turnRound zp_G_turnRound 57 (zz_push (.inl 4)) := zo_iconst (pc := 91) (n := 4) (v := 4) rfl rfl (by decide +kernel) (by decide +kernel)
theorem zk_G_turnRound_58 : zr_Ok zM_G_turnRound zp_G_turnRound 58 (zz_bin 58 zz_mul) := zo_imul (pc := 92) rfl rfl (by decide +kernel)
theorem zk_G_turnRound_59 : zr_Ok zM_G_turnRound zp_G_turnRound 59 (zz_load zz_isA 0) := zo_aload_n (pc := 93) (i := 0) (f := 0) rfl rfl rfl (by decide +kernel)
theorem zk_G_turnRound_60 : zr_Ok zM_G_turnRound zp_G_turnRound 60 (zz_get 3 5) := zo_getf (pc := 94) (idx := 18) (C := RX3) (T := TX3) (N := 12) rfl rfl (by decide +kernel) rfl zin_X3 (by decide) zw_55
theorem zk_G_turnRound_61 : zr_Ok zM_G_turnRound zp_G_turnRound 61 (zz_load zz_isI 1) := zo_iload_n (pc := 97) (i := 1) (f := 1) rfl rfl rfl (by decide +kernel)
theorem zk_G_turnRound_62 : zr_Ok zM_G_turnRound zp_G_turnRound 62 (zz_ald 62 0) := zo_iald (pc := 98) rfl rfl (by decide +kernel)
theorem zk_G_turnRound_63 : zr_Ok zM_G_turnRound zp_G_turnRound 63 (zz_bin 63 zz_add) := zo_iadd (pc := 99) rfl rfl (by decide +kernel)
theorem zk_G_turnRound_64 : zr_Ok zM_G_turnRound zp_G_turnRound 64 (zz_ald 64 0) := zo_iald (pc := 100) rfl rfl (by decide +kernel)
theorem zk_G_turnRound_65 : zr_Ok zM_G_turnRound zp_G_turnRound 65 (zz_ast 65 0) := zo_iast (pc := 101) rfl rfl (by decide +kernel)
theorem zk_G_turnRound_66 : zr_Ok zM_G_turnRound zp_G_turnRound 66 (zz_inc 66 3 1) := zo_iinc (pc := 102) (i := 3) (n2 := 1) (n := 1) rfl rfl (by decide +kernel) (by decide +kernel) (by decide)
theorem zk_G_turnRound_67 : zr_Ok zM_G_turnRound zp_G_turnRound 67 (zz_goto 37) := zo_goto (pc := 105) (t := 37) (tgt := 59) (off := -46) rfl rfl (by decide +kernel) (by decide)
theorem zk_G_turnRound_68 : zr_Ok zM_G_turnRound zp_G_turnRound 68 (zz_inc 68 1 1) := zo_iinc (pc := 108) (i := 1) (n2 := 1) (n := 1) rfl rfl (by decide +kernel) (by decide +kernel) (by decide)
theorem zk_G_turnRound_69 : zr_Ok zM_G_turnRound zp_G_turnRound 69 (zz_goto 24) := zo_goto (pc := 111) (t := 24) (tgt := 40) (off := -71) rfl rfl (by decide +kernel) (by decide)
theorem zk_G_turnRound_70 : zr_Ok zM_G_turnRound zp_G_turnRound 70 (zz_push (.inl 1)) := zo_iconst (pc := 114) (n := 1) (v := 1) rfl rfl (by decide +kernel) (by decide +kernel)
theorem zk_G_turnRound_71 : zr_Ok zM_G_turnRound zp_G_turnRound 71 (zz_store zz_isI 1) := zo_istore_n (pc := 115) (i := 1) (f := 1) rfl rfl rfl (by decide +kernel) (by decide)
theorem zk_G_turnRound_72 : zr_Ok zM_G_turnRound zp_G_turnRound 72 (zz_load zz_isI 1) := zo_iload_n (pc := 116) (i := 1) (f := 1) rfl rfl rfl (by decide +kernel)
theorem zk_G_turnRound_73 : zr_Ok zM_G_turnRound zp_G_turnRound 73 (zz_load zz_isA 0) := zo_aload_n (pc := 117) (i := 0) (f := 0) rfl rfl rfl (by decide +kernel)
theorem zk_G_turnRound_74 : zr_Ok zM_G_turnRound zp_G_turnRound 74 (zz_get 3 0) := zo_getf (pc := 118) (idx := 49) (C := RX3) (T := TX3) (N := 12) rfl rfl (by decide +kernel) rfl zin_X3 (by decide) zw_63
theorem zk_G_turnRound_75 : zr_Ok zM_G_turnRound zp_G_turnRound 75 (zz_ilt 75 0 100) := zo_icmp_ge (pc := 121) (t := 99) (tgt := 161) (off := 40) rfl rfl rfl (by decide +kernel) (by decide)
theorem zk_G_turnRound_76 : zr_Ok zM_G_turnRound zp_G_turnRound 76 (zz_load zz_isA 0) := zo_aload_n (pc := 124) (i := 0) (f := 0) rfl rfl rfl (by decide +kernel)
theorem zk_G_turnRound_77 : zr_Ok zM_G_turnRound zp_G_turnRound 77 (zz_get 3 7) := zo_getf (pc := 125) (idx := 24) (C := RX3) (T := TX3) (N := 12) rfl rfl (by decide +kernel) rfl zin_X3 (by decide) zw_57
theorem zk_G_turnRound_78 : zr_Ok zM_G_turnRound zp_G_turnRound 78 (zz_load zz_isI 1) := zo_iload_n (pc := 128) (i := 1) (f := 1) rfl rfl rfl (by decide +kernel)
theorem zk_G_turnRound_79 : zr_Ok zM_G_turnRound zp_G_turnRound 79 (zz_load zz_isA 0) := zo_aload_n (pc := 129) (i := 0) (f := 0) rfl rfl rfl (by decide +kernel)
theorem zk_G_turnRound_80 : zr_Ok zM_G_turnRound zp_G_turnRound 80 (zz_get 3 9) := zo_getf (pc := 130) (idx := 30) (C := RX3) (T := TX3) (N := 12) rfl rfl (by decide +kernel) rfl zin_X3 (by decide) zw_59
theorem zk_G_turnRound_81 : zr_Ok zM_G_turnRound zp_G_turnRound 81 (zz_load zz_isA 0) := zo_aload_n (pc := 133) (i := 0) (f := 0) rfl rfl rfl (by decide +kernel)
theorem zk_G_turnRound_82 : zr_Ok zM_G_turnRound zp_G_turnRound 82 (zz_get 3 7) := zo_getf (pc := 134) (idx := 24) (C := RX3) (T := TX3) (N := 12) rfl rfl (by decide +kernel) rfl zin_X3 (by decide) zw_57
theorem zk_G_turnRound_83 : zr_Ok zM_G_turnRound zp_G_turnRound 83 (zz_load zz_isA 0) := zo_aload_n (pc := 137) (i := 0) (f := 0) rfl rfl rfl (by decide +kernel)
theorem zk_G_turnRound_84 : zr_Ok zM_G_turnRound zp_G_turnRound 84 (zz_get 3 4) := zo_getf (pc := 138) (idx := 15) (C := RX3) (T := TX3) (N := 12) rfl rfl (by decide +kernel) rfl zin_X3 (by decide) zw_54
theorem zk_G_turnRound_85 : zr_Ok zM_G_turnRound zp_G_turnRound 85 (zz_load zz_isI 1) := zo_iload_n (pc := 141) (i := 1) (f := 1) rfl rfl rfl (by decide +kernel)
theorem zk_G_turnRound_86 : zr_Ok zM_G_turnRound zp_G_turnRound 86 (zz_ald 86 0) := zo_iald (pc := 142) rfl rfl (by decide +kernel)
theorem zk_G_turnRound_87 : zr_Ok zM_G_turnRound zp_G_turnRound 87 (zz_ald 87 0) := zo_iald (pc := 143) rfl rfl (by decide +kernel)
theorem zk_G_turnRound_88 : zr_Ok zM_G_turnRound zp_G_turnRound 88 (zz_push (.inl 4)) := zo_iconst (pc := 144) (n := 4) (v := 4) rfl rfl (by decide +kernel) (by decide +kernel)
theorem zk_G_turnRound_89 : zr_Ok zM_G_turnRound zp_G_turnRound 89 (zz_bin 89 zz_mul) := zo_imul (pc := 145) rfl rfl (by decide +kernel)
theorem zk_G_turnRound_90 : zr_Ok zM_G_turnRound zp_G_turnRound 90 (zz_load zz_isA 0) := zo_aload_n (pc := 146) (i := 0) (f := 0) rfl rfl rfl (by decide +kernel)
theorem zk_G_turnRound_91 : zr_Ok zM_G_turnRound zp_G_turnRound 91 (zz_get 3 5) := zo_getf (pc := 147) (idx := 18) (C := RX3) (T := TX3) (N := 12) rfl rfl (by decide +kernel) rfl zin_X3 (by decide) zw_55
theorem zk_G_turnRound_92 : zr_Ok zM_G_turnRound zp_G_turnRound 92 (zz_load zz_isI 1) := zo_iload_n (pc := 150) (i := 1) (f := 1) rfl rfl rfl (by decide +kernel)
theorem zk_G_turnRound_93 : zr_Ok zM_G_turnRound zp_G_turnRound 93 (zz_ald 93 0) := zo_iald (pc := 151) rfl rfl (by decide +kernel)
theorem zk_G_turnRound_94 : zr_Ok zM_G_turnRound zp_G_turnRound 94 (zz_bin 94 zz_add) := zo_iadd (pc := 152) rfl rfl (by decide +kernel)
theorem zk_G_turnRound_95 : zr_Ok zM_G_turnRound zp_G_turnRound 95 (zz_ald 95 0) := zo_iald (pc := 153) rfl rfl (by decide +kernel)
theorem zk_G_turnRound_96 : zr_Ok zM_G_turnRound zp_G_turnRound 96 (zz_ast 96 0) := zo_iast (pc := 154) rfl rfl (by decide +kernel)
theorem zk_G_turnRound_97 : zr_Ok zM_G_turnRound zp_G_turnRound 97 (zz_inc 97 1 1) := zo_iinc (pc := 155) (i := 1) (n2 := 1) (n := 1) rfl rfl (by decide +kernel) (by decide +kernel) (by decide)
theorem zk_G_turnRound_98 : zr_Ok zM_G_turnRound zp_G_turnRound 98 (zz_goto 72) := zo_goto (pc := 158) (t := 72) (tgt := 116) (off := -42) rfl rfl (by decide +kernel) (by decide)
theorem zk_G_turnRound_99 : zr_Ok zM_G_turnRound zp_G_turnRound 99 (zz_ret0) := zo_return (pc := 161) rfl (by decide +kernel) rfl
theorem zk_G_turnRound : zr_OkL zM_G_turnRound zp_G_turnRound 0 zc_G_turnRound := ⟨zk_G_turnRound_0, zk_G_turnRound_1, zk_G_turnRound_2, zk_G_turnRound_3, zk_G_turnRound_4, zk_G_turnRound_5, zk_G_turnRound_6, zk_G_turnRound_7, zk_G_turnRound_8, zk_G_turnRound_9, zk_G_turnRound_10, zk_G_turnRound_11, zk_G_turnRound_12, zk_G_turnRound_13, zk_G_turnRound_14, zk_G_turnRound_15, zk_G_turnRound_16, zk_G_turnRound_17, zk_G_turnRound_18, zk_G_turnRound_19, zk_G_turnRound_20, zk_G_turnRound_21, zk_G_turnRound_22, zk_G_turnRound_23, zk_G_turnRound_24, zk_G_turnRound_25, zk_G_turnRound_26, zk_G_turnRound_27, zk_G_turnRound_28, zk_G_turnRound_29, zk_G_turnRound_30, zk_G_turnRound_31, zk_G_turnRound_32, zk_G_turnRound_33, zk_G_turnRound_34, zk_G_turnRound_35, zk_G_turnRound_36, zk_G_turnRound_37, zk_G_turnRound_38, zk_G_turnRound_39, zk_G_turnRound_40, zk_G_turnRound_41, zk_G_turnRound_42, zk_G_turnRound_43, zk_G_turnRound_44, zk_G_turnRound_45, zk_G_turnRound_46, zk_G_turnRound_47, zk_G_turnRound_48, zk_G_turnRound_49, zk_G_turnRound_50, zk_G_turnRound_51, zk_G_turnRound_52, zk_G_turnRound_53, zk_G_turnRound_54, zk_G_turnRound_55, zk_G_turnRound_56, zk_G_turnRound_57, zk_G_turnRound_58, zk_G_turnRound_59, zk_G_turnRound_60, zk_G_turnRound_61, zk_G_turnRound_62, zk_G_turnRound_63, zk_G_turnRound_64, zk_G_turnRound_65, zk_G_turnRound_66, zk_G_turnRound_67, zk_G_turnRound_68, zk_G_turnRound_69, zk_G_turnRound_70, zk_G_turnRound_71, zk_G_turnRound_72, zk_G_turnRound_73, zk_G_turnRound_74, zk_G_turnRound_75, zk_G_turnRound_76, zk_G_turnRound_77, zk_G_turnRound_78, zk_G_turnRound_79, zk_G_turnRound_80, zk_G_turnRound_81, zk_G_turnRound_82, zk_G_turnRound_83, zk_G_turnRound_84, zk_G_turnRound_85, zk_G_turnRound_86, zk_G_turnRound_87, zk_G_turnRound_88, zk_G_turnRound_89, zk_G_turnRound_90, zk_G_turnRound_91, zk_G_turnRound_92, zk_G_turnRound_93, zk_G_turnRound_94, zk_G_turnRound_95, zk_G_turnRound_96, zk_G_turnRound_97, zk_G_turnRound_98, zk_G_turnRound_99, trivial⟩
abbrev zM_G_build : zr_M := (RX3, cX3_build, 3, none, "build")
theorem zk_G_build_0 : zr_Ok zM_G_build zp_G_build 0 (zz_load zz_isA 0) := zo_aload_n (pc := 0) (i := 0) (f := 0) rfl rfl rfl (by decide +kernel)
theorem zk_G_build_1 : zr_Ok zM_G_build zp_G_build 1 (zz_get 3 8) := zo_getf (pc := 1) (idx := 27) (C := RX3) (T := TX3) (N := 12) rfl rfl (by decide +kernel) rfl zin_X3 (by decide) zw_58
theorem zk_G_build_2 : zr_Ok zM_G_build zp_G_build 2 (zz_push (.inl 4294967295)) := zo_iconst (pc := 4) (n := -1) (v := 4294967295) rfl rfl (by decide +kernel) (by decide +kernel)
theorem zk_G_build_3 : zr_Ok zM_G_build zp_G_build 3 (zz_call zz_any 0 2) := zo_callS (idx := 43) (mi := 0) (n := 2) (pc := 5) zg_ok rfl rfl (by decide +kernel) rfl zw_3 (by decide) zw_70 zw_6 zw_4 (by decide +kernel)
theorem zk_G_build_4 : zr_Ok zM_G_build zp_G_build 4 (zz_load zz_isA 0) := zo_aload_n (pc := 8) (i := 0) (f := 0) rfl rfl rfl (by decide +kernel)
theorem zk_G_build_5 : zr_Ok zM_G_build zp_G_build 5 (zz_push (.inl 1)) := zo_iconst (pc := 9) (n := 1) (v := 1) rfl rfl (by decide +kernel) (by decide +kernel)
theorem zk_G_build_6 : zr_Ok zM_G_build zp_G_build 6 (zz_putf 3 0 0) := zo_putf (pc := 10) (idx := 49) (C := RX3) (T := TX3) (N := 12) (ty0 := tyX3) rfl rfl (by decide +kernel) rfl zin_X3 tyX3_ok nmX3 (by decide) zw_63 rfl rfl
theorem zk_G_build_7 : zr_Ok zM_G_build zp_G_build 7 (zz_load zz_isA 0) := zo_aload_n (pc := 13) (i := 0) (f := 0) rfl rfl rfl (by decide +kernel)
theorem zk_G_build_8 : zr_Ok zM_G_build zp_G_build 8 (zz_push (.inl 0)) := zo_iconst (pc := 14) (n := 0) (v := 0) rfl rfl (by decide +kernel) (by decide +kernel)
theorem zk_G_build_9 : zr_Ok zM_G_build zp_G_build 9 (zz_putf 3 1 1) := zo_putf (pc := 15) (idx := 53) (C := RX3) (T := TX3) (N := 12) (ty0 := tyX3) rfl rfl (by decide +kernel) rfl zin_X3 tyX3_ok nmX3 (by decide) zw_71 rfl rfl
theorem zk_G_build_10 : zr_Ok zM_G_build zp_G_build 10 (zz_load zz_isA 0) := zo_aload_n (pc := 18) (i := 0) (f := 0) rfl rfl rfl (by decide +kernel)
theorem zk_G_build_11 : zr_Ok zM_G_build zp_G_build 11 (zz_get 3 3) := zo_getf (pc := 19) (idx := 9) (C := RX3) (T := TX3) (N := 12) rfl rfl (by decide +kernel) rfl zin_X3 (by decide) zw_53
theorem zk_G_build_12 : zr_Ok zM_G_build zp_G_build 12 (zz_push (.inl 0)) := zo_iconst (pc := 22) (n := 0) (v := 0) rfl rfl (by decide +kernel) (by decide +kernel)
theorem zk_G_build_13 : zr_Ok zM_G_build zp_G_build 13 (zz_push (.inl 0)) := zo_iconst (pc := 23) (n := 0) (v := 0) rfl rfl (by decide +kernel) (by decide +kernel)
theorem zk_G_build_14 : zr_Ok zM_G_build zp_G_build 14 (zz_ast 14 0) := zo_iast (pc := 24) rfl rfl (by decide +kernel)
theorem zk_G_build_15 : zr_Ok zM_G_build zp_G_build 15 (zz_load zz_isA 0) := zo_aload_n (pc := 25) (i := 0) (f := 0) rfl rfl rfl (by decide +kernel)
theorem zk_G_build_16 : zr_Ok zM_G_build zp_G_build 16 (zz_get 3 6) := zo_getf (pc := 26) (idx := 21) (C := RX3) (T := TX3) (N := 12) rfl rfl (by decide +kernel) rfl zin_X3 (by decide) zw_56
theorem zk_G_build_17 : zr_Ok zM_G_build zp_G_build 17 (zz_push (.inl 0)) := zo_iconst (pc := 29) (n := 0) (v := 0) rfl rfl (by decide +kernel) (by decide +kernel)
theorem zk_G_build_18 : zr_Ok zM_G_build zp_G_build 18 (zz_push (.inl 0)) := zo_iconst (pc := 30) (n := 0) (v := 0) rfl rfl (by decide +kernel) (by decide +kernel)
theorem zk_G_build_19 : zr_Ok zM_G_build zp_G_build 19 (zz_ast 19 0) := zo_iast (pc := 31) rfl rfl (by decide +kernel)
theorem zk_G_build_20 : zr_Ok zM_G_build zp_G_build 20 (zz_push (.inl 0)) := zo_iconst (pc := 32) (n := 0) (v := 0) rfl rfl (by decide +kernel) (by decide +kernel)
theorem zk_G_build_21 : zr_Ok zM_G_build zp_G_build 21 (zz_store zz_isI 1) := zo_istore_n (pc := 33) (i := 1) (f := 1) rfl rfl rfl (by decide +kernel) (by decide)
theorem zk_G_build_22 : zr_Ok zM_G_build zp_G_build 22 (zz_load zz_isI 1) := zo_iload_n (pc := 34) (i := 1) (f := 1) rfl rfl rfl (by decide +kernel)
theorem zk_G_build_23 : zr_Ok zM_G_build zp_G_build 23 (zz_load zz_isA 0) := zo_aload_n (pc := 35) (i := 0) (f := 0) rfl rfl rfl (by decide +kernel)
theorem zk_G_build_24 : zr_Ok zM_G_build zp_G_build 24 (zz_get 3 0) := zo_getf (pc := 36) (idx := 49) (C := RX3) (T := TX3) (N := 12) rfl rfl (by decide +kernel) rfl zin_X3 (by decide) zw_63
theorem zk_G_build_25 : zr_Ok zM_G_build zp_G_build 25 (zz_ilt 25 0 61) := zo_icmp_ge (pc := 39) (t := 60) (tgt := 108) (off := 69) rfl rfl rfl (by decide +kernel) (by decide)
theorem zk_G_build_26 : zr_Ok zM_G_build zp_G_build 26 (zz_load zz_isI 1) := zo_iload_n (pc := 42) (i := 1) (f := 1) rfl rfl rfl (by decide +kernel)
theorem zk_G_build_27 : zr_Ok zM_G_build zp_G_build 27 (zz_push (.inl 500)) := zo_sipush (pc := 43) (n := 500) (v := 500) rfl rfl (by decide +kernel) (by decide +kernel)
theorem zk_G_build_28 : zr_Ok zM_G_build zp_G_build 28 (zz_ilt 28 0 61) := zo_icmp_ge (pc := 46) (t := 60) (tgt := 108) (off := 62) rfl rfl rfl (by decide +kernel) (by decide)
theorem zk_G_build_29 : zr_Ok zM_G_build zp_G_build 29 (zz_load zz_isA 0) := zo_aload_n (pc := 49) (i := 0) (f := 0) rfl rfl rfl (by decide +kernel)
theorem zk_G_build_30 : zr_Ok zM_G_build zp_G_build 30 (zz_get 3 1) := zo_getf (pc := 50) (idx := 53) (C := RX3) (T := TX3) (N := 12) rfl rfl (by decide +kernel) rfl zin_X3 (by decide) zw_71
theorem zk_G_build_31 : zr_Ok zM_G_build zp_G_build 31 (zz_eq0 31 0 61) := zo_if_ne (pc := 53) (t := 60) (tgt := 108) (off := 55) rfl rfl rfl (by decide +kernel) (by decide)
theorem zk_G_build_32 : zr_Ok zM_G_build zp_G_build 32 (zz_push (.inl 0)) := zo_iconst (pc := 56) (n := 0) (v := 0) rfl rfl (by decide +kernel) (by decide +kernel)
theorem zk_G_build_33 : zr_Ok zM_G_build zp_G_build 33 (zz_store zz_isI 2) := zo_istore_n (pc := 57) (i := 2) (f := 2) rfl rfl rfl (by decide +kernel) (by decide)
theorem zk_G_build_34 : zr_Ok zM_G_build zp_G_build 34 (zz_load zz_isI 2) := zo_iload_n (pc := 58) (i := 2) (f := 2) rfl rfl rfl (by decide +kernel)
theorem zk_G_build_35 : zr_Ok zM_G_build zp_G_build 35 (zz_load zz_isA 0) := zo_aload_n (pc := 59) (i := 0) (f := 0) rfl rfl rfl (by decide +kernel)
theorem zk_G_build_36 : zr_Ok zM_G_build zp_G_build 36 (zz_get 3 2) := zo_getf (pc := 60) (idx := 39) (C := RX3) (T := TX3) (N := 12) rfl rfl (by decide +kernel) rfl zin_X3 (by decide) zw_62
theorem zk_G_build_37 : zr_Ok zM_G_build zp_G_build 37 (zz_get 2 0) := zo_getf (pc := 63) (idx := 57) (C := RX2) (T := TX2) (N := 4) rfl rfl (by decide +kernel) rfl zin_X2 (by decide) zw_69
theorem zk_G_build_38 : zr_Ok zM_G_build zp_G_build 38 (zz_ilt 38 0 59) := zo_icmp_ge (pc := 66) (t := 58) (tgt := 102) (off := 36) rfl rfl rfl (by decide +kernel) (by decide)
theorem zk_G_build_39 : zr_Ok zM_G_build zp_G_build 39 (zz_load zz_isA 0) := zo_aload_n (pc := 69) (i := 0) (f := 0) rfl rfl rfl (by decide +kernel)
theorem zk_G_build_40 : zr_Ok zM_G_build zp_G_build 40 (zz_get 3 1) := zo_getf (pc := 70) (idx := 53) (C := RX3) (T := TX3) (N := 12) rfl rfl (by decide +kernel) rfl zin_X3 (by decide) zw_71
theorem zk_G_build_41 : zr_Ok zM_G_build zp_G_build 41 (zz_eq0 41 0 59) := zo_if_ne (pc := 73) (t := 58) (tgt := 102) (off := 29) rfl rfl rfl (by decide +kernel) (by decide)
theorem zk_G_build_42 : zr_Ok zM_G_build zp_G_build 42 (zz_load zz_isA 0) := zo_aload_n (pc := 76) (i := 0) (f := 0) rfl rfl rfl (by decide +kernel)
theorem zk_G_build_43 : zr_Ok zM_G_build zp_G_build 43 (zz_get 3 8) := zo_getf (pc := 77) (idx := 27) (C := RX3) (T := TX3) (N := 12) rfl rfl (by decide +kernel) rfl zin_X3 (by decide) zw_58
theorem zk_G_build_44 : zr_Ok zM_G_build zp_G_build 44 (zz_load zz_isI 1) := zo_iload_n (pc := 80) (i := 1) (f := 1) rfl rfl rfl (by decide +kernel)
theorem zk_G_build_45 : zr_Ok zM_G_build zp_G_build 45 (zz_push (.inl 4)) := zo_iconst (pc := 81) (n := 4) (v := 4) rfl rfl (by decide +kernel) (by decide +kernel)
theorem zk_G_build_46 : zr_Ok zM_G_build zp_G_build 46 (zz_bin 46 zz_mul) := zo_imul (pc := 82) rfl rfl (by decide +kernel)
theorem zk_G_build_47 : zr_Ok zM_G_build zp_G_build 47 (zz_load zz_isI 2) := zo_iload_n (pc := 83) (i := 2) (f := 2) rfl rfl rfl (by decide +kernel)
theorem zk_G_build_48 : zr_Ok zM_G_build zp_G_build 48 (zz_bin 48 zz_add) := zo_iadd (pc := 84) rfl rfl (by decide +kernel)
theorem zk_G_build_49 : zr_Ok zM_G_build zp_G_build 49 (zz_ald 49 0) := zo_iald (pc := 85) rfl rfl (by decide +kernel)
theorem zk_G_build_50 : zr_Ok zM_G_build zp_G_build 50 (zz_push (.inl 4294967295)) := zo_iconst (pc := 86) (n := -1) (v := 4294967295) rfl rfl (by decide +kernel) (by decide +kernel)
theorem zk_G_build_51 : zr_Ok zM_G_build zp_G_build 51 (zz_ieq 51 0 57) := zo_icmp_ne (pc := 87) (t := 56) (tgt := 96) (off := 9) rfl rfl rfl (by decide +kernel) (by decide)
theorem zk_G_build_52 : zr_Ok zM_G_build zp_G_build 52 (zz_load zz_isA 0) := zo_aload_n (pc := 90) (i := 0) (f := 0) rfl rfl rfl (by decide +kernel)
theorem zk_G_build_53 : zr_Ok zM_G_build zp_G_build 53 (zz_load zz_isI 1) := zo_iload_n (pc := 91) (i := 1) (f := 1) rfl rfl rfl (by decide +kernel)
theorem zk_G_build_54 : zr_Ok zM_G_build zp_G_build 54 (zz_load zz_isI 2) := zo_iload_n (pc := 92) (i := 2) (f := 2) rfl rfl rfl (by decide +kernel)
theorem zk_G_build_55 : zr_Ok zM_G_build zp_G_build 55 (zz_call (zz_recv 3) 11 3) := zo_callV (C := RX3) (T := TX3) (N := 12) (idx := 62) (mi := 11) (n := 2) (pc := 93) zg_ok rfl rfl (by decide +kernel) rfl zw_72 (by decide) rfl zw_73 zw_74 zw_75 zw_68 (by decide +kernel)
theorem zk_G_build_56 : zr_Ok zM_G_build zp_G_build 56 (zz_inc 56 2 1) := zo_iinc (pc := 96) (i := 2) (n2 := 1) (n := 1) rfl rfl (by decide +kernel) (by decide +kernel) (by decide)
theorem zk_G_build_57 : zr_Ok zM_G_build zp_G_build 57 (zz_goto 34) := zo_goto (pc := 99) (t := 34) (tgt := 58) (off := -41) rfl rfl (by decide +kernel) (by decide)
theorem zk_G_build_58 : zr_Ok zM_G_build zp_G_build 58 (zz_inc 58 1 1) := zo_iinc (pc := 102) (i := 1) (n2 := 1) (n := 1) rfl rfl (by decide +kernel) (by decide +kernel) (by decide)
theorem zk_G_build_59 : zr_Ok zM_G_build zp_G_build 59 (zz_goto 22) := zo_goto (pc := 105) (t := 22) (tgt := 34) (off := -71) rfl rfl (by decide +kernel) (by decide)
theorem zk_G_build_60 : zr_Ok zM_G_build zp_G_build 60 (zz_load zz_isA 0) := zo_aload_n (pc := 108) (i := 0) (f := 0) rfl rfl rfl (by decide +kernel)
theorem zk_G_build_61 : zr_Ok zM_G_build zp_G_build 61 (zz_get 3 1) := zo_getf (pc := 109) (idx := 53) (C := RX3) (T := TX3) (N := 12) rfl rfl (by decide +kernel) rfl zin_X3 (by decide) zw_71
theorem zk_G_build_62 : zr_Ok zM_G_build zp_G_build 62 (zz_eq0 62 0 66) := zo_if_ne (pc := 112) (t := 65) (tgt := 119) (off := 7) rfl rfl rfl (by decide +kernel) (by decide)
theorem zk_G_build_63 : zr_Ok zM_G_build zp_G_build 63 (zz_load zz_isA 0) := zo_aload_n (pc := 115) (i := 0) (f := 0) rfl rfl rfl (by decide +kernel)
theorem zk_G_build_64 : zr_Ok zM_G_build zp_G_build 64 (zz_call (zz_recv 3) 12 1) := zo_callV (C := RX3) (T := TX3) (N := 12) (idx := 66) (mi := 12) (n := 0) (pc := 116) zg_ok rfl rfl (by decide +kernel) rfl zw_76 (by decide) rfl zw_77 zw_78 zw_79 zw_68 (by decide +kernel)
theorem zk_G_build_65 : zr_Ok zM_G_build zp_G_build 65 (zz_ret0) := zo_return (pc := 119) rfl (by decide +kernel) rfl
theorem zk_G_build : zr_OkL zM_G_build zp_G_build 0 zc_G_build := ⟨zk_G_build_0, zk_G_build_1, zk_G_build_2, zk_G_build_3, zk_G_build_4, zk_G_build_5, zk_G_build_6, zk_G_build_7, zk_G_build_8, zk_G_build_9, zk_G_build_10, zk_G_build_11, zk_G_build_12, zk_G_build_13, zk_G_build_14, zk_G_build_15, zk_G_build_16, zk_G_build_17, zk_G_build_18, zk_G_build_19, zk_G_build_20, zk_G_build_21, zk_G_build_22, zk_G_build_23, zk_G_build_24, zk_G_build_25, zk_G_build_26, zk_G_build_27, zk_G_build_28, zk_G_build_29, zk_G_build_30, zk_G_build_31, zk_G_build_32, zk_G_build_33, zk_G_build_34, zk_G_build_35, zk_G_build_36, zk_G_build_37, zk_G_build_38, zk_G_build_39, zk_G_build_40, zk_G_build_41, zk_G_build_42, zk_G_build_43, zk_G_build_44, zk_G_build_45, zk_G_build_46, zk_G_build_47, zk_G_build_48, zk_G_build_49, zk_G_build_50, zk_G_build_51, zk_G_build_52, zk_G_build_53, zk_G_build_54, zk_G_build_55, zk_G_build_56, zk_G_build_57, zk_G_build_58, zk_G_build_59, zk_G_build_60, zk_G_build_61, zk_G_build_62, zk_G_build_63, zk_G_build_64, zk_G_build_65, trivial⟩
