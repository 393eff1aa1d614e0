/-! ROWS OF THE TABLE, method by method (written by wip/p1/genrows.py) -/
abbrev zM_B_theGroup : zr_M := (RX0, cX0_theGroup, 1, (some (.object "EvenBodies$Group")), "theGroup")
theorem zk_B_theGroup_0 : zr_Ok zM_B_theGroup zp_B_theGroup 0 (zz_load zz_isA 0) := zo_aload_n (pc := 0) (i := 0) (f := 0) rfl rfl rfl (by decide +kernel)
theorem zk_B_theGroup_1 : zr_Ok zM_B_theGroup zp_B_theGroup 1 (zz_get 0 2) := zo_getf (pc := 1) (idx := 51) (C := RX0) (T := TX0) (N := 12) rfl rfl (by decide +kernel) rfl zin_X0 (by decide) zw_80
theorem zk_B_theGroup_2 : zr_Ok zM_B_theGroup zp_B_theGroup 2 (zz_ifnn 10) := zo_ifnn (pc := 4) (t := 10) (tgt := 22) (off := 18) rfl rfl rfl (by decide +kernel) (by decide)
theorem zk_B_theGroup_3 : zr_Ok zM_B_theGroup zp_B_theGroup 3 (zz_load zz_isA 0) := zo_aload_n (pc := 7) (i := 0) (f := 0) rfl rfl rfl (by decide +kernel)
theorem zk_B_theGroup_4 : zr_Ok zM_B_theGroup zp_B_theGroup 4 (zz_new 3 12 [.inl 0, .inl 0, .inr (.inl 0), .inr (.inl 0), .inr (.inl 0), .inr (.inl 0), .inr (.inl 0), .inr (.inl 0), .inr (.inl 0), .inr (.inl 0), .inr (.inl 0), .inr (.inl 0)]) := zo_new (pc := 8) (idx := 55) (C := RX3) (T := TX3) (ty0 := tyX3) (vs := zvs_X3) rfl rfl (by decide +kernel) rfl zin_X3 tyX3_ok zw_81 zw_82 zw_68 zvs_X3_ok zvs_X3_d
theorem zk_B_theGroup_5 : zr_Ok zM_B_theGroup zp_B_theGroup 5 (zz_dup) := zo_dup (pc := 11) rfl rfl (by decide +kernel)
theorem zk_B_theGroup_6 : zr_Ok zM_B_theGroup zp_B_theGroup 6 (zz_load zz_isA 0) := zo_aload_n (pc := 12) (i := 0) (f := 0) rfl rfl rfl (by decide +kernel)
theorem zk_B_theGroup_7 : zr_Ok zM_B_theGroup zp_B_theGroup 7 (zz_get 0 0) := zo_getf (pc := 13) (idx := 12) (C := RX0) (T := TX0) (N := 12) rfl rfl (by decide +kernel) rfl zin_X0 (by decide) zw_23
theorem zk_B_theGroup_8 : zr_Ok zM_B_theGroup zp_B_theGroup 8 (zz_call (zz_recv 3) 9 2) := zo_callI (ret2 := none) (idx := 57) (mi := 9) (n := 1) (pc := 16) zg_ok rfl rfl (by decide +kernel) rfl zw_83 (by decide) zw_85 zw_84 zw_68 rfl (by decide +kernel)
theorem zk_B_theGroup_9 : zr_Ok zM_B_theGroup zp_B_theGroup 9 (zz_putf 0 2 2) := zo_putf (pc := 19) (idx := 51) (C := RX0) (T := TX0) (N := 12) (ty0 := tyX0) rfl rfl (by decide +kernel) rfl zin_X0 tyX0_ok nmX0 (by decide) zw_80 rfl (Or.inl ⟨_, rfl⟩)
theorem zk_B_theGroup_10 : zr_Ok zM_B_theGroup zp_B_theGroup 10 (zz_load zz_isA 0) := zo_aload_n (pc := 22) (i := 0) (f := 0) rfl rfl rfl (by decide +kernel)
theorem zk_B_theGroup_11 : zr_Ok zM_B_theGroup zp_B_theGroup 11 (zz_get 0 7) := zo_getf (pc := 23) (idx := 18) (C := RX0) (T := TX0) (N := 12) rfl rfl (by decide +kernel) rfl zin_X0 (by decide) zw_86
theorem zk_B_theGroup_12 : zr_Ok zM_B_theGroup zp_B_theGroup 12 (zz_eq0 12 0 20) := zo_if_ne (pc := 26) (t := 19) (tgt := 41) (off := 15) rfl rfl rfl (by decide +kernel) (by decide)
theorem zk_B_theGroup_13 : zr_Ok zM_B_theGroup zp_B_theGroup 13 (zz_load zz_isA 0) := zo_aload_n (pc := 29) (i := 0) (f := 0) rfl rfl rfl (by decide +kernel)
theorem zk_B_theGroup_14 : zr_Ok zM_B_theGroup zp_B_theGroup 14 (zz_get 0 2) := zo_getf (pc := 30) (idx := 51) (C := RX0) (T := TX0) (N := 12) rfl rfl (by decide +kernel) rfl zin_X0 (by decide) zw_80
theorem zk_B_theGroup_15 : zr_Ok zM_B_theGroup zp_B_theGroup 15 (zz_call (zz_recv 3) 13 1) := zo_callV (C := RX3) (T := TX3) (N := 12) (idx := 59) (mi := 13) (n := 0) (pc := 33) zg_ok rfl rfl (by decide +kernel) rfl zw_87 (by decide) rfl zw_88 zw_89 zw_90 zw_68 (by decide +kernel)
theorem zk_B_theGroup_16 : zr_Ok zM_B_theGroup zp_B_theGroup 16 (zz_load zz_isA 0) := zo_aload_n (pc := 36) (i := 0) (f := 0) rfl rfl rfl (by decide +kernel)
theorem zk_B_theGroup_17 : zr_Ok zM_B_theGroup zp_B_theGroup 17 (zz_push (.inl 1)) := zo_iconst (pc := 37) (n := 1) (v := 1) rfl rfl (by decide +kernel) (by decide +kernel)
theorem zk_B_theGroup_18 : zr_Ok zM_B_theGroup zp_B_theGroup 18 (zz_putf 0 7 1) := zo_putf (pc := 38) (idx := 18) (C := RX0) (T := TX0) (N := 12) (ty0 := tyX0) rfl rfl (by decide +kernel) rfl zin_X0 tyX0_ok nmX0 (by decide) zw_86 rfl rfl
theorem zk_B_theGroup_19 : zr_Ok zM_B_theGroup zp_B_theGroup 19 (zz_load zz_isA 0) := zo_aload_n (pc := 41) (i := 0) (f := 0) rfl rfl rfl (by decide +kernel)
theorem zk_B_theGroup_20 : zr_Ok zM_B_theGroup zp_B_theGroup 20 (zz_get 0 2) := zo_getf (pc := 42) (idx := 51) (C := RX0) (T := TX0) (N := 12) rfl rfl (by decide +kernel) rfl zin_X0 (by decide) zw_80
theorem zk_B_theGroup_21 : zr_Ok zM_B_theGroup zp_B_theGroup 21 (zz_ret1 zz_isA) := zo_areturn (pc := 45) rfl (by decide +kernel) rfl
theorem zk_B_theGroup : zr_OkL zM_B_theGroup zp_B_theGroup 0 zc_B_theGroup := ⟨zk_B_theGroup_0, zk_B_theGroup_1, zk_B_theGroup_2, zk_B_theGroup_3, zk_B_theGroup_4, zk_B_theGroup_5, zk_B_theGroup_6, zk_B_theGroup_7, zk_B_theGroup_8, zk_B_theGroup_9, zk_B_theGroup_10, zk_B_theGroup_11, zk_B_theGroup_12, zk_B_theGroup_13, zk_B_theGroup_14, zk_B_theGroup_15, zk_B_theGroup_16, zk_B_theGroup_17, zk_B_theGroup_18, zk_B_theGroup_19, zk_B_theGroup_20, zk_B_theGroup_21, trivial⟩
abbrev zM_E_alike : zr_M := (RX7, cX7_alike, 3, (some .int), "alike")
theorem zk_E_alike_0 : zr_Ok zM_E_alike zp_E_alike 0 (zz_load zz_isI 1) := zo_iload_n (pc := 0) (i := 1) (f := 1) rfl rfl rfl (by decide +kernel)
theorem zk_E_alike_1 : zr_Ok zM_E_alike zp_E_alike 1 (zz_call zz_any 5 1) := zo_callS (idx := 31) (mi := 5) (n := 1) (pc := 1) zg_ok rfl rfl (by decide +kernel) rfl zw_37 (by decide) zw_39 zw_40 zw_38 (by decide +kernel)
theorem zk_E_alike_2 : zr_Ok zM_E_alike zp_E_alike 2 (zz_eq0 2 0 7) := zo_if_ne (pc := 4) (t := 6) (tgt := 14) (off := 10) rfl rfl rfl (by decide +kernel) (by decide)
theorem zk_E_alike_3 : zr_Ok zM_E_alike zp_E_alike 3 (zz_load zz_isI 2) := zo_iload_n (pc := 7) (i := 2) (f := 2) rfl rfl rfl (by decide +kernel)
theorem zk_E_alike_4 : zr_Ok zM_E_alike zp_E_alike 4 (zz_call zz_any 5 1) := zo_callS (idx := 31) (mi := 5) (n := 1) (pc := 8) zg_ok rfl rfl (by decide +kernel) rfl zw_37 (by decide) zw_39 zw_40 zw_38 (by decide +kernel)
theorem zk_E_alike_5 : zr_Ok zM_E_alike zp_E_alike 5 (zz_eq0 5 9 0) := zo_if_eq (pc := 11) (t := 8) (tgt := 17) (off := 6) rfl rfl rfl (by decide +kernel) (by decide)
theorem zk_E_alike_6 : zr_Ok zM_E_alike zp_E_alike 6 (zz_push (.inl 4294967294)) := zo_bipush (pc := 14) (n := -2) (v := 4294967294) rfl rfl (by decide +kernel) (by decide +kernel)
theorem zk_E_alike_7 : zr_Ok zM_E_alike zp_E_alike 7 (zz_ret1 zz_isI) := zo_ireturn (pc := 16) rfl (by decide +kernel) rfl
theorem zk_E_alike_8 : zr_Ok zM_E_alike zp_E_alike 8 (zz_load zz_isA 0) := zo_aload_n (pc := 17) (i := 0) (f := 0) rfl rfl rfl (by decide +kernel)
theorem zk_E_alike_9 : zr_Ok zM_E_alike zp_E_alike 9 (zz_get 5 0) := zo_getf (pc := 18) (idx := 11) (C := RX7) (T := TX7) (N := 4) rfl rfl (by decide +kernel) rfl zin_X7 (by decide) zw_26
theorem zk_E_alike_10 : zr_Ok zM_E_alike zp_E_alike 10 (zz_load zz_isI 1) := zo_iload_n (pc := 21) (i := 1) (f := 1) rfl rfl rfl (by decide +kernel)
theorem zk_E_alike_11 : zr_Ok zM_E_alike zp_E_alike 11 (zz_ald 11 3) := zo_aald (pc := 22) rfl rfl (by decide +kernel)
theorem zk_E_alike_12 : zr_Ok zM_E_alike zp_E_alike 12 (zz_call (zz_recv 0) 14 1) := zo_callV (C := RX0) (T := TX0) (N := 12) (idx := 90) (mi := 14) (n := 0) (pc := 23) zg_ok rfl rfl (by decide +kernel) rfl zw_91 (by decide) rfl zw_92 zw_93 zw_94 zw_28 (by decide +kernel)
theorem zk_E_alike_13 : zr_Ok zM_E_alike zp_E_alike 13 (zz_get 3 1) := zo_getf (pc := 26) (idx := 225) (C := RX3) (T := TX3) (N := 12) rfl rfl (by decide +kernel) rfl zin_X3 (by decide) zw_95
theorem zk_E_alike_14 : zr_Ok zM_E_alike zp_E_alike 14 (zz_eq0 14 0 23) := zo_if_ne (pc := 29) (t := 22) (tgt := 47) (off := 18) rfl rfl rfl (by decide +kernel) (by decide)
theorem zk_E_alike_15 : zr_Ok zM_E_alike zp_E_alike 15 (zz_load zz_isA 0) := zo_aload_n (pc := 32) (i := 0) (f := 0) rfl rfl rfl (by decide +kernel)
theorem zk_E_alike_16 : zr_Ok zM_E_alike zp_E_alike 16 (zz_get 5 0) := zo_getf (pc := 33) (idx := 11) (C := RX7) (T := TX7) (N := 4) rfl rfl (by decide +kernel) rfl zin_X7 (by decide) zw_26
theorem zk_E_alike_17 : zr_Ok zM_E_alike zp_E_alike 17 (zz_load zz_isI 2) := zo_iload_n (pc := 36) (i := 2) (f := 2) rfl rfl rfl (by decide +kernel)
theorem zk_E_alike_18 : zr_Ok zM_E_alike zp_E_alike 18 (zz_ald 18 3) := zo_aald (pc := 37) rfl rfl (by decide +kernel)
theorem zk_E_alike_19 : zr_Ok zM_E_alike zp_E_alike 19 (zz_call (zz_recv 0) 14 1) := zo_callV (C := RX0) (T := TX0) (N := 12) (idx := 90) (mi := 14) (n := 0) (pc := 38) zg_ok rfl rfl (by decide +kernel) rfl zw_91 (by decide) rfl zw_92 zw_93 zw_94 zw_28 (by decide +kernel)
theorem zk_E_alike_20 : zr_Ok zM_E_alike zp_E_alike 20 (zz_get 3 1) := zo_getf (pc := 41) (idx := 225) (C := RX3) (T := TX3) (N := 12) rfl rfl (by decide +kernel) rfl zin_X3 (by decide) zw_95
theorem zk_E_alike_21 : zr_Ok zM_E_alike zp_E_alike 21 (zz_eq0 21 25 0) := zo_if_eq (pc := 44) (t := 24) (tgt := 50) (off := 6) rfl rfl rfl (by decide +kernel) (by decide)
theorem zk_E_alike_24 : zr_Ok zM_E_alike zp_E_alike 24 (zz_load zz_isA 0) := zo_aload_n (pc := 50) (i := 0) (f := 0) rfl rfl rfl (by decide +kernel)
theorem zk_E_alike_25 : zr_Ok zM_E_alike zp_E_alike 25 (zz_get 5 0) := zo_getf (pc := 51) (idx := 11) (C := RX7) (T := TX7) (N := 4) rfl rfl (by decide +kernel) rfl zin_X7 (by decide) zw_26
theorem zk_E_alike_26 : zr_Ok zM_E_alike zp_E_alike 26 (zz_load zz_isI 1) := zo_iload_n (pc := 54) (i := 1) (f := 1) rfl rfl rfl (by decide +kernel)
theorem zk_E_alike_27 : zr_Ok zM_E_alike zp_E_alike 27 (zz_ald 27 3) := zo_aald (pc := 55) rfl rfl (by decide +kernel)
theorem zk_E_alike_28 : zr_Ok zM_E_alike zp_E_alike 28 (zz_get 0 0) := zo_getf (pc := 56) (idx := 35) (C := RX0) (T := TX0) (N := 12) rfl rfl (by decide +kernel) rfl zin_X0 (by decide) zw_41
theorem zk_E_alike_29 : zr_Ok zM_E_alike zp_E_alike 29 (zz_get 2 0) := zo_getf (pc := 59) (idx := 76) (C := RX2) (T := TX2) (N := 4) rfl rfl (by decide +kernel) rfl zin_X2 (by decide) zw_42
theorem zk_E_alike_30 : zr_Ok zM_E_alike zp_E_alike 30 (zz_push (.inl 3)) := zo_iconst (pc := 62) (n := 3) (v := 3) rfl rfl (by decide +kernel) (by decide +kernel)
theorem zk_E_alike_31 : zr_Ok zM_E_alike zp_E_alike 31 (zz_ieq 31 0 41) := zo_icmp_ne (pc := 63) (t := 40) (tgt := 82) (off := 19) rfl rfl rfl (by decide +kernel) (by decide)
theorem zk_E_alike_40 : zr_Ok zM_E_alike zp_E_alike 40 (zz_push (.inl 4294967293)) := zo_bipush (pc := 82) (n := -3) (v := 4294967293) rfl rfl (by decide +kernel) (by decide +kernel)
theorem zk_E_alike_41 : zr_Ok zM_E_alike zp_E_alike 41 (zz_ret1 zz_isI) := zo_ireturn (pc := 84) rfl (by decide +kernel) rfl
theorem zk_E_alike : zr_OkL zM_E_alike zp_E_alike 0 zc_E_alike := ⟨zk_E_alike_0, zk_E_alike_1, zk_E_alike_2, zk_E_alike_3, zk_E_alike_4, zk_E_alike_5, zk_E_alike_6, zk_E_alike_7, zk_E_alike_8, zk_E_alike_9, zk_E_alike_10, zk_E_alike_11, zk_E_alike_12, zk_E_alike_13, zk_E_alike_14, zk_E_alike_15, zk_E_alike_16, zk_E_alike_17, zk_E_alike_18, zk_E_alike_19, zk_E_alike_20, zk_E_alike_21, zo_no, zo_no, zk_E_alike_24, zk_E_alike_25, zk_E_alike_26, zk_E_alike_27, zk_E_alike_28, zk_E_alike_29, zk_E_alike_30, zk_E_alike_31, zo_no, zo_no, zo_no, zo_no, zo_no, zo_no, zo_no, zo_no, zk_E_alike_40, zk_E_alike_41, trivial⟩
abbrev zM_B_forgetParts : zr_M := (RX0, cX0_forgetParts, 1, none, "forgetParts")
theorem zk_B_forgetParts_0 : zr_Ok zM_B_forgetParts zp_B_forgetParts 0 (zz_load zz_isA 0) := zo_aload_n (pc := 0) (i := 0) (f := 0) rfl rfl rfl (by decide +kernel)
theorem zk_B_forgetParts_1 : zr_Ok zM_B_forgetParts zp_B_forgetParts 1 (zz_push (.inl 0)) := zo_iconst (pc := 1) (n := 0) (v := 0) rfl rfl (by decide +kernel) (by decide +kernel)
theorem zk_B_forgetParts_2 : zr_Ok zM_B_forgetParts zp_B_forgetParts 2 (zz_putf 0 8 1) := zo_putf (pc := 2) (idx := 32) (C := RX0) (T := TX0) (N := 12) (ty0 := tyX0) rfl rfl (by decide +kernel) rfl zin_X0 tyX0_ok nmX0 (by decide) zw_96 rfl rfl
theorem zk_B_forgetParts_3 : zr_Ok zM_B_forgetParts zp_B_forgetParts 3 (zz_load zz_isA 0) := zo_aload_n (pc := 5) (i := 0) (f := 0) rfl rfl rfl (by decide +kernel)
theorem zk_B_forgetParts_4 : zr_Ok zM_B_forgetParts zp_B_forgetParts 4 (zz_push (.inl 0)) := zo_iconst (pc := 6) (n := 0) (v := 0) rfl rfl (by decide +kernel) (by decide +kernel)
theorem zk_B_forgetParts_5 : zr_Ok zM_B_forgetParts zp_B_forgetParts 5 (zz_putf 0 9 1) := zo_putf (pc := 7) (idx := 35) (C := RX0) (T := TX0) (N := 12) (ty0 := tyX0) rfl rfl (by decide +kernel) rfl zin_X0 tyX0_ok nmX0 (by decide) zw_97 rfl rfl
theorem zk_B_forgetParts_6 : zr_Ok zM_B_forgetParts zp_B_forgetParts 6 (zz_load zz_isA 0) := zo_aload_n (pc := 10) (i := 0) (f := 0) rfl rfl rfl (by decide +kernel)
theorem zk_B_forgetParts_7 : zr_Ok zM_B_forgetParts zp_B_forgetParts 7 (zz_push (.inl 0)) := zo_iconst (pc := 11) (n := 0) (v := 0) rfl rfl (by decide +kernel) (by decide +kernel)
theorem zk_B_forgetParts_8 : zr_Ok zM_B_forgetParts zp_B_forgetParts 8 (zz_putf 0 10 1) := zo_putf (pc := 12) (idx := 38) (C := RX0) (T := TX0) (N := 12) (ty0 := tyX0) rfl rfl (by decide +kernel) rfl zin_X0 tyX0_ok nmX0 (by decide) zw_98 rfl rfl
theorem zk_B_forgetParts_9 : zr_Ok zM_B_forgetParts zp_B_forgetParts 9 (zz_ret0) := zo_return (pc := 15) rfl (by decide +kernel) rfl
theorem zk_B_forgetParts : zr_OkL zM_B_forgetParts zp_B_forgetParts 0 zc_B_forgetParts := ⟨zk_B_forgetParts_0, zk_B_forgetParts_1, zk_B_forgetParts_2, zk_B_forgetParts_3, zk_B_forgetParts_4, zk_B_forgetParts_5, zk_B_forgetParts_6, zk_B_forgetParts_7, zk_B_forgetParts_8, zk_B_forgetParts_9, trivial⟩
abbrev zM_B_forgetGroup : zr_M := (RX0, cX0_forgetGroup, 1, none, "forgetGroup")
theorem zk_B_forgetGroup_0 : zr_Ok zM_B_forgetGroup zp_B_forgetGroup 0 (zz_load zz_isA 0) := zo_aload_n (pc := 0) (i := 0) (f := 0) rfl rfl rfl (by decide +kernel)
theorem zk_B_forgetGroup_1 : zr_Ok zM_B_forgetGroup zp_B_forgetGroup 1 (zz_push (.inl 0)) := zo_iconst (pc := 1) (n := 0) (v := 0) rfl rfl (by decide +kernel) (by decide +kernel)
theorem zk_B_forgetGroup_2 : zr_Ok zM_B_forgetGroup zp_B_forgetGroup 2 (zz_putf 0 7 1) := zo_putf (pc := 2) (idx := 18) (C := RX0) (T := TX0) (N := 12) (ty0 := tyX0) rfl rfl (by decide +kernel) rfl zin_X0 tyX0_ok nmX0 (by decide) zw_86 rfl rfl
theorem zk_B_forgetGroup_3 : zr_Ok zM_B_forgetGroup zp_B_forgetGroup 3 (zz_load zz_isA 0) := zo_aload_n (pc := 5) (i := 0) (f := 0) rfl rfl rfl (by decide +kernel)
theorem zk_B_forgetGroup_4 : zr_Ok zM_B_forgetGroup zp_B_forgetGroup 4 (zz_push (.inl 0)) := zo_iconst (pc := 6) (n := 0) (v := 0) rfl rfl (by decide +kernel) (by decide +kernel)
theorem zk_B_forgetGroup_5 : zr_Ok zM_B_forgetGroup zp_B_forgetGroup 5 (zz_putf 0 11 1) := zo_putf (pc := 7) (idx := 22) (C := RX0) (T := TX0) (N := 12) (ty0 := tyX0) rfl rfl (by decide +kernel) rfl zin_X0 tyX0_ok nmX0 (by decide) zw_99 rfl rfl
theorem zk_B_forgetGroup_6 : zr_Ok zM_B_forgetGroup zp_B_forgetGroup 6 (zz_load zz_isA 0) := zo_aload_n (pc := 10) (i := 0) (f := 0) rfl rfl rfl (by decide +kernel)
theorem zk_B_forgetGroup_7 : zr_Ok zM_B_forgetGroup zp_B_forgetGroup 7 (zz_push (.inl 0)) := zo_iconst (pc := 11) (n := 0) (v := 0) rfl rfl (by decide +kernel) (by decide +kernel)
theorem zk_B_forgetGroup_8 : zr_Ok zM_B_forgetGroup zp_B_forgetGroup 8 (zz_putf 0 1 0) := zo_putf (pc := 12) (idx := 25) (C := RX0) (T := TX0) (N := 12) (ty0 := tyX0) rfl rfl (by decide +kernel) rfl zin_X0 tyX0_ok nmX0 (by decide) zw_100 rfl rfl
theorem zk_B_forgetGroup_9 : zr_Ok zM_B_forgetGroup zp_B_forgetGroup 9 (zz_load zz_isA 0) := zo_aload_n (pc := 15) (i := 0) (f := 0) rfl rfl rfl (by decide +kernel)
theorem zk_B_forgetGroup_10 : zr_Ok zM_B_forgetGroup zp_B_forgetGroup 10 (zz_call (zz_recv 0) 16 1) := zo_callV (C := RX0) (T := TX0) (N := 12) (idx := 29) (mi := 16) (n := 0) (pc := 16) zg_ok rfl rfl (by decide +kernel) rfl zw_101 (by decide) rfl zw_102 zw_103 zw_104 zw_28 (by decide +kernel)
theorem zk_B_forgetGroup_11 : zr_Ok zM_B_forgetGroup zp_B_forgetGroup 11 (zz_ret0) := zo_return (pc := 19) rfl (by decide +kernel) rfl
theorem zk_B_forgetGroup : zr_OkL zM_B_forgetGroup zp_B_forgetGroup 0 zc_B_forgetGroup := ⟨zk_B_forgetGroup_0, zk_B_forgetGroup_1, zk_B_forgetGroup_2, zk_B_forgetGroup_3, zk_B_forgetGroup_4, zk_B_forgetGroup_5, zk_B_forgetGroup_6, zk_B_forgetGroup_7, zk_B_forgetGroup_8, zk_B_forgetGroup_9, zk_B_forgetGroup_10, zk_B_forgetGroup_11, trivial⟩
abbrev zM_E_angle : zr_M := (RX7, cX7_angle, 6, (some .int), "angle")
theorem zk_E_angle_0 : zr_Ok zM_E_angle zp_E_angle 0 (zz_load zz_isA 0) := zo_aload_n (pc := 0) (i := 0) (f := 0) rfl rfl rfl (by decide +kernel)
theorem zk_E_angle_1 : zr_Ok zM_E_angle zp_E_angle 1 (zz_load zz_isI 1) := zo_iload_n (pc := 1) (i := 1) (f := 1) rfl rfl rfl (by decide +kernel)
theorem zk_E_angle_2 : zr_Ok zM_E_angle zp_E_angle 2 (zz_load zz_isI 2) := zo_iload_n (pc := 2) (i := 2) (f := 2) rfl rfl rfl (by decide +kernel)
theorem zk_E_angle_3 : zr_Ok zM_E_angle zp_E_angle 3 (zz_call (zz_recv 5) 6 3) := zo_callV (C := RX7) (T := TX7) (N := 4) (idx := 45) (mi := 6) (n := 2) (pc := 3) zg_ok rfl rfl (by decide +kernel) rfl zw_44 (by decide) rfl zw_45 zw_46 zw_47 zw_38 (by decide +kernel)
theorem zk_E_angle_4 : zr_Ok zM_E_angle zp_E_angle 4 (zz_eq0 4 0 20) := zo_if_ne (pc := 6) (t := 19) (tgt := 36) (off := 30) rfl rfl rfl (by decide +kernel) (by decide)
theorem zk_E_angle_5 : zr_Ok zM_E_angle zp_E_angle 5 (zz_load zz_isA 0) := zo_aload_n (pc := 9) (i := 0) (f := 0) rfl rfl rfl (by decide +kernel)
theorem zk_E_angle_6 : zr_Ok zM_E_angle zp_E_angle 6 (zz_load zz_isI 1) := zo_iload_n (pc := 10) (i := 1) (f := 1) rfl rfl rfl (by decide +kernel)
theorem zk_E_angle_7 : zr_Ok zM_E_angle zp_E_angle 7 (zz_load zz_isI 3) := zo_iload_n (pc := 11) (i := 3) (f := 3) rfl rfl rfl (by decide +kernel)
theorem zk_E_angle_8 : zr_Ok zM_E_angle zp_E_angle 8 (zz_call (zz_recv 5) 6 3) := zo_callV (C := RX7) (T := TX7) (N := 4) (idx := 45) (mi := 6) (n := 2) (pc := 12) zg_ok rfl rfl (by decide +kernel) rfl zw_44 (by decide) rfl zw_45 zw_46 zw_47 zw_38 (by decide +kernel)
theorem zk_E_angle_9 : zr_Ok zM_E_angle zp_E_angle 9 (zz_eq0 9 0 20) := zo_if_ne (pc := 15) (t := 19) (tgt := 36) (off := 21) rfl rfl rfl (by decide +kernel) (by decide)
theorem zk_E_angle_10 : zr_Ok zM_E_angle zp_E_angle 10 (zz_load zz_isI 2) := zo_iload_n (pc := 18) (i := 2) (f := 2) rfl rfl rfl (by decide +kernel)
theorem zk_E_angle_11 : zr_Ok zM_E_angle zp_E_angle 11 (zz_load zz_isI 3) := zo_iload_n (pc := 19) (i := 3) (f := 3) rfl rfl rfl (by decide +kernel)
theorem zk_E_angle_12 : zr_Ok zM_E_angle zp_E_angle 12 (zz_ieq 12 20 0) := zo_icmp_eq (pc := 20) (t := 19) (tgt := 36) (off := 16) rfl rfl rfl (by decide +kernel) (by decide)
theorem zk_E_angle_19 : zr_Ok zM_E_angle zp_E_angle 19 (zz_push (.inl 4294967294)) := zo_bipush (pc := 36) (n := -2) (v := 4294967294) rfl rfl (by decide +kernel) (by decide +kernel)
theorem zk_E_angle_20 : zr_Ok zM_E_angle zp_E_angle 20 (zz_ret1 zz_isI) := zo_ireturn (pc := 38) rfl (by decide +kernel) rfl
theorem zk_E_angle : zr_OkL zM_E_angle zp_E_angle 0 zc_E_angle := ⟨zk_E_angle_0, zk_E_angle_1, zk_E_angle_2, zk_E_angle_3, zk_E_angle_4, zk_E_angle_5, zk_E_angle_6, zk_E_angle_7, zk_E_angle_8, zk_E_angle_9, zk_E_angle_10, zk_E_angle_11, zk_E_angle_12, zo_no, zo_no, zo_no, zo_no, zo_no, zo_no, zk_E_angle_19, zk_E_angle_20, trivial⟩
abbrev zM_E_body : zr_M := (RX7, cX7_body, 3, (some .int), "body")
theorem zk_E_body_0 : zr_Ok zM_E_body zp_E_body 0 (zz_load zz_isI 1) := zo_iload_n (pc := 0) (i := 1) (f := 1) rfl rfl rfl (by decide +kernel)
theorem zk_E_body_1 : zr_Ok zM_E_body zp_E_body 1 (zz_call zz_any 5 1) := zo_callS (idx := 31) (mi := 5) (n := 1) (pc := 1) zg_ok rfl rfl (by decide +kernel) rfl zw_37 (by decide) zw_39 zw_40 zw_38 (by decide +kernel)
theorem zk_E_body_2 : zr_Ok zM_E_body zp_E_body 2 (zz_eq0 2 0 10) := zo_if_ne (pc := 4) (t := 9) (tgt := 17) (off := 13) rfl rfl rfl (by decide +kernel) (by decide)
theorem zk_E_body_3 : zr_Ok zM_E_body zp_E_body 3 (zz_load zz_isI 2) := zo_iload_n (pc := 7) (i := 2) (f := 2) rfl rfl rfl (by decide +kernel)
theorem zk_E_body_4 : zr_Ok zM_E_body zp_E_body 4 (zz_push (.inl 1)) := zo_iconst (pc := 8) (n := 1) (v := 1) rfl rfl (by decide +kernel) (by decide +kernel)
theorem zk_E_body_5 : zr_Ok zM_E_body zp_E_body 5 (zz_ilt 5 10 0) := zo_icmp_lt (pc := 9) (t := 9) (tgt := 17) (off := 8) rfl rfl rfl (by decide +kernel) (by decide)
theorem zk_E_body_6 : zr_Ok zM_E_body zp_E_body 6 (zz_load zz_isI 2) := zo_iload_n (pc := 12) (i := 2) (f := 2) rfl rfl rfl (by decide +kernel)
theorem zk_E_body_7 : zr_Ok zM_E_body zp_E_body 7 (zz_push (.inl 4)) := zo_iconst (pc := 13) (n := 4) (v := 4) rfl rfl (by decide +kernel) (by decide +kernel)
theorem zk_E_body_8 : zr_Ok zM_E_body zp_E_body 8 (zz_igt 8 0 12) := zo_icmp_le (pc := 14) (t := 11) (tgt := 20) (off := 6) rfl rfl rfl (by decide +kernel) (by decide)
theorem zk_E_body_9 : zr_Ok zM_E_body zp_E_body 9 (zz_push (.inl 4294967294)) := zo_bipush (pc := 17) (n := -2) (v := 4294967294) rfl rfl (by decide +kernel) (by decide +kernel)
theorem zk_E_body_10 : zr_Ok zM_E_body zp_E_body 10 (zz_ret1 zz_isI) := zo_ireturn (pc := 19) rfl (by decide +kernel) rfl
theorem zk_E_body_11 : zr_Ok zM_E_body zp_E_body 11 (zz_load zz_isA 0) := zo_aload_n (pc := 20) (i := 0) (f := 0) rfl rfl rfl (by decide +kernel)
theorem zk_E_body_12 : zr_Ok zM_E_body zp_E_body 12 (zz_get 5 0) := zo_getf (pc := 21) (idx := 11) (C := RX7) (T := TX7) (N := 4) rfl rfl (by decide +kernel) rfl zin_X7 (by decide) zw_26
theorem zk_E_body_13 : zr_Ok zM_E_body zp_E_body 13 (zz_load zz_isI 1) := zo_iload_n (pc := 24) (i := 1) (f := 1) rfl rfl rfl (by decide +kernel)
theorem zk_E_body_14 : zr_Ok zM_E_body zp_E_body 14 (zz_ald 14 3) := zo_aald (pc := 25) rfl rfl (by decide +kernel)
theorem zk_E_body_15 : zr_Ok zM_E_body zp_E_body 15 (zz_get 0 0) := zo_getf (pc := 26) (idx := 35) (C := RX0) (T := TX0) (N := 12) rfl rfl (by decide +kernel) rfl zin_X0 (by decide) zw_41
theorem zk_E_body_16 : zr_Ok zM_E_body zp_E_body 16 (zz_load zz_isI 2) := zo_iload_n (pc := 29) (i := 2) (f := 2) rfl rfl rfl (by decide +kernel)
theorem zk_E_body_17 : zr_Ok zM_E_body zp_E_body 17 (zz_call (zz_recv 2) 1 2) := zo_callV (C := RX2) (T := TX2) (N := 4) (idx := 38) (mi := 1) (n := 1) (pc := 30) zg_ok rfl rfl (by decide +kernel) rfl zw_12 (by decide) rfl zw_105 zw_14 zw_15 zw_16 (by decide +kernel)
theorem zk_E_body_18 : zr_Ok zM_E_body zp_E_body 18 (zz_load zz_isA 0) := zo_aload_n (pc := 33) (i := 0) (f := 0) rfl rfl rfl (by decide +kernel)
theorem zk_E_body_19 : zr_Ok zM_E_body zp_E_body 19 (zz_get 5 0) := zo_getf (pc := 34) (idx := 11) (C := RX7) (T := TX7) (N := 4) rfl rfl (by decide +kernel) rfl zin_X7 (by decide) zw_26
theorem zk_E_body_20 : zr_Ok zM_E_body zp_E_body 20 (zz_load zz_isI 1) := zo_iload_n (pc := 37) (i := 1) (f := 1) rfl rfl rfl (by decide +kernel)
theorem zk_E_body_21 : zr_Ok zM_E_body zp_E_body 21 (zz_ald 21 3) := zo_aald (pc := 38) rfl rfl (by decide +kernel)
theorem zk_E_body_22 : zr_Ok zM_E_body zp_E_body 22 (zz_call (zz_recv 0) 17 1) := zo_callV (C := RX0) (T := TX0) (N := 12) (idx := 42) (mi := 17) (n := 0) (pc := 39) zg_ok rfl rfl (by decide +kernel) rfl zw_106 (by decide) rfl zw_107 zw_108 zw_109 zw_28 (by decide +kernel)
theorem zk_E_body_23 : zr_Ok zM_E_body zp_E_body 23 (zz_push (.inl 1)) := zo_iconst (pc := 42) (n := 1) (v := 1) rfl rfl (by decide +kernel) (by decide +kernel)
theorem zk_E_body_24 : zr_Ok zM_E_body zp_E_body 24 (zz_ret1 zz_isI) := zo_ireturn (pc := 43) rfl (by decide +kernel) rfl
theorem zk_E_body : zr_OkL zM_E_body zp_E_body 0 zc_E_body := ⟨zk_E_body_0, zk_E_body_1, zk_E_body_2, zk_E_body_3, zk_E_body_4, zk_E_body_5, zk_E_body_6, zk_E_body_7, zk_E_body_8, zk_E_body_9, zk_E_body_10, zk_E_body_11, zk_E_body_12, zk_E_body_13, zk_E_body_14, zk_E_body_15, zk_E_body_16, zk_E_body_17, zk_E_body_18, zk_E_body_19, zk_E_body_20, zk_E_body_21, zk_E_body_22, zk_E_body_23, zk_E_body_24, trivial⟩
abbrev zM_E_refusal : zr_M := (RX7, cX7_refusal, 3, (some .int), "refusal")
theorem zk_E_refusal_0 : zr_Ok zM_E_refusal zp_E_refusal 0 (zz_load zz_isI 1) := zo_iload_n (pc := 0) (i := 1) (f := 1) rfl rfl rfl (by decide +kernel)
theorem zk_E_refusal_1 : zr_Ok zM_E_refusal zp_E_refusal 1 (zz_call zz_any 5 1) := zo_callS (idx := 31) (mi := 5) (n := 1) (pc := 1) zg_ok rfl rfl (by decide +kernel) rfl zw_37 (by decide) zw_39 zw_40 zw_38 (by decide +kernel)
theorem zk_E_refusal_2 : zr_Ok zM_E_refusal zp_E_refusal 2 (zz_eq0 2 0 6) := zo_if_ne (pc := 4) (t := 5) (tgt := 11) (off := 7) rfl rfl rfl (by decide +kernel) (by decide)
theorem zk_E_refusal_3 : zr_Ok zM_E_refusal zp_E_refusal 3 (zz_load zz_isI 2) := zo_iload_n (pc := 7) (i := 2) (f := 2) rfl rfl rfl (by decide +kernel)
theorem zk_E_refusal_4 : zr_Ok zM_E_refusal zp_E_refusal 4 (zz_eq0 4 8 0) := zo_if_eq (pc := 8) (t := 7) (tgt := 14) (off := 6) rfl rfl rfl (by decide +kernel) (by decide)
theorem zk_E_refusal_5 : zr_Ok zM_E_refusal zp_E_refusal 5 (zz_push (.inl 4294967294)) := zo_bipush (pc := 11) (n := -2) (v := 4294967294) rfl rfl (by decide +kernel) (by decide +kernel)
theorem zk_E_refusal_6 : zr_Ok zM_E_refusal zp_E_refusal 6 (zz_ret1 zz_isI) := zo_ireturn (pc := 13) rfl (by decide +kernel) rfl
theorem zk_E_refusal_7 : zr_Ok zM_E_refusal zp_E_refusal 7 (zz_load zz_isA 0) := zo_aload_n (pc := 14) (i := 0) (f := 0) rfl rfl rfl (by decide +kernel)
theorem zk_E_refusal_8 : zr_Ok zM_E_refusal zp_E_refusal 8 (zz_get 5 0) := zo_getf (pc := 15) (idx := 11) (C := RX7) (T := TX7) (N := 4) rfl rfl (by decide +kernel) rfl zin_X7 (by decide) zw_26
theorem zk_E_refusal_9 : zr_Ok zM_E_refusal zp_E_refusal 9 (zz_load zz_isI 1) := zo_iload_n (pc := 18) (i := 1) (f := 1) rfl rfl rfl (by decide +kernel)
theorem zk_E_refusal_10 : zr_Ok zM_E_refusal zp_E_refusal 10 (zz_ald 10 3) := zo_aald (pc := 19) rfl rfl (by decide +kernel)
theorem zk_E_refusal_11 : zr_Ok zM_E_refusal zp_E_refusal 11 (zz_call (zz_recv 0) 14 1) := zo_callV (C := RX0) (T := TX0) (N := 12) (idx := 90) (mi := 14) (n := 0) (pc := 20) zg_ok rfl rfl (by decide +kernel) rfl zw_91 (by decide) rfl zw_92 zw_93 zw_94 zw_28 (by decide +kernel)
theorem zk_E_refusal_12 : zr_Ok zM_E_refusal zp_E_refusal 12 (zz_get 3 1) := zo_getf (pc := 23) (idx := 225) (C := RX3) (T := TX3) (N := 12) rfl rfl (by decide +kernel) rfl zin_X3 (by decide) zw_95
theorem zk_E_refusal_13 : zr_Ok zM_E_refusal zp_E_refusal 13 (zz_eq0 13 17 0) := zo_if_eq (pc := 26) (t := 16) (tgt := 34) (off := 8) rfl rfl rfl (by decide +kernel) (by decide)
theorem zk_E_refusal_16 : zr_Ok zM_E_refusal zp_E_refusal 16 (zz_push (.inl 0)) := zo_iconst (pc := 34) (n := 0) (v := 0) rfl rfl (by decide +kernel) (by decide +kernel)
theorem zk_E_refusal_17 : zr_Ok zM_E_refusal zp_E_refusal 17 (zz_ret1 zz_isI) := zo_ireturn (pc := 35) rfl (by decide +kernel) rfl
theorem zk_E_refusal : zr_OkL zM_E_refusal zp_E_refusal 0 zc_E_refusal := ⟨zk_E_refusal_0, zk_E_refusal_1, zk_E_refusal_2, zk_E_refusal_3, zk_E_refusal_4, zk_E_refusal_5, zk_E_refusal_6, zk_E_refusal_7, zk_E_refusal_8, zk_E_refusal_9, zk_E_refusal_10, zk_E_refusal_11, zk_E_refusal_12, zk_E_refusal_13, zo_no, zo_no, zk_E_refusal_16, zk_E_refusal_17, trivial⟩
abbrev zM_E_refusalOfElements : zr_M := (RX7, cX7_refusalOfElements, 6, (some .int), "refusalOfElements")
theorem zk_E_refusalOfElements_0 : zr_Ok zM_E_refusalOfElements zp_E_refusalOfElements 0 (zz_load zz_isA 0) := zo_aload_n (pc := 0) (i := 0) (f := 0) rfl rfl rfl (by decide +kernel)
theorem zk_E_refusalOfElements_1 : zr_Ok zM_E_refusalOfElements zp_E_refusalOfElements 1 (zz_load zz_isI 1) := zo_iload_n (pc := 1) (i := 1) (f := 1) rfl rfl rfl (by decide +kernel)
theorem zk_E_refusalOfElements_2 : zr_Ok zM_E_refusalOfElements zp_E_refusalOfElements 2 (zz_load zz_isI 2) := zo_iload_n (pc := 2) (i := 2) (f := 2) rfl rfl rfl (by decide +kernel)
theorem zk_E_refusalOfElements_3 : zr_Ok zM_E_refusalOfElements zp_E_refusalOfElements 3 (zz_lt0 3 7 0) := zo_if_lt (pc := 3) (t := 6) (tgt := 10) (off := 7) rfl rfl rfl (by decide +kernel) (by decide)
theorem zk_E_refusalOfElements_4 : zr_Ok zM_E_refusalOfElements zp_E_refusalOfElements 4 (zz_load zz_isI 3) := zo_iload_n (pc := 6) (i := 3) (f := 3) rfl rfl rfl (by decide +kernel)
theorem zk_E_refusalOfElements_5 : zr_Ok zM_E_refusalOfElements zp_E_refusalOfElements 5 (zz_lt0 5 0 9) := zo_if_ge (pc := 7) (t := 8) (tgt := 14) (off := 7) rfl rfl rfl (by decide +kernel) (by decide)
theorem zk_E_refusalOfElements_6 : zr_Ok zM_E_refusalOfElements zp_E_refusalOfElements 6 (zz_push (.inl 1)) := zo_iconst (pc := 10) (n := 1) (v := 1) rfl rfl (by decide +kernel) (by decide +kernel)
theorem zk_E_refusalOfElements_7 : zr_Ok zM_E_refusalOfElements zp_E_refusalOfElements 7 (zz_goto 9) := zo_goto (pc := 11) (t := 9) (tgt := 15) (off := 4) rfl rfl (by decide +kernel) (by decide)
theorem zk_E_refusalOfElements_8 : zr_Ok zM_E_refusalOfElements zp_E_refusalOfElements 8 (zz_push (.inl 0)) := zo_iconst (pc := 14) (n := 0) (v := 0) rfl rfl (by decide +kernel) (by decide +kernel)
theorem zk_E_refusalOfElements_9 : zr_Ok zM_E_refusalOfElements zp_E_refusalOfElements 9 (zz_call (zz_recv 5) 20 3) := zo_callV (C := RX7) (T := TX7) (N := 4) (idx := 86) (mi := 20) (n := 2) (pc := 15) zg_ok rfl rfl (by decide +kernel) rfl zw_110 (by decide) rfl zw_111 zw_112 zw_113 zw_38 (by decide +kernel)
theorem zk_E_refusalOfElements_10 : zr_Ok zM_E_refusalOfElements zp_E_refusalOfElements 10 (zz_store zz_isI 4) := zo_istore (pc := 18) (i := 4) rfl rfl (by decide +kernel) (by decide)
theorem zk_E_refusalOfElements_11 : zr_Ok zM_E_refusalOfElements zp_E_refusalOfElements 11 (zz_load zz_isI 4) := zo_iload (pc := 20) (i := 4) rfl rfl (by decide +kernel)
theorem zk_E_refusalOfElements_12 : zr_Ok zM_E_refusalOfElements zp_E_refusalOfElements 12 (zz_eq0 12 16 0) := zo_if_eq (pc := 22) (t := 15) (tgt := 28) (off := 6) rfl rfl rfl (by decide +kernel) (by decide)
theorem zk_E_refusalOfElements_13 : zr_Ok zM_E_refusalOfElements zp_E_refusalOfElements 13 (zz_load zz_isI 4) := zo_iload (pc := 25) (i := 4) rfl rfl (by decide +kernel)
theorem zk_E_refusalOfElements_14 : zr_Ok zM_E_refusalOfElements zp_E_refusalOfElements 14 (zz_ret1 zz_isI) := zo_ireturn (pc := 27) rfl (by decide +kernel) rfl
theorem zk_E_refusalOfElements_15 : zr_Ok zM_E_refusalOfElements zp_E_refusalOfElements 15 (zz_load zz_isA 0) := zo_aload_n (pc := 28) (i := 0) (f := 0) rfl rfl rfl (by decide +kernel)
theorem zk_E_refusalOfElements_16 : zr_Ok zM_E_refusalOfElements zp_E_refusalOfElements 16 (zz_get 5 0) := zo_getf (pc := 29) (idx := 11) (C := RX7) (T := TX7) (N := 4) rfl rfl (by decide +kernel) rfl zin_X7 (by decide) zw_26
theorem zk_E_refusalOfElements_17 : zr_Ok zM_E_refusalOfElements zp_E_refusalOfElements 17 (zz_load zz_isI 1) := zo_iload_n (pc := 32) (i := 1) (f := 1) rfl rfl rfl (by decide +kernel)
theorem zk_E_refusalOfElements_18 : zr_Ok zM_E_refusalOfElements zp_E_refusalOfElements 18 (zz_ald 18 3) := zo_aald (pc := 33) rfl rfl (by decide +kernel)
theorem zk_E_refusalOfElements_19 : zr_Ok zM_E_refusalOfElements zp_E_refusalOfElements 19 (zz_call (zz_recv 0) 14 1) := zo_callV (C := RX0) (T := TX0) (N := 12) (idx := 90) (mi := 14) (n := 0) (pc := 34) zg_ok rfl rfl (by decide +kernel) rfl zw_91 (by decide) rfl zw_92 zw_93 zw_94 zw_28 (by decide +kernel)
theorem zk_E_refusalOfElements_20 : zr_Ok zM_E_refusalOfElements zp_E_refusalOfElements 20 (zz_get 3 0) := zo_getf (pc := 37) (idx := 94) (C := RX3) (T := TX3) (N := 12) rfl rfl (by decide +kernel) rfl zin_X3 (by decide) zw_114
theorem zk_E_refusalOfElements_21 : zr_Ok zM_E_refusalOfElements zp_E_refusalOfElements 21 (zz_store zz_isI 5) := zo_istore (pc := 40) (i := 5) rfl rfl (by decide +kernel) (by decide)
theorem zk_E_refusalOfElements_22 : zr_Ok zM_E_refusalOfElements zp_E_refusalOfElements 22 (zz_load zz_isI 2) := zo_iload_n (pc := 42) (i := 2) (f := 2) rfl rfl rfl (by decide +kernel)
theorem zk_E_refusalOfElements_23 : zr_Ok zM_E_refusalOfElements zp_E_refusalOfElements 23 (zz_load zz_isI 5) := zo_iload (pc := 43) (i := 5) rfl rfl (by decide +kernel)
theorem zk_E_refusalOfElements_24 : zr_Ok zM_E_refusalOfElements zp_E_refusalOfElements 24 (zz_ilt 24 0 31) := zo_icmp_ge (pc := 45) (t := 30) (tgt := 58) (off := 13) rfl rfl rfl (by decide +kernel) (by decide)
theorem zk_E_refusalOfElements_25 : zr_Ok zM_E_refusalOfElements zp_E_refusalOfElements 25 (zz_load zz_isI 3) := zo_iload_n (pc := 48) (i := 3) (f := 3) rfl rfl rfl (by decide +kernel)
theorem zk_E_refusalOfElements_26 : zr_Ok zM_E_refusalOfElements zp_E_refusalOfElements 26 (zz_load zz_isI 5) := zo_iload (pc := 49) (i := 5) rfl rfl (by decide +kernel)
theorem zk_E_refusalOfElements_27 : zr_Ok zM_E_refusalOfElements zp_E_refusalOfElements 27 (zz_ilt 27 0 31) := zo_icmp_ge (pc := 51) (t := 30) (tgt := 58) (off := 7) rfl rfl rfl (by decide +kernel) (by decide)
theorem zk_E_refusalOfElements_28 : zr_Ok zM_E_refusalOfElements zp_E_refusalOfElements 28 (zz_push (.inl 0)) := zo_iconst (pc := 54) (n := 0) (v := 0) rfl rfl (by decide +kernel) (by decide +kernel)
theorem zk_E_refusalOfElements_29 : zr_Ok zM_E_refusalOfElements zp_E_refusalOfElements 29 (zz_goto 31) := zo_goto (pc := 55) (t := 31) (tgt := 60) (off := 5) rfl rfl (by decide +kernel) (by decide)
theorem zk_E_refusalOfElements_30 : zr_Ok zM_E_refusalOfElements zp_E_refusalOfElements 30 (zz_push (.inl 4294967294)) := zo_bipush (pc := 58) (n := -2) (v := 4294967294) rfl rfl (by decide +kernel) (by decide +kernel)
theorem zk_E_refusalOfElements_31 : zr_Ok zM_E_refusalOfElements zp_E_refusalOfElements 31 (zz_ret1 zz_isI) := zo_ireturn (pc := 60) rfl (by decide +kernel) rfl
theorem zk_E_refusalOfElements : zr_OkL zM_E_refusalOfElements zp_E_refusalOfElements 0 zc_E_refusalOfElements := ⟨zk_E_refusalOfElements_0, zk_E_refusalOfElements_1, zk_E_refusalOfElements_2, zk_E_refusalOfElements_3, zk_E_refusalOfElements_4, zk_E_refusalOfElements_5, zk_E_refusalOfElements_6, zk_E_refusalOfElements_7, zk_E_refusalOfElements_8, zk_E_refusalOfElements_9, zk_E_refusalOfElements_10, zk_E_refusalOfElements_11, zk_E_refusalOfElements_12, zk_E_refusalOfElements_13, zk_E_refusalOfElements_14, zk_E_refusalOfElements_15, zk_E_refusalOfElements_16, zk_E_refusalOfElements_17, zk_E_refusalOfElements_18, zk_E_refusalOfElements_19, zk_E_refusalOfElements_20, zk_E_refusalOfElements_21, zk_E_refusalOfElements_22, zk_E_refusalOfElements_23, zk_E_refusalOfElements_24, zk_E_refusalOfElements_25, zk_E_refusalOfElements_26, zk_E_refusalOfElements_27, zk_E_refusalOfElements_28, zk_E_refusalOfElements_29, zk_E_refusalOfElements_30, zk_E_refusalOfElements_31, trivial⟩
abbrev zM_G_mark : zr_M := (RX3, cX3_mark, 3, (some .int), "mark")
theorem zk_G_mark_0 : zr_Ok zM_G_mark zp_G_mark 0 (zz_load zz_isA 0) := zo_aload_n (pc := 0) (i := 0) (f := 0) rfl rfl rfl (by decide +kernel)
theorem zk_G_mark_1 : zr_Ok zM_G_mark zp_G_mark 1 (zz_get 3 10) := zo_getf (pc := 1) (idx := 33) (C := RX3) (T := TX3) (N := 12) rfl rfl (by decide +kernel) rfl zin_X3 (by decide) zw_60
theorem zk_G_mark_2 : zr_Ok zM_G_mark zp_G_mark 2 (zz_load zz_isI 1) := zo_iload_n (pc := 4) (i := 1) (f := 1) rfl rfl rfl (by decide +kernel)
theorem zk_G_mark_3 : zr_Ok zM_G_mark zp_G_mark 3 (zz_ald 3 0) := zo_iald (pc := 5) rfl rfl (by decide +kernel)
theorem zk_G_mark_4 : zr_Ok zM_G_mark zp_G_mark 4 (zz_eq0 4 8 0) := zo_if_eq (pc := 6) (t := 7) (tgt := 11) (off := 5) rfl rfl rfl (by decide +kernel) (by decide)
theorem zk_G_mark_5 : zr_Ok zM_G_mark zp_G_mark 5 (zz_load zz_isI 2) := zo_iload_n (pc := 9) (i := 2) (f := 2) rfl rfl rfl (by decide +kernel)
theorem zk_G_mark_6 : zr_Ok zM_G_mark zp_G_mark 6 (zz_ret1 zz_isI) := zo_ireturn (pc := 10) rfl (by decide +kernel) rfl
theorem zk_G_mark_7 : zr_Ok zM_G_mark zp_G_mark 7 (zz_load zz_isA 0) := zo_aload_n (pc := 11) (i := 0) (f := 0) rfl rfl rfl (by decide +kernel)
theorem zk_G_mark_8 : zr_Ok zM_G_mark zp_G_mark 8 (zz_get 3 10) := zo_getf (pc := 12) (idx := 33) (C := RX3) (T := TX3) (N := 12) rfl rfl (by decide +kernel) rfl zin_X3 (by decide) zw_60
theorem zk_G_mark_9 : zr_Ok zM_G_mark zp_G_mark 9 (zz_load zz_isI 1) := zo_iload_n (pc := 15) (i := 1) (f := 1) rfl rfl rfl (by decide +kernel)
theorem zk_G_mark_10 : zr_Ok zM_G_mark zp_G_mark 10 (zz_push (.inl 1)) := zo_iconst (pc := 16) (n := 1) (v := 1) rfl rfl (by decide +kernel) (by decide +kernel)
theorem zk_G_mark_11 : zr_Ok zM_G_mark zp_G_mark 11 (zz_ast 11 0) := zo_iast (pc := 17) rfl rfl (by decide +kernel)
theorem zk_G_mark_12 : zr_Ok zM_G_mark zp_G_mark 12 (zz_load zz_isA 0) := zo_aload_n (pc := 18) (i := 0) (f := 0) rfl rfl rfl (by decide +kernel)
theorem zk_G_mark_13 : zr_Ok zM_G_mark zp_G_mark 13 (zz_get 3 11) := zo_getf (pc := 19) (idx := 36) (C := RX3) (T := TX3) (N := 12) rfl rfl (by decide +kernel) rfl zin_X3 (by decide) zw_61
theorem zk_G_mark_14 : zr_Ok zM_G_mark zp_G_mark 14 (zz_load zz_isI 2) := zo_iload_n (pc := 22) (i := 2) (f := 2) rfl rfl rfl (by decide +kernel)
theorem zk_G_mark_15 : zr_Ok zM_G_mark zp_G_mark 15 (zz_load zz_isI 1) := zo_iload_n (pc := 23) (i := 1) (f := 1) rfl rfl rfl (by decide +kernel)
theorem zk_G_mark_16 : zr_Ok zM_G_mark zp_G_mark 16 (zz_ast 16 0) := zo_iast (pc := 24) rfl rfl (by decide +kernel)
theorem zk_G_mark_17 : zr_Ok zM_G_mark zp_G_mark 17 (zz_load zz_isI 2) := zo_iload_n (pc := 25) (i := 2) (f := 2) rfl rfl rfl (by decide +kernel)
theorem zk_G_mark_18 : zr_Ok zM_G_mark zp_G_mark 18 (zz_push (.inl 1)) := zo_iconst (pc := 26) (n := 1) (v := 1) rfl rfl (by decide +kernel) (by decide +kernel)
theorem zk_G_mark_19 : zr_Ok zM_G_mark zp_G_mark 19 (zz_bin 19 zz_add) := zo_iadd (pc := 27) rfl rfl (by decide +kernel)
theorem zk_G_mark_20 : zr_Ok zM_G_mark zp_G_mark 20 (zz_ret1 zz_isI) := zo_ireturn (pc := 28) rfl (by decide +kernel) rfl
theorem zk_G_mark : zr_OkL zM_G_mark zp_G_mark 0 zc_G_mark := ⟨zk_G_mark_0, zk_G_mark_1, zk_G_mark_2, zk_G_mark_3, zk_G_mark_4, zk_G_mark_5, zk_G_mark_6, zk_G_mark_7, zk_G_mark_8, zk_G_mark_9, zk_G_mark_10, zk_G_mark_11, zk_G_mark_12, zk_G_mark_13, zk_G_mark_14, zk_G_mark_15, zk_G_mark_16, zk_G_mark_17, zk_G_mark_18, zk_G_mark_19, zk_G_mark_20, trivial⟩
abbrev zM_G_countClasses : zr_M := (RX3, cX3_countClasses, 7, (some .int), "countClasses")
theorem zk_G_countClasses_0 : zr_Ok zM_G_countClasses zp_G_countClasses 0 (zz_load zz_isA 0) := zo_aload_n (pc := 0) (i := 0) (f := 0) rfl rfl rfl (by decide +kernel)
theorem zk_G_countClasses_1 : zr_Ok zM_G_countClasses zp_G_countClasses 1 (zz_get 3 10) := zo_getf (pc := 1) (idx := 33) (C := RX3) (T := TX3) (N := 12) rfl rfl (by decide +kernel) rfl zin_X3 (by decide) zw_60
theorem zk_G_countClasses_2 : zr_Ok zM_G_countClasses zp_G_countClasses 2 (zz_push (.inl 0)) := zo_iconst (pc := 4) (n := 0) (v := 0) rfl rfl (by decide +kernel) (by decide +kernel)
theorem zk_G_countClasses_3 : zr_Ok zM_G_countClasses zp_G_countClasses 3 (zz_call zz_any 0 2) := zo_callS (idx := 43) (mi := 0) (n := 2) (pc := 5) zg_ok rfl rfl (by decide +kernel) rfl zw_3 (by decide) zw_70 zw_6 zw_4 (by decide +kernel)
theorem zk_G_countClasses_4 : zr_Ok zM_G_countClasses zp_G_countClasses 4 (zz_push (.inl 0)) := zo_iconst (pc := 8) (n := 0) (v := 0) rfl rfl (by decide +kernel) (by decide +kernel)
theorem zk_G_countClasses_5 : zr_Ok zM_G_countClasses zp_G_countClasses 5 (zz_store zz_isI 3) := zo_istore_n (pc := 9) (i := 3) (f := 3) rfl rfl rfl (by decide +kernel) (by decide)
theorem zk_G_countClasses_6 : zr_Ok zM_G_countClasses zp_G_countClasses 6 (zz_load zz_isI 1) := zo_iload_n (pc := 10) (i := 1) (f := 1) rfl rfl rfl (by decide +kernel)
theorem zk_G_countClasses_7 : zr_Ok zM_G_countClasses zp_G_countClasses 7 (zz_store zz_isI 4) := zo_istore (pc := 11) (i := 4) rfl rfl (by decide +kernel) (by decide)
theorem zk_G_countClasses_8 : zr_Ok zM_G_countClasses zp_G_countClasses 8 (zz_load zz_isI 4) := zo_iload (pc := 13) (i := 4) rfl rfl (by decide +kernel)
theorem zk_G_countClasses_9 : zr_Ok zM_G_countClasses zp_G_countClasses 9 (zz_load zz_isI 1) := zo_iload_n (pc := 15) (i := 1) (f := 1) rfl rfl rfl (by decide +kernel)
theorem zk_G_countClasses_10 : zr_Ok zM_G_countClasses zp_G_countClasses 10 (zz_load zz_isI 2) := zo_iload_n (pc := 16) (i := 2) (f := 2) rfl rfl rfl (by decide +kernel)
theorem zk_G_countClasses_11 : zr_Ok zM_G_countClasses zp_G_countClasses 11 (zz_bin 11 zz_add) := zo_iadd (pc := 17) rfl rfl (by decide +kernel)
theorem zk_G_countClasses_12 : zr_Ok zM_G_countClasses zp_G_countClasses 12 (zz_ilt 12 0 25) := zo_icmp_ge (pc := 18) (t := 24) (tgt := 44) (off := 26) rfl rfl rfl (by decide +kernel) (by decide)
theorem zk_G_countClasses_13 : zr_Ok zM_G_countClasses zp_G_countClasses 13 (zz_load zz_isI 4) := zo_iload (pc := 21) (i := 4) rfl rfl (by decide +kernel)
theorem zk_G_countClasses_14 : zr_Ok zM_G_countClasses zp_G_countClasses 14 (zz_load zz_isA 0) := zo_aload_n (pc := 23) (i := 0) (f := 0) rfl rfl rfl (by decide +kernel)
theorem zk_G_countClasses_15 : zr_Ok zM_G_countClasses zp_G_countClasses 15 (zz_get 3 0) := zo_getf (pc := 24) (idx := 49) (C := RX3) (T := TX3) (N := 12) rfl rfl (by decide +kernel) rfl zin_X3 (by decide) zw_63
theorem zk_G_countClasses_16 : zr_Ok zM_G_countClasses zp_G_countClasses 16 (zz_ilt 16 0 25) := zo_icmp_ge (pc := 27) (t := 24) (tgt := 44) (off := 17) rfl rfl rfl (by decide +kernel) (by decide)
theorem zk_G_countClasses_17 : zr_Ok zM_G_countClasses zp_G_countClasses 17 (zz_load zz_isA 0) := zo_aload_n (pc := 30) (i := 0) (f := 0) rfl rfl rfl (by decide +kernel)
theorem zk_G_countClasses_18 : zr_Ok zM_G_countClasses zp_G_countClasses 18 (zz_load zz_isI 4) := zo_iload (pc := 31) (i := 4) rfl rfl (by decide +kernel)
theorem zk_G_countClasses_19 : zr_Ok zM_G_countClasses zp_G_countClasses 19 (zz_load zz_isI 3) := zo_iload_n (pc := 33) (i := 3) (f := 3) rfl rfl rfl (by decide +kernel)
theorem zk_G_countClasses_20 : zr_Ok zM_G_countClasses zp_G_countClasses 20 (zz_call (zz_recv 3) 22 3) := zo_callV (C := RX3) (T := TX3) (N := 12) (idx := 84) (mi := 22) (n := 2) (pc := 34) zg_ok rfl rfl (by decide +kernel) rfl zw_115 (by decide) rfl zw_116 zw_117 zw_118 zw_68 (by decide +kernel)
theorem zk_G_countClasses_21 : zr_Ok zM_G_countClasses zp_G_countClasses 21 (zz_store zz_isI 3) := zo_istore_n (pc := 37) (i := 3) (f := 3) rfl rfl rfl (by decide +kernel) (by decide)
theorem zk_G_countClasses_22 : zr_Ok zM_G_countClasses zp_G_countClasses 22 (zz_inc 22 4 1) := zo_iinc (pc := 38) (i := 4) (n2 := 1) (n := 1) rfl rfl (by decide +kernel) (by decide +kernel) (by decide)
theorem zk_G_countClasses_23 : zr_Ok zM_G_countClasses zp_G_countClasses 23 (zz_goto 8) := zo_goto (pc := 41) (t := 8) (tgt := 13) (off := -28) rfl rfl (by decide +kernel) (by decide)
theorem zk_G_countClasses_24 : zr_Ok zM_G_countClasses zp_G_countClasses 24 (zz_push (.inl 0)) := zo_iconst (pc := 44) (n := 0) (v := 0) rfl rfl (by decide +kernel) (by decide +kernel)
theorem zk_G_countClasses_25 : zr_Ok zM_G_countClasses zp_G_countClasses 25 (zz_store zz_isI 4) := zo_istore (pc := 45) (i := 4) rfl rfl (by decide +kernel) (by decide)
theorem zk_G_countClasses_26 : zr_Ok zM_G_countClasses zp_G_countClasses 26 (zz_load zz_isI 4) := zo_iload (pc := 47) (i := 4) rfl rfl (by decide +kernel)
theorem zk_G_countClasses_27 : zr_Ok zM_G_countClasses zp_G_countClasses 27 (zz_load zz_isI 3) := zo_iload_n (pc := 49) (i := 3) (f := 3) rfl rfl rfl (by decide +kernel)
theorem zk_G_countClasses_28 : zr_Ok zM_G_countClasses zp_G_countClasses 28 (zz_ilt 28 0 68) := zo_icmp_ge (pc := 50) (t := 67) (tgt := 125) (off := 75) rfl rfl rfl (by decide +kernel) (by decide)
theorem zk_G_countClasses_29 : zr_Ok zM_G_countClasses zp_G_countClasses 29 (zz_load zz_isI 4) := zo_iload (pc := 53) (i := 4) rfl rfl (by decide +kernel)
theorem zk_G_countClasses_30 : zr_Ok zM_G_countClasses zp_G_countClasses 30 (zz_push (.inl 500)) := zo_sipush (pc := 55) (n := 500) (v := 500) rfl rfl (by decide +kernel) (by decide +kernel)
theorem zk_G_countClasses_31 : zr_Ok zM_G_countClasses zp_G_countClasses 31 (zz_ilt 31 0 68) := zo_icmp_ge (pc := 58) (t := 67) (tgt := 125) (off := 67) rfl rfl rfl (by decide +kernel) (by decide)
theorem zk_G_countClasses_32 : zr_Ok zM_G_countClasses zp_G_countClasses 32 (zz_push (.inl 0)) := zo_iconst (pc := 61) (n := 0) (v := 0) rfl rfl (by decide +kernel) (by decide +kernel)
theorem zk_G_countClasses_33 : zr_Ok zM_G_countClasses zp_G_countClasses 33 (zz_store zz_isI 5) := zo_istore (pc := 62) (i := 5) rfl rfl (by decide +kernel) (by decide)
theorem zk_G_countClasses_34 : zr_Ok zM_G_countClasses zp_G_countClasses 34 (zz_load zz_isI 5) := zo_iload (pc := 64) (i := 5) rfl rfl (by decide +kernel)
theorem zk_G_countClasses_35 : zr_Ok zM_G_countClasses zp_G_countClasses 35 (zz_load zz_isA 0) := zo_aload_n (pc := 66) (i := 0) (f := 0) rfl rfl rfl (by decide +kernel)
theorem zk_G_countClasses_36 : zr_Ok zM_G_countClasses zp_G_countClasses 36 (zz_get 3 2) := zo_getf (pc := 67) (idx := 39) (C := RX3) (T := TX3) (N := 12) rfl rfl (by decide +kernel) rfl zin_X3 (by decide) zw_62
theorem zk_G_countClasses_37 : zr_Ok zM_G_countClasses zp_G_countClasses 37 (zz_get 2 0) := zo_getf (pc := 70) (idx := 57) (C := RX2) (T := TX2) (N := 4) rfl rfl (by decide +kernel) rfl zin_X2 (by decide) zw_69
theorem zk_G_countClasses_38 : zr_Ok zM_G_countClasses zp_G_countClasses 38 (zz_ilt 38 0 66) := zo_icmp_ge (pc := 73) (t := 65) (tgt := 119) (off := 46) rfl rfl rfl (by decide +kernel) (by decide)
theorem zk_G_countClasses_39 : zr_Ok zM_G_countClasses zp_G_countClasses 39 (zz_load zz_isA 0) := zo_aload_n (pc := 76) (i := 0) (f := 0) rfl rfl rfl (by decide +kernel)
theorem zk_G_countClasses_40 : zr_Ok zM_G_countClasses zp_G_countClasses 40 (zz_get 3 9) := zo_getf (pc := 77) (idx := 30) (C := RX3) (T := TX3) (N := 12) rfl rfl (by decide +kernel) rfl zin_X3 (by decide) zw_59
theorem zk_G_countClasses_41 : zr_Ok zM_G_countClasses zp_G_countClasses 41 (zz_load zz_isA 0) := zo_aload_n (pc := 80) (i := 0) (f := 0) rfl rfl rfl (by decide +kernel)
theorem zk_G_countClasses_42 : zr_Ok zM_G_countClasses zp_G_countClasses 42 (zz_get 3 11) := zo_getf (pc := 81) (idx := 36) (C := RX3) (T := TX3) (N := 12) rfl rfl (by decide +kernel) rfl zin_X3 (by decide) zw_61
theorem zk_G_countClasses_43 : zr_Ok zM_G_countClasses zp_G_countClasses 43 (zz_load zz_isI 4) := zo_iload (pc := 84) (i := 4) rfl rfl (by decide +kernel)
theorem zk_G_countClasses_44 : zr_Ok zM_G_countClasses zp_G_countClasses 44 (zz_ald 44 0) := zo_iald (pc := 86) rfl rfl (by decide +kernel)
theorem zk_G_countClasses_45 : zr_Ok zM_G_countClasses zp_G_countClasses 45 (zz_push (.inl 4)) := zo_iconst (pc := 87) (n := 4) (v := 4) rfl rfl (by decide +kernel) (by decide +kernel)
theorem zk_G_countClasses_46 : zr_Ok zM_G_countClasses zp_G_countClasses 46 (zz_bin 46 zz_mul) := zo_imul (pc := 88) rfl rfl (by decide +kernel)
theorem zk_G_countClasses_47 : zr_Ok zM_G_countClasses zp_G_countClasses 47 (zz_load zz_isI 5) := zo_iload (pc := 89) (i := 5) rfl rfl (by decide +kernel)
theorem zk_G_countClasses_48 : zr_Ok zM_G_countClasses zp_G_countClasses 48 (zz_bin 48 zz_add) := zo_iadd (pc := 91) rfl rfl (by decide +kernel)
theorem zk_G_countClasses_49 : zr_Ok zM_G_countClasses zp_G_countClasses 49 (zz_ald 49 0) := zo_iald (pc := 92) rfl rfl (by decide +kernel)
theorem zk_G_countClasses_50 : zr_Ok zM_G_countClasses zp_G_countClasses 50 (zz_store zz_isI 6) := zo_istore (pc := 93) (i := 6) rfl rfl (by decide +kernel) (by decide)
theorem zk_G_countClasses_51 : zr_Ok zM_G_countClasses zp_G_countClasses 51 (zz_load zz_isA 0) := zo_aload_n (pc := 95) (i := 0) (f := 0) rfl rfl rfl (by decide +kernel)
theorem zk_G_countClasses_52 : zr_Ok zM_G_countClasses zp_G_countClasses 52 (zz_load zz_isA 0) := zo_aload_n (pc := 96) (i := 0) (f := 0) rfl rfl rfl (by decide +kernel)
theorem zk_G_countClasses_53 : zr_Ok zM_G_countClasses zp_G_countClasses 53 (zz_get 3 8) := zo_getf (pc := 97) (idx := 27) (C := RX3) (T := TX3) (N := 12) rfl rfl (by decide +kernel) rfl zin_X3 (by decide) zw_58
theorem zk_G_countClasses_54 : zr_Ok zM_G_countClasses zp_G_countClasses 54 (zz_load zz_isI 6) := zo_iload (pc := 100) (i := 6) rfl rfl (by decide +kernel)
theorem zk_G_countClasses_55 : zr_Ok zM_G_countClasses zp_G_countClasses 55 (zz_push (.inl 4)) := zo_iconst (pc := 102) (n := 4) (v := 4) rfl rfl (by decide +kernel) (by decide +kernel)
theorem zk_G_countClasses_56 : zr_Ok zM_G_countClasses zp_G_countClasses 56 (zz_bin 56 zz_mul) := zo_imul (pc := 103) rfl rfl (by decide +kernel)
theorem zk_G_countClasses_57 : zr_Ok zM_G_countClasses zp_G_countClasses 57 (zz_load zz_isI 5) := zo_iload (pc := 104) (i := 5) rfl rfl (by decide +kernel)
theorem zk_G_countClasses_58 : zr_Ok zM_G_countClasses zp_G_countClasses 58 (zz_bin 58 zz_add) := zo_iadd (pc := 106) rfl rfl (by decide +kernel)
theorem zk_G_countClasses_59 : zr_Ok zM_G_countClasses zp_G_countClasses 59 (zz_ald 59 0) := zo_iald (pc := 107) rfl rfl (by decide +kernel)
theorem zk_G_countClasses_60 : zr_Ok zM_G_countClasses zp_G_countClasses 60 (zz_load zz_isI 3) := zo_iload_n (pc := 108) (i := 3) (f := 3) rfl rfl rfl (by decide +kernel)
theorem zk_G_countClasses_61 : zr_Ok zM_G_countClasses zp_G_countClasses 61 (zz_call (zz_recv 3) 22 3) := zo_callV (C := RX3) (T := TX3) (N := 12) (idx := 84) (mi := 22) (n := 2) (pc := 109) zg_ok rfl rfl (by decide +kernel) rfl zw_115 (by decide) rfl zw_116 zw_117 zw_118 zw_68 (by decide +kernel)
theorem zk_G_countClasses_62 : zr_Ok zM_G_countClasses zp_G_countClasses 62 (zz_store zz_isI 3) := zo_istore_n (pc := 112) (i := 3) (f := 3) rfl rfl rfl (by decide +kernel) (by decide)
theorem zk_G_countClasses_63 : zr_Ok zM_G_countClasses zp_G_countClasses 63 (zz_inc 63 5 1) := zo_iinc (pc := 113) (i := 5) (n2 := 1) (n := 1) rfl rfl (by decide +kernel) (by decide +kernel) (by decide)
theorem zk_G_countClasses_64 : zr_Ok zM_G_countClasses zp_G_countClasses 64 (zz_goto 34) := zo_goto (pc := 116) (t := 34) (tgt := 64) (off := -52) rfl rfl (by decide +kernel) (by decide)
theorem zk_G_countClasses_65 : zr_Ok zM_G_countClasses zp_G_countClasses 65 (zz_inc 65 4 1) := zo_iinc (pc := 119) (i := 4) (n2 := 1) (n := 1) rfl rfl (by decide +kernel) (by decide +kernel) (by decide)
theorem zk_G_countClasses_66 : zr_Ok zM_G_countClasses zp_G_countClasses 66 (zz_goto 26) := zo_goto (pc := 122) (t := 26) (tgt := 47) (off := -75) rfl rfl (by decide +kernel) (by decide)
theorem zk_G_countClasses_67 : zr_Ok zM_G_countClasses zp_G_countClasses 67 (zz_load zz_isI 3) := zo_iload_n (pc := 125) (i := 3) (f := 3) rfl rfl rfl (by decide +kernel)
theorem zk_G_countClasses_68 : zr_Ok zM_G_countClasses zp_G_countClasses 68 (zz_ret1 zz_isI) := zo_ireturn (pc := 126) rfl (by decide +kernel) rfl
theorem zk_G_countClasses : zr_OkL zM_G_countClasses zp_G_countClasses 0 zc_G_countClasses := ⟨zk_G_countClasses_0, zk_G_countClasses_1, zk_G_countClasses_2, zk_G_countClasses_3, zk_G_countClasses_4, zk_G_countClasses_5, zk_G_countClasses_6, zk_G_countClasses_7, zk_G_countClasses_8, zk_G_countClasses_9, zk_G_countClasses_10, zk_G_countClasses_11, zk_G_countClasses_12, zk_G_countClasses_13, zk_G_countClasses_14, zk_G_countClasses_15, zk_G_countClasses_16, zk_G_countClasses_17, zk_G_countClasses_18, zk_G_countClasses_19, zk_G_countClasses_20, zk_G_countClasses_21, zk_G_countClasses_22, zk_G_countClasses_23, zk_G_countClasses_24, zk_G_countClasses_25, zk_G_countClasses_26, zk_G_countClasses_27, zk_G_countClasses_28, zk_G_countClasses_29, zk_G_countClasses_30, zk_G_countClasses_31, zk_G_countClasses_32, zk_G_countClasses_33, zk_G_countClasses_34, zk_G_countClasses_35, zk_G_countClasses_36, zk_G_countClasses_37, zk_G_countClasses_38, zk_G_countClasses_39, zk_G_countClasses_40, zk_G_countClasses_41, zk_G_countClasses_42, zk_G_countClasses_43, zk_G_countClasses_44, zk_G_countClasses_45, zk_G_countClasses_46, zk_G_countClasses_47, zk_G_countClasses_48, zk_G_countClasses_49, zk_G_countClasses_50, zk_G_countClasses_51, zk_G_countClasses_52, zk_G_countClasses_53, zk_G_countClasses_54, zk_G_countClasses_55, zk_G_countClasses_56, zk_G_countClasses_57, zk_G_countClasses_58, zk_G_countClasses_59, zk_G_countClasses_60, zk_G_countClasses_61, zk_G_countClasses_62, zk_G_countClasses_63, zk_G_countClasses_64, zk_G_countClasses_65, zk_G_countClasses_66, zk_G_countClasses_67, zk_G_countClasses_68, trivial⟩
abbrev zM_E_classSize : zr_M := (RX7, cX7_classSize, 4, (some .int), "classSize")
theorem zk_E_classSize_0 : zr_Ok zM_E_classSize zp_E_classSize 0 (zz_load zz_isA 0) := zo_aload_n (pc := 0) (i := 0) (f := 0) rfl rfl rfl (by decide +kernel)
theorem zk_E_classSize_1 : zr_Ok zM_E_classSize zp_E_classSize 1 (zz_load zz_isI 1) := zo_iload_n (pc := 1) (i := 1) (f := 1) rfl rfl rfl (by decide +kernel)
theorem zk_E_classSize_2 : zr_Ok zM_E_classSize zp_E_classSize 2 (zz_load zz_isI 2) := zo_iload_n (pc := 2) (i := 2) (f := 2) rfl rfl rfl (by decide +kernel)
theorem zk_E_classSize_3 : zr_Ok zM_E_classSize zp_E_classSize 3 (zz_load zz_isI 2) := zo_iload_n (pc := 3) (i := 2) (f := 2) rfl rfl rfl (by decide +kernel)
theorem zk_E_classSize_4 : zr_Ok zM_E_classSize zp_E_classSize 4 (zz_call (zz_recv 5) 21 4) := zo_callV (C := RX7) (T := TX7) (N := 4) (idx := 99) (mi := 21) (n := 3) (pc := 4) zg_ok rfl rfl (by decide +kernel) rfl zw_119 (by decide) rfl zw_120 zw_121 zw_122 zw_38 (by decide +kernel)
theorem zk_E_classSize_5 : zr_Ok zM_E_classSize zp_E_classSize 5 (zz_store zz_isI 3) := zo_istore_n (pc := 7) (i := 3) (f := 3) rfl rfl rfl (by decide +kernel) (by decide)
theorem zk_E_classSize_6 : zr_Ok zM_E_classSize zp_E_classSize 6 (zz_load zz_isI 3) := zo_iload_n (pc := 8) (i := 3) (f := 3) rfl rfl rfl (by decide +kernel)
theorem zk_E_classSize_7 : zr_Ok zM_E_classSize zp_E_classSize 7 (zz_eq0 7 11 0) := zo_if_eq (pc := 9) (t := 10) (tgt := 16) (off := 7) rfl rfl rfl (by decide +kernel) (by decide)
theorem zk_E_classSize_8 : zr_Ok zM_E_classSize zp_E_classSize 8 (zz_load zz_isI 3) := zo_iload_n (pc := 12) (i := 3) (f := 3) rfl rfl rfl (by decide +kernel)
theorem zk_E_classSize_9 : zr_Ok zM_E_classSize zp_E_classSize 9 (zz_goto 18) := zo_goto (pc := 13) (t := 18) (tgt := 30) (off := 17) rfl rfl (by decide +kernel) (by decide)
theorem zk_E_classSize_10 : zr_Ok zM_E_classSize zp_E_classSize 10 (zz_load zz_isA 0) := zo_aload_n (pc := 16) (i := 0) (f := 0) rfl rfl rfl (by decide +kernel)
theorem zk_E_classSize_11 : zr_Ok zM_E_classSize zp_E_classSize 11 (zz_get 5 0) := zo_getf (pc := 17) (idx := 11) (C := RX7) (T := TX7) (N := 4) rfl rfl (by decide +kernel) rfl zin_X7 (by decide) zw_26
theorem zk_E_classSize_12 : zr_Ok zM_E_classSize zp_E_classSize 12 (zz_load zz_isI 1) := zo_iload_n (pc := 20) (i := 1) (f := 1) rfl rfl rfl (by decide +kernel)
theorem zk_E_classSize_13 : zr_Ok zM_E_classSize zp_E_classSize 13 (zz_ald 13 3) := zo_aald (pc := 21) rfl rfl (by decide +kernel)
theorem zk_E_classSize_14 : zr_Ok zM_E_classSize zp_E_classSize 14 (zz_call (zz_recv 0) 14 1) := zo_callV (C := RX0) (T := TX0) (N := 12) (idx := 90) (mi := 14) (n := 0) (pc := 22) zg_ok rfl rfl (by decide +kernel) rfl zw_91 (by decide) rfl zw_92 zw_93 zw_94 zw_28 (by decide +kernel)
theorem zk_E_classSize_15 : zr_Ok zM_E_classSize zp_E_classSize 15 (zz_load zz_isI 2) := zo_iload_n (pc := 25) (i := 2) (f := 2) rfl rfl rfl (by decide +kernel)
theorem zk_E_classSize_16 : zr_Ok zM_E_classSize zp_E_classSize 16 (zz_push (.inl 1)) := zo_iconst (pc := 26) (n := 1) (v := 1) rfl rfl (by decide +kernel) (by decide +kernel)
theorem zk_E_classSize_17 : zr_Ok zM_E_classSize zp_E_classSize 17 (zz_call (zz_recv 3) 23 3) := zo_callV (C := RX3) (T := TX3) (N := 12) (idx := 124) (mi := 23) (n := 2) (pc := 27) zg_ok rfl rfl (by decide +kernel) rfl zw_123 (by decide) rfl zw_124 zw_125 zw_126 zw_68 (by decide +kernel)
theorem zk_E_classSize_18 : zr_Ok zM_E_classSize zp_E_classSize 18 (zz_ret1 zz_isI) := zo_ireturn (pc := 30) rfl (by decide +kernel) rfl
theorem zk_E_classSize : zr_OkL zM_E_classSize zp_E_classSize 0 zc_E_classSize := ⟨zk_E_classSize_0, zk_E_classSize_1, zk_E_classSize_2, zk_E_classSize_3, zk_E_classSize_4, zk_E_classSize_5, zk_E_classSize_6, zk_E_classSize_7, zk_E_classSize_8, zk_E_classSize_9, zk_E_classSize_10, zk_E_classSize_11, zk_E_classSize_12, zk_E_classSize_13, zk_E_classSize_14, zk_E_classSize_15, zk_E_classSize_16, zk_E_classSize_17, zk_E_classSize_18, trivial⟩
abbrev zM_P_init : zr_M := (RX4, cX4_init, 3, none, "<init>")
theorem zk_P_init_0 : zr_Ok zM_P_init zp_P_init 0 (zz_load zz_isA 0) := zo_aload_n (pc := 0) (i := 0) (f := 0) rfl rfl rfl (by decide +kernel)
theorem zk_P_init_1 : zr_Ok zM_P_init zp_P_init 1 (zz_obj) := zo_obj (pc := 1) (idx := 3) rfl rfl (by decide +kernel) zw_127 zw_9 zw_10
theorem zk_P_init_2 : zr_Ok zM_P_init zp_P_init 2 (zz_load zz_isA 0) := zo_aload_n (pc := 4) (i := 0) (f := 0) rfl rfl rfl (by decide +kernel)
theorem zk_P_init_3 : zr_Ok zM_P_init zp_P_init 3 (zz_push (.inl 8000)) := zo_sipush (pc := 5) (n := 8000) (v := 8000) rfl rfl (by decide +kernel) (by decide +kernel)
theorem zk_P_init_4 : zr_Ok zM_P_init zp_P_init 4 (zz_newa 0) := zo_newi (pc := 8) rfl rfl (by decide +kernel) zw_11
theorem zk_P_init_5 : zr_Ok zM_P_init zp_P_init 5 (zz_putf 4 2 2) := zo_putF (pc := 10) (idx := 9) (C := RX4) (T := TX4) (N := 5) (ty0 := tyX4) rfl rfl (by decide +kernel) rfl zin_X4 tyX4_ok nmX4 (by decide) zw_128 rfl (Or.inr ⟨_, rfl⟩) rfl rfl
theorem zk_P_init_6 : zr_Ok zM_P_init zp_P_init 6 (zz_load zz_isA 0) := zo_aload_n (pc := 13) (i := 0) (f := 0) rfl rfl rfl (by decide +kernel)
theorem zk_P_init_7 : zr_Ok zM_P_init zp_P_init 7 (zz_push (.inl 16)) := zo_bipush (pc := 14) (n := 16) (v := 16) rfl rfl (by decide +kernel) (by decide +kernel)
theorem zk_P_init_8 : zr_Ok zM_P_init zp_P_init 8 (zz_newa 0) := zo_newi (pc := 16) rfl rfl (by decide +kernel) zw_11
theorem zk_P_init_9 : zr_Ok zM_P_init zp_P_init 9 (zz_putf 4 3 2) := zo_putF (pc := 18) (idx := 15) (C := RX4) (T := TX4) (N := 5) (ty0 := tyX4) rfl rfl (by decide +kernel) rfl zin_X4 tyX4_ok nmX4 (by decide) zw_129 rfl (Or.inr ⟨_, rfl⟩) rfl rfl
theorem zk_P_init_10 : zr_Ok zM_P_init zp_P_init 10 (zz_load zz_isA 0) := zo_aload_n (pc := 21) (i := 0) (f := 0) rfl rfl rfl (by decide +kernel)
theorem zk_P_init_11 : zr_Ok zM_P_init zp_P_init 11 (zz_push (.inl 500)) := zo_sipush (pc := 22) (n := 500) (v := 500) rfl rfl (by decide +kernel) (by decide +kernel)
theorem zk_P_init_12 : zr_Ok zM_P_init zp_P_init 12 (zz_newa 0) := zo_newi (pc := 25) rfl rfl (by decide +kernel) zw_11
theorem zk_P_init_13 : zr_Ok zM_P_init zp_P_init 13 (zz_putf 4 4 2) := zo_putF (pc := 27) (idx := 18) (C := RX4) (T := TX4) (N := 5) (ty0 := tyX4) rfl rfl (by decide +kernel) rfl zin_X4 tyX4_ok nmX4 (by decide) zw_130 rfl (Or.inr ⟨_, rfl⟩) rfl rfl
theorem zk_P_init_14 : zr_Ok zM_P_init zp_P_init 14 (zz_load zz_isA 0) := zo_aload_n (pc := 30) (i := 0) (f := 0) rfl rfl rfl (by decide +kernel)
theorem zk_P_init_15 : zr_Ok zM_P_init zp_P_init 15 (zz_load zz_isA 1) := zo_aload_n (pc := 31) (i := 1) (f := 1) rfl rfl rfl (by decide +kernel)
theorem zk_P_init_16 : zr_Ok zM_P_init zp_P_init 16 (zz_putf 4 0 2) := zo_putF (pc := 32) (idx := 21) (C := RX4) (T := TX4) (N := 5) (ty0 := tyX4) rfl rfl (by decide +kernel) rfl zin_X4 tyX4_ok nmX4 (by decide) zw_131 rfl (Or.inl ⟨_, rfl⟩) rfl rfl
theorem zk_P_init_17 : zr_Ok zM_P_init zp_P_init 17 (zz_load zz_isA 0) := zo_aload_n (pc := 35) (i := 0) (f := 0) rfl rfl rfl (by decide +kernel)
theorem zk_P_init_18 : zr_Ok zM_P_init zp_P_init 18 (zz_load zz_isA 2) := zo_aload_n (pc := 36) (i := 2) (f := 2) rfl rfl rfl (by decide +kernel)
theorem zk_P_init_19 : zr_Ok zM_P_init zp_P_init 19 (zz_putf 4 1 2) := zo_putF (pc := 37) (idx := 25) (C := RX4) (T := TX4) (N := 5) (ty0 := tyX4) rfl rfl (by decide +kernel) rfl zin_X4 tyX4_ok nmX4 (by decide) zw_132 rfl (Or.inl ⟨_, rfl⟩) rfl rfl
theorem zk_P_init_20 : zr_Ok zM_P_init zp_P_init 20 (zz_ret0) := zo_return (pc := 40) rfl (by decide +kernel) rfl
theorem zk_P_init : zr_OkL zM_P_init zp_P_init 0 zc_P_init := ⟨zk_P_init_0, zk_P_init_1, zk_P_init_2, zk_P_init_3, zk_P_init_4, zk_P_init_5, zk_P_init_6, zk_P_init_7, zk_P_init_8, zk_P_init_9, zk_P_init_10, zk_P_init_11, zk_P_init_12, zk_P_init_13, zk_P_init_14, zk_P_init_15, zk_P_init_16, zk_P_init_17, zk_P_init_18, zk_P_init_19, zk_P_init_20, trivial⟩
abbrev zM_P_begin : zr_M := (RX4, cX4_begin, 1, none, "begin")
theorem zk_P_begin_0 : zr_Ok zM_P_begin zp_P_begin 0 (zz_load zz_isA 0) := zo_aload_n (pc := 0) (i := 0) (f := 0) rfl rfl rfl (by decide +kernel)
theorem zk_P_begin_1 : zr_Ok zM_P_begin zp_P_begin 1 (zz_get 4 3) := zo_getf (pc := 1) (idx := 15) (C := RX4) (T := TX4) (N := 5) rfl rfl (by decide +kernel) rfl zin_X4 (by decide) zw_129
theorem zk_P_begin_2 : zr_Ok zM_P_begin zp_P_begin 2 (zz_push (.inl 0)) := zo_iconst (pc := 4) (n := 0) (v := 0) rfl rfl (by decide +kernel) (by decide +kernel)
theorem zk_P_begin_3 : zr_Ok zM_P_begin zp_P_begin 3 (zz_call zz_any 0 2) := zo_callS (idx := 29) (mi := 0) (n := 2) (pc := 5) zg_ok rfl rfl (by decide +kernel) rfl zw_3 (by decide) zw_133 zw_6 zw_4 (by decide +kernel)
theorem zk_P_begin_4 : zr_Ok zM_P_begin zp_P_begin 4 (zz_ret0) := zo_return (pc := 8) rfl (by decide +kernel) rfl
theorem zk_P_begin : zr_OkL zM_P_begin zp_P_begin 0 zc_P_begin := ⟨zk_P_begin_0, zk_P_begin_1, zk_P_begin_2, zk_P_begin_3, zk_P_begin_4, trivial⟩
abbrev zM_D_joinedToAny : zr_M := (RX2, cX2_joinedToAny, 4, (some .int), "joinedToAny")
theorem zk_D_joinedToAny_0 : zr_Ok zM_D_joinedToAny zp_D_joinedToAny 0 (zz_push (.inl 0)) := zo_iconst (pc := 0) (n := 0) (v := 0) rfl rfl (by decide +kernel) (by decide +kernel)
theorem zk_D_joinedToAny_1 : zr_Ok zM_D_joinedToAny zp_D_joinedToAny 1 (zz_store zz_isI 2) := zo_istore_n (pc := 1) (i := 2) (f := 2) rfl rfl rfl (by decide +kernel) (by decide)
theorem zk_D_joinedToAny_2 : zr_Ok zM_D_joinedToAny zp_D_joinedToAny 2 (zz_push (.inl 0)) := zo_iconst (pc := 2) (n := 0) (v := 0) rfl rfl (by decide +kernel) (by decide +kernel)
theorem zk_D_joinedToAny_3 : zr_Ok zM_D_joinedToAny zp_D_joinedToAny 3 (zz_store zz_isI 3) := zo_istore_n (pc := 3) (i := 3) (f := 3) rfl rfl rfl (by decide +kernel) (by decide)
theorem zk_D_joinedToAny_4 : zr_Ok zM_D_joinedToAny zp_D_joinedToAny 4 (zz_load zz_isI 3) := zo_iload_n (pc := 4) (i := 3) (f := 3) rfl rfl rfl (by decide +kernel)
theorem zk_D_joinedToAny_5 : zr_Ok zM_D_joinedToAny zp_D_joinedToAny 5 (zz_load zz_isA 0) := zo_aload_n (pc := 5) (i := 0) (f := 0) rfl rfl rfl (by decide +kernel)
theorem zk_D_joinedToAny_6 : zr_Ok zM_D_joinedToAny zp_D_joinedToAny 6 (zz_get 2 0) := zo_getf (pc := 6) (idx := 22) (C := RX2) (T := TX2) (N := 4) rfl rfl (by decide +kernel) rfl zin_X2 (by decide) zw_0
theorem zk_D_joinedToAny_7 : zr_Ok zM_D_joinedToAny zp_D_joinedToAny 7 (zz_ilt 7 0 24) := zo_icmp_ge (pc := 9) (t := 23) (tgt := 35) (off := 26) rfl rfl rfl (by decide +kernel) (by decide)
theorem zk_D_joinedToAny_8 : zr_Ok zM_D_joinedToAny zp_D_joinedToAny 8 (zz_load zz_isI 1) := zo_iload_n (pc := 12) (i := 1) (f := 1) rfl rfl rfl (by decide +kernel)
theorem zk_D_joinedToAny_9 : zr_Ok zM_D_joinedToAny zp_D_joinedToAny 9 (zz_load zz_isI 3) := zo_iload_n (pc := 13) (i := 3) (f := 3) rfl rfl rfl (by decide +kernel)
theorem zk_D_joinedToAny_10 : zr_Ok zM_D_joinedToAny zp_D_joinedToAny 10 (zz_bin 10 zz_shr) := zo_ishr (pc := 14) rfl rfl (by decide +kernel)
theorem zk_D_joinedToAny_11 : zr_Ok zM_D_joinedToAny zp_D_joinedToAny 11 (zz_push (.inl 1)) := zo_iconst (pc := 15) (n := 1) (v := 1) rfl rfl (by decide +kernel) (by decide +kernel)
theorem zk_D_joinedToAny_12 : zr_Ok zM_D_joinedToAny zp_D_joinedToAny 12 (zz_bin 12 zz_and) := zo_iand (pc := 16) rfl rfl (by decide +kernel)
theorem zk_D_joinedToAny_13 : zr_Ok zM_D_joinedToAny zp_D_joinedToAny 13 (zz_eq0 13 22 0) := zo_if_eq (pc := 17) (t := 21) (tgt := 29) (off := 12) rfl rfl rfl (by decide +kernel) (by decide)
theorem zk_D_joinedToAny_14 : zr_Ok zM_D_joinedToAny zp_D_joinedToAny 14 (zz_load zz_isI 2) := zo_iload_n (pc := 20) (i := 2) (f := 2) rfl rfl rfl (by decide +kernel)
theorem zk_D_joinedToAny_15 : zr_Ok zM_D_joinedToAny zp_D_joinedToAny 15 (zz_load zz_isA 0) := zo_aload_n (pc := 21) (i := 0) (f := 0) rfl rfl rfl (by decide +kernel)
theorem zk_D_joinedToAny_16 : zr_Ok zM_D_joinedToAny zp_D_joinedToAny 16 (zz_get 2 3) := zo_getf (pc := 22) (idx := 15) (C := RX2) (T := TX2) (N := 4) rfl rfl (by decide +kernel) rfl zin_X2 (by decide) zw_7
theorem zk_D_joinedToAny_17 : zr_Ok zM_D_joinedToAny zp_D_joinedToAny 17 (zz_load zz_isI 3) := zo_iload_n (pc := 25) (i := 3) (f := 3) rfl rfl rfl (by decide +kernel)
theorem zk_D_joinedToAny_18 : zr_Ok zM_D_joinedToAny zp_D_joinedToAny 18 (zz_ald 18 0) := zo_iald (pc := 26) rfl rfl (by decide +kernel)
theorem zk_D_joinedToAny_19 : zr_Ok zM_D_joinedToAny zp_D_joinedToAny 19 (zz_bin 19 zz_or) := zo_ior (pc := 27) rfl rfl (by decide +kernel)
theorem zk_D_joinedToAny_20 : zr_Ok zM_D_joinedToAny zp_D_joinedToAny 20 (zz_store zz_isI 2) := zo_istore_n (pc := 28) (i := 2) (f := 2) rfl rfl rfl (by decide +kernel) (by decide)
theorem zk_D_joinedToAny_21 : zr_Ok zM_D_joinedToAny zp_D_joinedToAny 21 (zz_inc 21 3 1) := zo_iinc (pc := 29) (i := 3) (n2 := 1) (n := 1) rfl rfl (by decide +kernel) (by decide +kernel) (by decide)
theorem zk_D_joinedToAny_22 : zr_Ok zM_D_joinedToAny zp_D_joinedToAny 22 (zz_goto 4) := zo_goto (pc := 32) (t := 4) (tgt := 4) (off := -28) rfl rfl (by decide +kernel) (by decide)
theorem zk_D_joinedToAny_23 : zr_Ok zM_D_joinedToAny zp_D_joinedToAny 23 (zz_load zz_isI 2) := zo_iload_n (pc := 35) (i := 2) (f := 2) rfl rfl rfl (by decide +kernel)
theorem zk_D_joinedToAny_24 : zr_Ok zM_D_joinedToAny zp_D_joinedToAny 24 (zz_ret1 zz_isI) := zo_ireturn (pc := 36) rfl (by decide +kernel) rfl
theorem zk_D_joinedToAny : zr_OkL zM_D_joinedToAny zp_D_joinedToAny 0 zc_D_joinedToAny := ⟨zk_D_joinedToAny_0, zk_D_joinedToAny_1, zk_D_joinedToAny_2, zk_D_joinedToAny_3, zk_D_joinedToAny_4, zk_D_joinedToAny_5, zk_D_joinedToAny_6, zk_D_joinedToAny_7, zk_D_joinedToAny_8, zk_D_joinedToAny_9, zk_D_joinedToAny_10, zk_D_joinedToAny_11, zk_D_joinedToAny_12, zk_D_joinedToAny_13, zk_D_joinedToAny_14, zk_D_joinedToAny_15, zk_D_joinedToAny_16, zk_D_joinedToAny_17, zk_D_joinedToAny_18, zk_D_joinedToAny_19, zk_D_joinedToAny_20, zk_D_joinedToAny_21, zk_D_joinedToAny_22, zk_D_joinedToAny_23, zk_D_joinedToAny_24, trivial⟩
abbrev zM_D_sets : zr_M := (RX2, cX2_sets, 1, (some .int), "sets")
theorem zk_D_sets_0 : zr_Ok zM_D_sets zp_D_sets 0 (zz_push (.inl 1)) := zo_iconst (pc := 0) (n := 1) (v := 1) rfl rfl (by decide +kernel) (by decide +kernel)
theorem zk_D_sets_1 : zr_Ok zM_D_sets zp_D_sets 1 (zz_load zz_isA 0) := zo_aload_n (pc := 1) (i := 0) (f := 0) rfl rfl rfl (by decide +kernel)
theorem zk_D_sets_2 : zr_Ok zM_D_sets zp_D_sets 2 (zz_get 2 0) := zo_getf (pc := 2) (idx := 22) (C := RX2) (T := TX2) (N := 4) rfl rfl (by decide +kernel) rfl zin_X2 (by decide) zw_0
theorem zk_D_sets_3 : zr_Ok zM_D_sets zp_D_sets 3 (zz_bin 3 zz_shl) := zo_ishl (pc := 5) rfl rfl (by decide +kernel)
theorem zk_D_sets_4 : zr_Ok zM_D_sets zp_D_sets 4 (zz_ret1 zz_isI) := zo_ireturn (pc := 6) rfl (by decide +kernel) rfl
theorem zk_D_sets : zr_OkL zM_D_sets zp_D_sets 0 zc_D_sets := ⟨zk_D_sets_0, zk_D_sets_1, zk_D_sets_2, zk_D_sets_3, zk_D_sets_4, trivial⟩
abbrev zM_D_stayOf : zr_M := (RX2, cX2_stayOf, 3, (some .int), "stayOf")
theorem zk_D_stayOf_0 : zr_Ok zM_D_stayOf zp_D_stayOf 0 (zz_load zz_isI 1) := zo_iload_n (pc := 0) (i := 1) (f := 1) rfl rfl rfl (by decide +kernel)
theorem zk_D_stayOf_1 : zr_Ok zM_D_stayOf zp_D_stayOf 1 (zz_load zz_isA 0) := zo_aload_n (pc := 1) (i := 0) (f := 0) rfl rfl rfl (by decide +kernel)
theorem zk_D_stayOf_2 : zr_Ok zM_D_stayOf zp_D_stayOf 2 (zz_get 2 1) := zo_getf (pc := 2) (idx := 26) (C := RX2) (T := TX2) (N := 4) rfl rfl (by decide +kernel) rfl zin_X2 (by decide) zw_1
theorem zk_D_stayOf_3 : zr_Ok zM_D_stayOf zp_D_stayOf 3 (zz_bin 3 zz_or) := zo_ior (pc := 5) rfl rfl (by decide +kernel)
theorem zk_D_stayOf_4 : zr_Ok zM_D_stayOf zp_D_stayOf 4 (zz_load zz_isA 0) := zo_aload_n (pc := 6) (i := 0) (f := 0) rfl rfl rfl (by decide +kernel)
theorem zk_D_stayOf_5 : zr_Ok zM_D_stayOf zp_D_stayOf 5 (zz_load zz_isI 1) := zo_iload_n (pc := 7) (i := 1) (f := 1) rfl rfl rfl (by decide +kernel)
theorem zk_D_stayOf_6 : zr_Ok zM_D_stayOf zp_D_stayOf 6 (zz_call (zz_recv 2) 27 2) := zo_callV (C := RX2) (T := TX2) (N := 4) (idx := 53) (mi := 27) (n := 1) (pc := 8) zg_ok rfl rfl (by decide +kernel) rfl zw_134 (by decide) rfl zw_135 zw_136 zw_137 zw_16 (by decide +kernel)
theorem zk_D_stayOf_7 : zr_Ok zM_D_stayOf zp_D_stayOf 7 (zz_bin 7 zz_or) := zo_ior (pc := 11) rfl rfl (by decide +kernel)
theorem zk_D_stayOf_8 : zr_Ok zM_D_stayOf zp_D_stayOf 8 (zz_store zz_isI 2) := zo_istore_n (pc := 12) (i := 2) (f := 2) rfl rfl rfl (by decide +kernel) (by decide)
theorem zk_D_stayOf_9 : zr_Ok zM_D_stayOf zp_D_stayOf 9 (zz_load zz_isI 1) := zo_iload_n (pc := 13) (i := 1) (f := 1) rfl rfl rfl (by decide +kernel)
theorem zk_D_stayOf_10 : zr_Ok zM_D_stayOf zp_D_stayOf 10 (zz_load zz_isA 0) := zo_aload_n (pc := 14) (i := 0) (f := 0) rfl rfl rfl (by decide +kernel)
theorem zk_D_stayOf_11 : zr_Ok zM_D_stayOf zp_D_stayOf 11 (zz_call (zz_recv 2) 28 1) := zo_callV (C := RX2) (T := TX2) (N := 4) (idx := 41) (mi := 28) (n := 0) (pc := 15) zg_ok rfl rfl (by decide +kernel) rfl zw_138 (by decide) rfl zw_139 zw_140 zw_141 zw_16 (by decide +kernel)
theorem zk_D_stayOf_12 : zr_Ok zM_D_stayOf zp_D_stayOf 12 (zz_push (.inl 1)) := zo_iconst (pc := 18) (n := 1) (v := 1) rfl rfl (by decide +kernel) (by decide +kernel)
theorem zk_D_stayOf_13 : zr_Ok zM_D_stayOf zp_D_stayOf 13 (zz_bin 13 zz_sub) := zo_isub (pc := 19) rfl rfl (by decide +kernel)
theorem zk_D_stayOf_14 : zr_Ok zM_D_stayOf zp_D_stayOf 14 (zz_load zz_isI 2) := zo_iload_n (pc := 20) (i := 2) (f := 2) rfl rfl rfl (by decide +kernel)
theorem zk_D_stayOf_15 : zr_Ok zM_D_stayOf zp_D_stayOf 15 (zz_push (.inl 4294967295)) := zo_iconst (pc := 21) (n := -1) (v := 4294967295) rfl rfl (by decide +kernel) (by decide +kernel)
theorem zk_D_stayOf_16 : zr_Ok zM_D_stayOf zp_D_stayOf 16 (zz_bin 16 zz_xor) := zo_ixor (pc := 22) rfl rfl (by decide +kernel)
theorem zk_D_stayOf_17 : zr_Ok zM_D_stayOf zp_D_stayOf 17 (zz_bin 17 zz_and) := zo_iand (pc := 23) rfl rfl (by decide +kernel)
theorem zk_D_stayOf_18 : zr_Ok zM_D_stayOf zp_D_stayOf 18 (zz_bin 18 zz_or) := zo_ior (pc := 24) rfl rfl (by decide +kernel)
theorem zk_D_stayOf_19 : zr_Ok zM_D_stayOf zp_D_stayOf 19 (zz_ret1 zz_isI) := zo_ireturn (pc := 25) rfl (by decide +kernel) rfl
theorem zk_D_stayOf : zr_OkL zM_D_stayOf zp_D_stayOf 0 zc_D_stayOf := ⟨zk_D_stayOf_0, zk_D_stayOf_1, zk_D_stayOf_2, zk_D_stayOf_3, zk_D_stayOf_4, zk_D_stayOf_5, zk_D_stayOf_6, zk_D_stayOf_7, zk_D_stayOf_8, zk_D_stayOf_9, zk_D_stayOf_10, zk_D_stayOf_11, zk_D_stayOf_12, zk_D_stayOf_13, zk_D_stayOf_14, zk_D_stayOf_15, zk_D_stayOf_16, zk_D_stayOf_17, zk_D_stayOf_18, zk_D_stayOf_19, trivial⟩
abbrev zM_G_shortenedBy : zr_M := (RX3, cX3_shortenedBy, 5, (some .int), "shortenedBy")
theorem zk_G_shortenedBy_0 : zr_Ok zM_G_shortenedBy zp_G_shortenedBy 0 (zz_load zz_isA 0) := zo_aload_n (pc := 0) (i := 0) (f := 0) rfl rfl rfl (by decide +kernel)
theorem zk_G_shortenedBy_1 : zr_Ok zM_G_shortenedBy zp_G_shortenedBy 1 (zz_get 3 6) := zo_getf (pc := 1) (idx := 21) (C := RX3) (T := TX3) (N := 12) rfl rfl (by decide +kernel) rfl zin_X3 (by decide) zw_56
theorem zk_G_shortenedBy_2 : zr_Ok zM_G_shortenedBy zp_G_shortenedBy 2 (zz_load zz_isI 1) := zo_iload_n (pc := 4) (i := 1) (f := 1) rfl rfl rfl (by decide +kernel)
theorem zk_G_shortenedBy_3 : zr_Ok zM_G_shortenedBy zp_G_shortenedBy 3 (zz_ald 3 0) := zo_iald (pc := 5) rfl rfl (by decide +kernel)
theorem zk_G_shortenedBy_4 : zr_Ok zM_G_shortenedBy zp_G_shortenedBy 4 (zz_load zz_isI 2) := zo_iload_n (pc := 6) (i := 2) (f := 2) rfl rfl rfl (by decide +kernel)
theorem zk_G_shortenedBy_5 : zr_Ok zM_G_shortenedBy zp_G_shortenedBy 5 (zz_bin 5 zz_and) := zo_iand (pc := 7) rfl rfl (by decide +kernel)
theorem zk_G_shortenedBy_6 : zr_Ok zM_G_shortenedBy zp_G_shortenedBy 6 (zz_store zz_isI 3) := zo_istore_n (pc := 8) (i := 3) (f := 3) rfl rfl rfl (by decide +kernel) (by decide)
theorem zk_G_shortenedBy_7 : zr_Ok zM_G_shortenedBy zp_G_shortenedBy 7 (zz_push (.inl 0)) := zo_iconst (pc := 9) (n := 0) (v := 0) rfl rfl (by decide +kernel) (by decide +kernel)
theorem zk_G_shortenedBy_8 : zr_Ok zM_G_shortenedBy zp_G_shortenedBy 8 (zz_store zz_isI 4) := zo_istore (pc := 10) (i := 4) rfl rfl (by decide +kernel) (by decide)
theorem zk_G_shortenedBy_9 : zr_Ok zM_G_shortenedBy zp_G_shortenedBy 9 (zz_load zz_isI 4) := zo_iload (pc := 12) (i := 4) rfl rfl (by decide +kernel)
theorem zk_G_shortenedBy_10 : zr_Ok zM_G_shortenedBy zp_G_shortenedBy 10 (zz_push (.inl 4)) := zo_iconst (pc := 14) (n := 4) (v := 4) rfl rfl (by decide +kernel) (by decide +kernel)
theorem zk_G_shortenedBy_11 : zr_Ok zM_G_shortenedBy zp_G_shortenedBy 11 (zz_ilt 11 0 32) := zo_icmp_ge (pc := 15) (t := 31) (tgt := 49) (off := 34) rfl rfl rfl (by decide +kernel) (by decide)
theorem zk_G_shortenedBy_12 : zr_Ok zM_G_shortenedBy zp_G_shortenedBy 12 (zz_load zz_isI 3) := zo_iload_n (pc := 18) (i := 3) (f := 3) rfl rfl rfl (by decide +kernel)
theorem zk_G_shortenedBy_13 : zr_Ok zM_G_shortenedBy zp_G_shortenedBy 13 (zz_eq0 13 32 0) := zo_if_eq (pc := 19) (t := 31) (tgt := 49) (off := 30) rfl rfl rfl (by decide +kernel) (by decide)
theorem zk_G_shortenedBy_14 : zr_Ok zM_G_shortenedBy zp_G_shortenedBy 14 (zz_load zz_isI 3) := zo_iload_n (pc := 22) (i := 3) (f := 3) rfl rfl rfl (by decide +kernel)
theorem zk_G_shortenedBy_15 : zr_Ok zM_G_shortenedBy zp_G_shortenedBy 15 (zz_load zz_isI 4) := zo_iload (pc := 23) (i := 4) rfl rfl (by decide +kernel)
theorem zk_G_shortenedBy_16 : zr_Ok zM_G_shortenedBy zp_G_shortenedBy 16 (zz_bin 16 zz_shr) := zo_ishr (pc := 25) rfl rfl (by decide +kernel)
theorem zk_G_shortenedBy_17 : zr_Ok zM_G_shortenedBy zp_G_shortenedBy 17 (zz_push (.inl 1)) := zo_iconst (pc := 26) (n := 1) (v := 1) rfl rfl (by decide +kernel) (by decide +kernel)
theorem zk_G_shortenedBy_18 : zr_Ok zM_G_shortenedBy zp_G_shortenedBy 18 (zz_bin 18 zz_and) := zo_iand (pc := 27) rfl rfl (by decide +kernel)
theorem zk_G_shortenedBy_19 : zr_Ok zM_G_shortenedBy zp_G_shortenedBy 19 (zz_eq0 19 30 0) := zo_if_eq (pc := 28) (t := 29) (tgt := 43) (off := 15) rfl rfl rfl (by decide +kernel) (by decide)
theorem zk_G_shortenedBy_20 : zr_Ok zM_G_shortenedBy zp_G_shortenedBy 20 (zz_load zz_isA 0) := zo_aload_n (pc := 31) (i := 0) (f := 0) rfl rfl rfl (by decide +kernel)
theorem zk_G_shortenedBy_21 : zr_Ok zM_G_shortenedBy zp_G_shortenedBy 21 (zz_get 3 8) := zo_getf (pc := 32) (idx := 27) (C := RX3) (T := TX3) (N := 12) rfl rfl (by decide +kernel) rfl zin_X3 (by decide) zw_58
theorem zk_G_shortenedBy_22 : zr_Ok zM_G_shortenedBy zp_G_shortenedBy 22 (zz_load zz_isI 1) := zo_iload_n (pc := 35) (i := 1) (f := 1) rfl rfl rfl (by decide +kernel)
theorem zk_G_shortenedBy_23 : zr_Ok zM_G_shortenedBy zp_G_shortenedBy 23 (zz_push (.inl 4)) := zo_iconst (pc := 36) (n := 4) (v := 4) rfl rfl (by decide +kernel) (by decide +kernel)
theorem zk_G_shortenedBy_24 : zr_Ok zM_G_shortenedBy zp_G_shortenedBy 24 (zz_bin 24 zz_mul) := zo_imul (pc := 37) rfl rfl (by decide +kernel)
theorem zk_G_shortenedBy_25 : zr_Ok zM_G_shortenedBy zp_G_shortenedBy 25 (zz_load zz_isI 4) := zo_iload (pc := 38) (i := 4) rfl rfl (by decide +kernel)
theorem zk_G_shortenedBy_26 : zr_Ok zM_G_shortenedBy zp_G_shortenedBy 26 (zz_bin 26 zz_add) := zo_iadd (pc := 40) rfl rfl (by decide +kernel)
theorem zk_G_shortenedBy_27 : zr_Ok zM_G_shortenedBy zp_G_shortenedBy 27 (zz_ald 27 0) := zo_iald (pc := 41) rfl rfl (by decide +kernel)
theorem zk_G_shortenedBy_28 : zr_Ok zM_G_shortenedBy zp_G_shortenedBy 28 (zz_ret1 zz_isI) := zo_ireturn (pc := 42) rfl (by decide +kernel) rfl
theorem zk_G_shortenedBy_31 : zr_Ok zM_G_shortenedBy zp_G_shortenedBy 31 (zz_push (.inl 4294967295)) := zo_iconst (pc := 49) (n := -1) (v := 4294967295) rfl rfl (by decide +kernel) (by decide +kernel)
theorem zk_G_shortenedBy_32 : zr_Ok zM_G_shortenedBy zp_G_shortenedBy 32 (zz_ret1 zz_isI) := zo_ireturn (pc := 50) rfl (by decide +kernel) rfl
theorem zk_G_shortenedBy : zr_OkL zM_G_shortenedBy zp_G_shortenedBy 0 zc_G_shortenedBy := ⟨zk_G_shortenedBy_0, zk_G_shortenedBy_1, zk_G_shortenedBy_2, zk_G_shortenedBy_3, zk_G_shortenedBy_4, zk_G_shortenedBy_5, zk_G_shortenedBy_6, zk_G_shortenedBy_7, zk_G_shortenedBy_8, zk_G_shortenedBy_9, zk_G_shortenedBy_10, zk_G_shortenedBy_11, zk_G_shortenedBy_12, zk_G_shortenedBy_13, zk_G_shortenedBy_14, zk_G_shortenedBy_15, zk_G_shortenedBy_16, zk_G_shortenedBy_17, zk_G_shortenedBy_18, zk_G_shortenedBy_19, zk_G_shortenedBy_20, zk_G_shortenedBy_21, zk_G_shortenedBy_22, zk_G_shortenedBy_23, zk_G_shortenedBy_24, zk_G_shortenedBy_25, zk_G_shortenedBy_26, zk_G_shortenedBy_27, zk_G_shortenedBy_28, zo_no, zo_no, zk_G_shortenedBy_31, zk_G_shortenedBy_32, trivial⟩
abbrev zM_P_make : zr_M := (RX4, cX4_make, 7, none, "make")
theorem zk_P_make_0 : zr_Ok zM_P_make zp_P_make 0 (zz_load zz_isA 0) := zo_aload_n (pc := 0) (i := 0) (f := 0) rfl rfl rfl (by decide +kernel)
theorem zk_P_make_1 : zr_Ok zM_P_make zp_P_make 1 (zz_get 4 3) := zo_getf (pc := 1) (idx := 15) (C := RX4) (T := TX4) (N := 5) rfl rfl (by decide +kernel) rfl zin_X4 (by decide) zw_129
theorem zk_P_make_2 : zr_Ok zM_P_make zp_P_make 2 (zz_load zz_isI 1) := zo_iload_n (pc := 4) (i := 1) (f := 1) rfl rfl rfl (by decide +kernel)
theorem zk_P_make_3 : zr_Ok zM_P_make zp_P_make 3 (zz_ald 3 0) := zo_iald (pc := 5) rfl rfl (by decide +kernel)
theorem zk_P_make_4 : zr_Ok zM_P_make zp_P_make 4 (zz_eq0 4 7 0) := zo_if_eq (pc := 6) (t := 6) (tgt := 10) (off := 4) rfl rfl rfl (by decide +kernel) (by decide)
theorem zk_P_make_5 : zr_Ok zM_P_make zp_P_make 5 (zz_ret0) := zo_return (pc := 9) rfl (by decide +kernel) rfl
theorem zk_P_make_6 : zr_Ok zM_P_make zp_P_make 6 (zz_load zz_isA 0) := zo_aload_n (pc := 10) (i := 0) (f := 0) rfl rfl rfl (by decide +kernel)
theorem zk_P_make_7 : zr_Ok zM_P_make zp_P_make 7 (zz_get 4 0) := zo_getf (pc := 11) (idx := 21) (C := RX4) (T := TX4) (N := 5) rfl rfl (by decide +kernel) rfl zin_X4 (by decide) zw_131
theorem zk_P_make_8 : zr_Ok zM_P_make zp_P_make 8 (zz_load zz_isI 1) := zo_iload_n (pc := 14) (i := 1) (f := 1) rfl rfl rfl (by decide +kernel)
theorem zk_P_make_9 : zr_Ok zM_P_make zp_P_make 9 (zz_call (zz_recv 2) 29 2) := zo_callV (C := RX2) (T := TX2) (N := 4) (idx := 35) (mi := 29) (n := 1) (pc := 15) zg_ok rfl rfl (by decide +kernel) rfl zw_142 (by decide) rfl zw_143 zw_144 zw_145 zw_16 (by decide +kernel)
theorem zk_P_make_10 : zr_Ok zM_P_make zp_P_make 10 (zz_store zz_isI 2) := zo_istore_n (pc := 18) (i := 2) (f := 2) rfl rfl rfl (by decide +kernel) (by decide)
theorem zk_P_make_11 : zr_Ok zM_P_make zp_P_make 11 (zz_load zz_isI 1) := zo_iload_n (pc := 19) (i := 1) (f := 1) rfl rfl rfl (by decide +kernel)
theorem zk_P_make_12 : zr_Ok zM_P_make zp_P_make 12 (zz_push (.inl 500)) := zo_sipush (pc := 20) (n := 500) (v := 500) rfl rfl (by decide +kernel) (by decide +kernel)
theorem zk_P_make_13 : zr_Ok zM_P_make zp_P_make 13 (zz_bin 13 zz_mul) := zo_imul (pc := 23) rfl rfl (by decide +kernel)
theorem zk_P_make_14 : zr_Ok zM_P_make zp_P_make 14 (zz_store zz_isI 3) := zo_istore_n (pc := 24) (i := 3) (f := 3) rfl rfl rfl (by decide +kernel) (by decide)
theorem zk_P_make_15 : zr_Ok zM_P_make zp_P_make 15 (zz_push (.inl 0)) := zo_iconst (pc := 25) (n := 0) (v := 0) rfl rfl (by decide +kernel) (by decide +kernel)
theorem zk_P_make_16 : zr_Ok zM_P_make zp_P_make 16 (zz_store zz_isI 4) := zo_istore (pc := 26) (i := 4) rfl rfl (by decide +kernel) (by decide)
theorem zk_P_make_17 : zr_Ok zM_P_make zp_P_make 17 (zz_push (.inl 0)) := zo_iconst (pc := 28) (n := 0) (v := 0) rfl rfl (by decide +kernel) (by decide +kernel)
theorem zk_P_make_18 : zr_Ok zM_P_make zp_P_make 18 (zz_store zz_isI 5) := zo_istore (pc := 29) (i := 5) rfl rfl (by decide +kernel) (by decide)
theorem zk_P_make_19 : zr_Ok zM_P_make zp_P_make 19 (zz_load zz_isI 5) := zo_iload (pc := 31) (i := 5) rfl rfl (by decide +kernel)
theorem zk_P_make_20 : zr_Ok zM_P_make zp_P_make 20 (zz_load zz_isA 0) := zo_aload_n (pc := 33) (i := 0) (f := 0) rfl rfl rfl (by decide +kernel)
theorem zk_P_make_21 : zr_Ok zM_P_make zp_P_make 21 (zz_get 4 1) := zo_getf (pc := 34) (idx := 25) (C := RX4) (T := TX4) (N := 5) rfl rfl (by decide +kernel) rfl zin_X4 (by decide) zw_132
theorem zk_P_make_22 : zr_Ok zM_P_make zp_P_make 22 (zz_get 3 0) := zo_getf (pc := 37) (idx := 41) (C := RX3) (T := TX3) (N := 12) rfl rfl (by decide +kernel) rfl zin_X3 (by decide) zw_146
theorem zk_P_make_23 : zr_Ok zM_P_make zp_P_make 23 (zz_ilt 23 0 57) := zo_icmp_ge (pc := 40) (t := 56) (tgt := 102) (off := 62) rfl rfl rfl (by decide +kernel) (by decide)
theorem zk_P_make_24 : zr_Ok zM_P_make zp_P_make 24 (zz_load zz_isA 0) := zo_aload_n (pc := 43) (i := 0) (f := 0) rfl rfl rfl (by decide +kernel)
theorem zk_P_make_25 : zr_Ok zM_P_make zp_P_make 25 (zz_get 4 1) := zo_getf (pc := 44) (idx := 25) (C := RX4) (T := TX4) (N := 5) rfl rfl (by decide +kernel) rfl zin_X4 (by decide) zw_132
theorem zk_P_make_26 : zr_Ok zM_P_make zp_P_make 26 (zz_load zz_isI 5) := zo_iload (pc := 47) (i := 5) rfl rfl (by decide +kernel)
theorem zk_P_make_27 : zr_Ok zM_P_make zp_P_make 27 (zz_load zz_isI 2) := zo_iload_n (pc := 49) (i := 2) (f := 2) rfl rfl rfl (by decide +kernel)
theorem zk_P_make_28 : zr_Ok zM_P_make zp_P_make 28 (zz_call (zz_recv 3) 30 3) := zo_callV (C := RX3) (T := TX3) (N := 12) (idx := 47) (mi := 30) (n := 2) (pc := 50) zg_ok rfl rfl (by decide +kernel) rfl zw_147 (by decide) rfl zw_148 zw_149 zw_150 zw_68 (by decide +kernel)
theorem zk_P_make_29 : zr_Ok zM_P_make zp_P_make 29 (zz_store zz_isI 6) := zo_istore (pc := 53) (i := 6) rfl rfl (by decide +kernel) (by decide)
theorem zk_P_make_30 : zr_Ok zM_P_make zp_P_make 30 (zz_load zz_isI 6) := zo_iload (pc := 55) (i := 6) rfl rfl (by decide +kernel)
theorem zk_P_make_31 : zr_Ok zM_P_make zp_P_make 31 (zz_push (.inl 4294967295)) := zo_iconst (pc := 57) (n := -1) (v := 4294967295) rfl rfl (by decide +kernel) (by decide +kernel)
theorem zk_P_make_32 : zr_Ok zM_P_make zp_P_make 32 (zz_ieq 32 0 43) := zo_icmp_ne (pc := 58) (t := 42) (tgt := 78) (off := 20) rfl rfl rfl (by decide +kernel) (by decide)
theorem zk_P_make_33 : zr_Ok zM_P_make zp_P_make 33 (zz_load zz_isA 0) := zo_aload_n (pc := 61) (i := 0) (f := 0) rfl rfl rfl (by decide +kernel)
theorem zk_P_make_34 : zr_Ok zM_P_make zp_P_make 34 (zz_get 4 2) := zo_getf (pc := 62) (idx := 9) (C := RX4) (T := TX4) (N := 5) rfl rfl (by decide +kernel) rfl zin_X4 (by decide) zw_128
theorem zk_P_make_35 : zr_Ok zM_P_make zp_P_make 35 (zz_load zz_isI 3) := zo_iload_n (pc := 65) (i := 3) (f := 3) rfl rfl rfl (by decide +kernel)
theorem zk_P_make_36 : zr_Ok zM_P_make zp_P_make 36 (zz_load zz_isI 5) := zo_iload (pc := 66) (i := 5) rfl rfl (by decide +kernel)
theorem zk_P_make_37 : zr_Ok zM_P_make zp_P_make 37 (zz_bin 37 zz_add) := zo_iadd (pc := 68) rfl rfl (by decide +kernel)
theorem zk_P_make_38 : zr_Ok zM_P_make zp_P_make 38 (zz_load zz_isI 4) := zo_iload (pc := 69) (i := 4) rfl rfl (by decide +kernel)
theorem zk_P_make_39 : zr_Ok zM_P_make zp_P_make 39 (zz_ast 39 0) := zo_iast (pc := 71) rfl rfl (by decide +kernel)
theorem zk_P_make_40 : zr_Ok zM_P_make zp_P_make 40 (zz_inc 40 4 1) := zo_iinc (pc := 72) (i := 4) (n2 := 1) (n := 1) rfl rfl (by decide +kernel) (by decide +kernel) (by decide)
theorem zk_P_make_41 : zr_Ok zM_P_make zp_P_make 41 (zz_goto 54) := zo_goto (pc := 75) (t := 54) (tgt := 96) (off := 21) rfl rfl (by decide +kernel) (by decide)
theorem zk_P_make_42 : zr_Ok zM_P_make zp_P_make 42 (zz_load zz_isA 0) := zo_aload_n (pc := 78) (i := 0) (f := 0) rfl rfl rfl (by decide +kernel)
theorem zk_P_make_43 : zr_Ok zM_P_make zp_P_make 43 (zz_get 4 2) := zo_getf (pc := 79) (idx := 9) (C := RX4) (T := TX4) (N := 5) rfl rfl (by decide +kernel) rfl zin_X4 (by decide) zw_128
theorem zk_P_make_44 : zr_Ok zM_P_make zp_P_make 44 (zz_load zz_isI 3) := zo_iload_n (pc := 82) (i := 3) (f := 3) rfl rfl rfl (by decide +kernel)
theorem zk_P_make_45 : zr_Ok zM_P_make zp_P_make 45 (zz_load zz_isI 5) := zo_iload (pc := 83) (i := 5) rfl rfl (by decide +kernel)
theorem zk_P_make_46 : zr_Ok zM_P_make zp_P_make 46 (zz_bin 46 zz_add) := zo_iadd (pc := 85) rfl rfl (by decide +kernel)
theorem zk_P_make_47 : zr_Ok zM_P_make zp_P_make 47 (zz_load zz_isA 0) := zo_aload_n (pc := 86) (i := 0) (f := 0) rfl rfl rfl (by decide +kernel)
theorem zk_P_make_48 : zr_Ok zM_P_make zp_P_make 48 (zz_get 4 2) := zo_getf (pc := 87) (idx := 9) (C := RX4) (T := TX4) (N := 5) rfl rfl (by decide +kernel) rfl zin_X4 (by decide) zw_128
theorem zk_P_make_49 : zr_Ok zM_P_make zp_P_make 49 (zz_load zz_isI 3) := zo_iload_n (pc := 90) (i := 3) (f := 3) rfl rfl rfl (by decide +kernel)
theorem zk_P_make_50 : zr_Ok zM_P_make zp_P_make 50 (zz_load zz_isI 6) := zo_iload (pc := 91) (i := 6) rfl rfl (by decide +kernel)
theorem zk_P_make_51 : zr_Ok zM_P_make zp_P_make 51 (zz_bin 51 zz_add) := zo_iadd (pc := 93) rfl rfl (by decide +kernel)
theorem zk_P_make_52 : zr_Ok zM_P_make zp_P_make 52 (zz_ald 52 0) := zo_iald (pc := 94) rfl rfl (by decide +kernel)
theorem zk_P_make_53 : zr_Ok zM_P_make zp_P_make 53 (zz_ast 53 0) := zo_iast (pc := 95) rfl rfl (by decide +kernel)
theorem zk_P_make_54 : zr_Ok zM_P_make zp_P_make 54 (zz_inc 54 5 1) := zo_iinc (pc := 96) (i := 5) (n2 := 1) (n := 1) rfl rfl (by decide +kernel) (by decide +kernel) (by decide)
theorem zk_P_make_55 : zr_Ok zM_P_make zp_P_make 55 (zz_goto 19) := zo_goto (pc := 99) (t := 19) (tgt := 31) (off := -68) rfl rfl (by decide +kernel) (by decide)
theorem zk_P_make_56 : zr_Ok zM_P_make zp_P_make 56 (zz_load zz_isA 0) := zo_aload_n (pc := 102) (i := 0) (f := 0) rfl rfl rfl (by decide +kernel)
theorem zk_P_make_57 : zr_Ok zM_P_make zp_P_make 57 (zz_get 4 3) := zo_getf (pc := 103) (idx := 15) (C := RX4) (T := TX4) (N := 5) rfl rfl (by decide +kernel) rfl zin_X4 (by decide) zw_129
theorem zk_P_make_58 : zr_Ok zM_P_make zp_P_make 58 (zz_load zz_isI 1) := zo_iload_n (pc := 106) (i := 1) (f := 1) rfl rfl rfl (by decide +kernel)
theorem zk_P_make_59 : zr_Ok zM_P_make zp_P_make 59 (zz_load zz_isI 4) := zo_iload (pc := 107) (i := 4) rfl rfl (by decide +kernel)
theorem zk_P_make_60 : zr_Ok zM_P_make zp_P_make 60 (zz_ast 60 0) := zo_iast (pc := 109) rfl rfl (by decide +kernel)
theorem zk_P_make_61 : zr_Ok zM_P_make zp_P_make 61 (zz_ret0) := zo_return (pc := 110) rfl (by decide +kernel) rfl
theorem zk_P_make : zr_OkL zM_P_make zp_P_make 0 zc_P_make := ⟨zk_P_make_0, zk_P_make_1, zk_P_make_2, zk_P_make_3, zk_P_make_4, zk_P_make_5, zk_P_make_6, zk_P_make_7, zk_P_make_8, zk_P_make_9, zk_P_make_10, zk_P_make_11, zk_P_make_12, zk_P_make_13, zk_P_make_14, zk_P_make_15, zk_P_make_16, zk_P_make_17, zk_P_make_18, zk_P_make_19, zk_P_make_20, zk_P_make_21, zk_P_make_22, zk_P_make_23, zk_P_make_24, zk_P_make_25, zk_P_make_26, zk_P_make_27, zk_P_make_28, zk_P_make_29, zk_P_make_30, zk_P_make_31, zk_P_make_32, zk_P_make_33, zk_P_make_34, zk_P_make_35, zk_P_make_36, zk_P_make_37, zk_P_make_38, zk_P_make_39, zk_P_make_40, zk_P_make_41, zk_P_make_42, zk_P_make_43, zk_P_make_44, zk_P_make_45, zk_P_make_46, zk_P_make_47, zk_P_make_48, zk_P_make_49, zk_P_make_50, zk_P_make_51, zk_P_make_52, zk_P_make_53, zk_P_make_54, zk_P_make_55, zk_P_make_56, zk_P_make_57, zk_P_make_58, zk_P_make_59, zk_P_make_60, zk_P_make_61, trivial⟩
