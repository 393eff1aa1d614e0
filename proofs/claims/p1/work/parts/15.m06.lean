/-! ROWS OF THE TABLE, method by method (written by wip/p1/genrows.py) -/
abbrev zM_B_ringAnew : zr_M := (RX0, cX0_ringAnew, 3, (some .int), "ringAnew")
theorem zk_B_ringAnew_0 : zr_Ok zM_B_ringAnew zp_B_ringAnew 0 (zz_load zz_isA 0) := zo_aload_n (pc := 0) (i := 0) (f := 0) rfl rfl rfl (by decide +kernel)
theorem zk_B_ringAnew_1 : zr_Ok zM_B_ringAnew zp_B_ringAnew 1 (zz_get 0 0) := zo_getf (pc := 1) (idx := 12) (C := RX0) (T := TX0) (N := 12) rfl rfl (by decide +kernel) rfl zin_X0 (by decide) zw_23
theorem zk_B_ringAnew_2 : zr_Ok zM_B_ringAnew zp_B_ringAnew 2 (zz_get 2 1) := zo_getf (pc := 4) (idx := 48) (C := RX2) (T := TX2) (N := 4) rfl rfl (by decide +kernel) rfl zin_X2 (by decide) zw_383
theorem zk_B_ringAnew_3 : zr_Ok zM_B_ringAnew zp_B_ringAnew 3 (zz_store zz_isI 2) := zo_istore_n (pc := 7) (i := 2) (f := 2) rfl rfl rfl (by decide +kernel) (by decide)
theorem zk_B_ringAnew_4 : zr_Ok zM_B_ringAnew zp_B_ringAnew 4 (zz_load zz_isI 2) := zo_iload_n (pc := 8) (i := 2) (f := 2) rfl rfl rfl (by decide +kernel)
theorem zk_B_ringAnew_5 : zr_Ok zM_B_ringAnew zp_B_ringAnew 5 (zz_load zz_isI 1) := zo_iload_n (pc := 9) (i := 1) (f := 1) rfl rfl rfl (by decide +kernel)
theorem zk_B_ringAnew_6 : zr_Ok zM_B_ringAnew zp_B_ringAnew 6 (zz_ieq 6 14 0) := zo_icmp_eq (pc := 10) (t := 13) (tgt := 25) (off := 15) rfl rfl rfl (by decide +kernel) (by decide)
theorem zk_B_ringAnew_13 : zr_Ok zM_B_ringAnew zp_B_ringAnew 13 (zz_load zz_isI 2) := zo_iload_n (pc := 25) (i := 2) (f := 2) rfl rfl rfl (by decide +kernel)
theorem zk_B_ringAnew_14 : zr_Ok zM_B_ringAnew zp_B_ringAnew 14 (zz_ret1 zz_isI) := zo_ireturn (pc := 26) rfl (by decide +kernel) rfl
theorem zk_B_ringAnew : zr_OkL zM_B_ringAnew zp_B_ringAnew 0 zc_B_ringAnew := ⟨zk_B_ringAnew_0, zk_B_ringAnew_1, zk_B_ringAnew_2, zk_B_ringAnew_3, zk_B_ringAnew_4, zk_B_ringAnew_5, zk_B_ringAnew_6, zo_no, zo_no, zo_no, zo_no, zo_no, zo_no, zk_B_ringAnew_13, zk_B_ringAnew_14, trivial⟩
abbrev zM_E_ring : zr_M := (RX7, cX7_ring, 3, (some .int), "ring")
theorem zk_E_ring_0 : zr_Ok zM_E_ring zp_E_ring 0 (zz_load zz_isI 1) := zo_iload_n (pc := 0) (i := 1) (f := 1) rfl rfl rfl (by decide +kernel)
theorem zk_E_ring_1 : zr_Ok zM_E_ring zp_E_ring 1 (zz_call zz_any 5 1) := zo_callS (idx := 31) (mi := 5) (n := 1) (pc := 1) zg_ok rfl rfl (by decide +kernel) rfl zw_37 (by decide) zw_39 zw_40 zw_38 (by decide +kernel)
theorem zk_E_ring_2 : zr_Ok zM_E_ring zp_E_ring 2 (zz_eq0 2 0 15) := zo_if_ne (pc := 4) (t := 14) (tgt := 28) (off := 24) rfl rfl rfl (by decide +kernel) (by decide)
theorem zk_E_ring_3 : zr_Ok zM_E_ring zp_E_ring 3 (zz_load zz_isI 2) := zo_iload_n (pc := 7) (i := 2) (f := 2) rfl rfl rfl (by decide +kernel)
theorem zk_E_ring_4 : zr_Ok zM_E_ring zp_E_ring 4 (zz_push (.inl 1)) := zo_iconst (pc := 8) (n := 1) (v := 1) rfl rfl (by decide +kernel) (by decide +kernel)
theorem zk_E_ring_5 : zr_Ok zM_E_ring zp_E_ring 5 (zz_ilt 5 15 0) := zo_icmp_lt (pc := 9) (t := 14) (tgt := 28) (off := 19) rfl rfl rfl (by decide +kernel) (by decide)
theorem zk_E_ring_6 : zr_Ok zM_E_ring zp_E_ring 6 (zz_load zz_isI 2) := zo_iload_n (pc := 12) (i := 2) (f := 2) rfl rfl rfl (by decide +kernel)
theorem zk_E_ring_7 : zr_Ok zM_E_ring zp_E_ring 7 (zz_load zz_isA 0) := zo_aload_n (pc := 13) (i := 0) (f := 0) rfl rfl rfl (by decide +kernel)
theorem zk_E_ring_8 : zr_Ok zM_E_ring zp_E_ring 8 (zz_get 5 0) := zo_getf (pc := 14) (idx := 11) (C := RX7) (T := TX7) (N := 4) rfl rfl (by decide +kernel) rfl zin_X7 (by decide) zw_26
theorem zk_E_ring_9 : zr_Ok zM_E_ring zp_E_ring 9 (zz_load zz_isI 1) := zo_iload_n (pc := 17) (i := 1) (f := 1) rfl rfl rfl (by decide +kernel)
theorem zk_E_ring_10 : zr_Ok zM_E_ring zp_E_ring 10 (zz_ald 10 3) := zo_aald (pc := 18) rfl rfl (by decide +kernel)
theorem zk_E_ring_11 : zr_Ok zM_E_ring zp_E_ring 11 (zz_get 0 0) := zo_getf (pc := 19) (idx := 35) (C := RX0) (T := TX0) (N := 12) rfl rfl (by decide +kernel) rfl zin_X0 (by decide) zw_41
theorem zk_E_ring_12 : zr_Ok zM_E_ring zp_E_ring 12 (zz_call (zz_recv 2) 28 1) := zo_callV (C := RX2) (T := TX2) (N := 4) (idx := 57) (mi := 28) (n := 0) (pc := 22) zg_ok rfl rfl (by decide +kernel) rfl zw_138 (by decide) rfl zw_384 zw_140 zw_141 zw_16 (by decide +kernel)
theorem zk_E_ring_13 : zr_Ok zM_E_ring zp_E_ring 13 (zz_ilt 13 17 0) := zo_icmp_lt (pc := 25) (t := 16) (tgt := 31) (off := 6) rfl rfl rfl (by decide +kernel) (by decide)
theorem zk_E_ring_14 : zr_Ok zM_E_ring zp_E_ring 14 (zz_push (.inl 4294967294)) := zo_bipush (pc := 28) (n := -2) (v := 4294967294) rfl rfl (by decide +kernel) (by decide +kernel)
theorem zk_E_ring_15 : zr_Ok zM_E_ring zp_E_ring 15 (zz_ret1 zz_isI) := zo_ireturn (pc := 30) rfl (by decide +kernel) rfl
theorem zk_E_ring_16 : zr_Ok zM_E_ring zp_E_ring 16 (zz_load zz_isA 0) := zo_aload_n (pc := 31) (i := 0) (f := 0) rfl rfl rfl (by decide +kernel)
theorem zk_E_ring_17 : zr_Ok zM_E_ring zp_E_ring 17 (zz_get 5 0) := zo_getf (pc := 32) (idx := 11) (C := RX7) (T := TX7) (N := 4) rfl rfl (by decide +kernel) rfl zin_X7 (by decide) zw_26
theorem zk_E_ring_18 : zr_Ok zM_E_ring zp_E_ring 18 (zz_load zz_isI 1) := zo_iload_n (pc := 35) (i := 1) (f := 1) rfl rfl rfl (by decide +kernel)
theorem zk_E_ring_19 : zr_Ok zM_E_ring zp_E_ring 19 (zz_ald 19 3) := zo_aald (pc := 36) rfl rfl (by decide +kernel)
theorem zk_E_ring_20 : zr_Ok zM_E_ring zp_E_ring 20 (zz_load zz_isI 2) := zo_iload_n (pc := 37) (i := 2) (f := 2) rfl rfl rfl (by decide +kernel)
theorem zk_E_ring_21 : zr_Ok zM_E_ring zp_E_ring 21 (zz_call (zz_recv 0) 103 2) := zo_callV (C := RX0) (T := TX0) (N := 12) (idx := 61) (mi := 103) (n := 1) (pc := 38) zg_ok rfl rfl (by decide +kernel) rfl zw_385 (by decide) rfl zw_386 zw_387 zw_388 zw_28 (by decide +kernel)
theorem zk_E_ring_22 : zr_Ok zM_E_ring zp_E_ring 22 (zz_ret1 zz_isI) := zo_ireturn (pc := 41) rfl (by decide +kernel) rfl
theorem zk_E_ring : zr_OkL zM_E_ring zp_E_ring 0 zc_E_ring := ⟨zk_E_ring_0, zk_E_ring_1, zk_E_ring_2, zk_E_ring_3, zk_E_ring_4, zk_E_ring_5, zk_E_ring_6, zk_E_ring_7, zk_E_ring_8, zk_E_ring_9, zk_E_ring_10, zk_E_ring_11, zk_E_ring_12, zk_E_ring_13, zk_E_ring_14, zk_E_ring_15, zk_E_ring_16, zk_E_ring_17, zk_E_ring_18, zk_E_ring_19, zk_E_ring_20, zk_E_ring_21, zk_E_ring_22, trivial⟩
abbrev zM_E_round : zr_M := (RX7, cX7_round, 5, (some .int), "round")
theorem zk_E_round_0 : zr_Ok zM_E_round zp_E_round 0 (zz_load zz_isA 0) := zo_aload_n (pc := 0) (i := 0) (f := 0) rfl rfl rfl (by decide +kernel)
theorem zk_E_round_1 : zr_Ok zM_E_round zp_E_round 1 (zz_load zz_isI 1) := zo_iload_n (pc := 1) (i := 1) (f := 1) rfl rfl rfl (by decide +kernel)
theorem zk_E_round_2 : zr_Ok zM_E_round zp_E_round 2 (zz_load zz_isI 2) := zo_iload_n (pc := 2) (i := 2) (f := 2) rfl rfl rfl (by decide +kernel)
theorem zk_E_round_3 : zr_Ok zM_E_round zp_E_round 3 (zz_push (.inl 4294967295)) := zo_iconst (pc := 3) (n := -1) (v := 4294967295) rfl rfl (by decide +kernel) (by decide +kernel)
theorem zk_E_round_4 : zr_Ok zM_E_round zp_E_round 4 (zz_ilt 4 0 8) := zo_icmp_ge (pc := 4) (t := 7) (tgt := 11) (off := 7) rfl rfl rfl (by decide +kernel) (by decide)
theorem zk_E_round_5 : zr_Ok zM_E_round zp_E_round 5 (zz_push (.inl 1)) := zo_iconst (pc := 7) (n := 1) (v := 1) rfl rfl (by decide +kernel) (by decide +kernel)
theorem zk_E_round_6 : zr_Ok zM_E_round zp_E_round 6 (zz_goto 8) := zo_goto (pc := 8) (t := 8) (tgt := 12) (off := 4) rfl rfl (by decide +kernel) (by decide)
theorem zk_E_round_7 : zr_Ok zM_E_round zp_E_round 7 (zz_push (.inl 0)) := zo_iconst (pc := 11) (n := 0) (v := 0) rfl rfl (by decide +kernel) (by decide +kernel)
theorem zk_E_round_8 : zr_Ok zM_E_round zp_E_round 8 (zz_call (zz_recv 5) 61 3) := zo_callV (C := RX7) (T := TX7) (N := 4) (idx := 210) (mi := 61) (n := 2) (pc := 12) zg_ok rfl rfl (by decide +kernel) rfl zw_291 (by decide) rfl zw_292 zw_293 zw_294 zw_38 (by decide +kernel)
theorem zk_E_round_9 : zr_Ok zM_E_round zp_E_round 9 (zz_store zz_isI 3) := zo_istore_n (pc := 15) (i := 3) (f := 3) rfl rfl rfl (by decide +kernel) (by decide)
theorem zk_E_round_10 : zr_Ok zM_E_round zp_E_round 10 (zz_load zz_isI 3) := zo_iload_n (pc := 16) (i := 3) (f := 3) rfl rfl rfl (by decide +kernel)
theorem zk_E_round_11 : zr_Ok zM_E_round zp_E_round 11 (zz_eq0 11 15 0) := zo_if_eq (pc := 17) (t := 14) (tgt := 22) (off := 5) rfl rfl rfl (by decide +kernel) (by decide)
theorem zk_E_round_12 : zr_Ok zM_E_round zp_E_round 12 (zz_load zz_isI 3) := zo_iload_n (pc := 20) (i := 3) (f := 3) rfl rfl rfl (by decide +kernel)
theorem zk_E_round_13 : zr_Ok zM_E_round zp_E_round 13 (zz_ret1 zz_isI) := zo_ireturn (pc := 21) rfl (by decide +kernel) rfl
theorem zk_E_round : zr_OkL zM_E_round zp_E_round 0 zc_E_round := ⟨zk_E_round_0, zk_E_round_1, zk_E_round_2, zk_E_round_3, zk_E_round_4, zk_E_round_5, zk_E_round_6, zk_E_round_7, zk_E_round_8, zk_E_round_9, zk_E_round_10, zk_E_round_11, zk_E_round_12, zk_E_round_13, trivial⟩
abbrev zM_E_snub : zr_M := (RX7, cX7_snub, 4, (some .int), "snub")
theorem zk_E_snub_0 : zr_Ok zM_E_snub zp_E_snub 0 (zz_load zz_isA 0) := zo_aload_n (pc := 0) (i := 0) (f := 0) rfl rfl rfl (by decide +kernel)
theorem zk_E_snub_1 : zr_Ok zM_E_snub zp_E_snub 1 (zz_load zz_isI 1) := zo_iload_n (pc := 1) (i := 1) (f := 1) rfl rfl rfl (by decide +kernel)
theorem zk_E_snub_2 : zr_Ok zM_E_snub zp_E_snub 2 (zz_load zz_isI 2) := zo_iload_n (pc := 2) (i := 2) (f := 2) rfl rfl rfl (by decide +kernel)
theorem zk_E_snub_3 : zr_Ok zM_E_snub zp_E_snub 3 (zz_lt0 3 8 0) := zo_if_lt (pc := 3) (t := 7) (tgt := 11) (off := 8) rfl rfl rfl (by decide +kernel) (by decide)
theorem zk_E_snub_4 : zr_Ok zM_E_snub zp_E_snub 4 (zz_load zz_isI 2) := zo_iload_n (pc := 6) (i := 2) (f := 2) rfl rfl rfl (by decide +kernel)
theorem zk_E_snub_5 : zr_Ok zM_E_snub zp_E_snub 5 (zz_push (.inl 2)) := zo_iconst (pc := 7) (n := 2) (v := 2) rfl rfl (by decide +kernel) (by decide +kernel)
theorem zk_E_snub_6 : zr_Ok zM_E_snub zp_E_snub 6 (zz_igt 6 0 10) := zo_icmp_le (pc := 8) (t := 9) (tgt := 15) (off := 7) rfl rfl rfl (by decide +kernel) (by decide)
theorem zk_E_snub_7 : zr_Ok zM_E_snub zp_E_snub 7 (zz_push (.inl 1)) := zo_iconst (pc := 11) (n := 1) (v := 1) rfl rfl (by decide +kernel) (by decide +kernel)
theorem zk_E_snub_8 : zr_Ok zM_E_snub zp_E_snub 8 (zz_goto 10) := zo_goto (pc := 12) (t := 10) (tgt := 16) (off := 4) rfl rfl (by decide +kernel) (by decide)
theorem zk_E_snub_9 : zr_Ok zM_E_snub zp_E_snub 9 (zz_push (.inl 0)) := zo_iconst (pc := 15) (n := 0) (v := 0) rfl rfl (by decide +kernel) (by decide +kernel)
theorem zk_E_snub_10 : zr_Ok zM_E_snub zp_E_snub 10 (zz_call (zz_recv 5) 61 3) := zo_callV (C := RX7) (T := TX7) (N := 4) (idx := 210) (mi := 61) (n := 2) (pc := 16) zg_ok rfl rfl (by decide +kernel) rfl zw_291 (by decide) rfl zw_292 zw_293 zw_294 zw_38 (by decide +kernel)
theorem zk_E_snub_11 : zr_Ok zM_E_snub zp_E_snub 11 (zz_store zz_isI 3) := zo_istore_n (pc := 19) (i := 3) (f := 3) rfl rfl rfl (by decide +kernel) (by decide)
theorem zk_E_snub_12 : zr_Ok zM_E_snub zp_E_snub 12 (zz_load zz_isI 3) := zo_iload_n (pc := 20) (i := 3) (f := 3) rfl rfl rfl (by decide +kernel)
theorem zk_E_snub_13 : zr_Ok zM_E_snub zp_E_snub 13 (zz_eq0 13 17 0) := zo_if_eq (pc := 21) (t := 16) (tgt := 28) (off := 7) rfl rfl rfl (by decide +kernel) (by decide)
theorem zk_E_snub_14 : zr_Ok zM_E_snub zp_E_snub 14 (zz_load zz_isI 3) := zo_iload_n (pc := 24) (i := 3) (f := 3) rfl rfl rfl (by decide +kernel)
theorem zk_E_snub_15 : zr_Ok zM_E_snub zp_E_snub 15 (zz_goto 23) := zo_goto (pc := 25) (t := 23) (tgt := 41) (off := 16) rfl rfl (by decide +kernel) (by decide)
theorem zk_E_snub_23 : zr_Ok zM_E_snub zp_E_snub 23 (zz_ret1 zz_isI) := zo_ireturn (pc := 41) rfl (by decide +kernel) rfl
theorem zk_E_snub : zr_OkL zM_E_snub zp_E_snub 0 zc_E_snub := ⟨zk_E_snub_0, zk_E_snub_1, zk_E_snub_2, zk_E_snub_3, zk_E_snub_4, zk_E_snub_5, zk_E_snub_6, zk_E_snub_7, zk_E_snub_8, zk_E_snub_9, zk_E_snub_10, zk_E_snub_11, zk_E_snub_12, zk_E_snub_13, zk_E_snub_14, zk_E_snub_15, zo_no, zo_no, zo_no, zo_no, zo_no, zo_no, zo_no, zk_E_snub_23, trivial⟩
abbrev zM_E_snubDegree : zr_M := (RX7, cX7_snubDegree, 4, (some .int), "snubDegree")
theorem zk_E_snubDegree_0 : zr_Ok zM_E_snubDegree zp_E_snubDegree 0 (zz_load zz_isA 0) := zo_aload_n (pc := 0) (i := 0) (f := 0) rfl rfl rfl (by decide +kernel)
theorem zk_E_snubDegree_1 : zr_Ok zM_E_snubDegree zp_E_snubDegree 1 (zz_load zz_isI 1) := zo_iload_n (pc := 1) (i := 1) (f := 1) rfl rfl rfl (by decide +kernel)
theorem zk_E_snubDegree_2 : zr_Ok zM_E_snubDegree zp_E_snubDegree 2 (zz_load zz_isI 2) := zo_iload_n (pc := 2) (i := 2) (f := 2) rfl rfl rfl (by decide +kernel)
theorem zk_E_snubDegree_3 : zr_Ok zM_E_snubDegree zp_E_snubDegree 3 (zz_load zz_isI 2) := zo_iload_n (pc := 3) (i := 2) (f := 2) rfl rfl rfl (by decide +kernel)
theorem zk_E_snubDegree_4 : zr_Ok zM_E_snubDegree zp_E_snubDegree 4 (zz_call (zz_recv 5) 102 4) := zo_callV (C := RX7) (T := TX7) (N := 4) (idx := 259) (mi := 102) (n := 3) (pc := 4) zg_ok rfl rfl (by decide +kernel) rfl zw_389 (by decide) rfl zw_390 zw_391 zw_392 zw_38 (by decide +kernel)
theorem zk_E_snubDegree_5 : zr_Ok zM_E_snubDegree zp_E_snubDegree 5 (zz_store zz_isI 3) := zo_istore_n (pc := 7) (i := 3) (f := 3) rfl rfl rfl (by decide +kernel) (by decide)
theorem zk_E_snubDegree_6 : zr_Ok zM_E_snubDegree zp_E_snubDegree 6 (zz_load zz_isI 3) := zo_iload_n (pc := 8) (i := 3) (f := 3) rfl rfl rfl (by decide +kernel)
theorem zk_E_snubDegree_7 : zr_Ok zM_E_snubDegree zp_E_snubDegree 7 (zz_eq0 7 11 0) := zo_if_eq (pc := 9) (t := 10) (tgt := 16) (off := 7) rfl rfl rfl (by decide +kernel) (by decide)
theorem zk_E_snubDegree_8 : zr_Ok zM_E_snubDegree zp_E_snubDegree 8 (zz_load zz_isI 3) := zo_iload_n (pc := 12) (i := 3) (f := 3) rfl rfl rfl (by decide +kernel)
theorem zk_E_snubDegree_9 : zr_Ok zM_E_snubDegree zp_E_snubDegree 9 (zz_goto 16) := zo_goto (pc := 13) (t := 16) (tgt := 28) (off := 15) rfl rfl (by decide +kernel) (by decide)
theorem zk_E_snubDegree_16 : zr_Ok zM_E_snubDegree zp_E_snubDegree 16 (zz_ret1 zz_isI) := zo_ireturn (pc := 28) rfl (by decide +kernel) rfl
theorem zk_E_snubDegree : zr_OkL zM_E_snubDegree zp_E_snubDegree 0 zc_E_snubDegree := ⟨zk_E_snubDegree_0, zk_E_snubDegree_1, zk_E_snubDegree_2, zk_E_snubDegree_3, zk_E_snubDegree_4, zk_E_snubDegree_5, zk_E_snubDegree_6, zk_E_snubDegree_7, zk_E_snubDegree_8, zk_E_snubDegree_9, zo_no, zo_no, zo_no, zo_no, zo_no, zo_no, zk_E_snubDegree_16, trivial⟩
abbrev zM_E_snubFaces : zr_M := (RX7, cX7_snubFaces, 4, (some .int), "snubFaces")
theorem zk_E_snubFaces_0 : zr_Ok zM_E_snubFaces zp_E_snubFaces 0 (zz_load zz_isA 0) := zo_aload_n (pc := 0) (i := 0) (f := 0) rfl rfl rfl (by decide +kernel)
theorem zk_E_snubFaces_1 : zr_Ok zM_E_snubFaces zp_E_snubFaces 1 (zz_load zz_isI 1) := zo_iload_n (pc := 1) (i := 1) (f := 1) rfl rfl rfl (by decide +kernel)
theorem zk_E_snubFaces_2 : zr_Ok zM_E_snubFaces zp_E_snubFaces 2 (zz_load zz_isI 2) := zo_iload_n (pc := 2) (i := 2) (f := 2) rfl rfl rfl (by decide +kernel)
theorem zk_E_snubFaces_3 : zr_Ok zM_E_snubFaces zp_E_snubFaces 3 (zz_push (.inl 2)) := zo_iconst (pc := 3) (n := 2) (v := 2) rfl rfl (by decide +kernel) (by decide +kernel)
theorem zk_E_snubFaces_4 : zr_Ok zM_E_snubFaces zp_E_snubFaces 4 (zz_ilt 4 0 8) := zo_icmp_ge (pc := 4) (t := 7) (tgt := 11) (off := 7) rfl rfl rfl (by decide +kernel) (by decide)
theorem zk_E_snubFaces_5 : zr_Ok zM_E_snubFaces zp_E_snubFaces 5 (zz_push (.inl 1)) := zo_iconst (pc := 7) (n := 1) (v := 1) rfl rfl (by decide +kernel) (by decide +kernel)
theorem zk_E_snubFaces_6 : zr_Ok zM_E_snubFaces zp_E_snubFaces 6 (zz_goto 8) := zo_goto (pc := 8) (t := 8) (tgt := 12) (off := 4) rfl rfl (by decide +kernel) (by decide)
theorem zk_E_snubFaces_7 : zr_Ok zM_E_snubFaces zp_E_snubFaces 7 (zz_push (.inl 0)) := zo_iconst (pc := 11) (n := 0) (v := 0) rfl rfl (by decide +kernel) (by decide +kernel)
theorem zk_E_snubFaces_8 : zr_Ok zM_E_snubFaces zp_E_snubFaces 8 (zz_call (zz_recv 5) 61 3) := zo_callV (C := RX7) (T := TX7) (N := 4) (idx := 210) (mi := 61) (n := 2) (pc := 12) zg_ok rfl rfl (by decide +kernel) rfl zw_291 (by decide) rfl zw_292 zw_293 zw_294 zw_38 (by decide +kernel)
theorem zk_E_snubFaces_9 : zr_Ok zM_E_snubFaces zp_E_snubFaces 9 (zz_store zz_isI 3) := zo_istore_n (pc := 15) (i := 3) (f := 3) rfl rfl rfl (by decide +kernel) (by decide)
theorem zk_E_snubFaces_10 : zr_Ok zM_E_snubFaces zp_E_snubFaces 10 (zz_load zz_isI 3) := zo_iload_n (pc := 16) (i := 3) (f := 3) rfl rfl rfl (by decide +kernel)
theorem zk_E_snubFaces_11 : zr_Ok zM_E_snubFaces zp_E_snubFaces 11 (zz_eq0 11 15 0) := zo_if_eq (pc := 17) (t := 14) (tgt := 24) (off := 7) rfl rfl rfl (by decide +kernel) (by decide)
theorem zk_E_snubFaces_12 : zr_Ok zM_E_snubFaces zp_E_snubFaces 12 (zz_load zz_isI 3) := zo_iload_n (pc := 20) (i := 3) (f := 3) rfl rfl rfl (by decide +kernel)
theorem zk_E_snubFaces_13 : zr_Ok zM_E_snubFaces zp_E_snubFaces 13 (zz_goto 21) := zo_goto (pc := 21) (t := 21) (tgt := 37) (off := 16) rfl rfl (by decide +kernel) (by decide)
theorem zk_E_snubFaces_21 : zr_Ok zM_E_snubFaces zp_E_snubFaces 21 (zz_ret1 zz_isI) := zo_ireturn (pc := 37) rfl (by decide +kernel) rfl
theorem zk_E_snubFaces : zr_OkL zM_E_snubFaces zp_E_snubFaces 0 zc_E_snubFaces := ⟨zk_E_snubFaces_0, zk_E_snubFaces_1, zk_E_snubFaces_2, zk_E_snubFaces_3, zk_E_snubFaces_4, zk_E_snubFaces_5, zk_E_snubFaces_6, zk_E_snubFaces_7, zk_E_snubFaces_8, zk_E_snubFaces_9, zk_E_snubFaces_10, zk_E_snubFaces_11, zk_E_snubFaces_12, zk_E_snubFaces_13, zo_no, zo_no, zo_no, zo_no, zo_no, zo_no, zo_no, zk_E_snubFaces_21, trivial⟩
abbrev zM_E_snubFar : zr_M := (RX7, cX7_snubFar, 5, (some .int), "snubFar")
theorem zk_E_snubFar_0 : zr_Ok zM_E_snubFar zp_E_snubFar 0 (zz_load zz_isA 0) := zo_aload_n (pc := 0) (i := 0) (f := 0) rfl rfl rfl (by decide +kernel)
theorem zk_E_snubFar_1 : zr_Ok zM_E_snubFar zp_E_snubFar 1 (zz_load zz_isI 1) := zo_iload_n (pc := 1) (i := 1) (f := 1) rfl rfl rfl (by decide +kernel)
theorem zk_E_snubFar_2 : zr_Ok zM_E_snubFar zp_E_snubFar 2 (zz_load zz_isI 2) := zo_iload_n (pc := 2) (i := 2) (f := 2) rfl rfl rfl (by decide +kernel)
theorem zk_E_snubFar_3 : zr_Ok zM_E_snubFar zp_E_snubFar 3 (zz_load zz_isI 3) := zo_iload_n (pc := 3) (i := 3) (f := 3) rfl rfl rfl (by decide +kernel)
theorem zk_E_snubFar_4 : zr_Ok zM_E_snubFar zp_E_snubFar 4 (zz_call (zz_recv 5) 102 4) := zo_callV (C := RX7) (T := TX7) (N := 4) (idx := 259) (mi := 102) (n := 3) (pc := 4) zg_ok rfl rfl (by decide +kernel) rfl zw_389 (by decide) rfl zw_390 zw_391 zw_392 zw_38 (by decide +kernel)
theorem zk_E_snubFar_5 : zr_Ok zM_E_snubFar zp_E_snubFar 5 (zz_store zz_isI 4) := zo_istore (pc := 7) (i := 4) rfl rfl (by decide +kernel) (by decide)
theorem zk_E_snubFar_6 : zr_Ok zM_E_snubFar zp_E_snubFar 6 (zz_load zz_isI 4) := zo_iload (pc := 9) (i := 4) rfl rfl (by decide +kernel)
theorem zk_E_snubFar_7 : zr_Ok zM_E_snubFar zp_E_snubFar 7 (zz_eq0 7 11 0) := zo_if_eq (pc := 11) (t := 10) (tgt := 19) (off := 8) rfl rfl rfl (by decide +kernel) (by decide)
theorem zk_E_snubFar_8 : zr_Ok zM_E_snubFar zp_E_snubFar 8 (zz_load zz_isI 4) := zo_iload (pc := 14) (i := 4) rfl rfl (by decide +kernel)
theorem zk_E_snubFar_9 : zr_Ok zM_E_snubFar zp_E_snubFar 9 (zz_goto 18) := zo_goto (pc := 16) (t := 18) (tgt := 33) (off := 17) rfl rfl (by decide +kernel) (by decide)
theorem zk_E_snubFar_18 : zr_Ok zM_E_snubFar zp_E_snubFar 18 (zz_ret1 zz_isI) := zo_ireturn (pc := 33) rfl (by decide +kernel) rfl
theorem zk_E_snubFar : zr_OkL zM_E_snubFar zp_E_snubFar 0 zc_E_snubFar := ⟨zk_E_snubFar_0, zk_E_snubFar_1, zk_E_snubFar_2, zk_E_snubFar_3, zk_E_snubFar_4, zk_E_snubFar_5, zk_E_snubFar_6, zk_E_snubFar_7, zk_E_snubFar_8, zk_E_snubFar_9, zo_no, zo_no, zo_no, zo_no, zo_no, zo_no, zo_no, zo_no, zk_E_snubFar_18, trivial⟩
abbrev zM_E_snubLaw : zr_M := (RX7, cX7_snubLaw, 4, (some .int), "snubLaw")
theorem zk_E_snubLaw_0 : zr_Ok zM_E_snubLaw zp_E_snubLaw 0 (zz_load zz_isA 0) := zo_aload_n (pc := 0) (i := 0) (f := 0) rfl rfl rfl (by decide +kernel)
theorem zk_E_snubLaw_1 : zr_Ok zM_E_snubLaw zp_E_snubLaw 1 (zz_load zz_isI 1) := zo_iload_n (pc := 1) (i := 1) (f := 1) rfl rfl rfl (by decide +kernel)
theorem zk_E_snubLaw_2 : zr_Ok zM_E_snubLaw zp_E_snubLaw 2 (zz_push (.inl 0)) := zo_iconst (pc := 2) (n := 0) (v := 0) rfl rfl (by decide +kernel) (by decide +kernel)
theorem zk_E_snubLaw_3 : zr_Ok zM_E_snubLaw zp_E_snubLaw 3 (zz_call (zz_recv 5) 61 3) := zo_callV (C := RX7) (T := TX7) (N := 4) (idx := 210) (mi := 61) (n := 2) (pc := 3) zg_ok rfl rfl (by decide +kernel) rfl zw_291 (by decide) rfl zw_292 zw_293 zw_294 zw_38 (by decide +kernel)
theorem zk_E_snubLaw_4 : zr_Ok zM_E_snubLaw zp_E_snubLaw 4 (zz_store zz_isI 2) := zo_istore_n (pc := 6) (i := 2) (f := 2) rfl rfl rfl (by decide +kernel) (by decide)
theorem zk_E_snubLaw_5 : zr_Ok zM_E_snubLaw zp_E_snubLaw 5 (zz_load zz_isI 2) := zo_iload_n (pc := 7) (i := 2) (f := 2) rfl rfl rfl (by decide +kernel)
theorem zk_E_snubLaw_6 : zr_Ok zM_E_snubLaw zp_E_snubLaw 6 (zz_eq0 6 10 0) := zo_if_eq (pc := 8) (t := 9) (tgt := 13) (off := 5) rfl rfl rfl (by decide +kernel) (by decide)
theorem zk_E_snubLaw_7 : zr_Ok zM_E_snubLaw zp_E_snubLaw 7 (zz_load zz_isI 2) := zo_iload_n (pc := 11) (i := 2) (f := 2) rfl rfl rfl (by decide +kernel)
theorem zk_E_snubLaw_8 : zr_Ok zM_E_snubLaw zp_E_snubLaw 8 (zz_ret1 zz_isI) := zo_ireturn (pc := 12) rfl (by decide +kernel) rfl
theorem zk_E_snubLaw : zr_OkL zM_E_snubLaw zp_E_snubLaw 0 zc_E_snubLaw := ⟨zk_E_snubLaw_0, zk_E_snubLaw_1, zk_E_snubLaw_2, zk_E_snubLaw_3, zk_E_snubLaw_4, zk_E_snubLaw_5, zk_E_snubLaw_6, zk_E_snubLaw_7, zk_E_snubLaw_8, trivial⟩
abbrev zM_G_turnsOf : zr_M := (RX3, cX3_turnsOf, 4, (some .int), "turnsOf")
theorem zk_G_turnsOf_0 : zr_Ok zM_G_turnsOf zp_G_turnsOf 0 (zz_push (.inl 1)) := zo_iconst (pc := 0) (n := 1) (v := 1) rfl rfl (by decide +kernel) (by decide +kernel)
theorem zk_G_turnsOf_1 : zr_Ok zM_G_turnsOf zp_G_turnsOf 1 (zz_store zz_isI 2) := zo_istore_n (pc := 1) (i := 2) (f := 2) rfl rfl rfl (by decide +kernel) (by decide)
theorem zk_G_turnsOf_2 : zr_Ok zM_G_turnsOf zp_G_turnsOf 2 (zz_load zz_isI 1) := zo_iload_n (pc := 2) (i := 1) (f := 1) rfl rfl rfl (by decide +kernel)
theorem zk_G_turnsOf_3 : zr_Ok zM_G_turnsOf zp_G_turnsOf 3 (zz_store zz_isI 3) := zo_istore_n (pc := 3) (i := 3) (f := 3) rfl rfl rfl (by decide +kernel) (by decide)
theorem zk_G_turnsOf_4 : zr_Ok zM_G_turnsOf zp_G_turnsOf 4 (zz_load zz_isI 3) := zo_iload_n (pc := 4) (i := 3) (f := 3) rfl rfl rfl (by decide +kernel)
theorem zk_G_turnsOf_5 : zr_Ok zM_G_turnsOf zp_G_turnsOf 5 (zz_eq0 5 18 0) := zo_if_eq (pc := 5) (t := 17) (tgt := 29) (off := 24) rfl rfl rfl (by decide +kernel) (by decide)
theorem zk_G_turnsOf_6 : zr_Ok zM_G_turnsOf zp_G_turnsOf 6 (zz_load zz_isI 2) := zo_iload_n (pc := 8) (i := 2) (f := 2) rfl rfl rfl (by decide +kernel)
theorem zk_G_turnsOf_7 : zr_Ok zM_G_turnsOf zp_G_turnsOf 7 (zz_load zz_isA 0) := zo_aload_n (pc := 9) (i := 0) (f := 0) rfl rfl rfl (by decide +kernel)
theorem zk_G_turnsOf_8 : zr_Ok zM_G_turnsOf zp_G_turnsOf 8 (zz_get 3 0) := zo_getf (pc := 10) (idx := 49) (C := RX3) (T := TX3) (N := 12) rfl rfl (by decide +kernel) rfl zin_X3 (by decide) zw_63
theorem zk_G_turnsOf_9 : zr_Ok zM_G_turnsOf zp_G_turnsOf 9 (zz_ilt 9 0 18) := zo_icmp_ge (pc := 13) (t := 17) (tgt := 29) (off := 16) rfl rfl rfl (by decide +kernel) (by decide)
theorem zk_G_turnsOf_10 : zr_Ok zM_G_turnsOf zp_G_turnsOf 10 (zz_load zz_isA 0) := zo_aload_n (pc := 16) (i := 0) (f := 0) rfl rfl rfl (by decide +kernel)
theorem zk_G_turnsOf_11 : zr_Ok zM_G_turnsOf zp_G_turnsOf 11 (zz_load zz_isI 3) := zo_iload_n (pc := 17) (i := 3) (f := 3) rfl rfl rfl (by decide +kernel)
theorem zk_G_turnsOf_12 : zr_Ok zM_G_turnsOf zp_G_turnsOf 12 (zz_load zz_isI 1) := zo_iload_n (pc := 18) (i := 1) (f := 1) rfl rfl rfl (by decide +kernel)
theorem zk_G_turnsOf_13 : zr_Ok zM_G_turnsOf zp_G_turnsOf 13 (zz_call (zz_recv 3) 39 3) := zo_callV (C := RX3) (T := TX3) (N := 12) (idx := 81) (mi := 39) (n := 2) (pc := 19) zg_ok rfl rfl (by decide +kernel) rfl zw_194 (by decide) rfl zw_393 zw_196 zw_197 zw_68 (by decide +kernel)
theorem zk_G_turnsOf_14 : zr_Ok zM_G_turnsOf zp_G_turnsOf 14 (zz_store zz_isI 3) := zo_istore_n (pc := 22) (i := 3) (f := 3) rfl rfl rfl (by decide +kernel) (by decide)
theorem zk_G_turnsOf_15 : zr_Ok zM_G_turnsOf zp_G_turnsOf 15 (zz_inc 15 2 1) := zo_iinc (pc := 23) (i := 2) (n2 := 1) (n := 1) rfl rfl (by decide +kernel) (by decide +kernel) (by decide)
theorem zk_G_turnsOf_16 : zr_Ok zM_G_turnsOf zp_G_turnsOf 16 (zz_goto 4) := zo_goto (pc := 26) (t := 4) (tgt := 4) (off := -22) rfl rfl (by decide +kernel) (by decide)
theorem zk_G_turnsOf_17 : zr_Ok zM_G_turnsOf zp_G_turnsOf 17 (zz_load zz_isI 2) := zo_iload_n (pc := 29) (i := 2) (f := 2) rfl rfl rfl (by decide +kernel)
theorem zk_G_turnsOf_18 : zr_Ok zM_G_turnsOf zp_G_turnsOf 18 (zz_ret1 zz_isI) := zo_ireturn (pc := 30) rfl (by decide +kernel) rfl
theorem zk_G_turnsOf : zr_OkL zM_G_turnsOf zp_G_turnsOf 0 zc_G_turnsOf := ⟨zk_G_turnsOf_0, zk_G_turnsOf_1, zk_G_turnsOf_2, zk_G_turnsOf_3, zk_G_turnsOf_4, zk_G_turnsOf_5, zk_G_turnsOf_6, zk_G_turnsOf_7, zk_G_turnsOf_8, zk_G_turnsOf_9, zk_G_turnsOf_10, zk_G_turnsOf_11, zk_G_turnsOf_12, zk_G_turnsOf_13, zk_G_turnsOf_14, zk_G_turnsOf_15, zk_G_turnsOf_16, zk_G_turnsOf_17, zk_G_turnsOf_18, trivial⟩
abbrev zM_E_turns : zr_M := (RX7, cX7_turns, 4, (some .int), "turns")
theorem zk_E_turns_0 : zr_Ok zM_E_turns zp_E_turns 0 (zz_load zz_isA 0) := zo_aload_n (pc := 0) (i := 0) (f := 0) rfl rfl rfl (by decide +kernel)
theorem zk_E_turns_1 : zr_Ok zM_E_turns zp_E_turns 1 (zz_load zz_isI 1) := zo_iload_n (pc := 1) (i := 1) (f := 1) rfl rfl rfl (by decide +kernel)
theorem zk_E_turns_2 : zr_Ok zM_E_turns zp_E_turns 2 (zz_load zz_isI 2) := zo_iload_n (pc := 2) (i := 2) (f := 2) rfl rfl rfl (by decide +kernel)
theorem zk_E_turns_3 : zr_Ok zM_E_turns zp_E_turns 3 (zz_load zz_isI 2) := zo_iload_n (pc := 3) (i := 2) (f := 2) rfl rfl rfl (by decide +kernel)
theorem zk_E_turns_4 : zr_Ok zM_E_turns zp_E_turns 4 (zz_call (zz_recv 5) 21 4) := zo_callV (C := RX7) (T := TX7) (N := 4) (idx := 99) (mi := 21) (n := 3) (pc := 4) zg_ok rfl rfl (by decide +kernel) rfl zw_119 (by decide) rfl zw_120 zw_121 zw_122 zw_38 (by decide +kernel)
theorem zk_E_turns_5 : zr_Ok zM_E_turns zp_E_turns 5 (zz_store zz_isI 3) := zo_istore_n (pc := 7) (i := 3) (f := 3) rfl rfl rfl (by decide +kernel) (by decide)
theorem zk_E_turns_6 : zr_Ok zM_E_turns zp_E_turns 6 (zz_load zz_isI 3) := zo_iload_n (pc := 8) (i := 3) (f := 3) rfl rfl rfl (by decide +kernel)
theorem zk_E_turns_7 : zr_Ok zM_E_turns zp_E_turns 7 (zz_eq0 7 11 0) := zo_if_eq (pc := 9) (t := 10) (tgt := 16) (off := 7) rfl rfl rfl (by decide +kernel) (by decide)
theorem zk_E_turns_8 : zr_Ok zM_E_turns zp_E_turns 8 (zz_load zz_isI 3) := zo_iload_n (pc := 12) (i := 3) (f := 3) rfl rfl rfl (by decide +kernel)
theorem zk_E_turns_9 : zr_Ok zM_E_turns zp_E_turns 9 (zz_goto 17) := zo_goto (pc := 13) (t := 17) (tgt := 29) (off := 16) rfl rfl (by decide +kernel) (by decide)
theorem zk_E_turns_10 : zr_Ok zM_E_turns zp_E_turns 10 (zz_load zz_isA 0) := zo_aload_n (pc := 16) (i := 0) (f := 0) rfl rfl rfl (by decide +kernel)
theorem zk_E_turns_11 : zr_Ok zM_E_turns zp_E_turns 11 (zz_get 5 0) := zo_getf (pc := 17) (idx := 11) (C := RX7) (T := TX7) (N := 4) rfl rfl (by decide +kernel) rfl zin_X7 (by decide) zw_26
theorem zk_E_turns_12 : zr_Ok zM_E_turns zp_E_turns 12 (zz_load zz_isI 1) := zo_iload_n (pc := 20) (i := 1) (f := 1) rfl rfl rfl (by decide +kernel)
theorem zk_E_turns_13 : zr_Ok zM_E_turns zp_E_turns 13 (zz_ald 13 3) := zo_aald (pc := 21) rfl rfl (by decide +kernel)
theorem zk_E_turns_14 : zr_Ok zM_E_turns zp_E_turns 14 (zz_call (zz_recv 0) 14 1) := zo_callV (C := RX0) (T := TX0) (N := 12) (idx := 90) (mi := 14) (n := 0) (pc := 22) zg_ok rfl rfl (by decide +kernel) rfl zw_91 (by decide) rfl zw_92 zw_93 zw_94 zw_28 (by decide +kernel)
theorem zk_E_turns_15 : zr_Ok zM_E_turns zp_E_turns 15 (zz_load zz_isI 2) := zo_iload_n (pc := 25) (i := 2) (f := 2) rfl rfl rfl (by decide +kernel)
theorem zk_E_turns_16 : zr_Ok zM_E_turns zp_E_turns 16 (zz_call (zz_recv 3) 111 2) := zo_callV (C := RX3) (T := TX3) (N := 12) (idx := 121) (mi := 111) (n := 1) (pc := 26) zg_ok rfl rfl (by decide +kernel) rfl zw_394 (by decide) rfl zw_395 zw_396 zw_397 zw_68 (by decide +kernel)
theorem zk_E_turns_17 : zr_Ok zM_E_turns zp_E_turns 17 (zz_ret1 zz_isI) := zo_ireturn (pc := 29) rfl (by decide +kernel) rfl
theorem zk_E_turns : zr_OkL zM_E_turns zp_E_turns 0 zc_E_turns := ⟨zk_E_turns_0, zk_E_turns_1, zk_E_turns_2, zk_E_turns_3, zk_E_turns_4, zk_E_turns_5, zk_E_turns_6, zk_E_turns_7, zk_E_turns_8, zk_E_turns_9, zk_E_turns_10, zk_E_turns_11, zk_E_turns_12, zk_E_turns_13, zk_E_turns_14, zk_E_turns_15, zk_E_turns_16, zk_E_turns_17, trivial⟩
abbrev zM_E_unlike : zr_M := (RX7, cX7_unlike, 3, (some .int), "unlike")
theorem zk_E_unlike_0 : zr_Ok zM_E_unlike zp_E_unlike 0 (zz_load zz_isA 0) := zo_aload_n (pc := 0) (i := 0) (f := 0) rfl rfl rfl (by decide +kernel)
theorem zk_E_unlike_1 : zr_Ok zM_E_unlike zp_E_unlike 1 (zz_load zz_isI 1) := zo_iload_n (pc := 1) (i := 1) (f := 1) rfl rfl rfl (by decide +kernel)
theorem zk_E_unlike_2 : zr_Ok zM_E_unlike zp_E_unlike 2 (zz_push (.inl 0)) := zo_iconst (pc := 2) (n := 0) (v := 0) rfl rfl (by decide +kernel) (by decide +kernel)
theorem zk_E_unlike_3 : zr_Ok zM_E_unlike zp_E_unlike 3 (zz_call (zz_recv 5) 61 3) := zo_callV (C := RX7) (T := TX7) (N := 4) (idx := 210) (mi := 61) (n := 2) (pc := 3) zg_ok rfl rfl (by decide +kernel) rfl zw_291 (by decide) rfl zw_292 zw_293 zw_294 zw_38 (by decide +kernel)
theorem zk_E_unlike_4 : zr_Ok zM_E_unlike zp_E_unlike 4 (zz_store zz_isI 2) := zo_istore_n (pc := 6) (i := 2) (f := 2) rfl rfl rfl (by decide +kernel) (by decide)
theorem zk_E_unlike_5 : zr_Ok zM_E_unlike zp_E_unlike 5 (zz_load zz_isI 2) := zo_iload_n (pc := 7) (i := 2) (f := 2) rfl rfl rfl (by decide +kernel)
theorem zk_E_unlike_6 : zr_Ok zM_E_unlike zp_E_unlike 6 (zz_eq0 6 10 0) := zo_if_eq (pc := 8) (t := 9) (tgt := 13) (off := 5) rfl rfl rfl (by decide +kernel) (by decide)
theorem zk_E_unlike_7 : zr_Ok zM_E_unlike zp_E_unlike 7 (zz_load zz_isI 2) := zo_iload_n (pc := 11) (i := 2) (f := 2) rfl rfl rfl (by decide +kernel)
theorem zk_E_unlike_8 : zr_Ok zM_E_unlike zp_E_unlike 8 (zz_ret1 zz_isI) := zo_ireturn (pc := 12) rfl (by decide +kernel) rfl
theorem zk_E_unlike : zr_OkL zM_E_unlike zp_E_unlike 0 zc_E_unlike := ⟨zk_E_unlike_0, zk_E_unlike_1, zk_E_unlike_2, zk_E_unlike_3, zk_E_unlike_4, zk_E_unlike_5, zk_E_unlike_6, zk_E_unlike_7, zk_E_unlike_8, trivial⟩
abbrev zM_A_fill2 : zr_M := (RJ7, cJ7_fill_d0a16, 5, none, "fill")
theorem zk_A_fill2_0 : zr_Ok zM_A_fill2 zp_A_fill2 0 (zz_push (.inl 0)) := zo_iconst (pc := 0) (n := 0) (v := 0) rfl rfl (by decide +kernel) (by decide +kernel)
theorem zk_A_fill2_1 : zr_Ok zM_A_fill2 zp_A_fill2 1 (zz_store zz_isI 3) := zo_istore_n (pc := 1) (i := 3) (f := 3) rfl rfl rfl (by decide +kernel) (by decide)
theorem zk_A_fill2_2 : zr_Ok zM_A_fill2 zp_A_fill2 2 (zz_load zz_isA 0) := zo_aload_n (pc := 2) (i := 0) (f := 0) rfl rfl rfl (by decide +kernel)
theorem zk_A_fill2_3 : zr_Ok zM_A_fill2 zp_A_fill2 3 (zz_alen) := zo_alen (pc := 3) rfl rfl (by decide +kernel)
theorem zk_A_fill2_4 : zr_Ok zM_A_fill2 zp_A_fill2 4 (zz_store zz_isI 4) := zo_istore (pc := 4) (i := 4) rfl rfl (by decide +kernel) (by decide)
theorem zj_A_fill2_5 : zr_Ok zM_A_fill2 zp_A_fill2 5 (zz_load zz_isI 3) := zo_iload_n (pc := 6) (i := 3) (f := 3) rfl rfl rfl (by decide +kernel)
theorem zj_A_fill2_6 : zr_Ok zM_A_fill2 zp_A_fill2 6 (zz_load zz_isI 4) := zo_iload (pc := 7) (i := 4) rfl rfl (by decide +kernel)
theorem zj_A_fill2_7 : zr_Ok zM_A_fill2 zp_A_fill2 7 (zz_ilt 7 0 15) := zo_icmp_ge (pc := 9) (t := 14) (tgt := 22) (off := 13) rfl rfl rfl (by decide +kernel) (by decide)
theorem zj_A_fill2_8 : zr_Ok zM_A_fill2 zp_A_fill2 8 (zz_load zz_isA 0) := zo_aload_n (pc := 12) (i := 0) (f := 0) rfl rfl rfl (by decide +kernel)
theorem zj_A_fill2_9 : zr_Ok zM_A_fill2 zp_A_fill2 9 (zz_load zz_isI 3) := zo_iload_n (pc := 13) (i := 3) (f := 3) rfl rfl rfl (by decide +kernel)
theorem zj_A_fill2_10 : zr_Ok zM_A_fill2 zp_A_fill2 10 (zz_load zz_isJ 1) := zo_lload_n (pc := 14) (i := 1) (f := 1) rfl rfl rfl (by decide +kernel)
theorem zj_A_fill2_11 : zr_Ok zM_A_fill2 zp_A_fill2 11 (zz_ast 11 2) := zo_last (pc := 15) rfl rfl (by decide +kernel)
theorem zj_A_fill2_12 : zr_Ok zM_A_fill2 zp_A_fill2 12 (zz_inc 12 3 1) := zo_iinc (pc := 16) (i := 3) (n2 := 1) (n := 1) rfl rfl (by decide +kernel) (by decide +kernel) (by decide)
theorem zj_A_fill2_13 : zr_Ok zM_A_fill2 zp_A_fill2 13 (zz_goto 5) := zo_goto (pc := 19) (t := 5) (tgt := 6) (off := -13) rfl rfl (by decide +kernel) (by decide)
theorem zk_A_fill2_6 : zr_Ok zM_A_fill2 zp_A_fill2 6 (zz_load zz_isI 4) := zo_iload (pc := 7) (i := 4) rfl rfl (by decide +kernel)
theorem zk_A_fill2_7 : zr_Ok zM_A_fill2 zp_A_fill2 7 (zz_ilt 7 0 15) := zo_icmp_ge (pc := 9) (t := 14) (tgt := 22) (off := 13) rfl rfl rfl (by decide +kernel) (by decide)
theorem zk_A_fill2_8 : zr_Ok zM_A_fill2 zp_A_fill2 8 (zz_load zz_isA 0) := zo_aload_n (pc := 12) (i := 0) (f := 0) rfl rfl rfl (by decide +kernel)
theorem zk_A_fill2_9 : zr_Ok zM_A_fill2 zp_A_fill2 9 (zz_load zz_isI 3) := zo_iload_n (pc := 13) (i := 3) (f := 3) rfl rfl rfl (by decide +kernel)
theorem zk_A_fill2_10 : zr_Ok zM_A_fill2 zp_A_fill2 10 (zz_load zz_isJ 1) := zo_lload_n (pc := 14) (i := 1) (f := 1) rfl rfl rfl (by decide +kernel)
theorem zk_A_fill2_11 : zr_Ok zM_A_fill2 zp_A_fill2 11 (zz_ast 11 2) := zo_last (pc := 15) rfl rfl (by decide +kernel)
theorem zk_A_fill2_12 : zr_Ok zM_A_fill2 zp_A_fill2 12 (zz_inc 12 3 1) := zo_iinc (pc := 16) (i := 3) (n2 := 1) (n := 1) rfl rfl (by decide +kernel) (by decide +kernel) (by decide)
theorem zk_A_fill2_13 : zr_Ok zM_A_fill2 zp_A_fill2 13 (zz_goto 5) := zo_goto (pc := 19) (t := 5) (tgt := 6) (off := -13) rfl rfl (by decide +kernel) (by decide)
theorem zk_A_fill2_14 : zr_Ok zM_A_fill2 zp_A_fill2 14 (zz_ret0) := zo_return (pc := 22) rfl (by decide +kernel) rfl
abbrev zM_C_countWays : zr_M := (RX1, cX1_countWays, 9, (some .long), "countWays")
theorem zk_C_countWays_0 : zr_Ok zM_C_countWays zp_C_countWays 0 (zz_load zz_isA 0) := zo_aload_n (pc := 0) (i := 0) (f := 0) rfl rfl rfl (by decide +kernel)
theorem zk_C_countWays_1 : zr_Ok zM_C_countWays zp_C_countWays 1 (zz_get 1 9) := zo_getf (pc := 1) (idx := 24) (C := RX1) (T := TX1) (N := 11) rfl rfl (by decide +kernel) rfl zin_X1 (by decide) zw_172
theorem zk_C_countWays_2 : zr_Ok zM_C_countWays zp_C_countWays 2 (zz_push (.inr (.inr (.inl 0)))) := zo_lconst (pc := 4) (n := 0) (v := 0) rfl rfl (by decide +kernel) (by decide +kernel)
theorem zk_C_countWays_3 : zr_Ok zM_C_countWays zp_C_countWays 3 (zz_call zz_any 114 2) := zo_callS (idx := 101) (mi := 114) (n := 2) (pc := 5) zg_ok rfl rfl (by decide +kernel) rfl zw_398 (by decide) zw_399 zw_400 zw_4 (by decide +kernel)
theorem zk_C_countWays_4 : zr_Ok zM_C_countWays zp_C_countWays 4 (zz_load zz_isA 0) := zo_aload_n (pc := 8) (i := 0) (f := 0) rfl rfl rfl (by decide +kernel)
theorem zk_C_countWays_5 : zr_Ok zM_C_countWays zp_C_countWays 5 (zz_get 1 9) := zo_getf (pc := 9) (idx := 24) (C := RX1) (T := TX1) (N := 11) rfl rfl (by decide +kernel) rfl zin_X1 (by decide) zw_172
theorem zk_C_countWays_6 : zr_Ok zM_C_countWays zp_C_countWays 6 (zz_load zz_isI 1) := zo_iload_n (pc := 12) (i := 1) (f := 1) rfl rfl rfl (by decide +kernel)
theorem zk_C_countWays_7 : zr_Ok zM_C_countWays zp_C_countWays 7 (zz_push (.inr (.inr (.inl 1)))) := zo_lconst (pc := 13) (n := 1) (v := 1) rfl rfl (by decide +kernel) (by decide +kernel)
theorem zk_C_countWays_8 : zr_Ok zM_C_countWays zp_C_countWays 8 (zz_ast 8 2) := zo_last (pc := 14) rfl rfl (by decide +kernel)
theorem zk_C_countWays_9 : zr_Ok zM_C_countWays zp_C_countWays 9 (zz_push (.inl 0)) := zo_iconst (pc := 15) (n := 0) (v := 0) rfl rfl (by decide +kernel) (by decide +kernel)
theorem zk_C_countWays_10 : zr_Ok zM_C_countWays zp_C_countWays 10 (zz_store zz_isI 4) := zo_istore (pc := 16) (i := 4) rfl rfl (by decide +kernel) (by decide)
theorem zk_C_countWays_11 : zr_Ok zM_C_countWays zp_C_countWays 11 (zz_load zz_isI 4) := zo_iload (pc := 18) (i := 4) rfl rfl (by decide +kernel)
theorem zk_C_countWays_12 : zr_Ok zM_C_countWays zp_C_countWays 12 (zz_load zz_isI 3) := zo_iload_n (pc := 20) (i := 3) (f := 3) rfl rfl rfl (by decide +kernel)
theorem zk_C_countWays_13 : zr_Ok zM_C_countWays zp_C_countWays 13 (zz_ilt 13 0 64) := zo_icmp_ge (pc := 21) (t := 63) (tgt := 120) (off := 99) rfl rfl rfl (by decide +kernel) (by decide)
theorem zk_C_countWays_14 : zr_Ok zM_C_countWays zp_C_countWays 14 (zz_push (.inl 0)) := zo_iconst (pc := 24) (n := 0) (v := 0) rfl rfl (by decide +kernel) (by decide +kernel)
theorem zk_C_countWays_15 : zr_Ok zM_C_countWays zp_C_countWays 15 (zz_store zz_isI 5) := zo_istore (pc := 25) (i := 5) rfl rfl (by decide +kernel) (by decide)
theorem zk_C_countWays_16 : zr_Ok zM_C_countWays zp_C_countWays 16 (zz_load zz_isI 5) := zo_iload (pc := 27) (i := 5) rfl rfl (by decide +kernel)
theorem zk_C_countWays_17 : zr_Ok zM_C_countWays zp_C_countWays 17 (zz_load zz_isA 0) := zo_aload_n (pc := 29) (i := 0) (f := 0) rfl rfl rfl (by decide +kernel)
theorem zk_C_countWays_18 : zr_Ok zM_C_countWays zp_C_countWays 18 (zz_get 1 4) := zo_getf (pc := 30) (idx := 49) (C := RX1) (T := TX1) (N := 11) rfl rfl (by decide +kernel) rfl zin_X1 (by decide) zw_203
theorem zk_C_countWays_19 : zr_Ok zM_C_countWays zp_C_countWays 19 (zz_ilt 19 0 53) := zo_icmp_ge (pc := 33) (t := 52) (tgt := 97) (off := 64) rfl rfl rfl (by decide +kernel) (by decide)
theorem zk_C_countWays_20 : zr_Ok zM_C_countWays zp_C_countWays 20 (zz_push (.inr (.inr (.inl 0)))) := zo_lconst (pc := 36) (n := 0) (v := 0) rfl rfl (by decide +kernel) (by decide +kernel)
theorem zk_C_countWays_21 : zr_Ok zM_C_countWays zp_C_countWays 21 (zz_lstore 6) := zo_lstore (pc := 37) (i := 6) rfl rfl (by decide +kernel) (by decide)
theorem zk_C_countWays_22 : zr_Ok zM_C_countWays zp_C_countWays 22 (zz_push (.inl 0)) := zo_iconst (pc := 39) (n := 0) (v := 0) rfl rfl (by decide +kernel) (by decide +kernel)
theorem zk_C_countWays_23 : zr_Ok zM_C_countWays zp_C_countWays 23 (zz_store zz_isI 8) := zo_istore (pc := 40) (i := 8) rfl rfl (by decide +kernel) (by decide)
theorem zk_C_countWays_24 : zr_Ok zM_C_countWays zp_C_countWays 24 (zz_load zz_isI 8) := zo_iload (pc := 42) (i := 8) rfl rfl (by decide +kernel)
theorem zk_C_countWays_25 : zr_Ok zM_C_countWays zp_C_countWays 25 (zz_load zz_isA 0) := zo_aload_n (pc := 44) (i := 0) (f := 0) rfl rfl rfl (by decide +kernel)
theorem zk_C_countWays_26 : zr_Ok zM_C_countWays zp_C_countWays 26 (zz_get 1 0) := zo_getf (pc := 45) (idx := 65) (C := RX1) (T := TX1) (N := 11) rfl rfl (by decide +kernel) rfl zin_X1 (by decide) zw_177
theorem zk_C_countWays_27 : zr_Ok zM_C_countWays zp_C_countWays 27 (zz_ilt 27 0 46) := zo_icmp_ge (pc := 48) (t := 45) (tgt := 82) (off := 34) rfl rfl rfl (by decide +kernel) (by decide)
theorem zk_C_countWays_28 : zr_Ok zM_C_countWays zp_C_countWays 28 (zz_load zz_isJ 6) := zo_lload (pc := 51) (i := 6) rfl rfl (by decide +kernel)
theorem zk_C_countWays_29 : zr_Ok zM_C_countWays zp_C_countWays 29 (zz_load zz_isA 0) := zo_aload_n (pc := 53) (i := 0) (f := 0) rfl rfl rfl (by decide +kernel)
theorem zk_C_countWays_30 : zr_Ok zM_C_countWays zp_C_countWays 30 (zz_get 1 9) := zo_getf (pc := 54) (idx := 24) (C := RX1) (T := TX1) (N := 11) rfl rfl (by decide +kernel) rfl zin_X1 (by decide) zw_172
theorem zk_C_countWays_31 : zr_Ok zM_C_countWays zp_C_countWays 31 (zz_load zz_isA 0) := zo_aload_n (pc := 57) (i := 0) (f := 0) rfl rfl rfl (by decide +kernel)
theorem zk_C_countWays_32 : zr_Ok zM_C_countWays zp_C_countWays 32 (zz_get 1 6) := zo_getf (pc := 58) (idx := 15) (C := RX1) (T := TX1) (N := 11) rfl rfl (by decide +kernel) rfl zin_X1 (by decide) zw_169
theorem zk_C_countWays_33 : zr_Ok zM_C_countWays zp_C_countWays 33 (zz_load zz_isI 5) := zo_iload (pc := 61) (i := 5) rfl rfl (by decide +kernel)
theorem zk_C_countWays_34 : zr_Ok zM_C_countWays zp_C_countWays 34 (zz_load zz_isA 0) := zo_aload_n (pc := 63) (i := 0) (f := 0) rfl rfl rfl (by decide +kernel)
theorem zk_C_countWays_35 : zr_Ok zM_C_countWays zp_C_countWays 35 (zz_get 1 0) := zo_getf (pc := 64) (idx := 65) (C := RX1) (T := TX1) (N := 11) rfl rfl (by decide +kernel) rfl zin_X1 (by decide) zw_177
theorem zk_C_countWays_36 : zr_Ok zM_C_countWays zp_C_countWays 36 (zz_bin 36 zz_mul) := zo_imul (pc := 67) rfl rfl (by decide +kernel)
theorem zk_C_countWays_37 : zr_Ok zM_C_countWays zp_C_countWays 37 (zz_load zz_isI 8) := zo_iload (pc := 68) (i := 8) rfl rfl (by decide +kernel)
theorem zk_C_countWays_38 : zr_Ok zM_C_countWays zp_C_countWays 38 (zz_bin 38 zz_add) := zo_iadd (pc := 70) rfl rfl (by decide +kernel)
theorem zk_C_countWays_39 : zr_Ok zM_C_countWays zp_C_countWays 39 (zz_ald 39 0) := zo_iald (pc := 71) rfl rfl (by decide +kernel)
theorem zk_C_countWays_40 : zr_Ok zM_C_countWays zp_C_countWays 40 (zz_ald 40 2) := zo_lald (pc := 72) rfl rfl (by decide +kernel)
theorem zk_C_countWays_41 : zr_Ok zM_C_countWays zp_C_countWays 41 (zz_lbin zz_ladd) := zo_ladd (pc := 73) rfl rfl (by decide +kernel)
theorem zk_C_countWays_42 : zr_Ok zM_C_countWays zp_C_countWays 42 (zz_lstore 6) := zo_lstore (pc := 74) (i := 6) rfl rfl (by decide +kernel) (by decide)
theorem zk_C_countWays_43 : zr_Ok zM_C_countWays zp_C_countWays 43 (zz_inc 43 8 1) := zo_iinc (pc := 76) (i := 8) (n2 := 1) (n := 1) rfl rfl (by decide +kernel) (by decide +kernel) (by decide)
theorem zk_C_countWays_44 : zr_Ok zM_C_countWays zp_C_countWays 44 (zz_goto 24) := zo_goto (pc := 79) (t := 24) (tgt := 42) (off := -37) rfl rfl (by decide +kernel) (by decide)
theorem zk_C_countWays_45 : zr_Ok zM_C_countWays zp_C_countWays 45 (zz_load zz_isA 0) := zo_aload_n (pc := 82) (i := 0) (f := 0) rfl rfl rfl (by decide +kernel)
theorem zk_C_countWays_46 : zr_Ok zM_C_countWays zp_C_countWays 46 (zz_get 1 10) := zo_getf (pc := 83) (idx := 28) (C := RX1) (T := TX1) (N := 11) rfl rfl (by decide +kernel) rfl zin_X1 (by decide) zw_173
theorem zk_C_countWays_47 : zr_Ok zM_C_countWays zp_C_countWays 47 (zz_load zz_isI 5) := zo_iload (pc := 86) (i := 5) rfl rfl (by decide +kernel)
theorem zk_C_countWays_48 : zr_Ok zM_C_countWays zp_C_countWays 48 (zz_load zz_isJ 6) := zo_lload (pc := 88) (i := 6) rfl rfl (by decide +kernel)
theorem zk_C_countWays_49 : zr_Ok zM_C_countWays zp_C_countWays 49 (zz_ast 49 2) := zo_last (pc := 90) rfl rfl (by decide +kernel)
theorem zk_C_countWays_50 : zr_Ok zM_C_countWays zp_C_countWays 50 (zz_inc 50 5 1) := zo_iinc (pc := 91) (i := 5) (n2 := 1) (n := 1) rfl rfl (by decide +kernel) (by decide +kernel) (by decide)
theorem zk_C_countWays_51 : zr_Ok zM_C_countWays zp_C_countWays 51 (zz_goto 16) := zo_goto (pc := 94) (t := 16) (tgt := 27) (off := -67) rfl rfl (by decide +kernel) (by decide)
theorem zk_C_countWays_52 : zr_Ok zM_C_countWays zp_C_countWays 52 (zz_load zz_isA 0) := zo_aload_n (pc := 97) (i := 0) (f := 0) rfl rfl rfl (by decide +kernel)
theorem zk_C_countWays_53 : zr_Ok zM_C_countWays zp_C_countWays 53 (zz_get 1 10) := zo_getf (pc := 98) (idx := 28) (C := RX1) (T := TX1) (N := 11) rfl rfl (by decide +kernel) rfl zin_X1 (by decide) zw_173
theorem zk_C_countWays_54 : zr_Ok zM_C_countWays zp_C_countWays 54 (zz_push (.inl 0)) := zo_iconst (pc := 101) (n := 0) (v := 0) rfl rfl (by decide +kernel) (by decide +kernel)
theorem zk_C_countWays_55 : zr_Ok zM_C_countWays zp_C_countWays 55 (zz_load zz_isA 0) := zo_aload_n (pc := 102) (i := 0) (f := 0) rfl rfl rfl (by decide +kernel)
theorem zk_C_countWays_56 : zr_Ok zM_C_countWays zp_C_countWays 56 (zz_get 1 9) := zo_getf (pc := 103) (idx := 24) (C := RX1) (T := TX1) (N := 11) rfl rfl (by decide +kernel) rfl zin_X1 (by decide) zw_172
theorem zk_C_countWays_57 : zr_Ok zM_C_countWays zp_C_countWays 57 (zz_push (.inl 0)) := zo_iconst (pc := 106) (n := 0) (v := 0) rfl rfl (by decide +kernel) (by decide +kernel)
theorem zk_C_countWays_58 : zr_Ok zM_C_countWays zp_C_countWays 58 (zz_load zz_isA 0) := zo_aload_n (pc := 107) (i := 0) (f := 0) rfl rfl rfl (by decide +kernel)
theorem zk_C_countWays_59 : zr_Ok zM_C_countWays zp_C_countWays 59 (zz_get 1 4) := zo_getf (pc := 108) (idx := 49) (C := RX1) (T := TX1) (N := 11) rfl rfl (by decide +kernel) rfl zin_X1 (by decide) zw_203
theorem zk_C_countWays_60 : zr_Ok zM_C_countWays zp_C_countWays 60 (zz_copy 2) := zo_copyl (pc := 111) (idx := 104) rfl rfl (by decide +kernel) zw_401 zw_361 zw_362 zw_363
theorem zk_C_countWays_61 : zr_Ok zM_C_countWays zp_C_countWays 61 (zz_inc 61 4 1) := zo_iinc (pc := 114) (i := 4) (n2 := 1) (n := 1) rfl rfl (by decide +kernel) (by decide +kernel) (by decide)
theorem zk_C_countWays_62 : zr_Ok zM_C_countWays zp_C_countWays 62 (zz_goto 11) := zo_goto (pc := 117) (t := 11) (tgt := 18) (off := -99) rfl rfl (by decide +kernel) (by decide)
theorem zk_C_countWays_63 : zr_Ok zM_C_countWays zp_C_countWays 63 (zz_load zz_isA 0) := zo_aload_n (pc := 120) (i := 0) (f := 0) rfl rfl rfl (by decide +kernel)
theorem zk_C_countWays_64 : zr_Ok zM_C_countWays zp_C_countWays 64 (zz_get 1 9) := zo_getf (pc := 121) (idx := 24) (C := RX1) (T := TX1) (N := 11) rfl rfl (by decide +kernel) rfl zin_X1 (by decide) zw_172
theorem zk_C_countWays_65 : zr_Ok zM_C_countWays zp_C_countWays 65 (zz_load zz_isI 2) := zo_iload_n (pc := 124) (i := 2) (f := 2) rfl rfl rfl (by decide +kernel)
theorem zk_C_countWays_66 : zr_Ok zM_C_countWays zp_C_countWays 66 (zz_ald 66 2) := zo_lald (pc := 125) rfl rfl (by decide +kernel)
theorem zk_C_countWays_67 : zr_Ok zM_C_countWays zp_C_countWays 67 (zz_ret1 zz_isJ) := zo_lreturn (pc := 126) rfl (by decide +kernel) rfl
theorem zk_C_countWays : zr_OkL zM_C_countWays zp_C_countWays 0 zc_C_countWays := ⟨zk_C_countWays_0, zk_C_countWays_1, zk_C_countWays_2, zk_C_countWays_3, zk_C_countWays_4, zk_C_countWays_5, zk_C_countWays_6, zk_C_countWays_7, zk_C_countWays_8, zk_C_countWays_9, zk_C_countWays_10, zk_C_countWays_11, zk_C_countWays_12, zk_C_countWays_13, zk_C_countWays_14, zk_C_countWays_15, zk_C_countWays_16, zk_C_countWays_17, zk_C_countWays_18, zk_C_countWays_19, zk_C_countWays_20, zk_C_countWays_21, zk_C_countWays_22, zk_C_countWays_23, zk_C_countWays_24, zk_C_countWays_25, zk_C_countWays_26, zk_C_countWays_27, zk_C_countWays_28, zk_C_countWays_29, zk_C_countWays_30, zk_C_countWays_31, zk_C_countWays_32, zk_C_countWays_33, zk_C_countWays_34, zk_C_countWays_35, zk_C_countWays_36, zk_C_countWays_37, zk_C_countWays_38, zk_C_countWays_39, zk_C_countWays_40, zk_C_countWays_41, zk_C_countWays_42, zk_C_countWays_43, zk_C_countWays_44, zk_C_countWays_45, zk_C_countWays_46, zk_C_countWays_47, zk_C_countWays_48, zk_C_countWays_49, zk_C_countWays_50, zk_C_countWays_51, zk_C_countWays_52, zk_C_countWays_53, zk_C_countWays_54, zk_C_countWays_55, zk_C_countWays_56, zk_C_countWays_57, zk_C_countWays_58, zk_C_countWays_59, zk_C_countWays_60, zk_C_countWays_61, zk_C_countWays_62, zk_C_countWays_63, zk_C_countWays_64, zk_C_countWays_65, zk_C_countWays_66, zk_C_countWays_67, trivial⟩
abbrev zM_E_ways : zr_M := (RX7, cX7_ways, 6, (some .long), "ways")
theorem zk_E_ways_0 : zr_Ok zM_E_ways zp_E_ways 0 (zz_load zz_isI 4) := zo_iload (pc := 0) (i := 4) rfl rfl (by decide +kernel)
theorem zk_E_ways_1 : zr_Ok zM_E_ways zp_E_ways 1 (zz_lt0 1 6 0) := zo_if_lt (pc := 2) (t := 5) (tgt := 12) (off := 10) rfl rfl rfl (by decide +kernel) (by decide)
theorem zk_E_ways_2 : zr_Ok zM_E_ways zp_E_ways 2 (zz_load zz_isI 4) := zo_iload (pc := 5) (i := 4) rfl rfl (by decide +kernel)
theorem zk_E_ways_3 : zr_Ok zM_E_ways zp_E_ways 3 (zz_push (.inl 12)) := zo_bipush (pc := 7) (n := 12) (v := 12) rfl rfl (by decide +kernel) (by decide +kernel)
theorem zk_E_ways_4 : zr_Ok zM_E_ways zp_E_ways 4 (zz_igt 4 0 8) := zo_icmp_le (pc := 9) (t := 7) (tgt := 16) (off := 7) rfl rfl rfl (by decide +kernel) (by decide)
theorem zk_E_ways_5 : zr_Ok zM_E_ways zp_E_ways 5 (zz_push (.inr (.inr (.inl 18446744073709551614)))) := zo_ldc2 (pc := 12) (i := 200) (v := 18446744073709551614) rfl rfl (by decide +kernel) zw_402
theorem zk_E_ways_6 : zr_Ok zM_E_ways zp_E_ways 6 (zz_ret1 zz_isJ) := zo_lreturn (pc := 15) rfl (by decide +kernel) rfl
theorem zk_E_ways_7 : zr_Ok zM_E_ways zp_E_ways 7 (zz_load zz_isA 0) := zo_aload_n (pc := 16) (i := 0) (f := 0) rfl rfl rfl (by decide +kernel)
theorem zk_E_ways_8 : zr_Ok zM_E_ways zp_E_ways 8 (zz_load zz_isI 1) := zo_iload_n (pc := 17) (i := 1) (f := 1) rfl rfl rfl (by decide +kernel)
theorem zk_E_ways_9 : zr_Ok zM_E_ways zp_E_ways 9 (zz_load zz_isI 2) := zo_iload_n (pc := 18) (i := 2) (f := 2) rfl rfl rfl (by decide +kernel)
theorem zk_E_ways_10 : zr_Ok zM_E_ways zp_E_ways 10 (zz_load zz_isI 3) := zo_iload_n (pc := 19) (i := 3) (f := 3) rfl rfl rfl (by decide +kernel)
theorem zk_E_ways_11 : zr_Ok zM_E_ways zp_E_ways 11 (zz_call (zz_recv 5) 57 4) := zo_callV (C := RX7) (T := TX7) (N := 4) (idx := 179) (mi := 57) (n := 3) (pc := 20) zg_ok rfl rfl (by decide +kernel) rfl zw_280 (by decide) rfl zw_281 zw_282 zw_283 zw_38 (by decide +kernel)
theorem zk_E_ways_12 : zr_Ok zM_E_ways zp_E_ways 12 (zz_store zz_isI 5) := zo_istore (pc := 23) (i := 5) rfl rfl (by decide +kernel) (by decide)
theorem zk_E_ways_13 : zr_Ok zM_E_ways zp_E_ways 13 (zz_load zz_isI 5) := zo_iload (pc := 25) (i := 5) rfl rfl (by decide +kernel)
theorem zk_E_ways_14 : zr_Ok zM_E_ways zp_E_ways 14 (zz_eq0 14 19 0) := zo_if_eq (pc := 27) (t := 18) (tgt := 36) (off := 9) rfl rfl rfl (by decide +kernel) (by decide)
theorem zk_E_ways_15 : zr_Ok zM_E_ways zp_E_ways 15 (zz_load zz_isI 5) := zo_iload (pc := 30) (i := 5) rfl rfl (by decide +kernel)
theorem zk_E_ways_16 : zr_Ok zM_E_ways zp_E_ways 16 (zz_i2l 16) := zo_i2l (pc := 32) rfl rfl (by decide +kernel)
theorem zk_E_ways_17 : zr_Ok zM_E_ways zp_E_ways 17 (zz_goto 27) := zo_goto (pc := 33) (t := 27) (tgt := 52) (off := 19) rfl rfl (by decide +kernel) (by decide)
theorem zk_E_ways_18 : zr_Ok zM_E_ways zp_E_ways 18 (zz_load zz_isA 0) := zo_aload_n (pc := 36) (i := 0) (f := 0) rfl rfl rfl (by decide +kernel)
theorem zk_E_ways_19 : zr_Ok zM_E_ways zp_E_ways 19 (zz_get 5 0) := zo_getf (pc := 37) (idx := 11) (C := RX7) (T := TX7) (N := 4) rfl rfl (by decide +kernel) rfl zin_X7 (by decide) zw_26
theorem zk_E_ways_20 : zr_Ok zM_E_ways zp_E_ways 20 (zz_load zz_isI 1) := zo_iload_n (pc := 40) (i := 1) (f := 1) rfl rfl rfl (by decide +kernel)
theorem zk_E_ways_21 : zr_Ok zM_E_ways zp_E_ways 21 (zz_ald 21 3) := zo_aald (pc := 41) rfl rfl (by decide +kernel)
theorem zk_E_ways_22 : zr_Ok zM_E_ways zp_E_ways 22 (zz_call (zz_recv 0) 43 1) := zo_callV (C := RX0) (T := TX0) (N := 12) (idx := 182) (mi := 43) (n := 0) (pc := 42) zg_ok rfl rfl (by decide +kernel) rfl zw_230 (by decide) rfl zw_231 zw_232 zw_233 zw_28 (by decide +kernel)
theorem zk_E_ways_23 : zr_Ok zM_E_ways zp_E_ways 23 (zz_load zz_isI 2) := zo_iload_n (pc := 45) (i := 2) (f := 2) rfl rfl rfl (by decide +kernel)
theorem zk_E_ways_24 : zr_Ok zM_E_ways zp_E_ways 24 (zz_load zz_isI 3) := zo_iload_n (pc := 46) (i := 3) (f := 3) rfl rfl rfl (by decide +kernel)
theorem zk_E_ways_25 : zr_Ok zM_E_ways zp_E_ways 25 (zz_load zz_isI 4) := zo_iload (pc := 47) (i := 4) rfl rfl (by decide +kernel)
theorem zk_E_ways_26 : zr_Ok zM_E_ways zp_E_ways 26 (zz_call (zz_recv 1) 115 4) := zo_callV (C := RX1) (T := TX1) (N := 11) (idx := 202) (mi := 115) (n := 3) (pc := 49) zg_ok rfl rfl (by decide +kernel) rfl zw_403 (by decide) rfl zw_404 zw_405 zw_406 zw_193 (by decide +kernel)
theorem zk_E_ways_27 : zr_Ok zM_E_ways zp_E_ways 27 (zz_ret1 zz_isJ) := zo_lreturn (pc := 52) rfl (by decide +kernel) rfl
theorem zk_E_ways : zr_OkL zM_E_ways zp_E_ways 0 zc_E_ways := ⟨zk_E_ways_0, zk_E_ways_1, zk_E_ways_2, zk_E_ways_3, zk_E_ways_4, zk_E_ways_5, zk_E_ways_6, zk_E_ways_7, zk_E_ways_8, zk_E_ways_9, zk_E_ways_10, zk_E_ways_11, zk_E_ways_12, zk_E_ways_13, zk_E_ways_14, zk_E_ways_15, zk_E_ways_16, zk_E_ways_17, zk_E_ways_18, zk_E_ways_19, zk_E_ways_20, zk_E_ways_21, zk_E_ways_22, zk_E_ways_23, zk_E_ways_24, zk_E_ways_25, zk_E_ways_26, zk_E_ways_27, trivial⟩
abbrev zM_E_within : zr_M := (RX7, cX7_within, 6, (some .int), "within")
theorem zk_E_within_0 : zr_Ok zM_E_within zp_E_within 0 (zz_load zz_isA 0) := zo_aload_n (pc := 0) (i := 0) (f := 0) rfl rfl rfl (by decide +kernel)
theorem zk_E_within_1 : zr_Ok zM_E_within zp_E_within 1 (zz_load zz_isI 1) := zo_iload_n (pc := 1) (i := 1) (f := 1) rfl rfl rfl (by decide +kernel)
theorem zk_E_within_2 : zr_Ok zM_E_within zp_E_within 2 (zz_load zz_isI 2) := zo_iload_n (pc := 2) (i := 2) (f := 2) rfl rfl rfl (by decide +kernel)
theorem zk_E_within_3 : zr_Ok zM_E_within zp_E_within 3 (zz_call (zz_recv 5) 47 3) := zo_callV (C := RX7) (T := TX7) (N := 4) (idx := 139) (mi := 47) (n := 2) (pc := 3) zg_ok rfl rfl (by decide +kernel) rfl zw_242 (by decide) rfl zw_243 zw_244 zw_245 zw_38 (by decide +kernel)
theorem zk_E_within_4 : zr_Ok zM_E_within zp_E_within 4 (zz_eq0 4 8 0) := zo_if_eq (pc := 6) (t := 7) (tgt := 12) (off := 6) rfl rfl rfl (by decide +kernel) (by decide)
theorem zk_E_within_5 : zr_Ok zM_E_within zp_E_within 5 (zz_push (.inl 4294967294)) := zo_bipush (pc := 9) (n := -2) (v := 4294967294) rfl rfl (by decide +kernel) (by decide +kernel)
theorem zk_E_within_6 : zr_Ok zM_E_within zp_E_within 6 (zz_ret1 zz_isI) := zo_ireturn (pc := 11) rfl (by decide +kernel) rfl
theorem zk_E_within_7 : zr_Ok zM_E_within zp_E_within 7 (zz_load zz_isA 0) := zo_aload_n (pc := 12) (i := 0) (f := 0) rfl rfl rfl (by decide +kernel)
theorem zk_E_within_8 : zr_Ok zM_E_within zp_E_within 8 (zz_load zz_isI 1) := zo_iload_n (pc := 13) (i := 1) (f := 1) rfl rfl rfl (by decide +kernel)
theorem zk_E_within_9 : zr_Ok zM_E_within zp_E_within 9 (zz_load zz_isI 3) := zo_iload_n (pc := 14) (i := 3) (f := 3) rfl rfl rfl (by decide +kernel)
theorem zk_E_within_10 : zr_Ok zM_E_within zp_E_within 10 (zz_load zz_isI 4) := zo_iload (pc := 15) (i := 4) rfl rfl (by decide +kernel)
theorem zk_E_within_11 : zr_Ok zM_E_within zp_E_within 11 (zz_call (zz_recv 5) 48 4) := zo_callV (C := RX7) (T := TX7) (N := 4) (idx := 154) (mi := 48) (n := 3) (pc := 17) zg_ok rfl rfl (by decide +kernel) rfl zw_253 (by decide) rfl zw_254 zw_255 zw_256 zw_38 (by decide +kernel)
theorem zk_E_within_12 : zr_Ok zM_E_within zp_E_within 12 (zz_store zz_isI 5) := zo_istore (pc := 20) (i := 5) rfl rfl (by decide +kernel) (by decide)
theorem zk_E_within_13 : zr_Ok zM_E_within zp_E_within 13 (zz_load zz_isI 5) := zo_iload (pc := 22) (i := 5) rfl rfl (by decide +kernel)
theorem zk_E_within_14 : zr_Ok zM_E_within zp_E_within 14 (zz_eq0 14 18 0) := zo_if_eq (pc := 24) (t := 17) (tgt := 30) (off := 6) rfl rfl rfl (by decide +kernel) (by decide)
theorem zk_E_within_15 : zr_Ok zM_E_within zp_E_within 15 (zz_load zz_isI 5) := zo_iload (pc := 27) (i := 5) rfl rfl (by decide +kernel)
theorem zk_E_within_16 : zr_Ok zM_E_within zp_E_within 16 (zz_ret1 zz_isI) := zo_ireturn (pc := 29) rfl (by decide +kernel) rfl
theorem zk_E_within_17 : zr_Ok zM_E_within zp_E_within 17 (zz_load zz_isI 2) := zo_iload_n (pc := 30) (i := 2) (f := 2) rfl rfl rfl (by decide +kernel)
theorem zk_E_within_18 : zr_Ok zM_E_within zp_E_within 18 (zz_load zz_isI 3) := zo_iload_n (pc := 31) (i := 3) (f := 3) rfl rfl rfl (by decide +kernel)
theorem zk_E_within_19 : zr_Ok zM_E_within zp_E_within 19 (zz_call zz_any 73 2) := zo_callS (idx := 166) (mi := 73) (n := 2) (pc := 32) zg_ok rfl rfl (by decide +kernel) rfl zw_348 (by decide) zw_349 zw_350 zw_38 (by decide +kernel)
theorem zk_E_within_20 : zr_Ok zM_E_within zp_E_within 20 (zz_eq0 20 33 0) := zo_if_eq (pc := 35) (t := 32) (tgt := 58) (off := 23) rfl rfl rfl (by decide +kernel) (by decide)
theorem zk_E_within_21 : zr_Ok zM_E_within zp_E_within 21 (zz_load zz_isA 0) := zo_aload_n (pc := 38) (i := 0) (f := 0) rfl rfl rfl (by decide +kernel)
theorem zk_E_within_22 : zr_Ok zM_E_within zp_E_within 22 (zz_get 5 0) := zo_getf (pc := 39) (idx := 11) (C := RX7) (T := TX7) (N := 4) rfl rfl (by decide +kernel) rfl zin_X7 (by decide) zw_26
theorem zk_E_within_23 : zr_Ok zM_E_within zp_E_within 23 (zz_load zz_isI 1) := zo_iload_n (pc := 42) (i := 1) (f := 1) rfl rfl rfl (by decide +kernel)
theorem zk_E_within_24 : zr_Ok zM_E_within zp_E_within 24 (zz_ald 24 3) := zo_aald (pc := 43) rfl rfl (by decide +kernel)
theorem zk_E_within_25 : zr_Ok zM_E_within zp_E_within 25 (zz_load zz_isI 2) := zo_iload_n (pc := 44) (i := 2) (f := 2) rfl rfl rfl (by decide +kernel)
theorem zk_E_within_26 : zr_Ok zM_E_within zp_E_within 26 (zz_call (zz_recv 0) 32 2) := zo_callV (C := RX0) (T := TX0) (N := 12) (idx := 142) (mi := 32) (n := 1) (pc := 45) zg_ok rfl rfl (by decide +kernel) rfl zw_219 (by decide) rfl zw_246 zw_221 zw_222 zw_28 (by decide +kernel)
theorem zk_E_within_27 : zr_Ok zM_E_within zp_E_within 27 (zz_load zz_isI 2) := zo_iload_n (pc := 48) (i := 2) (f := 2) rfl rfl rfl (by decide +kernel)
theorem zk_E_within_28 : zr_Ok zM_E_within zp_E_within 28 (zz_load zz_isI 3) := zo_iload_n (pc := 49) (i := 3) (f := 3) rfl rfl rfl (by decide +kernel)
theorem zk_E_within_29 : zr_Ok zM_E_within zp_E_within 29 (zz_load zz_isI 4) := zo_iload (pc := 50) (i := 4) rfl rfl (by decide +kernel)
theorem zk_E_within_30 : zr_Ok zM_E_within zp_E_within 30 (zz_call (zz_recv 4) 49 4) := zo_callV (C := RX4) (T := TX4) (N := 5) (idx := 160) (mi := 49) (n := 3) (pc := 52) zg_ok rfl rfl (by decide +kernel) rfl zw_249 (by decide) rfl zw_261 zw_251 zw_252 zw_154 (by decide +kernel)
theorem zk_E_within_31 : zr_Ok zM_E_within zp_E_within 31 (zz_goto 33) := zo_goto (pc := 55) (t := 33) (tgt := 59) (off := 4) rfl rfl (by decide +kernel) (by decide)
theorem zk_E_within_32 : zr_Ok zM_E_within zp_E_within 32 (zz_push (.inl 0)) := zo_iconst (pc := 58) (n := 0) (v := 0) rfl rfl (by decide +kernel) (by decide +kernel)
theorem zk_E_within_33 : zr_Ok zM_E_within zp_E_within 33 (zz_ret1 zz_isI) := zo_ireturn (pc := 59) rfl (by decide +kernel) rfl
theorem zk_E_within : zr_OkL zM_E_within zp_E_within 0 zc_E_within := ⟨zk_E_within_0, zk_E_within_1, zk_E_within_2, zk_E_within_3, zk_E_within_4, zk_E_within_5, zk_E_within_6, zk_E_within_7, zk_E_within_8, zk_E_within_9, zk_E_within_10, zk_E_within_11, zk_E_within_12, zk_E_within_13, zk_E_within_14, zk_E_within_15, zk_E_within_16, zk_E_within_17, zk_E_within_18, zk_E_within_19, zk_E_within_20, zk_E_within_21, zk_E_within_22, zk_E_within_23, zk_E_within_24, zk_E_within_25, zk_E_within_26, zk_E_within_27, zk_E_within_28, zk_E_within_29, zk_E_within_30, zk_E_within_31, zk_E_within_32, zk_E_within_33, trivial⟩
abbrev zM_M_renews : zr_M := (RX8, cX8_renews, 4, none, "renews")
theorem zk_M_renews_0 : zr_Ok zM_M_renews zp_M_renews 0 (zz_load zz_isA 0) := zo_aload_n (pc := 0) (i := 0) (f := 0) rfl rfl rfl (by decide +kernel)
theorem zk_M_renews_1 : zr_Ok zM_M_renews zp_M_renews 1 (zz_get 6 1) := zo_getf (pc := 1) (idx := 7) (C := RX8) (T := TX8) (N := 35) rfl rfl (by decide +kernel) rfl zin_X8 (by decide) zw_407
theorem zk_M_renews_2 : zr_Ok zM_M_renews zp_M_renews 2 (zz_load zz_isI 1) := zo_iload_n (pc := 4) (i := 1) (f := 1) rfl rfl rfl (by decide +kernel)
theorem zk_M_renews_3 : zr_Ok zM_M_renews zp_M_renews 3 (zz_load zz_isI 2) := zo_iload_n (pc := 5) (i := 2) (f := 2) rfl rfl rfl (by decide +kernel)
theorem zk_M_renews_4 : zr_Ok zM_M_renews zp_M_renews 4 (zz_ast 4 0) := zo_iast (pc := 6) rfl rfl (by decide +kernel)
theorem zk_M_renews_5 : zr_Ok zM_M_renews zp_M_renews 5 (zz_load zz_isA 0) := zo_aload_n (pc := 7) (i := 0) (f := 0) rfl rfl rfl (by decide +kernel)
theorem zk_M_renews_6 : zr_Ok zM_M_renews zp_M_renews 6 (zz_get 6 3) := zo_getf (pc := 8) (idx := 16) (C := RX8) (T := TX8) (N := 35) rfl rfl (by decide +kernel) rfl zin_X8 (by decide) zw_408
theorem zk_M_renews_7 : zr_Ok zM_M_renews zp_M_renews 7 (zz_load zz_isI 1) := zo_iload_n (pc := 11) (i := 1) (f := 1) rfl rfl rfl (by decide +kernel)
theorem zk_M_renews_8 : zr_Ok zM_M_renews zp_M_renews 8 (zz_push (.inl 1)) := zo_iconst (pc := 12) (n := 1) (v := 1) rfl rfl (by decide +kernel) (by decide +kernel)
theorem zk_M_renews_9 : zr_Ok zM_M_renews zp_M_renews 9 (zz_ast 9 0) := zo_iast (pc := 13) rfl rfl (by decide +kernel)
theorem zk_M_renews_10 : zr_Ok zM_M_renews zp_M_renews 10 (zz_push (.inl 0)) := zo_iconst (pc := 14) (n := 0) (v := 0) rfl rfl (by decide +kernel) (by decide +kernel)
theorem zk_M_renews_11 : zr_Ok zM_M_renews zp_M_renews 11 (zz_store zz_isI 3) := zo_istore_n (pc := 15) (i := 3) (f := 3) rfl rfl rfl (by decide +kernel) (by decide)
theorem zk_M_renews_12 : zr_Ok zM_M_renews zp_M_renews 12 (zz_load zz_isI 3) := zo_iload_n (pc := 16) (i := 3) (f := 3) rfl rfl rfl (by decide +kernel)
theorem zk_M_renews_13 : zr_Ok zM_M_renews zp_M_renews 13 (zz_push (.inl 16)) := zo_bipush (pc := 17) (n := 16) (v := 16) rfl rfl (by decide +kernel) (by decide +kernel)
theorem zk_M_renews_14 : zr_Ok zM_M_renews zp_M_renews 14 (zz_ilt 14 0 27) := zo_icmp_ge (pc := 19) (t := 26) (tgt := 40) (off := 21) rfl rfl rfl (by decide +kernel) (by decide)
theorem zk_M_renews_15 : zr_Ok zM_M_renews zp_M_renews 15 (zz_load zz_isA 0) := zo_aload_n (pc := 22) (i := 0) (f := 0) rfl rfl rfl (by decide +kernel)
theorem zk_M_renews_16 : zr_Ok zM_M_renews zp_M_renews 16 (zz_get 6 2) := zo_getf (pc := 23) (idx := 13) (C := RX8) (T := TX8) (N := 35) rfl rfl (by decide +kernel) rfl zin_X8 (by decide) zw_409
theorem zk_M_renews_17 : zr_Ok zM_M_renews zp_M_renews 17 (zz_push (.inl 16)) := zo_bipush (pc := 26) (n := 16) (v := 16) rfl rfl (by decide +kernel) (by decide +kernel)
theorem zk_M_renews_18 : zr_Ok zM_M_renews zp_M_renews 18 (zz_load zz_isI 1) := zo_iload_n (pc := 28) (i := 1) (f := 1) rfl rfl rfl (by decide +kernel)
theorem zk_M_renews_19 : zr_Ok zM_M_renews zp_M_renews 19 (zz_bin 19 zz_mul) := zo_imul (pc := 29) rfl rfl (by decide +kernel)
theorem zk_M_renews_20 : zr_Ok zM_M_renews zp_M_renews 20 (zz_load zz_isI 3) := zo_iload_n (pc := 30) (i := 3) (f := 3) rfl rfl rfl (by decide +kernel)
theorem zk_M_renews_21 : zr_Ok zM_M_renews zp_M_renews 21 (zz_bin 21 zz_add) := zo_iadd (pc := 31) rfl rfl (by decide +kernel)
theorem zk_M_renews_22 : zr_Ok zM_M_renews zp_M_renews 22 (zz_push (.inl 2)) := zo_iconst (pc := 32) (n := 2) (v := 2) rfl rfl (by decide +kernel) (by decide +kernel)
theorem zk_M_renews_23 : zr_Ok zM_M_renews zp_M_renews 23 (zz_ast 23 0) := zo_iast (pc := 33) rfl rfl (by decide +kernel)
theorem zk_M_renews_24 : zr_Ok zM_M_renews zp_M_renews 24 (zz_inc 24 3 1) := zo_iinc (pc := 34) (i := 3) (n2 := 1) (n := 1) rfl rfl (by decide +kernel) (by decide +kernel) (by decide)
theorem zk_M_renews_25 : zr_Ok zM_M_renews zp_M_renews 25 (zz_goto 12) := zo_goto (pc := 37) (t := 12) (tgt := 16) (off := -21) rfl rfl (by decide +kernel) (by decide)
theorem zk_M_renews_26 : zr_Ok zM_M_renews zp_M_renews 26 (zz_ret0) := zo_return (pc := 40) rfl (by decide +kernel) rfl
theorem zk_M_renews : zr_OkL zM_M_renews zp_M_renews 0 zc_M_renews := ⟨zk_M_renews_0, zk_M_renews_1, zk_M_renews_2, zk_M_renews_3, zk_M_renews_4, zk_M_renews_5, zk_M_renews_6, zk_M_renews_7, zk_M_renews_8, zk_M_renews_9, zk_M_renews_10, zk_M_renews_11, zk_M_renews_12, zk_M_renews_13, zk_M_renews_14, zk_M_renews_15, zk_M_renews_16, zk_M_renews_17, zk_M_renews_18, zk_M_renews_19, zk_M_renews_20, zk_M_renews_21, zk_M_renews_22, zk_M_renews_23, zk_M_renews_24, zk_M_renews_25, zk_M_renews_26, trivial⟩
abbrev zM_M_rootOf : zr_M := (RX8, cX8_rootOf, 2, (some .int), "rootOf")
theorem zk_M_rootOf_0 : zr_Ok zM_M_rootOf zp_M_rootOf 0 (zz_push (.inl 1)) := zo_iconst (pc := 0) (n := 1) (v := 1) rfl rfl (by decide +kernel) (by decide +kernel)
theorem zk_M_rootOf_1 : zr_Ok zM_M_rootOf zp_M_rootOf 1 (zz_store zz_isI 1) := zo_istore_n (pc := 1) (i := 1) (f := 1) rfl rfl rfl (by decide +kernel) (by decide)
theorem zk_M_rootOf_2 : zr_Ok zM_M_rootOf zp_M_rootOf 2 (zz_load zz_isI 1) := zo_iload_n (pc := 2) (i := 1) (f := 1) rfl rfl rfl (by decide +kernel)
theorem zk_M_rootOf_3 : zr_Ok zM_M_rootOf zp_M_rootOf 3 (zz_load zz_isI 1) := zo_iload_n (pc := 3) (i := 1) (f := 1) rfl rfl rfl (by decide +kernel)
theorem zk_M_rootOf_4 : zr_Ok zM_M_rootOf zp_M_rootOf 4 (zz_bin 4 zz_mul) := zo_imul (pc := 4) rfl rfl (by decide +kernel)
theorem zk_M_rootOf_5 : zr_Ok zM_M_rootOf zp_M_rootOf 5 (zz_push (.inl 241)) := zo_sipush (pc := 5) (n := 241) (v := 241) rfl rfl (by decide +kernel) (by decide +kernel)
theorem zk_M_rootOf_6 : zr_Ok zM_M_rootOf zp_M_rootOf 6 (zz_rem 6) := zo_irem (pc := 8) rfl rfl (by decide +kernel)
theorem zk_M_rootOf_7 : zr_Ok zM_M_rootOf zp_M_rootOf 7 (zz_load zz_isI 0) := zo_iload_n (pc := 9) (i := 0) (f := 0) rfl rfl rfl (by decide +kernel)
theorem zk_M_rootOf_8 : zr_Ok zM_M_rootOf zp_M_rootOf 8 (zz_ieq 8 12 0) := zo_icmp_eq (pc := 10) (t := 11) (tgt := 19) (off := 9) rfl rfl rfl (by decide +kernel) (by decide)
theorem zk_M_rootOf_9 : zr_Ok zM_M_rootOf zp_M_rootOf 9 (zz_inc 9 1 1) := zo_iinc (pc := 13) (i := 1) (n2 := 1) (n := 1) rfl rfl (by decide +kernel) (by decide +kernel) (by decide)
theorem zk_M_rootOf_10 : zr_Ok zM_M_rootOf zp_M_rootOf 10 (zz_goto 2) := zo_goto (pc := 16) (t := 2) (tgt := 2) (off := -14) rfl rfl (by decide +kernel) (by decide)
theorem zk_M_rootOf_11 : zr_Ok zM_M_rootOf zp_M_rootOf 11 (zz_load zz_isI 1) := zo_iload_n (pc := 19) (i := 1) (f := 1) rfl rfl rfl (by decide +kernel)
theorem zk_M_rootOf_12 : zr_Ok zM_M_rootOf zp_M_rootOf 12 (zz_ret1 zz_isI) := zo_ireturn (pc := 20) rfl (by decide +kernel) rfl
theorem zk_M_rootOf : zr_OkL zM_M_rootOf zp_M_rootOf 0 zc_M_rootOf := ⟨zk_M_rootOf_0, zk_M_rootOf_1, zk_M_rootOf_2, zk_M_rootOf_3, zk_M_rootOf_4, zk_M_rootOf_5, zk_M_rootOf_6, zk_M_rootOf_7, zk_M_rootOf_8, zk_M_rootOf_9, zk_M_rootOf_10, zk_M_rootOf_11, zk_M_rootOf_12, trivial⟩
abbrev zM_M_init : zr_M := (RX8, cX8_init, 2, none, "<init>")
theorem zk_M_init_0 : zr_Ok zM_M_init zp_M_init 0 (zz_load zz_isA 0) := zo_aload_n (pc := 0) (i := 0) (f := 0) rfl rfl rfl (by decide +kernel)
theorem zk_M_init_1 : zr_Ok zM_M_init zp_M_init 1 (zz_obj) := zo_obj (pc := 1) (idx := 1) rfl rfl (by decide +kernel) zw_410 zw_9 zw_10
theorem zk_M_init_2 : zr_Ok zM_M_init zp_M_init 2 (zz_load zz_isA 0) := zo_aload_n (pc := 4) (i := 0) (f := 0) rfl rfl rfl (by decide +kernel)
theorem zk_M_init_3 : zr_Ok zM_M_init zp_M_init 3 (zz_push (.inl 4)) := zo_iconst (pc := 5) (n := 4) (v := 4) rfl rfl (by decide +kernel) (by decide +kernel)
theorem zk_M_init_4 : zr_Ok zM_M_init zp_M_init 4 (zz_newa 0) := zo_newi (pc := 6) rfl rfl (by decide +kernel) zw_11
theorem zk_M_init_5 : zr_Ok zM_M_init zp_M_init 5 (zz_putf 6 1 2) := zo_putF (pc := 8) (idx := 7) (C := RX8) (T := TX8) (N := 35) (ty0 := tyX8) rfl rfl (by decide +kernel) rfl zin_X8 tyX8_ok nmX8 (by decide) zw_407 rfl (Or.inr ⟨_, rfl⟩) rfl rfl
theorem zk_M_init_6 : zr_Ok zM_M_init zp_M_init 6 (zz_load zz_isA 0) := zo_aload_n (pc := 11) (i := 0) (f := 0) rfl rfl rfl (by decide +kernel)
theorem zk_M_init_7 : zr_Ok zM_M_init zp_M_init 7 (zz_push (.inl 64)) := zo_bipush (pc := 12) (n := 64) (v := 64) rfl rfl (by decide +kernel) (by decide +kernel)
theorem zk_M_init_8 : zr_Ok zM_M_init zp_M_init 8 (zz_newa 0) := zo_newi (pc := 14) rfl rfl (by decide +kernel) zw_11
theorem zk_M_init_9 : zr_Ok zM_M_init zp_M_init 9 (zz_putf 6 2 2) := zo_putF (pc := 16) (idx := 13) (C := RX8) (T := TX8) (N := 35) (ty0 := tyX8) rfl rfl (by decide +kernel) rfl zin_X8 tyX8_ok nmX8 (by decide) zw_409 rfl (Or.inr ⟨_, rfl⟩) rfl rfl
theorem zk_M_init_10 : zr_Ok zM_M_init zp_M_init 10 (zz_load zz_isA 0) := zo_aload_n (pc := 19) (i := 0) (f := 0) rfl rfl rfl (by decide +kernel)
theorem zk_M_init_11 : zr_Ok zM_M_init zp_M_init 11 (zz_push (.inl 4)) := zo_iconst (pc := 20) (n := 4) (v := 4) rfl rfl (by decide +kernel) (by decide +kernel)
theorem zk_M_init_12 : zr_Ok zM_M_init zp_M_init 12 (zz_newa 0) := zo_newi (pc := 21) rfl rfl (by decide +kernel) zw_11
theorem zk_M_init_13 : zr_Ok zM_M_init zp_M_init 13 (zz_putf 6 3 2) := zo_putF (pc := 23) (idx := 16) (C := RX8) (T := TX8) (N := 35) (ty0 := tyX8) rfl rfl (by decide +kernel) rfl zin_X8 tyX8_ok nmX8 (by decide) zw_408 rfl (Or.inr ⟨_, rfl⟩) rfl rfl
theorem zk_M_init_14 : zr_Ok zM_M_init zp_M_init 14 (zz_load zz_isA 0) := zo_aload_n (pc := 26) (i := 0) (f := 0) rfl rfl rfl (by decide +kernel)
theorem zk_M_init_15 : zr_Ok zM_M_init zp_M_init 15 (zz_push (.inl 7)) := zo_bipush (pc := 27) (n := 7) (v := 7) rfl rfl (by decide +kernel) (by decide +kernel)
theorem zk_M_init_16 : zr_Ok zM_M_init zp_M_init 16 (zz_newa 0) := zo_newi (pc := 29) rfl rfl (by decide +kernel) zw_11
theorem zk_M_init_17 : zr_Ok zM_M_init zp_M_init 17 (zz_putf 6 4 2) := zo_putF (pc := 31) (idx := 19) (C := RX8) (T := TX8) (N := 35) (ty0 := tyX8) rfl rfl (by decide +kernel) rfl zin_X8 tyX8_ok nmX8 (by decide) zw_411 rfl (Or.inr ⟨_, rfl⟩) rfl rfl
theorem zk_M_init_18 : zr_Ok zM_M_init zp_M_init 18 (zz_load zz_isA 0) := zo_aload_n (pc := 34) (i := 0) (f := 0) rfl rfl rfl (by decide +kernel)
theorem zk_M_init_19 : zr_Ok zM_M_init zp_M_init 19 (zz_push (.inl 4294967295)) := zo_iconst (pc := 35) (n := -1) (v := 4294967295) rfl rfl (by decide +kernel) (by decide +kernel)
theorem zk_M_init_20 : zr_Ok zM_M_init zp_M_init 20 (zz_putf 6 5 0) := zo_putf (pc := 36) (idx := 22) (C := RX8) (T := TX8) (N := 35) (ty0 := tyX8) rfl rfl (by decide +kernel) rfl zin_X8 tyX8_ok nmX8 (by decide) zw_412 rfl rfl
theorem zk_M_init_21 : zr_Ok zM_M_init zp_M_init 21 (zz_load zz_isA 0) := zo_aload_n (pc := 39) (i := 0) (f := 0) rfl rfl rfl (by decide +kernel)
theorem zk_M_init_22 : zr_Ok zM_M_init zp_M_init 22 (zz_push (.inl 8000)) := zo_sipush (pc := 40) (n := 8000) (v := 8000) rfl rfl (by decide +kernel) (by decide +kernel)
theorem zk_M_init_23 : zr_Ok zM_M_init zp_M_init 23 (zz_newa 0) := zo_newi (pc := 43) rfl rfl (by decide +kernel) zw_11
theorem zk_M_init_24 : zr_Ok zM_M_init zp_M_init 24 (zz_putf 6 9 2) := zo_putF (pc := 45) (idx := 26) (C := RX8) (T := TX8) (N := 35) (ty0 := tyX8) rfl rfl (by decide +kernel) rfl zin_X8 tyX8_ok nmX8 (by decide) zw_413 rfl (Or.inr ⟨_, rfl⟩) rfl rfl
theorem zk_M_init_25 : zr_Ok zM_M_init zp_M_init 25 (zz_load zz_isA 0) := zo_aload_n (pc := 48) (i := 0) (f := 0) rfl rfl rfl (by decide +kernel)
theorem zk_M_init_26 : zr_Ok zM_M_init zp_M_init 26 (zz_push (.inl 16)) := zo_bipush (pc := 49) (n := 16) (v := 16) rfl rfl (by decide +kernel) (by decide +kernel)
theorem zk_M_init_27 : zr_Ok zM_M_init zp_M_init 27 (zz_newa 0) := zo_newi (pc := 51) rfl rfl (by decide +kernel) zw_11
theorem zk_M_init_28 : zr_Ok zM_M_init zp_M_init 28 (zz_putf 6 10 2) := zo_putF (pc := 53) (idx := 29) (C := RX8) (T := TX8) (N := 35) (ty0 := tyX8) rfl rfl (by decide +kernel) rfl zin_X8 tyX8_ok nmX8 (by decide) zw_414 rfl (Or.inr ⟨_, rfl⟩) rfl rfl
theorem zk_M_init_29 : zr_Ok zM_M_init zp_M_init 29 (zz_load zz_isA 0) := zo_aload_n (pc := 56) (i := 0) (f := 0) rfl rfl rfl (by decide +kernel)
theorem zk_M_init_30 : zr_Ok zM_M_init zp_M_init 30 (zz_push (.inl 2000)) := zo_sipush (pc := 57) (n := 2000) (v := 2000) rfl rfl (by decide +kernel) (by decide +kernel)
theorem zk_M_init_31 : zr_Ok zM_M_init zp_M_init 31 (zz_newa 0) := zo_newi (pc := 60) rfl rfl (by decide +kernel) zw_11
theorem zk_M_init_32 : zr_Ok zM_M_init zp_M_init 32 (zz_putf 6 11 2) := zo_putF (pc := 62) (idx := 32) (C := RX8) (T := TX8) (N := 35) (ty0 := tyX8) rfl rfl (by decide +kernel) rfl zin_X8 tyX8_ok nmX8 (by decide) zw_415 rfl (Or.inr ⟨_, rfl⟩) rfl rfl
theorem zk_M_init_33 : zr_Ok zM_M_init zp_M_init 33 (zz_load zz_isA 0) := zo_aload_n (pc := 65) (i := 0) (f := 0) rfl rfl rfl (by decide +kernel)
theorem zk_M_init_34 : zr_Ok zM_M_init zp_M_init 34 (zz_push (.inl 500)) := zo_sipush (pc := 66) (n := 500) (v := 500) rfl rfl (by decide +kernel) (by decide +kernel)
theorem zk_M_init_35 : zr_Ok zM_M_init zp_M_init 35 (zz_newa 0) := zo_newi (pc := 69) rfl rfl (by decide +kernel) zw_11
theorem zk_M_init_36 : zr_Ok zM_M_init zp_M_init 36 (zz_putf 6 12 2) := zo_putF (pc := 71) (idx := 35) (C := RX8) (T := TX8) (N := 35) (ty0 := tyX8) rfl rfl (by decide +kernel) rfl zin_X8 tyX8_ok nmX8 (by decide) zw_416 rfl (Or.inr ⟨_, rfl⟩) rfl rfl
theorem zk_M_init_37 : zr_Ok zM_M_init zp_M_init 37 (zz_load zz_isA 0) := zo_aload_n (pc := 74) (i := 0) (f := 0) rfl rfl rfl (by decide +kernel)
theorem zk_M_init_38 : zr_Ok zM_M_init zp_M_init 38 (zz_push (.inl 500)) := zo_sipush (pc := 75) (n := 500) (v := 500) rfl rfl (by decide +kernel) (by decide +kernel)
theorem zk_M_init_39 : zr_Ok zM_M_init zp_M_init 39 (zz_newa 0) := zo_newi (pc := 78) rfl rfl (by decide +kernel) zw_11
theorem zk_M_init_40 : zr_Ok zM_M_init zp_M_init 40 (zz_putf 6 13 2) := zo_putF (pc := 80) (idx := 38) (C := RX8) (T := TX8) (N := 35) (ty0 := tyX8) rfl rfl (by decide +kernel) rfl zin_X8 tyX8_ok nmX8 (by decide) zw_417 rfl (Or.inr ⟨_, rfl⟩) rfl rfl
theorem zk_M_init_41 : zr_Ok zM_M_init zp_M_init 41 (zz_load zz_isA 0) := zo_aload_n (pc := 83) (i := 0) (f := 0) rfl rfl rfl (by decide +kernel)
theorem zk_M_init_42 : zr_Ok zM_M_init zp_M_init 42 (zz_push (.inl 500)) := zo_sipush (pc := 84) (n := 500) (v := 500) rfl rfl (by decide +kernel) (by decide +kernel)
theorem zk_M_init_43 : zr_Ok zM_M_init zp_M_init 43 (zz_newa 0) := zo_newi (pc := 87) rfl rfl (by decide +kernel) zw_11
theorem zk_M_init_44 : zr_Ok zM_M_init zp_M_init 44 (zz_putf 6 14 2) := zo_putF (pc := 89) (idx := 41) (C := RX8) (T := TX8) (N := 35) (ty0 := tyX8) rfl rfl (by decide +kernel) rfl zin_X8 tyX8_ok nmX8 (by decide) zw_418 rfl (Or.inr ⟨_, rfl⟩) rfl rfl
theorem zk_M_init_45 : zr_Ok zM_M_init zp_M_init 45 (zz_load zz_isA 0) := zo_aload_n (pc := 92) (i := 0) (f := 0) rfl rfl rfl (by decide +kernel)
theorem zk_M_init_46 : zr_Ok zM_M_init zp_M_init 46 (zz_push (.inl 500)) := zo_sipush (pc := 93) (n := 500) (v := 500) rfl rfl (by decide +kernel) (by decide +kernel)
theorem zk_M_init_47 : zr_Ok zM_M_init zp_M_init 47 (zz_newa 0) := zo_newi (pc := 96) rfl rfl (by decide +kernel) zw_11
theorem zk_M_init_48 : zr_Ok zM_M_init zp_M_init 48 (zz_putf 6 15 2) := zo_putF (pc := 98) (idx := 44) (C := RX8) (T := TX8) (N := 35) (ty0 := tyX8) rfl rfl (by decide +kernel) rfl zin_X8 tyX8_ok nmX8 (by decide) zw_419 rfl (Or.inr ⟨_, rfl⟩) rfl rfl
theorem zk_M_init_49 : zr_Ok zM_M_init zp_M_init 49 (zz_load zz_isA 0) := zo_aload_n (pc := 101) (i := 0) (f := 0) rfl rfl rfl (by decide +kernel)
theorem zk_M_init_50 : zr_Ok zM_M_init zp_M_init 50 (zz_push (.inl 500)) := zo_sipush (pc := 102) (n := 500) (v := 500) rfl rfl (by decide +kernel) (by decide +kernel)
theorem zk_M_init_51 : zr_Ok zM_M_init zp_M_init 51 (zz_newa 0) := zo_newi (pc := 105) rfl rfl (by decide +kernel) zw_11
theorem zk_M_init_52 : zr_Ok zM_M_init zp_M_init 52 (zz_putf 6 17 2) := zo_putF (pc := 107) (idx := 47) (C := RX8) (T := TX8) (N := 35) (ty0 := tyX8) rfl rfl (by decide +kernel) rfl zin_X8 tyX8_ok nmX8 (by decide) zw_420 rfl (Or.inr ⟨_, rfl⟩) rfl rfl
theorem zk_M_init_53 : zr_Ok zM_M_init zp_M_init 53 (zz_load zz_isA 0) := zo_aload_n (pc := 110) (i := 0) (f := 0) rfl rfl rfl (by decide +kernel)
theorem zk_M_init_54 : zr_Ok zM_M_init zp_M_init 54 (zz_push (.inl 500)) := zo_sipush (pc := 111) (n := 500) (v := 500) rfl rfl (by decide +kernel) (by decide +kernel)
theorem zk_M_init_55 : zr_Ok zM_M_init zp_M_init 55 (zz_newa 0) := zo_newi (pc := 114) rfl rfl (by decide +kernel) zw_11
theorem zk_M_init_56 : zr_Ok zM_M_init zp_M_init 56 (zz_putf 6 19 2) := zo_putF (pc := 116) (idx := 50) (C := RX8) (T := TX8) (N := 35) (ty0 := tyX8) rfl rfl (by decide +kernel) rfl zin_X8 tyX8_ok nmX8 (by decide) zw_421 rfl (Or.inr ⟨_, rfl⟩) rfl rfl
theorem zk_M_init_57 : zr_Ok zM_M_init zp_M_init 57 (zz_load zz_isA 0) := zo_aload_n (pc := 119) (i := 0) (f := 0) rfl rfl rfl (by decide +kernel)
theorem zk_M_init_58 : zr_Ok zM_M_init zp_M_init 58 (zz_push (.inl 500)) := zo_sipush (pc := 120) (n := 500) (v := 500) rfl rfl (by decide +kernel) (by decide +kernel)
theorem zk_M_init_59 : zr_Ok zM_M_init zp_M_init 59 (zz_newa 0) := zo_newi (pc := 123) rfl rfl (by decide +kernel) zw_11
theorem zk_M_init_60 : zr_Ok zM_M_init zp_M_init 60 (zz_putf 6 20 2) := zo_putF (pc := 125) (idx := 53) (C := RX8) (T := TX8) (N := 35) (ty0 := tyX8) rfl rfl (by decide +kernel) rfl zin_X8 tyX8_ok nmX8 (by decide) zw_422 rfl (Or.inr ⟨_, rfl⟩) rfl rfl
theorem zk_M_init_61 : zr_Ok zM_M_init zp_M_init 61 (zz_load zz_isA 0) := zo_aload_n (pc := 128) (i := 0) (f := 0) rfl rfl rfl (by decide +kernel)
theorem zk_M_init_62 : zr_Ok zM_M_init zp_M_init 62 (zz_push (.inl 500)) := zo_sipush (pc := 129) (n := 500) (v := 500) rfl rfl (by decide +kernel) (by decide +kernel)
theorem zk_M_init_63 : zr_Ok zM_M_init zp_M_init 63 (zz_newa 0) := zo_newi (pc := 132) rfl rfl (by decide +kernel) zw_11
theorem zk_M_init_64 : zr_Ok zM_M_init zp_M_init 64 (zz_putf 6 21 2) := zo_putF (pc := 134) (idx := 56) (C := RX8) (T := TX8) (N := 35) (ty0 := tyX8) rfl rfl (by decide +kernel) rfl zin_X8 tyX8_ok nmX8 (by decide) zw_423 rfl (Or.inr ⟨_, rfl⟩) rfl rfl
theorem zk_M_init_65 : zr_Ok zM_M_init zp_M_init 65 (zz_load zz_isA 0) := zo_aload_n (pc := 137) (i := 0) (f := 0) rfl rfl rfl (by decide +kernel)
theorem zk_M_init_66 : zr_Ok zM_M_init zp_M_init 66 (zz_push (.inl 500)) := zo_sipush (pc := 138) (n := 500) (v := 500) rfl rfl (by decide +kernel) (by decide +kernel)
theorem zk_M_init_67 : zr_Ok zM_M_init zp_M_init 67 (zz_newa 0) := zo_newi (pc := 141) rfl rfl (by decide +kernel) zw_11
theorem zk_M_init_68 : zr_Ok zM_M_init zp_M_init 68 (zz_putf 6 22 2) := zo_putF (pc := 143) (idx := 59) (C := RX8) (T := TX8) (N := 35) (ty0 := tyX8) rfl rfl (by decide +kernel) rfl zin_X8 tyX8_ok nmX8 (by decide) zw_424 rfl (Or.inr ⟨_, rfl⟩) rfl rfl
theorem zk_M_init_69 : zr_Ok zM_M_init zp_M_init 69 (zz_load zz_isA 0) := zo_aload_n (pc := 146) (i := 0) (f := 0) rfl rfl rfl (by decide +kernel)
theorem zk_M_init_70 : zr_Ok zM_M_init zp_M_init 70 (zz_push (.inl 500)) := zo_sipush (pc := 147) (n := 500) (v := 500) rfl rfl (by decide +kernel) (by decide +kernel)
theorem zk_M_init_71 : zr_Ok zM_M_init zp_M_init 71 (zz_newa 1) := zo_newz (pc := 150) rfl rfl (by decide +kernel) zw_425
theorem zk_M_init_72 : zr_Ok zM_M_init zp_M_init 72 (zz_putf 6 23 2) := zo_putF (pc := 152) (idx := 62) (C := RX8) (T := TX8) (N := 35) (ty0 := tyX8) rfl rfl (by decide +kernel) rfl zin_X8 tyX8_ok nmX8 (by decide) zw_426 rfl (Or.inr ⟨_, rfl⟩) rfl rfl
theorem zk_M_init_73 : zr_Ok zM_M_init zp_M_init 73 (zz_load zz_isA 0) := zo_aload_n (pc := 155) (i := 0) (f := 0) rfl rfl rfl (by decide +kernel)
theorem zk_M_init_74 : zr_Ok zM_M_init zp_M_init 74 (zz_push (.inl 500)) := zo_sipush (pc := 156) (n := 500) (v := 500) rfl rfl (by decide +kernel) (by decide +kernel)
theorem zk_M_init_75 : zr_Ok zM_M_init zp_M_init 75 (zz_newa 2) := zo_newj (pc := 159) rfl rfl (by decide +kernel) zw_35
theorem zk_M_init_76 : zr_Ok zM_M_init zp_M_init 76 (zz_putf 6 24 2) := zo_putF (pc := 161) (idx := 66) (C := RX8) (T := TX8) (N := 35) (ty0 := tyX8) rfl rfl (by decide +kernel) rfl zin_X8 tyX8_ok nmX8 (by decide) zw_427 rfl (Or.inr ⟨_, rfl⟩) rfl rfl
theorem zk_M_init_77 : zr_Ok zM_M_init zp_M_init 77 (zz_load zz_isA 0) := zo_aload_n (pc := 164) (i := 0) (f := 0) rfl rfl rfl (by decide +kernel)
theorem zk_M_init_78 : zr_Ok zM_M_init zp_M_init 78 (zz_push (.inl 500)) := zo_sipush (pc := 165) (n := 500) (v := 500) rfl rfl (by decide +kernel) (by decide +kernel)
theorem zk_M_init_79 : zr_Ok zM_M_init zp_M_init 79 (zz_newa 2) := zo_newj (pc := 168) rfl rfl (by decide +kernel) zw_35
theorem zk_M_init_80 : zr_Ok zM_M_init zp_M_init 80 (zz_putf 6 25 2) := zo_putF (pc := 170) (idx := 70) (C := RX8) (T := TX8) (N := 35) (ty0 := tyX8) rfl rfl (by decide +kernel) rfl zin_X8 tyX8_ok nmX8 (by decide) zw_428 rfl (Or.inr ⟨_, rfl⟩) rfl rfl
theorem zk_M_init_81 : zr_Ok zM_M_init zp_M_init 81 (zz_load zz_isA 0) := zo_aload_n (pc := 173) (i := 0) (f := 0) rfl rfl rfl (by decide +kernel)
theorem zk_M_init_82 : zr_Ok zM_M_init zp_M_init 82 (zz_push (.inl 250000)) := zo_ldc (pc := 174) (i := 73) (v := 250000) rfl rfl (by decide +kernel) zw_429
theorem zk_M_init_83 : zr_Ok zM_M_init zp_M_init 83 (zz_newa 1) := zo_newz (pc := 176) rfl rfl (by decide +kernel) zw_425
theorem zk_M_init_84 : zr_Ok zM_M_init zp_M_init 84 (zz_putf 6 26 2) := zo_putF (pc := 178) (idx := 74) (C := RX8) (T := TX8) (N := 35) (ty0 := tyX8) rfl rfl (by decide +kernel) rfl zin_X8 tyX8_ok nmX8 (by decide) zw_430 rfl (Or.inr ⟨_, rfl⟩) rfl rfl
theorem zk_M_init_85 : zr_Ok zM_M_init zp_M_init 85 (zz_load zz_isA 0) := zo_aload_n (pc := 181) (i := 0) (f := 0) rfl rfl rfl (by decide +kernel)
theorem zk_M_init_86 : zr_Ok zM_M_init zp_M_init 86 (zz_push (.inl 1500)) := zo_sipush (pc := 182) (n := 1500) (v := 1500) rfl rfl (by decide +kernel) (by decide +kernel)
theorem zk_M_init_87 : zr_Ok zM_M_init zp_M_init 87 (zz_newa 0) := zo_newi (pc := 185) rfl rfl (by decide +kernel) zw_11
theorem zk_M_init_88 : zr_Ok zM_M_init zp_M_init 88 (zz_putf 6 27 2) := zo_putF (pc := 187) (idx := 77) (C := RX8) (T := TX8) (N := 35) (ty0 := tyX8) rfl rfl (by decide +kernel) rfl zin_X8 tyX8_ok nmX8 (by decide) zw_431 rfl (Or.inr ⟨_, rfl⟩) rfl rfl
theorem zk_M_init_89 : zr_Ok zM_M_init zp_M_init 89 (zz_load zz_isA 0) := zo_aload_n (pc := 190) (i := 0) (f := 0) rfl rfl rfl (by decide +kernel)
theorem zk_M_init_90 : zr_Ok zM_M_init zp_M_init 90 (zz_push (.inl 1500)) := zo_sipush (pc := 191) (n := 1500) (v := 1500) rfl rfl (by decide +kernel) (by decide +kernel)
theorem zk_M_init_91 : zr_Ok zM_M_init zp_M_init 91 (zz_newa 0) := zo_newi (pc := 194) rfl rfl (by decide +kernel) zw_11
theorem zk_M_init_92 : zr_Ok zM_M_init zp_M_init 92 (zz_putf 6 28 2) := zo_putF (pc := 196) (idx := 80) (C := RX8) (T := TX8) (N := 35) (ty0 := tyX8) rfl rfl (by decide +kernel) rfl zin_X8 tyX8_ok nmX8 (by decide) zw_432 rfl (Or.inr ⟨_, rfl⟩) rfl rfl
theorem zk_M_init_93 : zr_Ok zM_M_init zp_M_init 93 (zz_load zz_isA 0) := zo_aload_n (pc := 199) (i := 0) (f := 0) rfl rfl rfl (by decide +kernel)
theorem zk_M_init_94 : zr_Ok zM_M_init zp_M_init 94 (zz_push (.inl 3)) := zo_iconst (pc := 200) (n := 3) (v := 3) rfl rfl (by decide +kernel) (by decide +kernel)
theorem zk_M_init_95 : zr_Ok zM_M_init zp_M_init 95 (zz_newa 0) := zo_newi (pc := 201) rfl rfl (by decide +kernel) zw_11
theorem zk_M_init_96 : zr_Ok zM_M_init zp_M_init 96 (zz_putf 6 29 2) := zo_putF (pc := 203) (idx := 83) (C := RX8) (T := TX8) (N := 35) (ty0 := tyX8) rfl rfl (by decide +kernel) rfl zin_X8 tyX8_ok nmX8 (by decide) zw_433 rfl (Or.inr ⟨_, rfl⟩) rfl rfl
theorem zk_M_init_97 : zr_Ok zM_M_init zp_M_init 97 (zz_load zz_isA 0) := zo_aload_n (pc := 206) (i := 0) (f := 0) rfl rfl rfl (by decide +kernel)
theorem zk_M_init_98 : zr_Ok zM_M_init zp_M_init 98 (zz_push (.inl 64)) := zo_bipush (pc := 207) (n := 64) (v := 64) rfl rfl (by decide +kernel) (by decide +kernel)
theorem zk_M_init_99 : zr_Ok zM_M_init zp_M_init 99 (zz_newa 0) := zo_newi (pc := 209) rfl rfl (by decide +kernel) zw_11
theorem zk_M_init_100 : zr_Ok zM_M_init zp_M_init 100 (zz_putf 6 30 2) := zo_putF (pc := 211) (idx := 86) (C := RX8) (T := TX8) (N := 35) (ty0 := tyX8) rfl rfl (by decide +kernel) rfl zin_X8 tyX8_ok nmX8 (by decide) zw_434 rfl (Or.inr ⟨_, rfl⟩) rfl rfl
theorem zk_M_init_101 : zr_Ok zM_M_init zp_M_init 101 (zz_load zz_isA 0) := zo_aload_n (pc := 214) (i := 0) (f := 0) rfl rfl rfl (by decide +kernel)
theorem zk_M_init_102 : zr_Ok zM_M_init zp_M_init 102 (zz_push (.inl 210)) := zo_sipush (pc := 215) (n := 210) (v := 210) rfl rfl (by decide +kernel) (by decide +kernel)
theorem zk_M_init_103 : zr_Ok zM_M_init zp_M_init 103 (zz_newa 0) := zo_newi (pc := 218) rfl rfl (by decide +kernel) zw_11
theorem zk_M_init_104 : zr_Ok zM_M_init zp_M_init 104 (zz_putf 6 32 2) := zo_putF (pc := 220) (idx := 89) (C := RX8) (T := TX8) (N := 35) (ty0 := tyX8) rfl rfl (by decide +kernel) rfl zin_X8 tyX8_ok nmX8 (by decide) zw_435 rfl (Or.inr ⟨_, rfl⟩) rfl rfl
theorem zk_M_init_105 : zr_Ok zM_M_init zp_M_init 105 (zz_load zz_isA 0) := zo_aload_n (pc := 223) (i := 0) (f := 0) rfl rfl rfl (by decide +kernel)
theorem zk_M_init_106 : zr_Ok zM_M_init zp_M_init 106 (zz_push (.inl 500)) := zo_sipush (pc := 224) (n := 500) (v := 500) rfl rfl (by decide +kernel) (by decide +kernel)
theorem zk_M_init_107 : zr_Ok zM_M_init zp_M_init 107 (zz_newa 0) := zo_newi (pc := 227) rfl rfl (by decide +kernel) zw_11
theorem zk_M_init_108 : zr_Ok zM_M_init zp_M_init 108 (zz_putf 6 33 2) := zo_putF (pc := 229) (idx := 92) (C := RX8) (T := TX8) (N := 35) (ty0 := tyX8) rfl rfl (by decide +kernel) rfl zin_X8 tyX8_ok nmX8 (by decide) zw_436 rfl (Or.inr ⟨_, rfl⟩) rfl rfl
theorem zk_M_init_109 : zr_Ok zM_M_init zp_M_init 109 (zz_load zz_isA 0) := zo_aload_n (pc := 232) (i := 0) (f := 0) rfl rfl rfl (by decide +kernel)
theorem zk_M_init_110 : zr_Ok zM_M_init zp_M_init 110 (zz_push (.inl 4)) := zo_iconst (pc := 233) (n := 4) (v := 4) rfl rfl (by decide +kernel) (by decide +kernel)
theorem zk_M_init_111 : zr_Ok zM_M_init zp_M_init 111 (zz_newa 0) := zo_newi (pc := 234) rfl rfl (by decide +kernel) zw_11
theorem zk_M_init_112 : zr_Ok zM_M_init zp_M_init 112 (zz_putf 6 34 2) := zo_putF (pc := 236) (idx := 95) (C := RX8) (T := TX8) (N := 35) (ty0 := tyX8) rfl rfl (by decide +kernel) rfl zin_X8 tyX8_ok nmX8 (by decide) zw_437 rfl (Or.inr ⟨_, rfl⟩) rfl rfl
theorem zk_M_init_113 : zr_Ok zM_M_init zp_M_init 113 (zz_push (.inl 0)) := zo_iconst (pc := 239) (n := 0) (v := 0) rfl rfl (by decide +kernel) (by decide +kernel)
theorem zk_M_init_114 : zr_Ok zM_M_init zp_M_init 114 (zz_store zz_isI 1) := zo_istore_n (pc := 240) (i := 1) (f := 1) rfl rfl rfl (by decide +kernel) (by decide)
theorem zk_M_init_115 : zr_Ok zM_M_init zp_M_init 115 (zz_load zz_isI 1) := zo_iload_n (pc := 241) (i := 1) (f := 1) rfl rfl rfl (by decide +kernel)
theorem zk_M_init_116 : zr_Ok zM_M_init zp_M_init 116 (zz_push (.inl 4)) := zo_iconst (pc := 242) (n := 4) (v := 4) rfl rfl (by decide +kernel) (by decide +kernel)
theorem zk_M_init_117 : zr_Ok zM_M_init zp_M_init 117 (zz_ilt 117 0 125) := zo_icmp_ge (pc := 243) (t := 124) (tgt := 258) (off := 15) rfl rfl rfl (by decide +kernel) (by decide)
theorem zk_M_init_118 : zr_Ok zM_M_init zp_M_init 118 (zz_load zz_isA 0) := zo_aload_n (pc := 246) (i := 0) (f := 0) rfl rfl rfl (by decide +kernel)
theorem zk_M_init_119 : zr_Ok zM_M_init zp_M_init 119 (zz_load zz_isI 1) := zo_iload_n (pc := 247) (i := 1) (f := 1) rfl rfl rfl (by decide +kernel)
theorem zk_M_init_120 : zr_Ok zM_M_init zp_M_init 120 (zz_push (.inl 1)) := zo_iconst (pc := 248) (n := 1) (v := 1) rfl rfl (by decide +kernel) (by decide +kernel)
theorem zk_M_init_121 : zr_Ok zM_M_init zp_M_init 121 (zz_call (zz_recv 6) 118 3) := zo_callV (C := RX8) (T := TX8) (N := 35) (idx := 98) (mi := 118) (n := 2) (pc := 249) zg_ok rfl rfl (by decide +kernel) rfl zw_438 (by decide) rfl zw_439 zw_440 zw_441 zw_442 (by decide +kernel)
theorem zk_M_init_122 : zr_Ok zM_M_init zp_M_init 122 (zz_inc 122 1 1) := zo_iinc (pc := 252) (i := 1) (n2 := 1) (n := 1) rfl rfl (by decide +kernel) (by decide +kernel) (by decide)
theorem zk_M_init_123 : zr_Ok zM_M_init zp_M_init 123 (zz_goto 115) := zo_goto (pc := 255) (t := 115) (tgt := 241) (off := -14) rfl rfl (by decide +kernel) (by decide)
theorem zk_M_init_124 : zr_Ok zM_M_init zp_M_init 124 (zz_load zz_isA 0) := zo_aload_n (pc := 258) (i := 0) (f := 0) rfl rfl rfl (by decide +kernel)
theorem zk_M_init_125 : zr_Ok zM_M_init zp_M_init 125 (zz_get 6 4) := zo_getf (pc := 259) (idx := 19) (C := RX8) (T := TX8) (N := 35) rfl rfl (by decide +kernel) rfl zin_X8 (by decide) zw_411
theorem zk_M_init_126 : zr_Ok zM_M_init zp_M_init 126 (zz_push (.inl 3)) := zo_iconst (pc := 262) (n := 3) (v := 3) rfl rfl (by decide +kernel) (by decide +kernel)
theorem zk_M_init_127 : zr_Ok zM_M_init zp_M_init 127 (zz_push (.inl 1)) := zo_iconst (pc := 263) (n := 1) (v := 1) rfl rfl (by decide +kernel) (by decide +kernel)
theorem zk_M_init_128 : zr_Ok zM_M_init zp_M_init 128 (zz_ast 128 0) := zo_iast (pc := 264) rfl rfl (by decide +kernel)
theorem zk_M_init_129 : zr_Ok zM_M_init zp_M_init 129 (zz_load zz_isA 0) := zo_aload_n (pc := 265) (i := 0) (f := 0) rfl rfl rfl (by decide +kernel)
theorem zk_M_init_130 : zr_Ok zM_M_init zp_M_init 130 (zz_get 6 4) := zo_getf (pc := 266) (idx := 19) (C := RX8) (T := TX8) (N := 35) rfl rfl (by decide +kernel) rfl zin_X8 (by decide) zw_411
theorem zk_M_init_131 : zr_Ok zM_M_init zp_M_init 131 (zz_push (.inl 4)) := zo_iconst (pc := 269) (n := 4) (v := 4) rfl rfl (by decide +kernel) (by decide +kernel)
theorem zk_M_init_132 : zr_Ok zM_M_init zp_M_init 132 (zz_push (.inl 2)) := zo_iconst (pc := 270) (n := 2) (v := 2) rfl rfl (by decide +kernel) (by decide +kernel)
theorem zk_M_init_133 : zr_Ok zM_M_init zp_M_init 133 (zz_call zz_any 119 1) := zo_callS (idx := 102) (mi := 119) (n := 1) (pc := 271) zg_ok rfl rfl (by decide +kernel) rfl zw_443 (by decide) zw_444 zw_445 zw_442 (by decide +kernel)
theorem zk_M_init_134 : zr_Ok zM_M_init zp_M_init 134 (zz_ast 134 0) := zo_iast (pc := 274) rfl rfl (by decide +kernel)
theorem zk_M_init_135 : zr_Ok zM_M_init zp_M_init 135 (zz_load zz_isA 0) := zo_aload_n (pc := 275) (i := 0) (f := 0) rfl rfl rfl (by decide +kernel)
theorem zk_M_init_136 : zr_Ok zM_M_init zp_M_init 136 (zz_get 6 4) := zo_getf (pc := 276) (idx := 19) (C := RX8) (T := TX8) (N := 35) rfl rfl (by decide +kernel) rfl zin_X8 (by decide) zw_411
theorem zk_M_init_137 : zr_Ok zM_M_init zp_M_init 137 (zz_push (.inl 6)) := zo_bipush (pc := 279) (n := 6) (v := 6) rfl rfl (by decide +kernel) (by decide +kernel)
theorem zk_M_init_138 : zr_Ok zM_M_init zp_M_init 138 (zz_push (.inl 3)) := zo_iconst (pc := 281) (n := 3) (v := 3) rfl rfl (by decide +kernel) (by decide +kernel)
theorem zk_M_init_139 : zr_Ok zM_M_init zp_M_init 139 (zz_call zz_any 119 1) := zo_callS (idx := 102) (mi := 119) (n := 1) (pc := 282) zg_ok rfl rfl (by decide +kernel) rfl zw_443 (by decide) zw_444 zw_445 zw_442 (by decide +kernel)
theorem zk_M_init_140 : zr_Ok zM_M_init zp_M_init 140 (zz_ast 140 0) := zo_iast (pc := 285) rfl rfl (by decide +kernel)
theorem zk_M_init_141 : zr_Ok zM_M_init zp_M_init 141 (zz_load zz_isA 0) := zo_aload_n (pc := 286) (i := 0) (f := 0) rfl rfl rfl (by decide +kernel)
theorem zk_M_init_142 : zr_Ok zM_M_init zp_M_init 142 (zz_get 6 4) := zo_getf (pc := 287) (idx := 19) (C := RX8) (T := TX8) (N := 35) rfl rfl (by decide +kernel) rfl zin_X8 (by decide) zw_411
theorem zk_M_init_143 : zr_Ok zM_M_init zp_M_init 143 (zz_push (.inl 5)) := zo_iconst (pc := 290) (n := 5) (v := 5) rfl rfl (by decide +kernel) (by decide +kernel)
theorem zk_M_init_144 : zr_Ok zM_M_init zp_M_init 144 (zz_push (.inl 1)) := zo_iconst (pc := 291) (n := 1) (v := 1) rfl rfl (by decide +kernel) (by decide +kernel)
theorem zk_M_init_145 : zr_Ok zM_M_init zp_M_init 145 (zz_push (.inl 5)) := zo_iconst (pc := 292) (n := 5) (v := 5) rfl rfl (by decide +kernel) (by decide +kernel)
theorem zk_M_init_146 : zr_Ok zM_M_init zp_M_init 146 (zz_call zz_any 119 1) := zo_callS (idx := 102) (mi := 119) (n := 1) (pc := 293) zg_ok rfl rfl (by decide +kernel) rfl zw_443 (by decide) zw_444 zw_445 zw_442 (by decide +kernel)
theorem zk_M_init_147 : zr_Ok zM_M_init zp_M_init 147 (zz_bin 147 zz_add) := zo_iadd (pc := 296) rfl rfl (by decide +kernel)
theorem zk_M_init_148 : zr_Ok zM_M_init zp_M_init 148 (zz_push (.inl 121)) := zo_bipush (pc := 297) (n := 121) (v := 121) rfl rfl (by decide +kernel) (by decide +kernel)
theorem zk_M_init_149 : zr_Ok zM_M_init zp_M_init 149 (zz_bin 149 zz_mul) := zo_imul (pc := 299) rfl rfl (by decide +kernel)
theorem zk_M_init_150 : zr_Ok zM_M_init zp_M_init 150 (zz_push (.inl 241)) := zo_sipush (pc := 300) (n := 241) (v := 241) rfl rfl (by decide +kernel) (by decide +kernel)
theorem zk_M_init_151 : zr_Ok zM_M_init zp_M_init 151 (zz_rem 151) := zo_irem (pc := 303) rfl rfl (by decide +kernel)
theorem zk_M_init_152 : zr_Ok zM_M_init zp_M_init 152 (zz_ast 152 0) := zo_iast (pc := 304) rfl rfl (by decide +kernel)
theorem zk_M_init_153 : zr_Ok zM_M_init zp_M_init 153 (zz_ret0) := zo_return (pc := 305) rfl (by decide +kernel) rfl
theorem zk_M_init : zr_OkL zM_M_init zp_M_init 0 zc_M_init := ⟨zk_M_init_0, zk_M_init_1, zk_M_init_2, zk_M_init_3, zk_M_init_4, zk_M_init_5, zk_M_init_6, zk_M_init_7, zk_M_init_8, zk_M_init_9, zk_M_init_10, zk_M_init_11, zk_M_init_12, zk_M_init_13, zk_M_init_14, zk_M_init_15, zk_M_init_16, zk_M_init_17, zk_M_init_18, zk_M_init_19, zk_M_init_20, zk_M_init_21, zk_M_init_22, zk_M_init_23, zk_M_init_24, zk_M_init_25, zk_M_init_26, zk_M_init_27, zk_M_init_28, zk_M_init_29, zk_M_init_30, zk_M_init_31, zk_M_init_32, zk_M_init_33, zk_M_init_34, zk_M_init_35, zk_M_init_36, zk_M_init_37, zk_M_init_38, zk_M_init_39, zk_M_init_40, zk_M_init_41, zk_M_init_42, zk_M_init_43, zk_M_init_44, zk_M_init_45, zk_M_init_46, zk_M_init_47, zk_M_init_48, zk_M_init_49, zk_M_init_50, zk_M_init_51, zk_M_init_52, zk_M_init_53, zk_M_init_54, zk_M_init_55, zk_M_init_56, zk_M_init_57, zk_M_init_58, zk_M_init_59, zk_M_init_60, zk_M_init_61, zk_M_init_62, zk_M_init_63, zk_M_init_64, zk_M_init_65, zk_M_init_66, zk_M_init_67, zk_M_init_68, zk_M_init_69, zk_M_init_70, zk_M_init_71, zk_M_init_72, zk_M_init_73, zk_M_init_74, zk_M_init_75, zk_M_init_76, zk_M_init_77, zk_M_init_78, zk_M_init_79, zk_M_init_80, zk_M_init_81, zk_M_init_82, zk_M_init_83, zk_M_init_84, zk_M_init_85, zk_M_init_86, zk_M_init_87, zk_M_init_88, zk_M_init_89, zk_M_init_90, zk_M_init_91, zk_M_init_92, zk_M_init_93, zk_M_init_94, zk_M_init_95, zk_M_init_96, zk_M_init_97, zk_M_init_98, zk_M_init_99, zk_M_init_100, zk_M_init_101, zk_M_init_102, zk_M_init_103, zk_M_init_104, zk_M_init_105, zk_M_init_106, zk_M_init_107, zk_M_init_108, zk_M_init_109, zk_M_init_110, zk_M_init_111, zk_M_init_112, zk_M_init_113, zk_M_init_114, zk_M_init_115, zk_M_init_116, zk_M_init_117, zk_M_init_118, zk_M_init_119, zk_M_init_120, zk_M_init_121, zk_M_init_122, zk_M_init_123, zk_M_init_124, zk_M_init_125, zk_M_init_126, zk_M_init_127, zk_M_init_128, zk_M_init_129, zk_M_init_130, zk_M_init_131, zk_M_init_132, zk_M_init_133, zk_M_init_134, zk_M_init_135, zk_M_init_136, zk_M_init_137, zk_M_init_138, zk_M_init_139, zk_M_init_140, zk_M_init_141, zk_M_init_142, zk_M_init_143, zk_M_init_144, zk_M_init_145, zk_M_init_146, zk_M_init_147, zk_M_init_148, zk_M_init_149, zk_M_init_150, zk_M_init_151, zk_M_init_152, zk_M_init_153, trivial⟩
