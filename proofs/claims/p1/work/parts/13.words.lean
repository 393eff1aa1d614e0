/-! THE WORDS of the tables, by their places (written by wip/p1/genrows.py) -/
theorem zq0 : ∀ w ∈ k2_sels lw_privs, goodWord w = true → w ∈ zg_tbl := fun _ h h2 => List.mem_filter.mpr ⟨List.mem_append_left _ h, h2⟩
theorem zq1 : ∀ w ∈ tables_1_1, goodWord w = true → w ∈ zg_tbl := fun _ h h2 => List.mem_filter.mpr ⟨List.mem_append_right _ (List.mem_append_left _ h), h2⟩
theorem zq2 : ∀ w ∈ tables_1_2, goodWord w = true → w ∈ zg_tbl := fun _ h h2 => List.mem_filter.mpr ⟨List.mem_append_right _ (List.mem_append_right _ (List.mem_append_left _ h)), h2⟩
theorem zq3 : ∀ w ∈ tables_1_3, goodWord w = true → w ∈ zg_tbl := fun _ h h2 => List.mem_filter.mpr ⟨List.mem_append_right _ (List.mem_append_right _ (List.mem_append_right _ (List.mem_append_left _ h))), h2⟩
theorem zq4 : ∀ w ∈ tables_1_4, goodWord w = true → w ∈ zg_tbl := fun _ h h2 => List.mem_filter.mpr ⟨List.mem_append_right _ (List.mem_append_right _ (List.mem_append_right _ (List.mem_append_right _ (List.mem_append_left _ h)))), h2⟩
theorem zq5 : ∀ w ∈ tables_1_5, goodWord w = true → w ∈ zg_tbl := fun _ h h2 => List.mem_filter.mpr ⟨List.mem_append_right _ (List.mem_append_right _ (List.mem_append_right _ (List.mem_append_right _ (List.mem_append_right _ (List.mem_append_left _ h))))), h2⟩
theorem zq6 : ∀ w ∈ tables_1_6, goodWord w = true → w ∈ zg_tbl := fun _ h h2 => List.mem_filter.mpr ⟨List.mem_append_right _ (List.mem_append_right _ (List.mem_append_right _ (List.mem_append_right _ (List.mem_append_right _ (List.mem_append_right _ (h)))))), h2⟩
theorem zw_0 : Cond.fieldLink RX2 22 (TX2 0).1 (TX2 0).2.1 (TX2 0).2.2.1 ∈ zg_tbl := zq1 _ (List.mem_of_getElem? (i := 43) (by decide +kernel)) rfl
theorem zw_1 : Cond.fieldLink RX2 26 (TX2 1).1 (TX2 1).2.1 (TX2 1).2.2.1 ∈ zg_tbl := zq1 _ (List.mem_of_getElem? (i := 48) (by decide +kernel)) rfl
theorem zw_2 : Cond.fieldLink RX2 9 (TX2 2).1 (TX2 2).2.1 (TX2 2).2.2.1 ∈ zg_tbl := zq1 _ (List.mem_of_getElem? (i := 53) (by decide +kernel)) rfl
theorem zw_3 : Cond.code yJ7_fill_53178 cJ7_fill_53178 4 none ∈ zg_tbl := zq1 _ (List.mem_of_getElem? (i := 42) (by decide +kernel)) rfl
theorem zw_4 : Cond.initialized RJ7 ∈ zg_tbl := zq1 _ (List.mem_of_getElem? (i := 4) (by decide +kernel)) rfl
theorem zw_5 : Cond.methodLink RX2 29 yJ7_fill_53178 ∈ zg_tbl := zq1 _ (List.mem_of_getElem? (i := 40) (by decide +kernel)) rfl
theorem zw_6 : Cond.static yJ7_fill_53178 ∈ zg_tbl := zq1 _ (List.mem_of_getElem? (i := 41) (by decide +kernel)) rfl
theorem zw_7 : Cond.fieldLink RX2 15 (TX2 3).1 (TX2 3).2.1 (TX2 3).2.2.1 ∈ zg_tbl := zq1 _ (List.mem_of_getElem? (i := 54) (by decide +kernel)) rfl
theorem zw_8 : Cond.methodLink RX2 3 objectInit ∈ zg_tbl := zq1 _ (List.mem_of_getElem? (i := 35) (by decide +kernel)) rfl
theorem zw_9 : Cond.instanceMethod objectInit ∈ zg_tbl := zq1 _ (List.mem_of_getElem? (i := 21) (by decide +kernel)) rfl
theorem zw_10 : Cond.code objectInit ⟨#[0xb1]⟩ 1 none ∈ zg_tbl := zq1 _ (List.mem_of_getElem? (i := 22) (by decide +kernel)) rfl
theorem zw_11 : Cond.arrayClass .int ∈ zg_tbl := zq1 _ (List.mem_of_getElem? (i := 64) (by decide +kernel)) rfl
theorem zw_12 : Cond.code yX2_begin cX2_begin 2 none ∈ zg_tbl := zq1 _ (List.mem_of_getElem? (i := 39) (by decide +kernel)) rfl
theorem zw_13 : Cond.methodLink RX2 18 yX2_begin ∈ zg_tbl := zq1 _ (List.mem_of_getElem? (i := 36) (by decide +kernel)) rfl
theorem zw_14 : Cond.instanceMethod yX2_begin ∈ zg_tbl := zq1 _ (List.mem_of_getElem? (i := 37) (by decide +kernel)) rfl
theorem zw_15 : Cond.selects RX2 yX2_begin yX2_begin ∈ zg_tbl := zq1 _ (List.mem_of_getElem? (i := 38) (by decide +kernel)) rfl
theorem zw_16 : Cond.initialized RX2 ∈ zg_tbl := zq1 _ (List.mem_of_getElem? (i := 3) (by decide +kernel)) rfl
theorem zw_17 : Cond.methodLink RX0 3 objectInit ∈ zg_tbl := zq1 _ (List.mem_of_getElem? (i := 29) (by decide +kernel)) rfl
theorem zw_18 : Cond.classLink RX0 9 RX2 ∈ zg_tbl := zq1 _ (List.mem_of_getElem? (i := 30) (by decide +kernel)) rfl
theorem zw_19 : Cond.instantiable RX2 4 ∈ zg_tbl := zq1 _ (List.mem_of_getElem? (i := 31) (by decide +kernel)) rfl
theorem zw_20 : Cond.code yX2_init cX2_init 1 none ∈ zg_tbl := zq1 _ (List.mem_of_getElem? (i := 34) (by decide +kernel)) rfl
theorem zw_21 : Cond.instanceMethod yX2_init ∈ zg_tbl := zq1 _ (List.mem_of_getElem? (i := 33) (by decide +kernel)) rfl
theorem zw_22 : Cond.methodLink RX0 11 yX2_init ∈ zg_tbl := zq1 _ (List.mem_of_getElem? (i := 32) (by decide +kernel)) rfl
theorem zw_23 : Cond.fieldLink RX0 12 (TX0 0).1 (TX0 0).2.1 (TX0 0).2.2.1 ∈ zg_tbl := zq1 _ (List.mem_of_getElem? (i := 65) (by decide +kernel)) rfl
theorem zw_24 : Cond.methodLink RX7 3 objectInit ∈ zg_tbl := zq1 _ (List.mem_of_getElem? (i := 20) (by decide +kernel)) rfl
theorem zw_25 : Cond.classLink RX7 9 "EvenBodies$Body" ∈ zg_tbl := zq1 _ (List.mem_of_getElem? (i := 23) (by decide +kernel)) rfl
theorem zw_26 : Cond.fieldLink RX7 11 (TX7 0).1 (TX7 0).2.1 (TX7 0).2.2.1 ∈ zg_tbl := zq1 _ (List.mem_of_getElem? (i := 106) (by decide +kernel)) rfl
theorem zw_27 : Cond.instantiable RX0 12 ∈ zg_tbl := zq1 _ (List.mem_of_getElem? (i := 25) (by decide +kernel)) rfl
theorem zw_28 : Cond.initialized RX0 ∈ zg_tbl := zq1 _ (List.mem_of_getElem? (i := 2) (by decide +kernel)) rfl
theorem zw_29 : Cond.code yX0_init cX0_init 1 none ∈ zg_tbl := zq1 _ (List.mem_of_getElem? (i := 28) (by decide +kernel)) rfl
theorem zw_30 : Cond.instanceMethod yX0_init ∈ zg_tbl := zq1 _ (List.mem_of_getElem? (i := 27) (by decide +kernel)) rfl
theorem zw_31 : Cond.fieldLink RX7 16 (TX7 1).1 (TX7 1).2.1 (TX7 1).2.2.1 ∈ zg_tbl := zq1 _ (List.mem_of_getElem? (i := 107) (by decide +kernel)) rfl
theorem zw_32 : Cond.classLink RX7 20 RX2 ∈ zg_tbl := zq1 _ (List.mem_of_getElem? (i := 104) (by decide +kernel)) rfl
theorem zw_33 : Cond.methodLink RX7 22 yX2_init ∈ zg_tbl := zq1 _ (List.mem_of_getElem? (i := 105) (by decide +kernel)) rfl
theorem zw_34 : Cond.fieldLink RX7 23 (TX7 2).1 (TX7 2).2.1 (TX7 2).2.2.1 ∈ zg_tbl := zq1 _ (List.mem_of_getElem? (i := 108) (by decide +kernel)) rfl
theorem zw_35 : Cond.arrayClass .long ∈ zg_tbl := zq1 _ (List.mem_of_getElem? (i := 119) (by decide +kernel)) rfl
theorem zw_36 : Cond.fieldLink RX7 27 (TX7 3).1 (TX7 3).2.1 (TX7 3).2.2.1 ∈ zg_tbl := zq1 _ (List.mem_of_getElem? (i := 109) (by decide +kernel)) rfl
theorem zw_37 : Cond.code yX7_isNoBody cX7_isNoBody 1 (some .boolean) ∈ zg_tbl := zq1 _ (List.mem_of_getElem? (i := 126) (by decide +kernel)) rfl
theorem zw_38 : Cond.initialized RX7 ∈ zg_tbl := zq1 _ (List.mem_of_getElem? (i := 1) (by decide +kernel)) rfl
theorem zw_39 : Cond.methodLink RX7 31 yX7_isNoBody ∈ zg_tbl := zq1 _ (List.mem_of_getElem? (i := 124) (by decide +kernel)) rfl
theorem zw_40 : Cond.static yX7_isNoBody ∈ zg_tbl := zq1 _ (List.mem_of_getElem? (i := 125) (by decide +kernel)) rfl
theorem zw_41 : Cond.fieldLink RX7 35 (TX0 0).1 (TX0 0).2.1 (TX0 0).2.2.1 ∈ zg_tbl := zq1 _ (List.mem_of_getElem? (i := 66) (by decide +kernel)) rfl
theorem zw_42 : Cond.fieldLink RX7 76 (TX2 0).1 (TX2 0).2.1 (TX2 0).2.2.1 ∈ zg_tbl := zq1 _ (List.mem_of_getElem? (i := 46) (by decide +kernel)) rfl
theorem zw_43 : Cond.fieldLink RX7 80 (TX2 1).1 (TX2 1).2.1 (TX2 1).2.2.1 ∈ zg_tbl := zq1 _ (List.mem_of_getElem? (i := 52) (by decide +kernel)) rfl
theorem zw_44 : Cond.code yX7_isNoMirror cX7_isNoMirror 3 (some .boolean) ∈ zg_tbl := zq1 _ (List.mem_of_getElem? (i := 143) (by decide +kernel)) rfl
theorem zw_45 : Cond.methodLink RX7 45 yX7_isNoMirror ∈ zg_tbl := zq1 _ (List.mem_of_getElem? (i := 140) (by decide +kernel)) rfl
theorem zw_46 : Cond.instanceMethod yX7_isNoMirror ∈ zg_tbl := zq1 _ (List.mem_of_getElem? (i := 142) (by decide +kernel)) rfl
theorem zw_47 : Cond.selects RX7 yX7_isNoMirror yX7_isNoMirror ∈ zg_tbl := zq0 _ (List.mem_of_getElem? (i := 0) (by decide +kernel)) rfl
theorem zw_48 : Cond.code yX2_joinedTo cX2_joinedTo 2 (some .int) ∈ zg_tbl := zq1 _ (List.mem_of_getElem? (i := 198) (by decide +kernel)) rfl
theorem zw_49 : Cond.methodLink RX7 83 yX2_joinedTo ∈ zg_tbl := zq1 _ (List.mem_of_getElem? (i := 195) (by decide +kernel)) rfl
theorem zw_50 : Cond.instanceMethod yX2_joinedTo ∈ zg_tbl := zq1 _ (List.mem_of_getElem? (i := 196) (by decide +kernel)) rfl
theorem zw_51 : Cond.selects RX2 yX2_joinedTo yX2_joinedTo ∈ zg_tbl := zq1 _ (List.mem_of_getElem? (i := 197) (by decide +kernel)) rfl
theorem zw_52 : Cond.methodLink RX3 3 objectInit ∈ zg_tbl := zq1 _ (List.mem_of_getElem? (i := 216) (by decide +kernel)) rfl
theorem zw_53 : Cond.fieldLink RX3 9 (TX3 3).1 (TX3 3).2.1 (TX3 3).2.2.1 ∈ zg_tbl := zq1 _ (List.mem_of_getElem? (i := 226) (by decide +kernel)) rfl
theorem zw_54 : Cond.fieldLink RX3 15 (TX3 4).1 (TX3 4).2.1 (TX3 4).2.2.1 ∈ zg_tbl := zq1 _ (List.mem_of_getElem? (i := 227) (by decide +kernel)) rfl
theorem zw_55 : Cond.fieldLink RX3 18 (TX3 5).1 (TX3 5).2.1 (TX3 5).2.2.1 ∈ zg_tbl := zq1 _ (List.mem_of_getElem? (i := 228) (by decide +kernel)) rfl
theorem zw_56 : Cond.fieldLink RX3 21 (TX3 6).1 (TX3 6).2.1 (TX3 6).2.2.1 ∈ zg_tbl := zq1 _ (List.mem_of_getElem? (i := 229) (by decide +kernel)) rfl
theorem zw_57 : Cond.fieldLink RX3 24 (TX3 7).1 (TX3 7).2.1 (TX3 7).2.2.1 ∈ zg_tbl := zq1 _ (List.mem_of_getElem? (i := 230) (by decide +kernel)) rfl
theorem zw_58 : Cond.fieldLink RX3 27 (TX3 8).1 (TX3 8).2.1 (TX3 8).2.2.1 ∈ zg_tbl := zq1 _ (List.mem_of_getElem? (i := 231) (by decide +kernel)) rfl
theorem zw_59 : Cond.fieldLink RX3 30 (TX3 9).1 (TX3 9).2.1 (TX3 9).2.2.1 ∈ zg_tbl := zq1 _ (List.mem_of_getElem? (i := 232) (by decide +kernel)) rfl
theorem zw_60 : Cond.fieldLink RX3 33 (TX3 10).1 (TX3 10).2.1 (TX3 10).2.2.1 ∈ zg_tbl := zq1 _ (List.mem_of_getElem? (i := 233) (by decide +kernel)) rfl
theorem zw_61 : Cond.fieldLink RX3 36 (TX3 11).1 (TX3 11).2.1 (TX3 11).2.2.1 ∈ zg_tbl := zq1 _ (List.mem_of_getElem? (i := 234) (by decide +kernel)) rfl
theorem zw_62 : Cond.fieldLink RX3 39 (TX3 2).1 (TX3 2).2.1 (TX3 2).2.2.1 ∈ zg_tbl := zq1 _ (List.mem_of_getElem? (i := 225) (by decide +kernel)) rfl
theorem zw_63 : Cond.fieldLink RX3 49 (TX3 0).1 (TX3 0).2.1 (TX3 0).2.2.1 ∈ zg_tbl := zq1 _ (List.mem_of_getElem? (i := 217) (by decide +kernel)) rfl
theorem zw_64 : Cond.code yX3_link cX3_link 4 none ∈ zg_tbl := zq2 _ (List.mem_of_getElem? (i := 32) (by decide +kernel)) rfl
theorem zw_65 : Cond.methodLink RX3 69 yX3_link ∈ zg_tbl := zq2 _ (List.mem_of_getElem? (i := 29) (by decide +kernel)) rfl
theorem zw_66 : Cond.instanceMethod yX3_link ∈ zg_tbl := zq2 _ (List.mem_of_getElem? (i := 31) (by decide +kernel)) rfl
theorem zw_67 : Cond.selects RX3 yX3_link yX3_link ∈ zg_tbl := zq0 _ (List.mem_of_getElem? (i := 3) (by decide +kernel)) rfl
theorem zw_68 : Cond.initialized RX3 ∈ zg_tbl := zq1 _ (List.mem_of_getElem? (i := 7) (by decide +kernel)) rfl
theorem zw_69 : Cond.fieldLink RX3 57 (TX2 0).1 (TX2 0).2.1 (TX2 0).2.2.1 ∈ zg_tbl := zq1 _ (List.mem_of_getElem? (i := 44) (by decide +kernel)) rfl
theorem zw_70 : Cond.methodLink RX3 43 yJ7_fill_53178 ∈ zg_tbl := zq2 _ (List.mem_of_getElem? (i := 24) (by decide +kernel)) rfl
theorem zw_71 : Cond.fieldLink RX3 53 (TX3 1).1 (TX3 1).2.1 (TX3 1).2.2.1 ∈ zg_tbl := zq1 _ (List.mem_of_getElem? (i := 223) (by decide +kernel)) rfl
theorem zw_72 : Cond.code yX3_addBehind cX3_addBehind 6 none ∈ zg_tbl := zq2 _ (List.mem_of_getElem? (i := 28) (by decide +kernel)) rfl
theorem zw_73 : Cond.methodLink RX3 62 yX3_addBehind ∈ zg_tbl := zq2 _ (List.mem_of_getElem? (i := 25) (by decide +kernel)) rfl
theorem zw_74 : Cond.instanceMethod yX3_addBehind ∈ zg_tbl := zq2 _ (List.mem_of_getElem? (i := 27) (by decide +kernel)) rfl
theorem zw_75 : Cond.selects RX3 yX3_addBehind yX3_addBehind ∈ zg_tbl := zq0 _ (List.mem_of_getElem? (i := 2) (by decide +kernel)) rfl
theorem zw_76 : Cond.code yX3_turnRound cX3_turnRound 4 none ∈ zg_tbl := zq2 _ (List.mem_of_getElem? (i := 41) (by decide +kernel)) rfl
theorem zw_77 : Cond.methodLink RX3 66 yX3_turnRound ∈ zg_tbl := zq2 _ (List.mem_of_getElem? (i := 38) (by decide +kernel)) rfl
theorem zw_78 : Cond.instanceMethod yX3_turnRound ∈ zg_tbl := zq2 _ (List.mem_of_getElem? (i := 40) (by decide +kernel)) rfl
theorem zw_79 : Cond.selects RX3 yX3_turnRound yX3_turnRound ∈ zg_tbl := zq0 _ (List.mem_of_getElem? (i := 5) (by decide +kernel)) rfl
theorem zw_80 : Cond.fieldLink RX0 51 (TX0 2).1 (TX0 2).2.1 (TX0 2).2.2.1 ∈ zg_tbl := zq1 _ (List.mem_of_getElem? (i := 69) (by decide +kernel)) rfl
theorem zw_81 : Cond.classLink RX0 55 RX3 ∈ zg_tbl := zq1 _ (List.mem_of_getElem? (i := 211) (by decide +kernel)) rfl
theorem zw_82 : Cond.instantiable RX3 12 ∈ zg_tbl := zq1 _ (List.mem_of_getElem? (i := 212) (by decide +kernel)) rfl
theorem zw_83 : Cond.code yX3_init cX3_init 2 none ∈ zg_tbl := zq1 _ (List.mem_of_getElem? (i := 215) (by decide +kernel)) rfl
theorem zw_84 : Cond.instanceMethod yX3_init ∈ zg_tbl := zq1 _ (List.mem_of_getElem? (i := 214) (by decide +kernel)) rfl
theorem zw_85 : Cond.methodLink RX0 57 yX3_init ∈ zg_tbl := zq1 _ (List.mem_of_getElem? (i := 213) (by decide +kernel)) rfl
theorem zw_86 : Cond.fieldLink RX0 18 (TX0 7).1 (TX0 7).2.1 (TX0 7).2.2.1 ∈ zg_tbl := zq1 _ (List.mem_of_getElem? (i := 74) (by decide +kernel)) rfl
theorem zw_87 : Cond.code yX3_build cX3_build 3 none ∈ zg_tbl := zq2 _ (List.mem_of_getElem? (i := 23) (by decide +kernel)) rfl
theorem zw_88 : Cond.methodLink RX0 59 yX3_build ∈ zg_tbl := zq2 _ (List.mem_of_getElem? (i := 20) (by decide +kernel)) rfl
theorem zw_89 : Cond.instanceMethod yX3_build ∈ zg_tbl := zq2 _ (List.mem_of_getElem? (i := 21) (by decide +kernel)) rfl
theorem zw_90 : Cond.selects RX3 yX3_build yX3_build ∈ zg_tbl := zq2 _ (List.mem_of_getElem? (i := 22) (by decide +kernel)) rfl
theorem zw_91 : Cond.code yX0_theGroup cX0_theGroup 1 (some (.object "EvenBodies$Group")) ∈ zg_tbl := zq1 _ (List.mem_of_getElem? (i := 210) (by decide +kernel)) rfl
theorem zw_92 : Cond.methodLink RX7 90 yX0_theGroup ∈ zg_tbl := zq1 _ (List.mem_of_getElem? (i := 207) (by decide +kernel)) rfl
theorem zw_93 : Cond.instanceMethod yX0_theGroup ∈ zg_tbl := zq1 _ (List.mem_of_getElem? (i := 208) (by decide +kernel)) rfl
theorem zw_94 : Cond.selects RX0 yX0_theGroup yX0_theGroup ∈ zg_tbl := zq1 _ (List.mem_of_getElem? (i := 209) (by decide +kernel)) rfl
theorem zw_95 : Cond.fieldLink RX7 225 (TX3 1).1 (TX3 1).2.1 (TX3 1).2.2.1 ∈ zg_tbl := zq1 _ (List.mem_of_getElem? (i := 224) (by decide +kernel)) rfl
theorem zw_96 : Cond.fieldLink RX0 32 (TX0 8).1 (TX0 8).2.1 (TX0 8).2.2.1 ∈ zg_tbl := zq1 _ (List.mem_of_getElem? (i := 75) (by decide +kernel)) rfl
theorem zw_97 : Cond.fieldLink RX0 35 (TX0 9).1 (TX0 9).2.1 (TX0 9).2.2.1 ∈ zg_tbl := zq1 _ (List.mem_of_getElem? (i := 76) (by decide +kernel)) rfl
theorem zw_98 : Cond.fieldLink RX0 38 (TX0 10).1 (TX0 10).2.1 (TX0 10).2.2.1 ∈ zg_tbl := zq1 _ (List.mem_of_getElem? (i := 77) (by decide +kernel)) rfl
theorem zw_99 : Cond.fieldLink RX0 22 (TX0 11).1 (TX0 11).2.1 (TX0 11).2.2.1 ∈ zg_tbl := zq1 _ (List.mem_of_getElem? (i := 78) (by decide +kernel)) rfl
theorem zw_100 : Cond.fieldLink RX0 25 (TX0 1).1 (TX0 1).2.1 (TX0 1).2.2.1 ∈ zg_tbl := zq1 _ (List.mem_of_getElem? (i := 67) (by decide +kernel)) rfl
theorem zw_101 : Cond.code yX0_forgetParts cX0_forgetParts 1 none ∈ zg_tbl := zq1 _ (List.mem_of_getElem? (i := 135) (by decide +kernel)) rfl
theorem zw_102 : Cond.methodLink RX0 29 yX0_forgetParts ∈ zg_tbl := zq1 _ (List.mem_of_getElem? (i := 132) (by decide +kernel)) rfl
theorem zw_103 : Cond.instanceMethod yX0_forgetParts ∈ zg_tbl := zq1 _ (List.mem_of_getElem? (i := 133) (by decide +kernel)) rfl
theorem zw_104 : Cond.selects RX0 yX0_forgetParts yX0_forgetParts ∈ zg_tbl := zq1 _ (List.mem_of_getElem? (i := 134) (by decide +kernel)) rfl
theorem zw_105 : Cond.methodLink RX7 38 yX2_begin ∈ zg_tbl := zq1 _ (List.mem_of_getElem? (i := 127) (by decide +kernel)) rfl
theorem zw_106 : Cond.code yX0_forgetGroup cX0_forgetGroup 1 none ∈ zg_tbl := zq1 _ (List.mem_of_getElem? (i := 131) (by decide +kernel)) rfl
theorem zw_107 : Cond.methodLink RX7 42 yX0_forgetGroup ∈ zg_tbl := zq1 _ (List.mem_of_getElem? (i := 128) (by decide +kernel)) rfl
theorem zw_108 : Cond.instanceMethod yX0_forgetGroup ∈ zg_tbl := zq1 _ (List.mem_of_getElem? (i := 129) (by decide +kernel)) rfl
theorem zw_109 : Cond.selects RX0 yX0_forgetGroup yX0_forgetGroup ∈ zg_tbl := zq1 _ (List.mem_of_getElem? (i := 130) (by decide +kernel)) rfl
theorem zw_110 : Cond.code yX7_refusal cX7_refusal 3 (some .int) ∈ zg_tbl := zq1 _ (List.mem_of_getElem? (i := 206) (by decide +kernel)) rfl
theorem zw_111 : Cond.methodLink RX7 86 yX7_refusal ∈ zg_tbl := zq1 _ (List.mem_of_getElem? (i := 203) (by decide +kernel)) rfl
theorem zw_112 : Cond.instanceMethod yX7_refusal ∈ zg_tbl := zq1 _ (List.mem_of_getElem? (i := 205) (by decide +kernel)) rfl
theorem zw_113 : Cond.selects RX7 yX7_refusal yX7_refusal ∈ zg_tbl := zq0 _ (List.mem_of_getElem? (i := 1) (by decide +kernel)) rfl
theorem zw_114 : Cond.fieldLink RX7 94 (TX3 0).1 (TX3 0).2.1 (TX3 0).2.2.1 ∈ zg_tbl := zq1 _ (List.mem_of_getElem? (i := 222) (by decide +kernel)) rfl
theorem zw_115 : Cond.code yX3_mark cX3_mark 3 (some .int) ∈ zg_tbl := zq2 _ (List.mem_of_getElem? (i := 114) (by decide +kernel)) rfl
theorem zw_116 : Cond.methodLink RX3 84 yX3_mark ∈ zg_tbl := zq2 _ (List.mem_of_getElem? (i := 111) (by decide +kernel)) rfl
theorem zw_117 : Cond.instanceMethod yX3_mark ∈ zg_tbl := zq2 _ (List.mem_of_getElem? (i := 113) (by decide +kernel)) rfl
theorem zw_118 : Cond.selects RX3 yX3_mark yX3_mark ∈ zg_tbl := zq0 _ (List.mem_of_getElem? (i := 8) (by decide +kernel)) rfl
theorem zw_119 : Cond.code yX7_refusalOfElements cX7_refusalOfElements 6 (some .int) ∈ zg_tbl := zq2 _ (List.mem_of_getElem? (i := 49) (by decide +kernel)) rfl
theorem zw_120 : Cond.methodLink RX7 99 yX7_refusalOfElements ∈ zg_tbl := zq2 _ (List.mem_of_getElem? (i := 46) (by decide +kernel)) rfl
theorem zw_121 : Cond.instanceMethod yX7_refusalOfElements ∈ zg_tbl := zq2 _ (List.mem_of_getElem? (i := 48) (by decide +kernel)) rfl
theorem zw_122 : Cond.selects RX7 yX7_refusalOfElements yX7_refusalOfElements ∈ zg_tbl := zq0 _ (List.mem_of_getElem? (i := 6) (by decide +kernel)) rfl
theorem zw_123 : Cond.code yX3_countClasses cX3_countClasses 7 (some .int) ∈ zg_tbl := zq2 _ (List.mem_of_getElem? (i := 110) (by decide +kernel)) rfl
theorem zw_124 : Cond.methodLink RX7 124 yX3_countClasses ∈ zg_tbl := zq2 _ (List.mem_of_getElem? (i := 107) (by decide +kernel)) rfl
theorem zw_125 : Cond.instanceMethod yX3_countClasses ∈ zg_tbl := zq2 _ (List.mem_of_getElem? (i := 108) (by decide +kernel)) rfl
theorem zw_126 : Cond.selects RX3 yX3_countClasses yX3_countClasses ∈ zg_tbl := zq2 _ (List.mem_of_getElem? (i := 109) (by decide +kernel)) rfl
theorem zw_127 : Cond.methodLink RX4 3 objectInit ∈ zg_tbl := zq2 _ (List.mem_of_getElem? (i := 180) (by decide +kernel)) rfl
theorem zw_128 : Cond.fieldLink RX4 9 (TX4 2).1 (TX4 2).2.1 (TX4 2).2.2.1 ∈ zg_tbl := zq2 _ (List.mem_of_getElem? (i := 183) (by decide +kernel)) rfl
theorem zw_129 : Cond.fieldLink RX4 15 (TX4 3).1 (TX4 3).2.1 (TX4 3).2.2.1 ∈ zg_tbl := zq2 _ (List.mem_of_getElem? (i := 184) (by decide +kernel)) rfl
theorem zw_130 : Cond.fieldLink RX4 18 (TX4 4).1 (TX4 4).2.1 (TX4 4).2.2.1 ∈ zg_tbl := zq2 _ (List.mem_of_getElem? (i := 185) (by decide +kernel)) rfl
theorem zw_131 : Cond.fieldLink RX4 21 (TX4 0).1 (TX4 0).2.1 (TX4 0).2.2.1 ∈ zg_tbl := zq2 _ (List.mem_of_getElem? (i := 181) (by decide +kernel)) rfl
theorem zw_132 : Cond.fieldLink RX4 25 (TX4 1).1 (TX4 1).2.1 (TX4 1).2.2.1 ∈ zg_tbl := zq2 _ (List.mem_of_getElem? (i := 182) (by decide +kernel)) rfl
theorem zw_133 : Cond.methodLink RX4 29 yJ7_fill_53178 ∈ zg_tbl := zq2 _ (List.mem_of_getElem? (i := 201) (by decide +kernel)) rfl
theorem zw_134 : Cond.code yX2_joinedToAny cX2_joinedToAny 4 (some .int) ∈ zg_tbl := zq2 _ (List.mem_of_getElem? (i := 152) (by decide +kernel)) rfl
theorem zw_135 : Cond.methodLink RX2 53 yX2_joinedToAny ∈ zg_tbl := zq2 _ (List.mem_of_getElem? (i := 149) (by decide +kernel)) rfl
theorem zw_136 : Cond.instanceMethod yX2_joinedToAny ∈ zg_tbl := zq2 _ (List.mem_of_getElem? (i := 151) (by decide +kernel)) rfl
theorem zw_137 : Cond.selects RX2 yX2_joinedToAny yX2_joinedToAny ∈ zg_tbl := zq0 _ (List.mem_of_getElem? (i := 10) (by decide +kernel)) rfl
theorem zw_138 : Cond.code yX2_sets cX2_sets 1 (some .int) ∈ zg_tbl := zq1 _ (List.mem_of_getElem? (i := 159) (by decide +kernel)) rfl
theorem zw_139 : Cond.methodLink RX2 41 yX2_sets ∈ zg_tbl := zq1 _ (List.mem_of_getElem? (i := 172) (by decide +kernel)) rfl
theorem zw_140 : Cond.instanceMethod yX2_sets ∈ zg_tbl := zq1 _ (List.mem_of_getElem? (i := 157) (by decide +kernel)) rfl
theorem zw_141 : Cond.selects RX2 yX2_sets yX2_sets ∈ zg_tbl := zq1 _ (List.mem_of_getElem? (i := 158) (by decide +kernel)) rfl
theorem zw_142 : Cond.code yX2_stayOf cX2_stayOf 3 (some .int) ∈ zg_tbl := zq2 _ (List.mem_of_getElem? (i := 209) (by decide +kernel)) rfl
theorem zw_143 : Cond.methodLink RX4 35 yX2_stayOf ∈ zg_tbl := zq2 _ (List.mem_of_getElem? (i := 206) (by decide +kernel)) rfl
theorem zw_144 : Cond.instanceMethod yX2_stayOf ∈ zg_tbl := zq2 _ (List.mem_of_getElem? (i := 207) (by decide +kernel)) rfl
theorem zw_145 : Cond.selects RX2 yX2_stayOf yX2_stayOf ∈ zg_tbl := zq2 _ (List.mem_of_getElem? (i := 208) (by decide +kernel)) rfl
theorem zw_146 : Cond.fieldLink RX4 41 (TX3 0).1 (TX3 0).2.1 (TX3 0).2.2.1 ∈ zg_tbl := zq1 _ (List.mem_of_getElem? (i := 220) (by decide +kernel)) rfl
theorem zw_147 : Cond.code yX3_shortenedBy cX3_shortenedBy 5 (some .int) ∈ zg_tbl := zq2 _ (List.mem_of_getElem? (i := 213) (by decide +kernel)) rfl
theorem zw_148 : Cond.methodLink RX4 47 yX3_shortenedBy ∈ zg_tbl := zq2 _ (List.mem_of_getElem? (i := 210) (by decide +kernel)) rfl
theorem zw_149 : Cond.instanceMethod yX3_shortenedBy ∈ zg_tbl := zq2 _ (List.mem_of_getElem? (i := 211) (by decide +kernel)) rfl
theorem zw_150 : Cond.selects RX3 yX3_shortenedBy yX3_shortenedBy ∈ zg_tbl := zq2 _ (List.mem_of_getElem? (i := 212) (by decide +kernel)) rfl
theorem zw_151 : Cond.fieldLink RX0 62 (TX0 3).1 (TX0 3).2.1 (TX0 3).2.2.1 ∈ zg_tbl := zq1 _ (List.mem_of_getElem? (i := 70) (by decide +kernel)) rfl
theorem zw_152 : Cond.classLink RX0 66 RX4 ∈ zg_tbl := zq2 _ (List.mem_of_getElem? (i := 174) (by decide +kernel)) rfl
theorem zw_153 : Cond.instantiable RX4 5 ∈ zg_tbl := zq2 _ (List.mem_of_getElem? (i := 175) (by decide +kernel)) rfl
theorem zw_154 : Cond.initialized RX4 ∈ zg_tbl := zq1 _ (List.mem_of_getElem? (i := 9) (by decide +kernel)) rfl
theorem zw_155 : Cond.methodLink RX0 68 yX0_theGroup ∈ zg_tbl := zq2 _ (List.mem_of_getElem? (i := 176) (by decide +kernel)) rfl
theorem zw_156 : Cond.code yX4_init cX4_init 3 none ∈ zg_tbl := zq2 _ (List.mem_of_getElem? (i := 179) (by decide +kernel)) rfl
theorem zw_157 : Cond.instanceMethod yX4_init ∈ zg_tbl := zq2 _ (List.mem_of_getElem? (i := 178) (by decide +kernel)) rfl
theorem zw_158 : Cond.methodLink RX0 72 yX4_init ∈ zg_tbl := zq2 _ (List.mem_of_getElem? (i := 177) (by decide +kernel)) rfl
theorem zw_159 : Cond.code yX4_begin cX4_begin 1 none ∈ zg_tbl := zq2 _ (List.mem_of_getElem? (i := 200) (by decide +kernel)) rfl
theorem zw_160 : Cond.methodLink RX0 75 yX4_begin ∈ zg_tbl := zq2 _ (List.mem_of_getElem? (i := 197) (by decide +kernel)) rfl
theorem zw_161 : Cond.instanceMethod yX4_begin ∈ zg_tbl := zq2 _ (List.mem_of_getElem? (i := 198) (by decide +kernel)) rfl
theorem zw_162 : Cond.selects RX4 yX4_begin yX4_begin ∈ zg_tbl := zq2 _ (List.mem_of_getElem? (i := 199) (by decide +kernel)) rfl
theorem zw_163 : Cond.code yX4_make cX4_make 7 none ∈ zg_tbl := zq2 _ (List.mem_of_getElem? (i := 205) (by decide +kernel)) rfl
theorem zw_164 : Cond.methodLink RX0 78 yX4_make ∈ zg_tbl := zq2 _ (List.mem_of_getElem? (i := 202) (by decide +kernel)) rfl
theorem zw_165 : Cond.instanceMethod yX4_make ∈ zg_tbl := zq2 _ (List.mem_of_getElem? (i := 203) (by decide +kernel)) rfl
theorem zw_166 : Cond.selects RX4 yX4_make yX4_make ∈ zg_tbl := zq2 _ (List.mem_of_getElem? (i := 204) (by decide +kernel)) rfl
theorem zw_167 : Cond.methodLink RX1 3 objectInit ∈ zg_tbl := zq3 _ (List.mem_of_getElem? (i := 70) (by decide +kernel)) rfl
theorem zw_168 : Cond.fieldLink RX1 9 (TX1 5).1 (TX1 5).2.1 (TX1 5).2.2.1 ∈ zg_tbl := zq3 _ (List.mem_of_getElem? (i := 77) (by decide +kernel)) rfl
theorem zw_169 : Cond.fieldLink RX1 15 (TX1 6).1 (TX1 6).2.1 (TX1 6).2.2.1 ∈ zg_tbl := zq3 _ (List.mem_of_getElem? (i := 78) (by decide +kernel)) rfl
theorem zw_170 : Cond.fieldLink RX1 18 (TX1 7).1 (TX1 7).2.1 (TX1 7).2.2.1 ∈ zg_tbl := zq3 _ (List.mem_of_getElem? (i := 79) (by decide +kernel)) rfl
theorem zw_171 : Cond.fieldLink RX1 21 (TX1 8).1 (TX1 8).2.1 (TX1 8).2.2.1 ∈ zg_tbl := zq3 _ (List.mem_of_getElem? (i := 80) (by decide +kernel)) rfl
theorem zw_172 : Cond.fieldLink RX1 24 (TX1 9).1 (TX1 9).2.1 (TX1 9).2.2.1 ∈ zg_tbl := zq3 _ (List.mem_of_getElem? (i := 81) (by decide +kernel)) rfl
theorem zw_173 : Cond.fieldLink RX1 28 (TX1 10).1 (TX1 10).2.1 (TX1 10).2.2.1 ∈ zg_tbl := zq3 _ (List.mem_of_getElem? (i := 82) (by decide +kernel)) rfl
theorem zw_174 : Cond.fieldLink RX1 31 (TX1 1).1 (TX1 1).2.1 (TX1 1).2.2.1 ∈ zg_tbl := zq3 _ (List.mem_of_getElem? (i := 73) (by decide +kernel)) rfl
theorem zw_175 : Cond.fieldLink RX1 35 (TX1 2).1 (TX1 2).2.1 (TX1 2).2.2.1 ∈ zg_tbl := zq3 _ (List.mem_of_getElem? (i := 74) (by decide +kernel)) rfl
theorem zw_176 : Cond.fieldLink RX1 39 (TX1 3).1 (TX1 3).2.1 (TX1 3).2.2.1 ∈ zg_tbl := zq3 _ (List.mem_of_getElem? (i := 75) (by decide +kernel)) rfl
theorem zw_177 : Cond.fieldLink RX1 65 (TX1 0).1 (TX1 0).2.1 (TX1 0).2.2.1 ∈ zg_tbl := zq3 _ (List.mem_of_getElem? (i := 71) (by decide +kernel)) rfl
theorem zw_178 : Cond.fieldLink RX1 53 (TX3 0).1 (TX3 0).2.1 (TX3 0).2.2.1 ∈ zg_tbl := zq1 _ (List.mem_of_getElem? (i := 219) (by decide +kernel)) rfl
theorem zw_179 : Cond.fieldLink RX1 74 (TX2 0).1 (TX2 0).2.1 (TX2 0).2.2.1 ∈ zg_tbl := zq1 _ (List.mem_of_getElem? (i := 45) (by decide +kernel)) rfl
theorem zw_180 : Cond.code yX4_partWith cX4_partWith 3 (some .int) ∈ zg_tbl := zq2 _ (List.mem_of_getElem? (i := 225) (by decide +kernel)) rfl
theorem zw_181 : Cond.methodLink RX1 58 yX4_partWith ∈ zg_tbl := zq3 _ (List.mem_of_getElem? (i := 111) (by decide +kernel)) rfl
theorem zw_182 : Cond.instanceMethod yX4_partWith ∈ zg_tbl := zq2 _ (List.mem_of_getElem? (i := 223) (by decide +kernel)) rfl
theorem zw_183 : Cond.selects RX4 yX4_partWith yX4_partWith ∈ zg_tbl := zq2 _ (List.mem_of_getElem? (i := 224) (by decide +kernel)) rfl
theorem zw_184 : Cond.fieldLink RX1 79 (TX2 1).1 (TX2 1).2.1 (TX2 1).2.2.1 ∈ zg_tbl := zq1 _ (List.mem_of_getElem? (i := 49) (by decide +kernel)) rfl
theorem zw_185 : Cond.code yX3_withBehind cX3_withBehind 3 (some .int) ∈ zg_tbl := zq3 _ (List.mem_of_getElem? (i := 119) (by decide +kernel)) rfl
theorem zw_186 : Cond.methodLink RX1 82 yX3_withBehind ∈ zg_tbl := zq3 _ (List.mem_of_getElem? (i := 116) (by decide +kernel)) rfl
theorem zw_187 : Cond.instanceMethod yX3_withBehind ∈ zg_tbl := zq3 _ (List.mem_of_getElem? (i := 117) (by decide +kernel)) rfl
theorem zw_188 : Cond.selects RX3 yX3_withBehind yX3_withBehind ∈ zg_tbl := zq3 _ (List.mem_of_getElem? (i := 118) (by decide +kernel)) rfl
theorem zw_189 : Cond.code yX1_addFirstNeighbour cX1_addFirstNeighbour 3 none ∈ zg_tbl := zq3 _ (List.mem_of_getElem? (i := 123) (by decide +kernel)) rfl
theorem zw_190 : Cond.methodLink RX1 85 yX1_addFirstNeighbour ∈ zg_tbl := zq3 _ (List.mem_of_getElem? (i := 120) (by decide +kernel)) rfl
theorem zw_191 : Cond.instanceMethod yX1_addFirstNeighbour ∈ zg_tbl := zq3 _ (List.mem_of_getElem? (i := 122) (by decide +kernel)) rfl
theorem zw_192 : Cond.selects RX1 yX1_addFirstNeighbour yX1_addFirstNeighbour ∈ zg_tbl := zq0 _ (List.mem_of_getElem? (i := 15) (by decide +kernel)) rfl
theorem zw_193 : Cond.initialized RX1 ∈ zg_tbl := zq1 _ (List.mem_of_getElem? (i := 10) (by decide +kernel)) rfl
theorem zw_194 : Cond.code yX3_productOf cX3_productOf 6 (some .int) ∈ zg_tbl := zq2 _ (List.mem_of_getElem? (i := 85) (by decide +kernel)) rfl
theorem zw_195 : Cond.methodLink RX1 95 yX3_productOf ∈ zg_tbl := zq3 _ (List.mem_of_getElem? (i := 128) (by decide +kernel)) rfl
theorem zw_196 : Cond.instanceMethod yX3_productOf ∈ zg_tbl := zq2 _ (List.mem_of_getElem? (i := 83) (by decide +kernel)) rfl
theorem zw_197 : Cond.selects RX3 yX3_productOf yX3_productOf ∈ zg_tbl := zq2 _ (List.mem_of_getElem? (i := 84) (by decide +kernel)) rfl
theorem zw_198 : Cond.methodLink RX1 89 yJ7_fill_53178 ∈ zg_tbl := zq3 _ (List.mem_of_getElem? (i := 133) (by decide +kernel)) rfl
theorem zw_199 : Cond.code yX4_countOf cX4_countOf 2 (some .int) ∈ zg_tbl := zq2 _ (List.mem_of_getElem? (i := 217) (by decide +kernel)) rfl
theorem zw_200 : Cond.methodLink RX1 43 yX4_countOf ∈ zg_tbl := zq3 _ (List.mem_of_getElem? (i := 110) (by decide +kernel)) rfl
theorem zw_201 : Cond.instanceMethod yX4_countOf ∈ zg_tbl := zq2 _ (List.mem_of_getElem? (i := 215) (by decide +kernel)) rfl
theorem zw_202 : Cond.selects RX4 yX4_countOf yX4_countOf ∈ zg_tbl := zq2 _ (List.mem_of_getElem? (i := 216) (by decide +kernel)) rfl
theorem zw_203 : Cond.fieldLink RX1 49 (TX1 4).1 (TX1 4).2.1 (TX1 4).2.2.1 ∈ zg_tbl := zq3 _ (List.mem_of_getElem? (i := 76) (by decide +kernel)) rfl
theorem zw_204 : Cond.code yX1_findFirstNeighbours cX1_findFirstNeighbours 3 none ∈ zg_tbl := zq3 _ (List.mem_of_getElem? (i := 115) (by decide +kernel)) rfl
theorem zw_205 : Cond.methodLink RX1 62 yX1_findFirstNeighbours ∈ zg_tbl := zq3 _ (List.mem_of_getElem? (i := 112) (by decide +kernel)) rfl
theorem zw_206 : Cond.instanceMethod yX1_findFirstNeighbours ∈ zg_tbl := zq3 _ (List.mem_of_getElem? (i := 114) (by decide +kernel)) rfl
theorem zw_207 : Cond.selects RX1 yX1_findFirstNeighbours yX1_findFirstNeighbours ∈ zg_tbl := zq0 _ (List.mem_of_getElem? (i := 14) (by decide +kernel)) rfl
theorem zw_208 : Cond.code yX1_moved cX1_moved 3 (some .int) ∈ zg_tbl := zq3 _ (List.mem_of_getElem? (i := 127) (by decide +kernel)) rfl
theorem zw_209 : Cond.methodLink RX1 68 yX1_moved ∈ zg_tbl := zq3 _ (List.mem_of_getElem? (i := 124) (by decide +kernel)) rfl
theorem zw_210 : Cond.instanceMethod yX1_moved ∈ zg_tbl := zq3 _ (List.mem_of_getElem? (i := 125) (by decide +kernel)) rfl
theorem zw_211 : Cond.selects RX1 yX1_moved yX1_moved ∈ zg_tbl := zq3 _ (List.mem_of_getElem? (i := 126) (by decide +kernel)) rfl
theorem zw_212 : Cond.code yX1_findSteps cX1_findSteps 6 none ∈ zg_tbl := zq3 _ (List.mem_of_getElem? (i := 132) (by decide +kernel)) rfl
theorem zw_213 : Cond.methodLink RX1 71 yX1_findSteps ∈ zg_tbl := zq3 _ (List.mem_of_getElem? (i := 129) (by decide +kernel)) rfl
theorem zw_214 : Cond.instanceMethod yX1_findSteps ∈ zg_tbl := zq3 _ (List.mem_of_getElem? (i := 131) (by decide +kernel)) rfl
theorem zw_215 : Cond.selects RX1 yX1_findSteps yX1_findSteps ∈ zg_tbl := zq0 _ (List.mem_of_getElem? (i := 16) (by decide +kernel)) rfl
theorem zw_216 : Cond.fieldLink RX0 82 (TX0 4).1 (TX0 4).2.1 (TX0 4).2.2.1 ∈ zg_tbl := zq1 _ (List.mem_of_getElem? (i := 71) (by decide +kernel)) rfl
theorem zw_217 : Cond.classLink RX0 86 RX1 ∈ zg_tbl := zq3 _ (List.mem_of_getElem? (i := 64) (by decide +kernel)) rfl
theorem zw_218 : Cond.instantiable RX1 11 ∈ zg_tbl := zq3 _ (List.mem_of_getElem? (i := 65) (by decide +kernel)) rfl
theorem zw_219 : Cond.code yX0_partsOf cX0_partsOf 2 (some (.object "EvenBodies$Parts")) ∈ zg_tbl := zq2 _ (List.mem_of_getElem? (i := 173) (by decide +kernel)) rfl
theorem zw_220 : Cond.methodLink RX0 88 yX0_partsOf ∈ zg_tbl := zq3 _ (List.mem_of_getElem? (i := 66) (by decide +kernel)) rfl
theorem zw_221 : Cond.instanceMethod yX0_partsOf ∈ zg_tbl := zq2 _ (List.mem_of_getElem? (i := 171) (by decide +kernel)) rfl
theorem zw_222 : Cond.selects RX0 yX0_partsOf yX0_partsOf ∈ zg_tbl := zq2 _ (List.mem_of_getElem? (i := 172) (by decide +kernel)) rfl
theorem zw_223 : Cond.code yX1_init cX1_init 4 none ∈ zg_tbl := zq3 _ (List.mem_of_getElem? (i := 69) (by decide +kernel)) rfl
theorem zw_224 : Cond.instanceMethod yX1_init ∈ zg_tbl := zq3 _ (List.mem_of_getElem? (i := 68) (by decide +kernel)) rfl
theorem zw_225 : Cond.methodLink RX0 92 yX1_init ∈ zg_tbl := zq3 _ (List.mem_of_getElem? (i := 67) (by decide +kernel)) rfl
theorem zw_226 : Cond.code yX1_build cX1_build 3 none ∈ zg_tbl := zq3 _ (List.mem_of_getElem? (i := 109) (by decide +kernel)) rfl
theorem zw_227 : Cond.methodLink RX0 95 yX1_build ∈ zg_tbl := zq3 _ (List.mem_of_getElem? (i := 106) (by decide +kernel)) rfl
theorem zw_228 : Cond.instanceMethod yX1_build ∈ zg_tbl := zq3 _ (List.mem_of_getElem? (i := 107) (by decide +kernel)) rfl
theorem zw_229 : Cond.selects RX1 yX1_build yX1_build ∈ zg_tbl := zq3 _ (List.mem_of_getElem? (i := 108) (by decide +kernel)) rfl
theorem zw_230 : Cond.code yX0_theCorners cX0_theCorners 1 (some (.object "EvenBodies$Corners")) ∈ zg_tbl := zq3 _ (List.mem_of_getElem? (i := 63) (by decide +kernel)) rfl
theorem zw_231 : Cond.methodLink RX7 182 yX0_theCorners ∈ zg_tbl := zq3 _ (List.mem_of_getElem? (i := 60) (by decide +kernel)) rfl
theorem zw_232 : Cond.instanceMethod yX0_theCorners ∈ zg_tbl := zq3 _ (List.mem_of_getElem? (i := 61) (by decide +kernel)) rfl
theorem zw_233 : Cond.selects RX0 yX0_theCorners yX0_theCorners ∈ zg_tbl := zq3 _ (List.mem_of_getElem? (i := 62) (by decide +kernel)) rfl
theorem zw_234 : Cond.code yX1_hasTwoColours cX1_hasTwoColours 4 (some .boolean) ∈ zg_tbl := zq3 _ (List.mem_of_getElem? (i := 176) (by decide +kernel)) rfl
theorem zw_235 : Cond.methodLink RX7 206 yX1_hasTwoColours ∈ zg_tbl := zq3 _ (List.mem_of_getElem? (i := 173) (by decide +kernel)) rfl
theorem zw_236 : Cond.instanceMethod yX1_hasTwoColours ∈ zg_tbl := zq3 _ (List.mem_of_getElem? (i := 174) (by decide +kernel)) rfl
theorem zw_237 : Cond.selects RX1 yX1_hasTwoColours yX1_hasTwoColours ∈ zg_tbl := zq3 _ (List.mem_of_getElem? (i := 175) (by decide +kernel)) rfl
theorem zw_238 : Cond.code yX2_isKind cX2_isKind 4 (some .boolean) ∈ zg_tbl := zq2 _ (List.mem_of_getElem? (i := 148) (by decide +kernel)) rfl
theorem zw_239 : Cond.methodLink RX7 285 yX2_isKind ∈ zg_tbl := zq2 _ (List.mem_of_getElem? (i := 169) (by decide +kernel)) rfl
theorem zw_240 : Cond.instanceMethod yX2_isKind ∈ zg_tbl := zq2 _ (List.mem_of_getElem? (i := 146) (by decide +kernel)) rfl
theorem zw_241 : Cond.selects RX2 yX2_isKind yX2_isKind ∈ zg_tbl := zq2 _ (List.mem_of_getElem? (i := 147) (by decide +kernel)) rfl
theorem zw_242 : Cond.code yX7_isNoKind cX7_isNoKind 3 (some .boolean) ∈ zg_tbl := zq2 _ (List.mem_of_getElem? (i := 168) (by decide +kernel)) rfl
theorem zw_243 : Cond.methodLink RX7 139 yX7_isNoKind ∈ zg_tbl := zq2 _ (List.mem_of_getElem? (i := 165) (by decide +kernel)) rfl
theorem zw_244 : Cond.instanceMethod yX7_isNoKind ∈ zg_tbl := zq2 _ (List.mem_of_getElem? (i := 167) (by decide +kernel)) rfl
theorem zw_245 : Cond.selects RX7 yX7_isNoKind yX7_isNoKind ∈ zg_tbl := zq0 _ (List.mem_of_getElem? (i := 11) (by decide +kernel)) rfl
theorem zw_246 : Cond.methodLink RX7 142 yX0_partsOf ∈ zg_tbl := zq2 _ (List.mem_of_getElem? (i := 170) (by decide +kernel)) rfl
theorem zw_247 : Cond.methodLink RX7 146 yX4_countOf ∈ zg_tbl := zq2 _ (List.mem_of_getElem? (i := 214) (by decide +kernel)) rfl
theorem zw_248 : Cond.methodLink RX4 51 yX4_partWith ∈ zg_tbl := zq2 _ (List.mem_of_getElem? (i := 238) (by decide +kernel)) rfl
theorem zw_249 : Cond.code yX4_markMeeting cX4_markMeeting 7 (some .int) ∈ zg_tbl := zq3 _ (List.mem_of_getElem? (i := 6) (by decide +kernel)) rfl
theorem zw_250 : Cond.methodLink RX4 54 yX4_markMeeting ∈ zg_tbl := zq3 _ (List.mem_of_getElem? (i := 15) (by decide +kernel)) rfl
theorem zw_251 : Cond.instanceMethod yX4_markMeeting ∈ zg_tbl := zq3 _ (List.mem_of_getElem? (i := 4) (by decide +kernel)) rfl
theorem zw_252 : Cond.selects RX4 yX4_markMeeting yX4_markMeeting ∈ zg_tbl := zq3 _ (List.mem_of_getElem? (i := 5) (by decide +kernel)) rfl
theorem zw_253 : Cond.code yX7_refusalOfPart cX7_refusalOfPart 5 (some .int) ∈ zg_tbl := zq2 _ (List.mem_of_getElem? (i := 233) (by decide +kernel)) rfl
theorem zw_254 : Cond.methodLink RX7 154 yX7_refusalOfPart ∈ zg_tbl := zq2 _ (List.mem_of_getElem? (i := 230) (by decide +kernel)) rfl
theorem zw_255 : Cond.instanceMethod yX7_refusalOfPart ∈ zg_tbl := zq2 _ (List.mem_of_getElem? (i := 232) (by decide +kernel)) rfl
theorem zw_256 : Cond.selects RX7 yX7_refusalOfPart yX7_refusalOfPart ∈ zg_tbl := zq0 _ (List.mem_of_getElem? (i := 12) (by decide +kernel)) rfl
theorem zw_257 : Cond.code yX4_cornerAt cX4_cornerAt 6 (some .int) ∈ zg_tbl := zq3 _ (List.mem_of_getElem? (i := 14) (by decide +kernel)) rfl
theorem zw_258 : Cond.methodLink RX7 163 yX4_cornerAt ∈ zg_tbl := zq3 _ (List.mem_of_getElem? (i := 11) (by decide +kernel)) rfl
theorem zw_259 : Cond.instanceMethod yX4_cornerAt ∈ zg_tbl := zq3 _ (List.mem_of_getElem? (i := 12) (by decide +kernel)) rfl
theorem zw_260 : Cond.selects RX4 yX4_cornerAt yX4_cornerAt ∈ zg_tbl := zq3 _ (List.mem_of_getElem? (i := 13) (by decide +kernel)) rfl
theorem zw_261 : Cond.methodLink RX7 160 yX4_markMeeting ∈ zg_tbl := zq3 _ (List.mem_of_getElem? (i := 3) (by decide +kernel)) rfl
theorem zw_262 : Cond.constant RJ6 265 (nI 1431655765) ∈ zg_tbl := zq2 _ (List.mem_of_getElem? (i := 142) (by decide +kernel)) rfl
theorem zw_263 : Cond.constant RJ6 266 (nI 858993459) ∈ zg_tbl := zq2 _ (List.mem_of_getElem? (i := 143) (by decide +kernel)) rfl
theorem zw_264 : Cond.constant RJ6 267 (nI 252645135) ∈ zg_tbl := zq2 _ (List.mem_of_getElem? (i := 144) (by decide +kernel)) rfl
theorem zw_265 : Cond.methodLink RX4 58 yX2_sets ∈ zg_tbl := zq3 _ (List.mem_of_getElem? (i := 39) (by decide +kernel)) rfl
theorem zw_266 : Cond.code yJ6_bitCount_0f7a4 cJ6_bitCount_0f7a4 1 (some .int) ∈ zg_tbl := zq2 _ (List.mem_of_getElem? (i := 141) (by decide +kernel)) rfl
theorem zw_267 : Cond.initialized RJ6 ∈ zg_tbl := zq1 _ (List.mem_of_getElem? (i := 8) (by decide +kernel)) rfl
theorem zw_268 : Cond.methodLink RX4 62 yJ6_bitCount_0f7a4 ∈ zg_tbl := zq3 _ (List.mem_of_getElem? (i := 40) (by decide +kernel)) rfl
theorem zw_269 : Cond.static yJ6_bitCount_0f7a4 ∈ zg_tbl := zq2 _ (List.mem_of_getElem? (i := 140) (by decide +kernel)) rfl
theorem zw_270 : Cond.methodLink RX4 67 yX2_isKind ∈ zg_tbl := zq3 _ (List.mem_of_getElem? (i := 41) (by decide +kernel)) rfl
theorem zw_271 : Cond.methodLink RX4 71 yX4_make ∈ zg_tbl := zq3 _ (List.mem_of_getElem? (i := 42) (by decide +kernel)) rfl
theorem zw_272 : Cond.code yX7_isNoWidth cX7_isNoWidth 3 (some .boolean) ∈ zg_tbl := zq2 _ (List.mem_of_getElem? (i := 134) (by decide +kernel)) rfl
theorem zw_273 : Cond.methodLink RX7 130 yX7_isNoWidth ∈ zg_tbl := zq2 _ (List.mem_of_getElem? (i := 131) (by decide +kernel)) rfl
theorem zw_274 : Cond.instanceMethod yX7_isNoWidth ∈ zg_tbl := zq2 _ (List.mem_of_getElem? (i := 133) (by decide +kernel)) rfl
theorem zw_275 : Cond.selects RX7 yX7_isNoWidth yX7_isNoWidth ∈ zg_tbl := zq0 _ (List.mem_of_getElem? (i := 9) (by decide +kernel)) rfl
theorem zw_276 : Cond.code yX4_countOfWidth cX4_countOfWidth 4 (some .int) ∈ zg_tbl := zq3 _ (List.mem_of_getElem? (i := 38) (by decide +kernel)) rfl
theorem zw_277 : Cond.methodLink RX7 173 yX4_countOfWidth ∈ zg_tbl := zq3 _ (List.mem_of_getElem? (i := 35) (by decide +kernel)) rfl
theorem zw_278 : Cond.instanceMethod yX4_countOfWidth ∈ zg_tbl := zq3 _ (List.mem_of_getElem? (i := 36) (by decide +kernel)) rfl
theorem zw_279 : Cond.selects RX4 yX4_countOfWidth yX4_countOfWidth ∈ zg_tbl := zq3 _ (List.mem_of_getElem? (i := 37) (by decide +kernel)) rfl
theorem zw_280 : Cond.code yX7_refusalOfCorners cX7_refusalOfCorners 6 (some .int) ∈ zg_tbl := zq3 _ (List.mem_of_getElem? (i := 59) (by decide +kernel)) rfl
theorem zw_281 : Cond.methodLink RX7 179 yX7_refusalOfCorners ∈ zg_tbl := zq3 _ (List.mem_of_getElem? (i := 56) (by decide +kernel)) rfl
theorem zw_282 : Cond.instanceMethod yX7_refusalOfCorners ∈ zg_tbl := zq3 _ (List.mem_of_getElem? (i := 58) (by decide +kernel)) rfl
theorem zw_283 : Cond.selects RX7 yX7_refusalOfCorners yX7_refusalOfCorners ∈ zg_tbl := zq0 _ (List.mem_of_getElem? (i := 13) (by decide +kernel)) rfl
theorem zw_284 : Cond.fieldLink RX7 191 (TX1 0).1 (TX1 0).2.1 (TX1 0).2.2.1 ∈ zg_tbl := zq3 _ (List.mem_of_getElem? (i := 72) (by decide +kernel)) rfl
theorem zw_285 : Cond.constantLong RX7 279 (lN 271) ∈ zg_tbl := zq4 _ (List.mem_of_getElem? (i := 212) (by decide +kernel)) rfl
theorem zw_286 : Cond.constantLong RX7 281 (lN 31) ∈ zg_tbl := zq4 _ (List.mem_of_getElem? (i := 213) (by decide +kernel)) rfl
theorem zw_287 : Cond.code yX7_size cX7_size 3 (some .int) ∈ zg_tbl := zq1 _ (List.mem_of_getElem? (i := 202) (by decide +kernel)) rfl
theorem zw_288 : Cond.methodLink RX7 283 yX7_size ∈ zg_tbl := zq4 _ (List.mem_of_getElem? (i := 214) (by decide +kernel)) rfl
theorem zw_289 : Cond.instanceMethod yX7_size ∈ zg_tbl := zq1 _ (List.mem_of_getElem? (i := 200) (by decide +kernel)) rfl
theorem zw_290 : Cond.selects RX7 yX7_size yX7_size ∈ zg_tbl := zq1 _ (List.mem_of_getElem? (i := 201) (by decide +kernel)) rfl
theorem zw_291 : Cond.code yX7_refusalOfThree cX7_refusalOfThree 4 (some .int) ∈ zg_tbl := zq3 _ (List.mem_of_getElem? (i := 184) (by decide +kernel)) rfl
theorem zw_292 : Cond.methodLink RX7 210 yX7_refusalOfThree ∈ zg_tbl := zq3 _ (List.mem_of_getElem? (i := 181) (by decide +kernel)) rfl
theorem zw_293 : Cond.instanceMethod yX7_refusalOfThree ∈ zg_tbl := zq3 _ (List.mem_of_getElem? (i := 183) (by decide +kernel)) rfl
theorem zw_294 : Cond.selects RX7 yX7_refusalOfThree yX7_refusalOfThree ∈ zg_tbl := zq0 _ (List.mem_of_getElem? (i := 17) (by decide +kernel)) rfl
theorem zw_295 : Cond.code yX2_isWord cX2_isWord 5 (some .boolean) ∈ zg_tbl := zq2 _ (List.mem_of_getElem? (i := 73) (by decide +kernel)) rfl
theorem zw_296 : Cond.methodLink RX7 288 yX2_isWord ∈ zg_tbl := zq2 _ (List.mem_of_getElem? (i := 70) (by decide +kernel)) rfl
theorem zw_297 : Cond.instanceMethod yX2_isWord ∈ zg_tbl := zq2 _ (List.mem_of_getElem? (i := 71) (by decide +kernel)) rfl
theorem zw_298 : Cond.selects RX2 yX2_isWord yX2_isWord ∈ zg_tbl := zq2 _ (List.mem_of_getElem? (i := 72) (by decide +kernel)) rfl
theorem zw_299 : Cond.code yX7_isNoWord cX7_isNoWord 3 (some .boolean) ∈ zg_tbl := zq2 _ (List.mem_of_getElem? (i := 69) (by decide +kernel)) rfl
theorem zw_300 : Cond.methodLink RX7 109 yX7_isNoWord ∈ zg_tbl := zq2 _ (List.mem_of_getElem? (i := 66) (by decide +kernel)) rfl
theorem zw_301 : Cond.instanceMethod yX7_isNoWord ∈ zg_tbl := zq2 _ (List.mem_of_getElem? (i := 68) (by decide +kernel)) rfl
theorem zw_302 : Cond.selects RX7 yX7_isNoWord yX7_isNoWord ∈ zg_tbl := zq0 _ (List.mem_of_getElem? (i := 7) (by decide +kernel)) rfl
theorem zw_303 : Cond.code yX3_elementOf cX3_elementOf 4 (some .int) ∈ zg_tbl := zq2 _ (List.mem_of_getElem? (i := 77) (by decide +kernel)) rfl
theorem zw_304 : Cond.methodLink RX7 112 yX3_elementOf ∈ zg_tbl := zq2 _ (List.mem_of_getElem? (i := 74) (by decide +kernel)) rfl
theorem zw_305 : Cond.instanceMethod yX3_elementOf ∈ zg_tbl := zq2 _ (List.mem_of_getElem? (i := 75) (by decide +kernel)) rfl
theorem zw_306 : Cond.selects RX3 yX3_elementOf yX3_elementOf ∈ zg_tbl := zq2 _ (List.mem_of_getElem? (i := 76) (by decide +kernel)) rfl
theorem zw_307 : Cond.code yX3_inverseOf cX3_inverseOf 2 (some .int) ∈ zg_tbl := zq2 _ (List.mem_of_getElem? (i := 93) (by decide +kernel)) rfl
theorem zw_308 : Cond.methodLink RX1 98 yX3_inverseOf ∈ zg_tbl := zq3 _ (List.mem_of_getElem? (i := 147) (by decide +kernel)) rfl
theorem zw_309 : Cond.instanceMethod yX3_inverseOf ∈ zg_tbl := zq2 _ (List.mem_of_getElem? (i := 91) (by decide +kernel)) rfl
theorem zw_310 : Cond.selects RX3 yX3_inverseOf yX3_inverseOf ∈ zg_tbl := zq2 _ (List.mem_of_getElem? (i := 92) (by decide +kernel)) rfl
theorem zw_311 : Cond.code yX1_stepsBetween cX1_stepsBetween 3 (some .int) ∈ zg_tbl := zq3 _ (List.mem_of_getElem? (i := 146) (by decide +kernel)) rfl
theorem zw_312 : Cond.methodLink RX7 194 yX1_stepsBetween ∈ zg_tbl := zq3 _ (List.mem_of_getElem? (i := 143) (by decide +kernel)) rfl
theorem zw_313 : Cond.instanceMethod yX1_stepsBetween ∈ zg_tbl := zq3 _ (List.mem_of_getElem? (i := 144) (by decide +kernel)) rfl
theorem zw_314 : Cond.selects RX1 yX1_stepsBetween yX1_stepsBetween ∈ zg_tbl := zq3 _ (List.mem_of_getElem? (i := 145) (by decide +kernel)) rfl
theorem zw_315 : Cond.methodLink RX7 118 yX3_inverseOf ∈ zg_tbl := zq2 _ (List.mem_of_getElem? (i := 90) (by decide +kernel)) rfl
theorem zw_316 : Cond.methodLink RX2 57 yJ6_bitCount_0f7a4 ∈ zg_tbl := zq2 _ (List.mem_of_getElem? (i := 139) (by decide +kernel)) rfl
theorem zw_317 : Cond.methodLink RX2 62 yX2_isKind ∈ zg_tbl := zq2 _ (List.mem_of_getElem? (i := 145) (by decide +kernel)) rfl
theorem zw_318 : Cond.code yX2_kindAt cX2_kindAt 5 (some .int) ∈ zg_tbl := zq2 _ (List.mem_of_getElem? (i := 160) (by decide +kernel)) rfl
theorem zw_319 : Cond.methodLink RX7 136 yX2_kindAt ∈ zg_tbl := zq2 _ (List.mem_of_getElem? (i := 157) (by decide +kernel)) rfl
theorem zw_320 : Cond.instanceMethod yX2_kindAt ∈ zg_tbl := zq2 _ (List.mem_of_getElem? (i := 158) (by decide +kernel)) rfl
theorem zw_321 : Cond.selects RX2 yX2_kindAt yX2_kindAt ∈ zg_tbl := zq2 _ (List.mem_of_getElem? (i := 159) (by decide +kernel)) rfl
theorem zw_322 : Cond.code yX2_countKinds cX2_countKinds 4 (some .int) ∈ zg_tbl := zq2 _ (List.mem_of_getElem? (i := 138) (by decide +kernel)) rfl
theorem zw_323 : Cond.methodLink RX7 133 yX2_countKinds ∈ zg_tbl := zq2 _ (List.mem_of_getElem? (i := 135) (by decide +kernel)) rfl
theorem zw_324 : Cond.instanceMethod yX2_countKinds ∈ zg_tbl := zq2 _ (List.mem_of_getElem? (i := 136) (by decide +kernel)) rfl
theorem zw_325 : Cond.selects RX2 yX2_countKinds yX2_countKinds ∈ zg_tbl := zq2 _ (List.mem_of_getElem? (i := 137) (by decide +kernel)) rfl
theorem zw_326 : Cond.fieldLink RX4 75 (TX2 0).1 (TX2 0).2.1 (TX2 0).2.2.1 ∈ zg_tbl := zq1 _ (List.mem_of_getElem? (i := 47) (by decide +kernel)) rfl
theorem zw_327 : Cond.methodLink RX4 78 yX4_countOfWidth ∈ zg_tbl := zq3 _ (List.mem_of_getElem? (i := 51) (by decide +kernel)) rfl
theorem zw_328 : Cond.code yX4_sumByTurns cX4_sumByTurns 3 (some .int) ∈ zg_tbl := zq3 _ (List.mem_of_getElem? (i := 50) (by decide +kernel)) rfl
theorem zw_329 : Cond.methodLink RX7 176 yX4_sumByTurns ∈ zg_tbl := zq3 _ (List.mem_of_getElem? (i := 47) (by decide +kernel)) rfl
theorem zw_330 : Cond.instanceMethod yX4_sumByTurns ∈ zg_tbl := zq3 _ (List.mem_of_getElem? (i := 48) (by decide +kernel)) rfl
theorem zw_331 : Cond.selects RX4 yX4_sumByTurns yX4_sumByTurns ∈ zg_tbl := zq3 _ (List.mem_of_getElem? (i := 49) (by decide +kernel)) rfl
theorem zw_332 : Cond.code yX1_countAt cX1_countAt 4 (some .int) ∈ zg_tbl := zq3 _ (List.mem_of_getElem? (i := 155) (by decide +kernel)) rfl
theorem zw_333 : Cond.methodLink RX7 197 yX1_countAt ∈ zg_tbl := zq3 _ (List.mem_of_getElem? (i := 152) (by decide +kernel)) rfl
theorem zw_334 : Cond.instanceMethod yX1_countAt ∈ zg_tbl := zq3 _ (List.mem_of_getElem? (i := 153) (by decide +kernel)) rfl
theorem zw_335 : Cond.selects RX1 yX1_countAt yX1_countAt ∈ zg_tbl := zq3 _ (List.mem_of_getElem? (i := 154) (by decide +kernel)) rfl
theorem zw_336 : Cond.code yX4_leastOf cX4_leastOf 4 (some .int) ∈ zg_tbl := zq2 _ (List.mem_of_getElem? (i := 237) (by decide +kernel)) rfl
theorem zw_337 : Cond.methodLink RX7 157 yX4_leastOf ∈ zg_tbl := zq2 _ (List.mem_of_getElem? (i := 234) (by decide +kernel)) rfl
theorem zw_338 : Cond.instanceMethod yX4_leastOf ∈ zg_tbl := zq2 _ (List.mem_of_getElem? (i := 235) (by decide +kernel)) rfl
theorem zw_339 : Cond.selects RX4 yX4_leastOf yX4_leastOf ∈ zg_tbl := zq2 _ (List.mem_of_getElem? (i := 236) (by decide +kernel)) rfl
theorem zw_340 : Cond.code yX3_lengthOf cX3_lengthOf 2 (some .int) ∈ zg_tbl := zq2 _ (List.mem_of_getElem? (i := 53) (by decide +kernel)) rfl
theorem zw_341 : Cond.methodLink RX7 103 yX3_lengthOf ∈ zg_tbl := zq2 _ (List.mem_of_getElem? (i := 50) (by decide +kernel)) rfl
theorem zw_342 : Cond.instanceMethod yX3_lengthOf ∈ zg_tbl := zq2 _ (List.mem_of_getElem? (i := 51) (by decide +kernel)) rfl
theorem zw_343 : Cond.selects RX3 yX3_lengthOf yX3_lengthOf ∈ zg_tbl := zq2 _ (List.mem_of_getElem? (i := 52) (by decide +kernel)) rfl
theorem zw_344 : Cond.code yX3_letterOf cX3_letterOf 5 (some .int) ∈ zg_tbl := zq2 _ (List.mem_of_getElem? (i := 61) (by decide +kernel)) rfl
theorem zw_345 : Cond.methodLink RX7 106 yX3_letterOf ∈ zg_tbl := zq2 _ (List.mem_of_getElem? (i := 58) (by decide +kernel)) rfl
theorem zw_346 : Cond.instanceMethod yX3_letterOf ∈ zg_tbl := zq2 _ (List.mem_of_getElem? (i := 59) (by decide +kernel)) rfl
theorem zw_347 : Cond.selects RX3 yX3_letterOf yX3_letterOf ∈ zg_tbl := zq2 _ (List.mem_of_getElem? (i := 60) (by decide +kernel)) rfl
theorem zw_348 : Cond.code yX7_isInside cX7_isInside 2 (some .boolean) ∈ zg_tbl := zq3 _ (List.mem_of_getElem? (i := 22) (by decide +kernel)) rfl
theorem zw_349 : Cond.methodLink RX7 166 yX7_isInside ∈ zg_tbl := zq3 _ (List.mem_of_getElem? (i := 20) (by decide +kernel)) rfl
theorem zw_350 : Cond.static yX7_isInside ∈ zg_tbl := zq3 _ (List.mem_of_getElem? (i := 21) (by decide +kernel)) rfl
theorem zw_351 : Cond.code yX4_meet cX4_meet 6 (some .boolean) ∈ zg_tbl := zq3 _ (List.mem_of_getElem? (i := 26) (by decide +kernel)) rfl
theorem zw_352 : Cond.methodLink RX7 169 yX4_meet ∈ zg_tbl := zq3 _ (List.mem_of_getElem? (i := 23) (by decide +kernel)) rfl
theorem zw_353 : Cond.instanceMethod yX4_meet ∈ zg_tbl := zq3 _ (List.mem_of_getElem? (i := 24) (by decide +kernel)) rfl
theorem zw_354 : Cond.selects RX4 yX4_meet yX4_meet ∈ zg_tbl := zq3 _ (List.mem_of_getElem? (i := 25) (by decide +kernel)) rfl
theorem zw_355 : Cond.methodLink RX7 186 yX1_moved ∈ zg_tbl := zq3 _ (List.mem_of_getElem? (i := 134) (by decide +kernel)) rfl
theorem zw_356 : Cond.code yX3_countLength cX3_countLength 4 (some .int) ∈ zg_tbl := zq2 _ (List.mem_of_getElem? (i := 122) (by decide +kernel)) rfl
theorem zw_357 : Cond.methodLink RX7 127 yX3_countLength ∈ zg_tbl := zq2 _ (List.mem_of_getElem? (i := 119) (by decide +kernel)) rfl
theorem zw_358 : Cond.instanceMethod yX3_countLength ∈ zg_tbl := zq2 _ (List.mem_of_getElem? (i := 120) (by decide +kernel)) rfl
theorem zw_359 : Cond.selects RX3 yX3_countLength yX3_countLength ∈ zg_tbl := zq2 _ (List.mem_of_getElem? (i := 121) (by decide +kernel)) rfl
theorem zw_360 : Cond.methodLink RX2 35 arraycopyName ∈ zg_tbl := zq1 _ (List.mem_of_getElem? (i := 187) (by decide +kernel)) rfl
theorem zw_361 : Cond.native arraycopyName ∈ zg_tbl := zq1 _ (List.mem_of_getElem? (i := 189) (by decide +kernel)) rfl
theorem zw_362 : Cond.static arraycopyName ∈ zg_tbl := zq1 _ (List.mem_of_getElem? (i := 188) (by decide +kernel)) rfl
theorem zw_363 : Cond.initialized "java/lang/System" ∈ zg_tbl := zq1 _ (List.mem_of_getElem? (i := 6) (by decide +kernel)) rfl
theorem zw_364 : Cond.code yX2_take cX2_take 2 none ∈ zg_tbl := zq1 _ (List.mem_of_getElem? (i := 186) (by decide +kernel)) rfl
theorem zw_365 : Cond.methodLink RX0 41 yX2_take ∈ zg_tbl := zq1 _ (List.mem_of_getElem? (i := 183) (by decide +kernel)) rfl
theorem zw_366 : Cond.instanceMethod yX2_take ∈ zg_tbl := zq1 _ (List.mem_of_getElem? (i := 184) (by decide +kernel)) rfl
theorem zw_367 : Cond.selects RX2 yX2_take yX2_take ∈ zg_tbl := zq1 _ (List.mem_of_getElem? (i := 185) (by decide +kernel)) rfl
theorem zw_368 : Cond.methodLink RX0 45 yX0_forgetGroup ∈ zg_tbl := zq1 _ (List.mem_of_getElem? (i := 190) (by decide +kernel)) rfl
theorem zw_369 : Cond.code yX2_isOrder cX2_isOrder 5 (some .boolean) ∈ zg_tbl := zq1 _ (List.mem_of_getElem? (i := 171) (by decide +kernel)) rfl
theorem zw_370 : Cond.methodLink RX7 65 yX2_isOrder ∈ zg_tbl := zq1 _ (List.mem_of_getElem? (i := 168) (by decide +kernel)) rfl
theorem zw_371 : Cond.instanceMethod yX2_isOrder ∈ zg_tbl := zq1 _ (List.mem_of_getElem? (i := 169) (by decide +kernel)) rfl
theorem zw_372 : Cond.selects RX2 yX2_isOrder yX2_isOrder ∈ zg_tbl := zq1 _ (List.mem_of_getElem? (i := 170) (by decide +kernel)) rfl
theorem zw_373 : Cond.code yX2_takeInOrder cX2_takeInOrder 8 none ∈ zg_tbl := zq1 _ (List.mem_of_getElem? (i := 176) (by decide +kernel)) rfl
theorem zw_374 : Cond.methodLink RX7 68 yX2_takeInOrder ∈ zg_tbl := zq1 _ (List.mem_of_getElem? (i := 173) (by decide +kernel)) rfl
theorem zw_375 : Cond.instanceMethod yX2_takeInOrder ∈ zg_tbl := zq1 _ (List.mem_of_getElem? (i := 174) (by decide +kernel)) rfl
theorem zw_376 : Cond.selects RX2 yX2_takeInOrder yX2_takeInOrder ∈ zg_tbl := zq1 _ (List.mem_of_getElem? (i := 175) (by decide +kernel)) rfl
theorem zw_377 : Cond.code yX0_become cX0_become 2 none ∈ zg_tbl := zq1 _ (List.mem_of_getElem? (i := 182) (by decide +kernel)) rfl
theorem zw_378 : Cond.methodLink RX7 72 yX0_become ∈ zg_tbl := zq1 _ (List.mem_of_getElem? (i := 179) (by decide +kernel)) rfl
theorem zw_379 : Cond.instanceMethod yX0_become ∈ zg_tbl := zq1 _ (List.mem_of_getElem? (i := 180) (by decide +kernel)) rfl
theorem zw_380 : Cond.selects RX0 yX0_become yX0_become ∈ zg_tbl := zq1 _ (List.mem_of_getElem? (i := 181) (by decide +kernel)) rfl
theorem zw_381 : Cond.methodLink RX7 151 yX4_partWith ∈ zg_tbl := zq2 _ (List.mem_of_getElem? (i := 222) (by decide +kernel)) rfl
theorem zw_382 : Cond.methodLink RX7 115 yX3_productOf ∈ zg_tbl := zq2 _ (List.mem_of_getElem? (i := 82) (by decide +kernel)) rfl
theorem zw_383 : Cond.fieldLink RX0 48 (TX2 1).1 (TX2 1).2.1 (TX2 1).2.2.1 ∈ zg_tbl := zq1 _ (List.mem_of_getElem? (i := 50) (by decide +kernel)) rfl
theorem zw_384 : Cond.methodLink RX7 57 yX2_sets ∈ zg_tbl := zq1 _ (List.mem_of_getElem? (i := 156) (by decide +kernel)) rfl
theorem zw_385 : Cond.code yX0_ringAnew cX0_ringAnew 3 (some .int) ∈ zg_tbl := zq1 _ (List.mem_of_getElem? (i := 163) (by decide +kernel)) rfl
theorem zw_386 : Cond.methodLink RX7 61 yX0_ringAnew ∈ zg_tbl := zq1 _ (List.mem_of_getElem? (i := 160) (by decide +kernel)) rfl
theorem zw_387 : Cond.instanceMethod yX0_ringAnew ∈ zg_tbl := zq1 _ (List.mem_of_getElem? (i := 161) (by decide +kernel)) rfl
theorem zw_388 : Cond.selects RX0 yX0_ringAnew yX0_ringAnew ∈ zg_tbl := zq1 _ (List.mem_of_getElem? (i := 162) (by decide +kernel)) rfl
theorem zw_389 : Cond.code yX7_refusalOfHalves cX7_refusalOfHalves 6 (some .int) ∈ zg_tbl := zq4 _ (List.mem_of_getElem? (i := 151) (by decide +kernel)) rfl
theorem zw_390 : Cond.methodLink RX7 259 yX7_refusalOfHalves ∈ zg_tbl := zq4 _ (List.mem_of_getElem? (i := 148) (by decide +kernel)) rfl
theorem zw_391 : Cond.instanceMethod yX7_refusalOfHalves ∈ zg_tbl := zq4 _ (List.mem_of_getElem? (i := 150) (by decide +kernel)) rfl
theorem zw_392 : Cond.selects RX7 yX7_refusalOfHalves yX7_refusalOfHalves ∈ zg_tbl := zq0 _ (List.mem_of_getElem? (i := 29) (by decide +kernel)) rfl
theorem zw_393 : Cond.methodLink RX3 81 yX3_productOf ∈ zg_tbl := zq2 _ (List.mem_of_getElem? (i := 102) (by decide +kernel)) rfl
theorem zw_394 : Cond.code yX3_turnsOf cX3_turnsOf 4 (some .int) ∈ zg_tbl := zq2 _ (List.mem_of_getElem? (i := 101) (by decide +kernel)) rfl
theorem zw_395 : Cond.methodLink RX7 121 yX3_turnsOf ∈ zg_tbl := zq2 _ (List.mem_of_getElem? (i := 98) (by decide +kernel)) rfl
theorem zw_396 : Cond.instanceMethod yX3_turnsOf ∈ zg_tbl := zq2 _ (List.mem_of_getElem? (i := 99) (by decide +kernel)) rfl
theorem zw_397 : Cond.selects RX3 yX3_turnsOf yX3_turnsOf ∈ zg_tbl := zq2 _ (List.mem_of_getElem? (i := 100) (by decide +kernel)) rfl
theorem zw_398 : Cond.code yJ7_fill_d0a16 cJ7_fill_d0a16 5 none ∈ zg_tbl := zq3 _ (List.mem_of_getElem? (i := 167) (by decide +kernel)) rfl
theorem zw_399 : Cond.methodLink RX1 101 yJ7_fill_d0a16 ∈ zg_tbl := zq3 _ (List.mem_of_getElem? (i := 165) (by decide +kernel)) rfl
theorem zw_400 : Cond.static yJ7_fill_d0a16 ∈ zg_tbl := zq3 _ (List.mem_of_getElem? (i := 166) (by decide +kernel)) rfl
theorem zw_401 : Cond.methodLink RX1 104 arraycopyName ∈ zg_tbl := zq3 _ (List.mem_of_getElem? (i := 168) (by decide +kernel)) rfl
theorem zw_402 : Cond.constantLong RX7 200 (lN 18446744073709551614) ∈ zg_tbl := zq3 _ (List.mem_of_getElem? (i := 160) (by decide +kernel)) rfl
theorem zw_403 : Cond.code yX1_countWays cX1_countWays 9 (some .long) ∈ zg_tbl := zq3 _ (List.mem_of_getElem? (i := 164) (by decide +kernel)) rfl
theorem zw_404 : Cond.methodLink RX7 202 yX1_countWays ∈ zg_tbl := zq3 _ (List.mem_of_getElem? (i := 161) (by decide +kernel)) rfl
theorem zw_405 : Cond.instanceMethod yX1_countWays ∈ zg_tbl := zq3 _ (List.mem_of_getElem? (i := 162) (by decide +kernel)) rfl
theorem zw_406 : Cond.selects RX1 yX1_countWays yX1_countWays ∈ zg_tbl := zq3 _ (List.mem_of_getElem? (i := 163) (by decide +kernel)) rfl
theorem zw_407 : Cond.fieldLink RX8 7 (TX8 1).1 (TX8 1).2.1 (TX8 1).2.2.1 ∈ zg_tbl := zq4 _ (List.mem_of_getElem? (i := 230) (by decide +kernel)) rfl
theorem zw_408 : Cond.fieldLink RX8 16 (TX8 3).1 (TX8 3).2.1 (TX8 3).2.2.1 ∈ zg_tbl := zq4 _ (List.mem_of_getElem? (i := 232) (by decide +kernel)) rfl
theorem zw_409 : Cond.fieldLink RX8 13 (TX8 2).1 (TX8 2).2.1 (TX8 2).2.2.1 ∈ zg_tbl := zq4 _ (List.mem_of_getElem? (i := 231) (by decide +kernel)) rfl
theorem zw_410 : Cond.methodLink RX8 1 objectInit ∈ zg_tbl := zq4 _ (List.mem_of_getElem? (i := 220) (by decide +kernel)) rfl
theorem zw_411 : Cond.fieldLink RX8 19 (TX8 4).1 (TX8 4).2.1 (TX8 4).2.2.1 ∈ zg_tbl := zq4 _ (List.mem_of_getElem? (i := 233) (by decide +kernel)) rfl
theorem zw_412 : Cond.fieldLink RX8 22 (TX8 5).1 (TX8 5).2.1 (TX8 5).2.2.1 ∈ zg_tbl := zq4 _ (List.mem_of_getElem? (i := 234) (by decide +kernel)) rfl
theorem zw_413 : Cond.fieldLink RX8 26 (TX8 9).1 (TX8 9).2.1 (TX8 9).2.2.1 ∈ zg_tbl := zq4 _ (List.mem_of_getElem? (i := 238) (by decide +kernel)) rfl
theorem zw_414 : Cond.fieldLink RX8 29 (TX8 10).1 (TX8 10).2.1 (TX8 10).2.2.1 ∈ zg_tbl := zq4 _ (List.mem_of_getElem? (i := 239) (by decide +kernel)) rfl
theorem zw_415 : Cond.fieldLink RX8 32 (TX8 11).1 (TX8 11).2.1 (TX8 11).2.2.1 ∈ zg_tbl := zq5 _ (List.mem_of_getElem? (i := 0) (by decide +kernel)) rfl
theorem zw_416 : Cond.fieldLink RX8 35 (TX8 12).1 (TX8 12).2.1 (TX8 12).2.2.1 ∈ zg_tbl := zq5 _ (List.mem_of_getElem? (i := 1) (by decide +kernel)) rfl
theorem zw_417 : Cond.fieldLink RX8 38 (TX8 13).1 (TX8 13).2.1 (TX8 13).2.2.1 ∈ zg_tbl := zq5 _ (List.mem_of_getElem? (i := 2) (by decide +kernel)) rfl
theorem zw_418 : Cond.fieldLink RX8 41 (TX8 14).1 (TX8 14).2.1 (TX8 14).2.2.1 ∈ zg_tbl := zq5 _ (List.mem_of_getElem? (i := 3) (by decide +kernel)) rfl
theorem zw_419 : Cond.fieldLink RX8 44 (TX8 15).1 (TX8 15).2.1 (TX8 15).2.2.1 ∈ zg_tbl := zq5 _ (List.mem_of_getElem? (i := 4) (by decide +kernel)) rfl
theorem zw_420 : Cond.fieldLink RX8 47 (TX8 17).1 (TX8 17).2.1 (TX8 17).2.2.1 ∈ zg_tbl := zq5 _ (List.mem_of_getElem? (i := 6) (by decide +kernel)) rfl
theorem zw_421 : Cond.fieldLink RX8 50 (TX8 19).1 (TX8 19).2.1 (TX8 19).2.2.1 ∈ zg_tbl := zq5 _ (List.mem_of_getElem? (i := 8) (by decide +kernel)) rfl
theorem zw_422 : Cond.fieldLink RX8 53 (TX8 20).1 (TX8 20).2.1 (TX8 20).2.2.1 ∈ zg_tbl := zq5 _ (List.mem_of_getElem? (i := 9) (by decide +kernel)) rfl
theorem zw_423 : Cond.fieldLink RX8 56 (TX8 21).1 (TX8 21).2.1 (TX8 21).2.2.1 ∈ zg_tbl := zq5 _ (List.mem_of_getElem? (i := 10) (by decide +kernel)) rfl
theorem zw_424 : Cond.fieldLink RX8 59 (TX8 22).1 (TX8 22).2.1 (TX8 22).2.2.1 ∈ zg_tbl := zq5 _ (List.mem_of_getElem? (i := 11) (by decide +kernel)) rfl
theorem zw_425 : Cond.arrayClass .boolean ∈ zg_tbl := zq5 _ (List.mem_of_getElem? (i := 95) (by decide +kernel)) rfl
theorem zw_426 : Cond.fieldLink RX8 62 (TX8 23).1 (TX8 23).2.1 (TX8 23).2.2.1 ∈ zg_tbl := zq5 _ (List.mem_of_getElem? (i := 12) (by decide +kernel)) rfl
theorem zw_427 : Cond.fieldLink RX8 66 (TX8 24).1 (TX8 24).2.1 (TX8 24).2.2.1 ∈ zg_tbl := zq5 _ (List.mem_of_getElem? (i := 13) (by decide +kernel)) rfl
theorem zw_428 : Cond.fieldLink RX8 70 (TX8 25).1 (TX8 25).2.1 (TX8 25).2.2.1 ∈ zg_tbl := zq5 _ (List.mem_of_getElem? (i := 14) (by decide +kernel)) rfl
theorem zw_429 : Cond.constant RX8 73 (nI 250000) ∈ zg_tbl := zq4 _ (List.mem_of_getElem? (i := 221) (by decide +kernel)) rfl
theorem zw_430 : Cond.fieldLink RX8 74 (TX8 26).1 (TX8 26).2.1 (TX8 26).2.2.1 ∈ zg_tbl := zq5 _ (List.mem_of_getElem? (i := 15) (by decide +kernel)) rfl
theorem zw_431 : Cond.fieldLink RX8 77 (TX8 27).1 (TX8 27).2.1 (TX8 27).2.2.1 ∈ zg_tbl := zq5 _ (List.mem_of_getElem? (i := 16) (by decide +kernel)) rfl
theorem zw_432 : Cond.fieldLink RX8 80 (TX8 28).1 (TX8 28).2.1 (TX8 28).2.2.1 ∈ zg_tbl := zq5 _ (List.mem_of_getElem? (i := 17) (by decide +kernel)) rfl
theorem zw_433 : Cond.fieldLink RX8 83 (TX8 29).1 (TX8 29).2.1 (TX8 29).2.2.1 ∈ zg_tbl := zq5 _ (List.mem_of_getElem? (i := 18) (by decide +kernel)) rfl
theorem zw_434 : Cond.fieldLink RX8 86 (TX8 30).1 (TX8 30).2.1 (TX8 30).2.2.1 ∈ zg_tbl := zq5 _ (List.mem_of_getElem? (i := 19) (by decide +kernel)) rfl
theorem zw_435 : Cond.fieldLink RX8 89 (TX8 32).1 (TX8 32).2.1 (TX8 32).2.2.1 ∈ zg_tbl := zq5 _ (List.mem_of_getElem? (i := 21) (by decide +kernel)) rfl
theorem zw_436 : Cond.fieldLink RX8 92 (TX8 33).1 (TX8 33).2.1 (TX8 33).2.2.1 ∈ zg_tbl := zq5 _ (List.mem_of_getElem? (i := 22) (by decide +kernel)) rfl
theorem zw_437 : Cond.fieldLink RX8 95 (TX8 34).1 (TX8 34).2.1 (TX8 34).2.2.1 ∈ zg_tbl := zq5 _ (List.mem_of_getElem? (i := 23) (by decide +kernel)) rfl
theorem zw_438 : Cond.code yX8_renews cX8_renews 4 none ∈ zg_tbl := zq4 _ (List.mem_of_getElem? (i := 225) (by decide +kernel)) rfl
theorem zw_439 : Cond.methodLink RX8 98 yX8_renews ∈ zg_tbl := zq4 _ (List.mem_of_getElem? (i := 222) (by decide +kernel)) rfl
theorem zw_440 : Cond.instanceMethod yX8_renews ∈ zg_tbl := zq4 _ (List.mem_of_getElem? (i := 224) (by decide +kernel)) rfl
theorem zw_441 : Cond.selects RX8 yX8_renews yX8_renews ∈ zg_tbl := zq0 _ (List.mem_of_getElem? (i := 32) (by decide +kernel)) rfl
theorem zw_442 : Cond.initialized RX8 ∈ zg_tbl := zq1 _ (List.mem_of_getElem? (i := 5) (by decide +kernel)) rfl
theorem zw_443 : Cond.code yX8_rootOf cX8_rootOf 2 (some .int) ∈ zg_tbl := zq4 _ (List.mem_of_getElem? (i := 228) (by decide +kernel)) rfl
theorem zw_444 : Cond.methodLink RX8 102 yX8_rootOf ∈ zg_tbl := zq4 _ (List.mem_of_getElem? (i := 226) (by decide +kernel)) rfl
theorem zw_445 : Cond.static yX8_rootOf ∈ zg_tbl := zq4 _ (List.mem_of_getElem? (i := 227) (by decide +kernel)) rfl
theorem zw_446 : Cond.code yX8_in cX8_in 3 (some .boolean) ∈ zg_tbl := zq5 _ (List.mem_of_getElem? (i := 105) (by decide +kernel)) rfl
theorem zw_447 : Cond.methodLink RX8 109 yX8_in ∈ zg_tbl := zq5 _ (List.mem_of_getElem? (i := 103) (by decide +kernel)) rfl
theorem zw_448 : Cond.static yX8_in ∈ zg_tbl := zq5 _ (List.mem_of_getElem? (i := 104) (by decide +kernel)) rfl
theorem zw_449 : Cond.fieldLink RX8 106 (TX8 0).1 (TX8 0).2.1 (TX8 0).2.2.1 ∈ zg_tbl := zq4 _ (List.mem_of_getElem? (i := 229) (by decide +kernel)) rfl
theorem zw_450 : Cond.code yX8_isBody cX8_isBody 1 (some .boolean) ∈ zg_tbl := zq5 _ (List.mem_of_getElem? (i := 102) (by decide +kernel)) rfl
theorem zw_451 : Cond.methodLink RX8 113 yX8_isBody ∈ zg_tbl := zq5 _ (List.mem_of_getElem? (i := 100) (by decide +kernel)) rfl
theorem zw_452 : Cond.static yX8_isBody ∈ zg_tbl := zq5 _ (List.mem_of_getElem? (i := 101) (by decide +kernel)) rfl
theorem zw_453 : Cond.code yX8_isMirror cX8_isMirror 3 (some .boolean) ∈ zg_tbl := zq5 _ (List.mem_of_getElem? (i := 113) (by decide +kernel)) rfl
theorem zw_454 : Cond.methodLink RX8 117 yX8_isMirror ∈ zg_tbl := zq5 _ (List.mem_of_getElem? (i := 110) (by decide +kernel)) rfl
theorem zw_455 : Cond.instanceMethod yX8_isMirror ∈ zg_tbl := zq5 _ (List.mem_of_getElem? (i := 112) (by decide +kernel)) rfl
theorem zw_456 : Cond.selects RX8 yX8_isMirror yX8_isMirror ∈ zg_tbl := zq0 _ (List.mem_of_getElem? (i := 33) (by decide +kernel)) rfl
theorem zw_457 : Cond.code yX8_joinedTo cX8_joinedTo 5 (some .int) ∈ zg_tbl := zq5 _ (List.mem_of_getElem? (i := 133) (by decide +kernel)) rfl
theorem zw_458 : Cond.methodLink RX8 125 yX8_joinedTo ∈ zg_tbl := zq5 _ (List.mem_of_getElem? (i := 130) (by decide +kernel)) rfl
theorem zw_459 : Cond.instanceMethod yX8_joinedTo ∈ zg_tbl := zq5 _ (List.mem_of_getElem? (i := 132) (by decide +kernel)) rfl
theorem zw_460 : Cond.selects RX8 yX8_joinedTo yX8_joinedTo ∈ zg_tbl := zq0 _ (List.mem_of_getElem? (i := 35) (by decide +kernel)) rfl
theorem zw_461 : Cond.code yX8_bits cX8_bits 3 (some .int) ∈ zg_tbl := zq5 _ (List.mem_of_getElem? (i := 156) (by decide +kernel)) rfl
theorem zw_462 : Cond.methodLink RX8 129 yX8_bits ∈ zg_tbl := zq5 _ (List.mem_of_getElem? (i := 154) (by decide +kernel)) rfl
theorem zw_463 : Cond.static yX8_bits ∈ zg_tbl := zq5 _ (List.mem_of_getElem? (i := 155) (by decide +kernel)) rfl
theorem zw_464 : Cond.code yX8_makes cX8_makes 14 (some .int) ∈ zg_tbl := zq5 _ (List.mem_of_getElem? (i := 153) (by decide +kernel)) rfl
theorem zw_465 : Cond.methodLink RX8 132 yX8_makes ∈ zg_tbl := zq5 _ (List.mem_of_getElem? (i := 150) (by decide +kernel)) rfl
theorem zw_466 : Cond.instanceMethod yX8_makes ∈ zg_tbl := zq5 _ (List.mem_of_getElem? (i := 152) (by decide +kernel)) rfl
theorem zw_467 : Cond.selects RX8 yX8_makes yX8_makes ∈ zg_tbl := zq0 _ (List.mem_of_getElem? (i := 39) (by decide +kernel)) rfl
theorem zw_468 : Cond.fieldLink RX8 138 (TX8 6).1 (TX8 6).2.1 (TX8 6).2.2.1 ∈ zg_tbl := zq4 _ (List.mem_of_getElem? (i := 235) (by decide +kernel)) rfl
theorem zw_469 : Cond.code yX8_stillOf cX8_stillOf 6 (some .int) ∈ zg_tbl := zq5 _ (List.mem_of_getElem? (i := 172) (by decide +kernel)) rfl
theorem zw_470 : Cond.methodLink RX8 185 yX8_stillOf ∈ zg_tbl := zq5 _ (List.mem_of_getElem? (i := 169) (by decide +kernel)) rfl
theorem zw_471 : Cond.instanceMethod yX8_stillOf ∈ zg_tbl := zq5 _ (List.mem_of_getElem? (i := 171) (by decide +kernel)) rfl
theorem zw_472 : Cond.selects RX8 yX8_stillOf yX8_stillOf ∈ zg_tbl := zq0 _ (List.mem_of_getElem? (i := 43) (by decide +kernel)) rfl
theorem zw_473 : Cond.fieldLink RX8 135 (TX8 8).1 (TX8 8).2.1 (TX8 8).2.2.1 ∈ zg_tbl := zq4 _ (List.mem_of_getElem? (i := 237) (by decide +kernel)) rfl
theorem zw_474 : Cond.fieldLink RX8 158 (TX8 18).1 (TX8 18).2.1 (TX8 18).2.2.1 ∈ zg_tbl := zq5 _ (List.mem_of_getElem? (i := 7) (by decide +kernel)) rfl
theorem zw_475 : Cond.fieldLink RX8 141 (TX8 7).1 (TX8 7).2.1 (TX8 7).2.2.1 ∈ zg_tbl := zq4 _ (List.mem_of_getElem? (i := 236) (by decide +kernel)) rfl
theorem zw_476 : Cond.code yX8_sizeOf cX8_sizeOf 7 (some .int) ∈ zg_tbl := zq5 _ (List.mem_of_getElem? (i := 149) (by decide +kernel)) rfl
theorem zw_477 : Cond.methodLink RX8 144 yX8_sizeOf ∈ zg_tbl := zq5 _ (List.mem_of_getElem? (i := 146) (by decide +kernel)) rfl
theorem zw_478 : Cond.instanceMethod yX8_sizeOf ∈ zg_tbl := zq5 _ (List.mem_of_getElem? (i := 148) (by decide +kernel)) rfl
theorem zw_479 : Cond.selects RX8 yX8_sizeOf yX8_sizeOf ∈ zg_tbl := zq0 _ (List.mem_of_getElem? (i := 38) (by decide +kernel)) rfl
theorem zw_480 : Cond.code yX8_turned cX8_turned 9 none ∈ zg_tbl := zq5 _ (List.mem_of_getElem? (i := 160) (by decide +kernel)) rfl
theorem zw_481 : Cond.methodLink RX8 147 yX8_turned ∈ zg_tbl := zq5 _ (List.mem_of_getElem? (i := 157) (by decide +kernel)) rfl
theorem zw_482 : Cond.instanceMethod yX8_turned ∈ zg_tbl := zq5 _ (List.mem_of_getElem? (i := 159) (by decide +kernel)) rfl
theorem zw_483 : Cond.selects RX8 yX8_turned yX8_turned ∈ zg_tbl := zq0 _ (List.mem_of_getElem? (i := 40) (by decide +kernel)) rfl
theorem zw_484 : Cond.code yX8_found cX8_found 5 (some .int) ∈ zg_tbl := zq5 _ (List.mem_of_getElem? (i := 164) (by decide +kernel)) rfl
theorem zw_485 : Cond.methodLink RX8 151 yX8_found ∈ zg_tbl := zq5 _ (List.mem_of_getElem? (i := 161) (by decide +kernel)) rfl
theorem zw_486 : Cond.instanceMethod yX8_found ∈ zg_tbl := zq5 _ (List.mem_of_getElem? (i := 163) (by decide +kernel)) rfl
theorem zw_487 : Cond.selects RX8 yX8_found yX8_found ∈ zg_tbl := zq0 _ (List.mem_of_getElem? (i := 41) (by decide +kernel)) rfl
theorem zw_488 : Cond.code yX8_tellsParts cX8_tellsParts 8 none ∈ zg_tbl := zq5 _ (List.mem_of_getElem? (i := 168) (by decide +kernel)) rfl
theorem zw_489 : Cond.methodLink RX8 154 yX8_tellsParts ∈ zg_tbl := zq5 _ (List.mem_of_getElem? (i := 165) (by decide +kernel)) rfl
theorem zw_490 : Cond.instanceMethod yX8_tellsParts ∈ zg_tbl := zq5 _ (List.mem_of_getElem? (i := 167) (by decide +kernel)) rfl
theorem zw_491 : Cond.selects RX8 yX8_tellsParts yX8_tellsParts ∈ zg_tbl := zq0 _ (List.mem_of_getElem? (i := 42) (by decide +kernel)) rfl
theorem zw_492 : Cond.fieldLink RX8 161 (TX8 16).1 (TX8 16).2.1 (TX8 16).2.2.1 ∈ zg_tbl := zq5 _ (List.mem_of_getElem? (i := 5) (by decide +kernel)) rfl
theorem zw_493 : Cond.code yX8_loads cX8_loads 7 (some .boolean) ∈ zg_tbl := zq5 _ (List.mem_of_getElem? (i := 145) (by decide +kernel)) rfl
theorem zw_494 : Cond.methodLink RX8 164 yX8_loads ∈ zg_tbl := zq5 _ (List.mem_of_getElem? (i := 142) (by decide +kernel)) rfl
theorem zw_495 : Cond.instanceMethod yX8_loads ∈ zg_tbl := zq5 _ (List.mem_of_getElem? (i := 144) (by decide +kernel)) rfl
theorem zw_496 : Cond.selects RX8 yX8_loads yX8_loads ∈ zg_tbl := zq0 _ (List.mem_of_getElem? (i := 37) (by decide +kernel)) rfl
theorem zw_497 : Cond.code yX8_letterOf cX8_letterOf 4 (some .int) ∈ zg_tbl := zq5 _ (List.mem_of_getElem? (i := 188) (by decide +kernel)) rfl
theorem zw_498 : Cond.methodLink RX8 167 yX8_letterOf ∈ zg_tbl := zq5 _ (List.mem_of_getElem? (i := 185) (by decide +kernel)) rfl
theorem zw_499 : Cond.instanceMethod yX8_letterOf ∈ zg_tbl := zq5 _ (List.mem_of_getElem? (i := 187) (by decide +kernel)) rfl
theorem zw_500 : Cond.selects RX8 yX8_letterOf yX8_letterOf ∈ zg_tbl := zq0 _ (List.mem_of_getElem? (i := 45) (by decide +kernel)) rfl
theorem zw_501 : Cond.code yX8_refusesOf cX8_refusesOf 3 (some .int) ∈ zg_tbl := zq5 _ (List.mem_of_getElem? (i := 180) (by decide +kernel)) rfl
theorem zw_502 : Cond.methodLink RX8 173 yX8_refusesOf ∈ zg_tbl := zq5 _ (List.mem_of_getElem? (i := 177) (by decide +kernel)) rfl
theorem zw_503 : Cond.instanceMethod yX8_refusesOf ∈ zg_tbl := zq5 _ (List.mem_of_getElem? (i := 179) (by decide +kernel)) rfl
theorem zw_504 : Cond.selects RX8 yX8_refusesOf yX8_refusesOf ∈ zg_tbl := zq0 _ (List.mem_of_getElem? (i := 44) (by decide +kernel)) rfl
theorem zw_505 : Cond.code yX8_clears cX8_clears 2 none ∈ zg_tbl := zq5 _ (List.mem_of_getElem? (i := 220) (by decide +kernel)) rfl
theorem zw_506 : Cond.methodLink RX8 182 yX8_clears ∈ zg_tbl := zq5 _ (List.mem_of_getElem? (i := 217) (by decide +kernel)) rfl
theorem zw_507 : Cond.instanceMethod yX8_clears ∈ zg_tbl := zq5 _ (List.mem_of_getElem? (i := 219) (by decide +kernel)) rfl
theorem zw_508 : Cond.selects RX8 yX8_clears yX8_clears ∈ zg_tbl := zq0 _ (List.mem_of_getElem? (i := 48) (by decide +kernel)) rfl
theorem zw_509 : Cond.code yX8_productOf cX8_productOf 6 (some .int) ∈ zg_tbl := zq5 _ (List.mem_of_getElem? (i := 200) (by decide +kernel)) rfl
theorem zw_510 : Cond.methodLink RX8 176 yX8_productOf ∈ zg_tbl := zq5 _ (List.mem_of_getElem? (i := 197) (by decide +kernel)) rfl
theorem zw_511 : Cond.instanceMethod yX8_productOf ∈ zg_tbl := zq5 _ (List.mem_of_getElem? (i := 199) (by decide +kernel)) rfl
theorem zw_512 : Cond.selects RX8 yX8_productOf yX8_productOf ∈ zg_tbl := zq0 _ (List.mem_of_getElem? (i := 46) (by decide +kernel)) rfl
theorem zw_513 : Cond.code yX8_inverseOf cX8_inverseOf 4 (some .int) ∈ zg_tbl := zq5 _ (List.mem_of_getElem? (i := 208) (by decide +kernel)) rfl
theorem zw_514 : Cond.methodLink RX8 179 yX8_inverseOf ∈ zg_tbl := zq5 _ (List.mem_of_getElem? (i := 205) (by decide +kernel)) rfl
theorem zw_515 : Cond.instanceMethod yX8_inverseOf ∈ zg_tbl := zq5 _ (List.mem_of_getElem? (i := 207) (by decide +kernel)) rfl
theorem zw_516 : Cond.selects RX8 yX8_inverseOf yX8_inverseOf ∈ zg_tbl := zq0 _ (List.mem_of_getElem? (i := 47) (by decide +kernel)) rfl
theorem zw_517 : Cond.code yX8_refuses cX8_refuses 2 (some .int) ∈ zg_tbl := zq5 _ (List.mem_of_getElem? (i := 141) (by decide +kernel)) rfl
theorem zw_518 : Cond.methodLink RX8 170 yX8_refuses ∈ zg_tbl := zq5 _ (List.mem_of_getElem? (i := 138) (by decide +kernel)) rfl
theorem zw_519 : Cond.instanceMethod yX8_refuses ∈ zg_tbl := zq5 _ (List.mem_of_getElem? (i := 140) (by decide +kernel)) rfl
theorem zw_520 : Cond.selects RX8 yX8_refuses yX8_refuses ∈ zg_tbl := zq0 _ (List.mem_of_getElem? (i := 36) (by decide +kernel)) rfl
theorem zw_521 : Cond.code yX8_joins cX8_joins 3 none ∈ zg_tbl := zq6 _ (List.mem_of_getElem? (i := 63) (by decide +kernel)) rfl
theorem zw_522 : Cond.methodLink RX8 203 yX8_joins ∈ zg_tbl := zq6 _ (List.mem_of_getElem? (i := 60) (by decide +kernel)) rfl
theorem zw_523 : Cond.instanceMethod yX8_joins ∈ zg_tbl := zq6 _ (List.mem_of_getElem? (i := 62) (by decide +kernel)) rfl
theorem zw_524 : Cond.selects RX8 yX8_joins yX8_joins ∈ zg_tbl := zq0 _ (List.mem_of_getElem? (i := 53) (by decide +kernel)) rfl
theorem zw_525 : Cond.code yX8_walks cX8_walks 6 none ∈ zg_tbl := zq6 _ (List.mem_of_getElem? (i := 75) (by decide +kernel)) rfl
theorem zw_526 : Cond.methodLink RX8 209 yX8_walks ∈ zg_tbl := zq6 _ (List.mem_of_getElem? (i := 72) (by decide +kernel)) rfl
theorem zw_527 : Cond.instanceMethod yX8_walks ∈ zg_tbl := zq6 _ (List.mem_of_getElem? (i := 74) (by decide +kernel)) rfl
theorem zw_528 : Cond.selects RX8 yX8_walks yX8_walks ∈ zg_tbl := zq0 _ (List.mem_of_getElem? (i := 55) (by decide +kernel)) rfl
theorem zw_529 : Cond.code yX8_isKind cX8_isKind 6 (some .boolean) ∈ zg_tbl := zq5 _ (List.mem_of_getElem? (i := 236) (by decide +kernel)) rfl
theorem zw_530 : Cond.methodLink RX8 188 yX8_isKind ∈ zg_tbl := zq5 _ (List.mem_of_getElem? (i := 233) (by decide +kernel)) rfl
theorem zw_531 : Cond.instanceMethod yX8_isKind ∈ zg_tbl := zq5 _ (List.mem_of_getElem? (i := 235) (by decide +kernel)) rfl
theorem zw_532 : Cond.selects RX8 yX8_isKind yX8_isKind ∈ zg_tbl := zq0 _ (List.mem_of_getElem? (i := 49) (by decide +kernel)) rfl
theorem zw_533 : Cond.code yX8_refusesPart cX8_refusesPart 4 (some .int) ∈ zg_tbl := zq6 _ (List.mem_of_getElem? (i := 8) (by decide +kernel)) rfl
theorem zw_534 : Cond.methodLink RX8 191 yX8_refusesPart ∈ zg_tbl := zq6 _ (List.mem_of_getElem? (i := 5) (by decide +kernel)) rfl
theorem zw_535 : Cond.instanceMethod yX8_refusesPart ∈ zg_tbl := zq6 _ (List.mem_of_getElem? (i := 7) (by decide +kernel)) rfl
theorem zw_536 : Cond.selects RX8 yX8_refusesPart yX8_refusesPart ∈ zg_tbl := zq0 _ (List.mem_of_getElem? (i := 50) (by decide +kernel)) rfl
theorem zw_537 : Cond.code yX8_cornersOf cX8_cornersOf 4 (some .int) ∈ zg_tbl := zq6 _ (List.mem_of_getElem? (i := 24) (by decide +kernel)) rfl
theorem zw_538 : Cond.methodLink RX8 194 yX8_cornersOf ∈ zg_tbl := zq6 _ (List.mem_of_getElem? (i := 21) (by decide +kernel)) rfl
theorem zw_539 : Cond.instanceMethod yX8_cornersOf ∈ zg_tbl := zq6 _ (List.mem_of_getElem? (i := 23) (by decide +kernel)) rfl
theorem zw_540 : Cond.selects RX8 yX8_cornersOf yX8_cornersOf ∈ zg_tbl := zq0 _ (List.mem_of_getElem? (i := 51) (by decide +kernel)) rfl
theorem zw_541 : Cond.code yX8_countOf cX8_countOf 4 (some .int) ∈ zg_tbl := zq6 _ (List.mem_of_getElem? (i := 47) (by decide +kernel)) rfl
theorem zw_542 : Cond.methodLink RX8 200 yX8_countOf ∈ zg_tbl := zq6 _ (List.mem_of_getElem? (i := 44) (by decide +kernel)) rfl
theorem zw_543 : Cond.instanceMethod yX8_countOf ∈ zg_tbl := zq6 _ (List.mem_of_getElem? (i := 46) (by decide +kernel)) rfl
theorem zw_544 : Cond.selects RX8 yX8_countOf yX8_countOf ∈ zg_tbl := zq0 _ (List.mem_of_getElem? (i := 52) (by decide +kernel)) rfl
theorem zw_545 : Cond.code yX8_degreeOf cX8_degreeOf 5 (some .int) ∈ zg_tbl := zq6 _ (List.mem_of_getElem? (i := 67) (by decide +kernel)) rfl
theorem zw_546 : Cond.methodLink RX8 206 yX8_degreeOf ∈ zg_tbl := zq6 _ (List.mem_of_getElem? (i := 64) (by decide +kernel)) rfl
theorem zw_547 : Cond.instanceMethod yX8_degreeOf ∈ zg_tbl := zq6 _ (List.mem_of_getElem? (i := 66) (by decide +kernel)) rfl
theorem zw_548 : Cond.selects RX8 yX8_degreeOf yX8_degreeOf ∈ zg_tbl := zq0 _ (List.mem_of_getElem? (i := 54) (by decide +kernel)) rfl
theorem zw_549 : Cond.constantLong RX8 260 (lN 271) ∈ zg_tbl := zq6 _ (List.mem_of_getElem? (i := 193) (by decide +kernel)) rfl
theorem zw_550 : Cond.constantLong RX8 262 (lN 31) ∈ zg_tbl := zq6 _ (List.mem_of_getElem? (i := 194) (by decide +kernel)) rfl
theorem zw_551 : Cond.code yX8_refusesThree cX8_refusesThree 2 (some .int) ∈ zg_tbl := zq6 _ (List.mem_of_getElem? (i := 96) (by decide +kernel)) rfl
theorem zw_552 : Cond.methodLink RX8 235 yX8_refusesThree ∈ zg_tbl := zq6 _ (List.mem_of_getElem? (i := 93) (by decide +kernel)) rfl
theorem zw_553 : Cond.instanceMethod yX8_refusesThree ∈ zg_tbl := zq6 _ (List.mem_of_getElem? (i := 95) (by decide +kernel)) rfl
theorem zw_554 : Cond.selects RX8 yX8_refusesThree yX8_refusesThree ∈ zg_tbl := zq0 _ (List.mem_of_getElem? (i := 56) (by decide +kernel)) rfl
theorem zw_555 : Cond.code yX8_isWithin cX8_isWithin 2 (some .boolean) ∈ zg_tbl := zq6 _ (List.mem_of_getElem? (i := 35) (by decide +kernel)) rfl
theorem zw_556 : Cond.methodLink RX8 197 yX8_isWithin ∈ zg_tbl := zq6 _ (List.mem_of_getElem? (i := 33) (by decide +kernel)) rfl
theorem zw_557 : Cond.static yX8_isWithin ∈ zg_tbl := zq6 _ (List.mem_of_getElem? (i := 34) (by decide +kernel)) rfl
theorem zw_558 : Cond.constantLong RX8 212 (lN 18446744073709551614) ∈ zg_tbl := zq6 _ (List.mem_of_getElem? (i := 84) (by decide +kernel)) rfl
theorem zw_559 : u_lay RX0 TX0 0 ∈ zg_tbl := zq1 _ (List.mem_of_getElem? (i := 79) (by decide +kernel)) rfl
theorem zw_560 : u_lay RX0 TX0 1 ∈ zg_tbl := zq1 _ (List.mem_of_getElem? (i := 81) (by decide +kernel)) rfl
theorem zw_561 : u_lay RX0 TX0 2 ∈ zg_tbl := zq1 _ (List.mem_of_getElem? (i := 83) (by decide +kernel)) rfl
theorem zw_562 : u_lay RX0 TX0 3 ∈ zg_tbl := zq1 _ (List.mem_of_getElem? (i := 85) (by decide +kernel)) rfl
theorem zw_563 : u_lay RX0 TX0 4 ∈ zg_tbl := zq1 _ (List.mem_of_getElem? (i := 87) (by decide +kernel)) rfl
theorem zw_564 : u_lay RX0 TX0 5 ∈ zg_tbl := zq1 _ (List.mem_of_getElem? (i := 89) (by decide +kernel)) rfl
theorem zw_565 : u_lay RX0 TX0 6 ∈ zg_tbl := zq1 _ (List.mem_of_getElem? (i := 91) (by decide +kernel)) rfl
theorem zw_566 : u_lay RX0 TX0 7 ∈ zg_tbl := zq1 _ (List.mem_of_getElem? (i := 93) (by decide +kernel)) rfl
theorem zw_567 : u_lay RX0 TX0 8 ∈ zg_tbl := zq1 _ (List.mem_of_getElem? (i := 95) (by decide +kernel)) rfl
theorem zw_568 : u_lay RX0 TX0 9 ∈ zg_tbl := zq1 _ (List.mem_of_getElem? (i := 97) (by decide +kernel)) rfl
theorem zw_569 : u_lay RX0 TX0 10 ∈ zg_tbl := zq1 _ (List.mem_of_getElem? (i := 99) (by decide +kernel)) rfl
theorem zw_570 : u_lay RX0 TX0 11 ∈ zg_tbl := zq1 _ (List.mem_of_getElem? (i := 101) (by decide +kernel)) rfl
theorem zin_X0 : ∀ w ∈ u_ws RX0 TX0 12, w ∈ zg_tbl := by
  intro w hw
  obtain ⟨k, hk, rfl⟩ := List.mem_map.mp hw
  have hk := List.mem_range.mp hk
  match k, hk with
  | 0, _ => exact zw_559
  | 1, _ => exact zw_560
  | 2, _ => exact zw_561
  | 3, _ => exact zw_562
  | 4, _ => exact zw_563
  | 5, _ => exact zw_564
  | 6, _ => exact zw_565
  | 7, _ => exact zw_566
  | 8, _ => exact zw_567
  | 9, _ => exact zw_568
  | 10, _ => exact zw_569
  | 11, _ => exact zw_570
  | k + 12, hk => omega
def zvs_X0 : List Value := [.null, .int 0, .null, .null, .null, .null, .null, .int 0, .int 0, .int 0, .int 0, .int 0]
theorem zvs_X0_ok : ∀ (ρ : List Nat) (ν : List Int32), zr_Vs ρ ν [.inr (.inl 0), .inl 0, .inr (.inl 0), .inr (.inl 0), .inr (.inl 0), .inr (.inl 0), .inr (.inl 0), .inl 0, .inl 0, .inl 0, .inl 0, .inl 0] zvs_X0 := fun _ _ => ⟨rfl, rfl, rfl, rfl, rfl, rfl, rfl, rfl, rfl, rfl, rfl, rfl, trivial⟩
theorem zvs_X0_d : ∀ j, j < 12 → defaultValue (tyX0 j) = vp_V zvs_X0 j := by
  intro j hj
  match j, hj with
  | 0, _ => rfl
  | 1, _ => rfl
  | 2, _ => rfl
  | 3, _ => rfl
  | 4, _ => rfl
  | 5, _ => rfl
  | 6, _ => rfl
  | 7, _ => rfl
  | 8, _ => rfl
  | 9, _ => rfl
  | 10, _ => rfl
  | 11, _ => rfl
  | k + 12, hk => omega
theorem zw_571 : u_lay RX1 TX1 0 ∈ zg_tbl := zq3 _ (List.mem_of_getElem? (i := 83) (by decide +kernel)) rfl
theorem zw_572 : u_lay RX1 TX1 1 ∈ zg_tbl := zq3 _ (List.mem_of_getElem? (i := 85) (by decide +kernel)) rfl
theorem zw_573 : u_lay RX1 TX1 2 ∈ zg_tbl := zq3 _ (List.mem_of_getElem? (i := 87) (by decide +kernel)) rfl
theorem zw_574 : u_lay RX1 TX1 3 ∈ zg_tbl := zq3 _ (List.mem_of_getElem? (i := 89) (by decide +kernel)) rfl
theorem zw_575 : u_lay RX1 TX1 4 ∈ zg_tbl := zq3 _ (List.mem_of_getElem? (i := 91) (by decide +kernel)) rfl
theorem zw_576 : u_lay RX1 TX1 5 ∈ zg_tbl := zq3 _ (List.mem_of_getElem? (i := 93) (by decide +kernel)) rfl
theorem zw_577 : u_lay RX1 TX1 6 ∈ zg_tbl := zq3 _ (List.mem_of_getElem? (i := 95) (by decide +kernel)) rfl
theorem zw_578 : u_lay RX1 TX1 7 ∈ zg_tbl := zq3 _ (List.mem_of_getElem? (i := 97) (by decide +kernel)) rfl
theorem zw_579 : u_lay RX1 TX1 8 ∈ zg_tbl := zq3 _ (List.mem_of_getElem? (i := 99) (by decide +kernel)) rfl
theorem zw_580 : u_lay RX1 TX1 9 ∈ zg_tbl := zq3 _ (List.mem_of_getElem? (i := 101) (by decide +kernel)) rfl
theorem zw_581 : u_lay RX1 TX1 10 ∈ zg_tbl := zq3 _ (List.mem_of_getElem? (i := 103) (by decide +kernel)) rfl
theorem zin_X1 : ∀ w ∈ u_ws RX1 TX1 11, w ∈ zg_tbl := by
  intro w hw
  obtain ⟨k, hk, rfl⟩ := List.mem_map.mp hw
  have hk := List.mem_range.mp hk
  match k, hk with
  | 0, _ => exact zw_571
  | 1, _ => exact zw_572
  | 2, _ => exact zw_573
  | 3, _ => exact zw_574
  | 4, _ => exact zw_575
  | 5, _ => exact zw_576
  | 6, _ => exact zw_577
  | 7, _ => exact zw_578
  | 8, _ => exact zw_579
  | 9, _ => exact zw_580
  | 10, _ => exact zw_581
  | k + 11, hk => omega
def zvs_X1 : List Value := [.int 0, .null, .null, .null, .int 0, .null, .null, .null, .null, .null, .null]
theorem zvs_X1_ok : ∀ (ρ : List Nat) (ν : List Int32), zr_Vs ρ ν [.inl 0, .inr (.inl 0), .inr (.inl 0), .inr (.inl 0), .inl 0, .inr (.inl 0), .inr (.inl 0), .inr (.inl 0), .inr (.inl 0), .inr (.inl 0), .inr (.inl 0)] zvs_X1 := fun _ _ => ⟨rfl, rfl, rfl, rfl, rfl, rfl, rfl, rfl, rfl, rfl, rfl, trivial⟩
theorem zvs_X1_d : ∀ j, j < 11 → defaultValue (tyX1 j) = vp_V zvs_X1 j := by
  intro j hj
  match j, hj with
  | 0, _ => rfl
  | 1, _ => rfl
  | 2, _ => rfl
  | 3, _ => rfl
  | 4, _ => rfl
  | 5, _ => rfl
  | 6, _ => rfl
  | 7, _ => rfl
  | 8, _ => rfl
  | 9, _ => rfl
  | 10, _ => rfl
  | k + 11, hk => omega
theorem zw_582 : u_lay RX2 TX2 0 ∈ zg_tbl := zq1 _ (List.mem_of_getElem? (i := 55) (by decide +kernel)) rfl
theorem zw_583 : u_lay RX2 TX2 1 ∈ zg_tbl := zq1 _ (List.mem_of_getElem? (i := 57) (by decide +kernel)) rfl
theorem zw_584 : u_lay RX2 TX2 2 ∈ zg_tbl := zq1 _ (List.mem_of_getElem? (i := 59) (by decide +kernel)) rfl
theorem zw_585 : u_lay RX2 TX2 3 ∈ zg_tbl := zq1 _ (List.mem_of_getElem? (i := 61) (by decide +kernel)) rfl
theorem zin_X2 : ∀ w ∈ u_ws RX2 TX2 4, w ∈ zg_tbl := by
  intro w hw
  obtain ⟨k, hk, rfl⟩ := List.mem_map.mp hw
  have hk := List.mem_range.mp hk
  match k, hk with
  | 0, _ => exact zw_582
  | 1, _ => exact zw_583
  | 2, _ => exact zw_584
  | 3, _ => exact zw_585
  | k + 4, hk => omega
def zvs_X2 : List Value := [.int 0, .int 0, .null, .null]
theorem zvs_X2_ok : ∀ (ρ : List Nat) (ν : List Int32), zr_Vs ρ ν [.inl 0, .inl 0, .inr (.inl 0), .inr (.inl 0)] zvs_X2 := fun _ _ => ⟨rfl, rfl, rfl, rfl, trivial⟩
theorem zvs_X2_d : ∀ j, j < 4 → defaultValue (tyX2 j) = vp_V zvs_X2 j := by
  intro j hj
  match j, hj with
  | 0, _ => rfl
  | 1, _ => rfl
  | 2, _ => rfl
  | 3, _ => rfl
  | k + 4, hk => omega
theorem zw_586 : u_lay RX3 TX3 0 ∈ zg_tbl := zq1 _ (List.mem_of_getElem? (i := 235) (by decide +kernel)) rfl
theorem zw_587 : u_lay RX3 TX3 1 ∈ zg_tbl := zq1 _ (List.mem_of_getElem? (i := 237) (by decide +kernel)) rfl
theorem zw_588 : u_lay RX3 TX3 2 ∈ zg_tbl := zq1 _ (List.mem_of_getElem? (i := 239) (by decide +kernel)) rfl
theorem zw_589 : u_lay RX3 TX3 3 ∈ zg_tbl := zq2 _ (List.mem_of_getElem? (i := 1) (by decide +kernel)) rfl
theorem zw_590 : u_lay RX3 TX3 4 ∈ zg_tbl := zq2 _ (List.mem_of_getElem? (i := 3) (by decide +kernel)) rfl
theorem zw_591 : u_lay RX3 TX3 5 ∈ zg_tbl := zq2 _ (List.mem_of_getElem? (i := 5) (by decide +kernel)) rfl
theorem zw_592 : u_lay RX3 TX3 6 ∈ zg_tbl := zq2 _ (List.mem_of_getElem? (i := 7) (by decide +kernel)) rfl
theorem zw_593 : u_lay RX3 TX3 7 ∈ zg_tbl := zq2 _ (List.mem_of_getElem? (i := 9) (by decide +kernel)) rfl
theorem zw_594 : u_lay RX3 TX3 8 ∈ zg_tbl := zq2 _ (List.mem_of_getElem? (i := 11) (by decide +kernel)) rfl
theorem zw_595 : u_lay RX3 TX3 9 ∈ zg_tbl := zq2 _ (List.mem_of_getElem? (i := 13) (by decide +kernel)) rfl
theorem zw_596 : u_lay RX3 TX3 10 ∈ zg_tbl := zq2 _ (List.mem_of_getElem? (i := 15) (by decide +kernel)) rfl
theorem zw_597 : u_lay RX3 TX3 11 ∈ zg_tbl := zq2 _ (List.mem_of_getElem? (i := 17) (by decide +kernel)) rfl
theorem zin_X3 : ∀ w ∈ u_ws RX3 TX3 12, w ∈ zg_tbl := by
  intro w hw
  obtain ⟨k, hk, rfl⟩ := List.mem_map.mp hw
  have hk := List.mem_range.mp hk
  match k, hk with
  | 0, _ => exact zw_586
  | 1, _ => exact zw_587
  | 2, _ => exact zw_588
  | 3, _ => exact zw_589
  | 4, _ => exact zw_590
  | 5, _ => exact zw_591
  | 6, _ => exact zw_592
  | 7, _ => exact zw_593
  | 8, _ => exact zw_594
  | 9, _ => exact zw_595
  | 10, _ => exact zw_596
  | 11, _ => exact zw_597
  | k + 12, hk => omega
def zvs_X3 : List Value := [.int 0, .int 0, .null, .null, .null, .null, .null, .null, .null, .null, .null, .null]
theorem zvs_X3_ok : ∀ (ρ : List Nat) (ν : List Int32), zr_Vs ρ ν [.inl 0, .inl 0, .inr (.inl 0), .inr (.inl 0), .inr (.inl 0), .inr (.inl 0), .inr (.inl 0), .inr (.inl 0), .inr (.inl 0), .inr (.inl 0), .inr (.inl 0), .inr (.inl 0)] zvs_X3 := fun _ _ => ⟨rfl, rfl, rfl, rfl, rfl, rfl, rfl, rfl, rfl, rfl, rfl, rfl, trivial⟩
theorem zvs_X3_d : ∀ j, j < 12 → defaultValue (tyX3 j) = vp_V zvs_X3 j := by
  intro j hj
  match j, hj with
  | 0, _ => rfl
  | 1, _ => rfl
  | 2, _ => rfl
  | 3, _ => rfl
  | 4, _ => rfl
  | 5, _ => rfl
  | 6, _ => rfl
  | 7, _ => rfl
  | 8, _ => rfl
  | 9, _ => rfl
  | 10, _ => rfl
  | 11, _ => rfl
  | k + 12, hk => omega
theorem zw_598 : u_lay RX4 TX4 0 ∈ zg_tbl := zq2 _ (List.mem_of_getElem? (i := 186) (by decide +kernel)) rfl
theorem zw_599 : u_lay RX4 TX4 1 ∈ zg_tbl := zq2 _ (List.mem_of_getElem? (i := 188) (by decide +kernel)) rfl
theorem zw_600 : u_lay RX4 TX4 2 ∈ zg_tbl := zq2 _ (List.mem_of_getElem? (i := 190) (by decide +kernel)) rfl
theorem zw_601 : u_lay RX4 TX4 3 ∈ zg_tbl := zq2 _ (List.mem_of_getElem? (i := 192) (by decide +kernel)) rfl
theorem zw_602 : u_lay RX4 TX4 4 ∈ zg_tbl := zq2 _ (List.mem_of_getElem? (i := 194) (by decide +kernel)) rfl
theorem zin_X4 : ∀ w ∈ u_ws RX4 TX4 5, w ∈ zg_tbl := by
  intro w hw
  obtain ⟨k, hk, rfl⟩ := List.mem_map.mp hw
  have hk := List.mem_range.mp hk
  match k, hk with
  | 0, _ => exact zw_598
  | 1, _ => exact zw_599
  | 2, _ => exact zw_600
  | 3, _ => exact zw_601
  | 4, _ => exact zw_602
  | k + 5, hk => omega
def zvs_X4 : List Value := [.null, .null, .null, .null, .null]
theorem zvs_X4_ok : ∀ (ρ : List Nat) (ν : List Int32), zr_Vs ρ ν [.inr (.inl 0), .inr (.inl 0), .inr (.inl 0), .inr (.inl 0), .inr (.inl 0)] zvs_X4 := fun _ _ => ⟨rfl, rfl, rfl, rfl, rfl, trivial⟩
theorem zvs_X4_d : ∀ j, j < 5 → defaultValue (tyX4 j) = vp_V zvs_X4 j := by
  intro j hj
  match j, hj with
  | 0, _ => rfl
  | 1, _ => rfl
  | 2, _ => rfl
  | 3, _ => rfl
  | 4, _ => rfl
  | k + 5, hk => omega
theorem zw_603 : u_lay RX7 TX7 0 ∈ zg_tbl := zq1 _ (List.mem_of_getElem? (i := 110) (by decide +kernel)) rfl
theorem zw_604 : u_lay RX7 TX7 1 ∈ zg_tbl := zq1 _ (List.mem_of_getElem? (i := 112) (by decide +kernel)) rfl
theorem zw_605 : u_lay RX7 TX7 2 ∈ zg_tbl := zq1 _ (List.mem_of_getElem? (i := 114) (by decide +kernel)) rfl
theorem zw_606 : u_lay RX7 TX7 3 ∈ zg_tbl := zq1 _ (List.mem_of_getElem? (i := 116) (by decide +kernel)) rfl
theorem zin_X7 : ∀ w ∈ u_ws RX7 TX7 4, w ∈ zg_tbl := by
  intro w hw
  obtain ⟨k, hk, rfl⟩ := List.mem_map.mp hw
  have hk := List.mem_range.mp hk
  match k, hk with
  | 0, _ => exact zw_603
  | 1, _ => exact zw_604
  | 2, _ => exact zw_605
  | 3, _ => exact zw_606
  | k + 4, hk => omega
def zvs_X7 : List Value := [.null, .null, .null, .null]
theorem zvs_X7_ok : ∀ (ρ : List Nat) (ν : List Int32), zr_Vs ρ ν [.inr (.inl 0), .inr (.inl 0), .inr (.inl 0), .inr (.inl 0)] zvs_X7 := fun _ _ => ⟨rfl, rfl, rfl, rfl, trivial⟩
theorem zvs_X7_d : ∀ j, j < 4 → defaultValue (tyX7 j) = vp_V zvs_X7 j := by
  intro j hj
  match j, hj with
  | 0, _ => rfl
  | 1, _ => rfl
  | 2, _ => rfl
  | 3, _ => rfl
  | k + 4, hk => omega
theorem zw_607 : u_lay RX8 TX8 0 ∈ zg_tbl := zq5 _ (List.mem_of_getElem? (i := 24) (by decide +kernel)) rfl
theorem zw_608 : u_lay RX8 TX8 1 ∈ zg_tbl := zq5 _ (List.mem_of_getElem? (i := 26) (by decide +kernel)) rfl
theorem zw_609 : u_lay RX8 TX8 2 ∈ zg_tbl := zq5 _ (List.mem_of_getElem? (i := 28) (by decide +kernel)) rfl
theorem zw_610 : u_lay RX8 TX8 3 ∈ zg_tbl := zq5 _ (List.mem_of_getElem? (i := 30) (by decide +kernel)) rfl
theorem zw_611 : u_lay RX8 TX8 4 ∈ zg_tbl := zq5 _ (List.mem_of_getElem? (i := 32) (by decide +kernel)) rfl
theorem zw_612 : u_lay RX8 TX8 5 ∈ zg_tbl := zq5 _ (List.mem_of_getElem? (i := 34) (by decide +kernel)) rfl
theorem zw_613 : u_lay RX8 TX8 6 ∈ zg_tbl := zq5 _ (List.mem_of_getElem? (i := 36) (by decide +kernel)) rfl
theorem zw_614 : u_lay RX8 TX8 7 ∈ zg_tbl := zq5 _ (List.mem_of_getElem? (i := 38) (by decide +kernel)) rfl
theorem zw_615 : u_lay RX8 TX8 8 ∈ zg_tbl := zq5 _ (List.mem_of_getElem? (i := 40) (by decide +kernel)) rfl
theorem zw_616 : u_lay RX8 TX8 9 ∈ zg_tbl := zq5 _ (List.mem_of_getElem? (i := 42) (by decide +kernel)) rfl
theorem zw_617 : u_lay RX8 TX8 10 ∈ zg_tbl := zq5 _ (List.mem_of_getElem? (i := 44) (by decide +kernel)) rfl
theorem zw_618 : u_lay RX8 TX8 11 ∈ zg_tbl := zq5 _ (List.mem_of_getElem? (i := 46) (by decide +kernel)) rfl
theorem zw_619 : u_lay RX8 TX8 12 ∈ zg_tbl := zq5 _ (List.mem_of_getElem? (i := 48) (by decide +kernel)) rfl
theorem zw_620 : u_lay RX8 TX8 13 ∈ zg_tbl := zq5 _ (List.mem_of_getElem? (i := 50) (by decide +kernel)) rfl
theorem zw_621 : u_lay RX8 TX8 14 ∈ zg_tbl := zq5 _ (List.mem_of_getElem? (i := 52) (by decide +kernel)) rfl
theorem zw_622 : u_lay RX8 TX8 15 ∈ zg_tbl := zq5 _ (List.mem_of_getElem? (i := 54) (by decide +kernel)) rfl
theorem zw_623 : u_lay RX8 TX8 16 ∈ zg_tbl := zq5 _ (List.mem_of_getElem? (i := 56) (by decide +kernel)) rfl
theorem zw_624 : u_lay RX8 TX8 17 ∈ zg_tbl := zq5 _ (List.mem_of_getElem? (i := 58) (by decide +kernel)) rfl
theorem zw_625 : u_lay RX8 TX8 18 ∈ zg_tbl := zq5 _ (List.mem_of_getElem? (i := 60) (by decide +kernel)) rfl
theorem zw_626 : u_lay RX8 TX8 19 ∈ zg_tbl := zq5 _ (List.mem_of_getElem? (i := 62) (by decide +kernel)) rfl
theorem zw_627 : u_lay RX8 TX8 20 ∈ zg_tbl := zq5 _ (List.mem_of_getElem? (i := 64) (by decide +kernel)) rfl
theorem zw_628 : u_lay RX8 TX8 21 ∈ zg_tbl := zq5 _ (List.mem_of_getElem? (i := 66) (by decide +kernel)) rfl
theorem zw_629 : u_lay RX8 TX8 22 ∈ zg_tbl := zq5 _ (List.mem_of_getElem? (i := 68) (by decide +kernel)) rfl
theorem zw_630 : u_lay RX8 TX8 23 ∈ zg_tbl := zq5 _ (List.mem_of_getElem? (i := 70) (by decide +kernel)) rfl
theorem zw_631 : u_lay RX8 TX8 24 ∈ zg_tbl := zq5 _ (List.mem_of_getElem? (i := 72) (by decide +kernel)) rfl
theorem zw_632 : u_lay RX8 TX8 25 ∈ zg_tbl := zq5 _ (List.mem_of_getElem? (i := 74) (by decide +kernel)) rfl
theorem zw_633 : u_lay RX8 TX8 26 ∈ zg_tbl := zq5 _ (List.mem_of_getElem? (i := 76) (by decide +kernel)) rfl
theorem zw_634 : u_lay RX8 TX8 27 ∈ zg_tbl := zq5 _ (List.mem_of_getElem? (i := 78) (by decide +kernel)) rfl
theorem zw_635 : u_lay RX8 TX8 28 ∈ zg_tbl := zq5 _ (List.mem_of_getElem? (i := 80) (by decide +kernel)) rfl
theorem zw_636 : u_lay RX8 TX8 29 ∈ zg_tbl := zq5 _ (List.mem_of_getElem? (i := 82) (by decide +kernel)) rfl
theorem zw_637 : u_lay RX8 TX8 30 ∈ zg_tbl := zq5 _ (List.mem_of_getElem? (i := 84) (by decide +kernel)) rfl
theorem zw_638 : u_lay RX8 TX8 31 ∈ zg_tbl := zq5 _ (List.mem_of_getElem? (i := 86) (by decide +kernel)) rfl
theorem zw_639 : u_lay RX8 TX8 32 ∈ zg_tbl := zq5 _ (List.mem_of_getElem? (i := 88) (by decide +kernel)) rfl
theorem zw_640 : u_lay RX8 TX8 33 ∈ zg_tbl := zq5 _ (List.mem_of_getElem? (i := 90) (by decide +kernel)) rfl
theorem zw_641 : u_lay RX8 TX8 34 ∈ zg_tbl := zq5 _ (List.mem_of_getElem? (i := 92) (by decide +kernel)) rfl
theorem zin_X8 : ∀ w ∈ u_ws RX8 TX8 35, w ∈ zg_tbl := by
  intro w hw
  obtain ⟨k, hk, rfl⟩ := List.mem_map.mp hw
  have hk := List.mem_range.mp hk
  match k, hk with
  | 0, _ => exact zw_607
  | 1, _ => exact zw_608
  | 2, _ => exact zw_609
  | 3, _ => exact zw_610
  | 4, _ => exact zw_611
  | 5, _ => exact zw_612
  | 6, _ => exact zw_613
  | 7, _ => exact zw_614
  | 8, _ => exact zw_615
  | 9, _ => exact zw_616
  | 10, _ => exact zw_617
  | 11, _ => exact zw_618
  | 12, _ => exact zw_619
  | 13, _ => exact zw_620
  | 14, _ => exact zw_621
  | 15, _ => exact zw_622
  | 16, _ => exact zw_623
  | 17, _ => exact zw_624
  | 18, _ => exact zw_625
  | 19, _ => exact zw_626
  | 20, _ => exact zw_627
  | 21, _ => exact zw_628
  | 22, _ => exact zw_629
  | 23, _ => exact zw_630
  | 24, _ => exact zw_631
  | 25, _ => exact zw_632
  | 26, _ => exact zw_633
  | 27, _ => exact zw_634
  | 28, _ => exact zw_635
  | 29, _ => exact zw_636
  | 30, _ => exact zw_637
  | 31, _ => exact zw_638
  | 32, _ => exact zw_639
  | 33, _ => exact zw_640
  | 34, _ => exact zw_641
  | k + 35, hk => omega
def zvs_X8 : List Value := [.int 0, .null, .null, .null, .null, .int 0, .int 0, .int 0, .int 0, .null, .null, .null, .null, .null, .null, .null, .int 0, .null, .int 0, .null, .null, .null, .null, .null, .null, .null, .null, .null, .null, .null, .null, .int 0, .null, .null, .null]
theorem zvs_X8_ok : ∀ (ρ : List Nat) (ν : List Int32), zr_Vs ρ ν [.inl 0, .inr (.inl 0), .inr (.inl 0), .inr (.inl 0), .inr (.inl 0), .inl 0, .inl 0, .inl 0, .inl 0, .inr (.inl 0), .inr (.inl 0), .inr (.inl 0), .inr (.inl 0), .inr (.inl 0), .inr (.inl 0), .inr (.inl 0), .inl 0, .inr (.inl 0), .inl 0, .inr (.inl 0), .inr (.inl 0), .inr (.inl 0), .inr (.inl 0), .inr (.inl 0), .inr (.inl 0), .inr (.inl 0), .inr (.inl 0), .inr (.inl 0), .inr (.inl 0), .inr (.inl 0), .inr (.inl 0), .inl 0, .inr (.inl 0), .inr (.inl 0), .inr (.inl 0)] zvs_X8 := fun _ _ => ⟨rfl, rfl, rfl, rfl, rfl, rfl, rfl, rfl, rfl, rfl, rfl, rfl, rfl, rfl, rfl, rfl, rfl, rfl, rfl, rfl, rfl, rfl, rfl, rfl, rfl, rfl, rfl, rfl, rfl, rfl, rfl, rfl, rfl, rfl, rfl, trivial⟩
theorem zvs_X8_d : ∀ j, j < 35 → defaultValue (tyX8 j) = vp_V zvs_X8 j := by
  intro j hj
  match j, hj with
  | 0, _ => rfl
  | 1, _ => rfl
  | 2, _ => rfl
  | 3, _ => rfl
  | 4, _ => rfl
  | 5, _ => rfl
  | 6, _ => rfl
  | 7, _ => rfl
  | 8, _ => rfl
  | 9, _ => rfl
  | 10, _ => rfl
  | 11, _ => rfl
  | 12, _ => rfl
  | 13, _ => rfl
  | 14, _ => rfl
  | 15, _ => rfl
  | 16, _ => rfl
  | 17, _ => rfl
  | 18, _ => rfl
  | 19, _ => rfl
  | 20, _ => rfl
  | 21, _ => rfl
  | 22, _ => rfl
  | 23, _ => rfl
  | 24, _ => rfl
  | 25, _ => rfl
  | 26, _ => rfl
  | 27, _ => rfl
  | 28, _ => rfl
  | 29, _ => rfl
  | 30, _ => rfl
  | 31, _ => rfl
  | 32, _ => rfl
  | 33, _ => rfl
  | 34, _ => rfl
  | k + 35, hk => omega
