/-! THE LAW, CASE BY CASE (written by wip/p1/genlaw.py) -/
theorem zL_b0 {P : Nat → Prop} : ∀ j, j < 0 → P j := fun j h => absurd h (Nat.not_lt_zero j)
theorem zL_b1 {P : Nat → Prop} (h0 : P 0) : ∀ j, j < 1 → P j := fun j h => by
  match j, h with
  | 0, _ => exact h0
  | j + 1, h => exact absurd h (by omega)
theorem zL_b2 {P : Nat → Prop} (h0 : P 0) (h1 : P 1) : ∀ j, j < 2 → P j := fun j h => by
  match j, h with
  | 0, _ => exact h0
  | 1, _ => exact h1
  | j + 2, h => exact absurd h (by omega)
theorem zL_b3 {P : Nat → Prop} (h0 : P 0) (h1 : P 1) (h2 : P 2) : ∀ j, j < 3 → P j := fun j h => by
  match j, h with
  | 0, _ => exact h0
  | 1, _ => exact h1
  | 2, _ => exact h2
  | j + 3, h => exact absurd h (by omega)
theorem zL_b4 {P : Nat → Prop} (h0 : P 0) (h1 : P 1) (h2 : P 2) (h3 : P 3) : ∀ j, j < 4 → P j := fun j h => by
  match j, h with
  | 0, _ => exact h0
  | 1, _ => exact h1
  | 2, _ => exact h2
  | 3, _ => exact h3
  | j + 4, h => exact absurd h (by omega)
theorem zL_b5 {P : Nat → Prop} (h0 : P 0) (h1 : P 1) (h2 : P 2) (h3 : P 3) (h4 : P 4) : ∀ j, j < 5 → P j := fun j h => by
  match j, h with
  | 0, _ => exact h0
  | 1, _ => exact h1
  | 2, _ => exact h2
  | 3, _ => exact h3
  | 4, _ => exact h4
  | j + 5, h => exact absurd h (by omega)
theorem zv_0 : Cond.code yX7_body cX7_body 3 (some .int) ∈ zg_tbl := zq1 _ (List.mem_of_getElem? (i := 123) (by decide +kernel)) rfl
theorem zv_1 : Cond.methodLink "EvenBodiesLaw" 13 yX7_body ∈ zg_tbl := zq1 _ (List.mem_of_getElem? (i := 120) (by decide +kernel)) rfl
theorem zv_2 : Cond.instanceMethod yX7_body ∈ zg_tbl := zq1 _ (List.mem_of_getElem? (i := 121) (by decide +kernel)) rfl
theorem zv_3 : Cond.selects RX7 yX7_body yX7_body ∈ zg_tbl := zq1 _ (List.mem_of_getElem? (i := 122) (by decide +kernel)) rfl
theorem zv_4 : Cond.initialized RX7 ∈ zg_tbl := zq1 _ (List.mem_of_getElem? (i := 1) (by decide +kernel)) rfl
theorem zv_5 : Cond.code yX8_body cX8_body 3 (some .int) ∈ zg_tbl := zq5 _ (List.mem_of_getElem? (i := 99) (by decide +kernel)) rfl
theorem zv_6 : Cond.methodLink "EvenBodiesLaw" 17 yX8_body ∈ zg_tbl := zq5 _ (List.mem_of_getElem? (i := 96) (by decide +kernel)) rfl
theorem zv_7 : Cond.instanceMethod yX8_body ∈ zg_tbl := zq5 _ (List.mem_of_getElem? (i := 97) (by decide +kernel)) rfl
theorem zv_8 : Cond.selects RX8 yX8_body yX8_body ∈ zg_tbl := zq5 _ (List.mem_of_getElem? (i := 98) (by decide +kernel)) rfl
theorem zv_9 : Cond.initialized RX8 ∈ zg_tbl := zq1 _ (List.mem_of_getElem? (i := 5) (by decide +kernel)) rfl
theorem zv_10 : Cond.code yX7_angle cX7_angle 6 (some .int) ∈ zg_tbl := zq1 _ (List.mem_of_getElem? (i := 139) (by decide +kernel)) rfl
theorem zv_11 : Cond.methodLink "EvenBodiesLaw" 18 yX7_angle ∈ zg_tbl := zq1 _ (List.mem_of_getElem? (i := 136) (by decide +kernel)) rfl
theorem zv_12 : Cond.instanceMethod yX7_angle ∈ zg_tbl := zq1 _ (List.mem_of_getElem? (i := 137) (by decide +kernel)) rfl
theorem zv_13 : Cond.selects RX7 yX7_angle yX7_angle ∈ zg_tbl := zq1 _ (List.mem_of_getElem? (i := 138) (by decide +kernel)) rfl
theorem zv_14 : Cond.code yX8_angle cX8_angle 6 (some .int) ∈ zg_tbl := zq5 _ (List.mem_of_getElem? (i := 109) (by decide +kernel)) rfl
theorem zv_15 : Cond.methodLink "EvenBodiesLaw" 22 yX8_angle ∈ zg_tbl := zq5 _ (List.mem_of_getElem? (i := 106) (by decide +kernel)) rfl
theorem zv_16 : Cond.instanceMethod yX8_angle ∈ zg_tbl := zq5 _ (List.mem_of_getElem? (i := 107) (by decide +kernel)) rfl
theorem zv_17 : Cond.selects RX8 yX8_angle yX8_angle ∈ zg_tbl := zq5 _ (List.mem_of_getElem? (i := 108) (by decide +kernel)) rfl
theorem zv_18 : Cond.code yX7_ring cX7_ring 3 (some .int) ∈ zg_tbl := zq1 _ (List.mem_of_getElem? (i := 155) (by decide +kernel)) rfl
theorem zv_19 : Cond.methodLink "EvenBodiesLaw" 23 yX7_ring ∈ zg_tbl := zq1 _ (List.mem_of_getElem? (i := 152) (by decide +kernel)) rfl
theorem zv_20 : Cond.instanceMethod yX7_ring ∈ zg_tbl := zq1 _ (List.mem_of_getElem? (i := 153) (by decide +kernel)) rfl
theorem zv_21 : Cond.selects RX7 yX7_ring yX7_ring ∈ zg_tbl := zq1 _ (List.mem_of_getElem? (i := 154) (by decide +kernel)) rfl
theorem zv_22 : Cond.code yX8_ring cX8_ring 4 (some .int) ∈ zg_tbl := zq5 _ (List.mem_of_getElem? (i := 121) (by decide +kernel)) rfl
theorem zv_23 : Cond.methodLink "EvenBodiesLaw" 26 yX8_ring ∈ zg_tbl := zq5 _ (List.mem_of_getElem? (i := 118) (by decide +kernel)) rfl
theorem zv_24 : Cond.instanceMethod yX8_ring ∈ zg_tbl := zq5 _ (List.mem_of_getElem? (i := 119) (by decide +kernel)) rfl
theorem zv_25 : Cond.selects RX8 yX8_ring yX8_ring ∈ zg_tbl := zq5 _ (List.mem_of_getElem? (i := 120) (by decide +kernel)) rfl
theorem zv_26 : Cond.code yX7_order cX7_order 4 (some .int) ∈ zg_tbl := zq1 _ (List.mem_of_getElem? (i := 167) (by decide +kernel)) rfl
theorem zv_27 : Cond.methodLink "EvenBodiesLaw" 27 yX7_order ∈ zg_tbl := zq1 _ (List.mem_of_getElem? (i := 164) (by decide +kernel)) rfl
theorem zv_28 : Cond.instanceMethod yX7_order ∈ zg_tbl := zq1 _ (List.mem_of_getElem? (i := 165) (by decide +kernel)) rfl
theorem zv_29 : Cond.selects RX7 yX7_order yX7_order ∈ zg_tbl := zq1 _ (List.mem_of_getElem? (i := 166) (by decide +kernel)) rfl
theorem zv_30 : Cond.code yX8_order cX8_order 9 (some .int) ∈ zg_tbl := zq5 _ (List.mem_of_getElem? (i := 125) (by decide +kernel)) rfl
theorem zv_31 : Cond.methodLink "EvenBodiesLaw" 31 yX8_order ∈ zg_tbl := zq5 _ (List.mem_of_getElem? (i := 122) (by decide +kernel)) rfl
theorem zv_32 : Cond.instanceMethod yX8_order ∈ zg_tbl := zq5 _ (List.mem_of_getElem? (i := 123) (by decide +kernel)) rfl
theorem zv_33 : Cond.selects RX8 yX8_order yX8_order ∈ zg_tbl := zq5 _ (List.mem_of_getElem? (i := 124) (by decide +kernel)) rfl
theorem zv_34 : Cond.code yX7_about cX7_about 4 (some .int) ∈ zg_tbl := zq1 _ (List.mem_of_getElem? (i := 194) (by decide +kernel)) rfl
theorem zv_35 : Cond.methodLink "EvenBodiesLaw" 32 yX7_about ∈ zg_tbl := zq1 _ (List.mem_of_getElem? (i := 191) (by decide +kernel)) rfl
theorem zv_36 : Cond.instanceMethod yX7_about ∈ zg_tbl := zq1 _ (List.mem_of_getElem? (i := 192) (by decide +kernel)) rfl
theorem zv_37 : Cond.selects RX7 yX7_about yX7_about ∈ zg_tbl := zq1 _ (List.mem_of_getElem? (i := 193) (by decide +kernel)) rfl
theorem zv_38 : Cond.code yX8_about cX8_about 4 (some .int) ∈ zg_tbl := zq5 _ (List.mem_of_getElem? (i := 129) (by decide +kernel)) rfl
theorem zv_39 : Cond.methodLink "EvenBodiesLaw" 35 yX8_about ∈ zg_tbl := zq5 _ (List.mem_of_getElem? (i := 126) (by decide +kernel)) rfl
theorem zv_40 : Cond.instanceMethod yX8_about ∈ zg_tbl := zq5 _ (List.mem_of_getElem? (i := 127) (by decide +kernel)) rfl
theorem zv_41 : Cond.selects RX8 yX8_about yX8_about ∈ zg_tbl := zq5 _ (List.mem_of_getElem? (i := 128) (by decide +kernel)) rfl
theorem zv_42 : Cond.code yX7_size cX7_size 3 (some .int) ∈ zg_tbl := zq1 _ (List.mem_of_getElem? (i := 202) (by decide +kernel)) rfl
theorem zv_43 : Cond.methodLink "EvenBodiesLaw" 36 yX7_size ∈ zg_tbl := zq1 _ (List.mem_of_getElem? (i := 199) (by decide +kernel)) rfl
theorem zv_44 : Cond.instanceMethod yX7_size ∈ zg_tbl := zq1 _ (List.mem_of_getElem? (i := 200) (by decide +kernel)) rfl
theorem zv_45 : Cond.selects RX7 yX7_size yX7_size ∈ zg_tbl := zq1 _ (List.mem_of_getElem? (i := 201) (by decide +kernel)) rfl
theorem zv_46 : Cond.code yX8_size cX8_size 3 (some .int) ∈ zg_tbl := zq5 _ (List.mem_of_getElem? (i := 137) (by decide +kernel)) rfl
theorem zv_47 : Cond.methodLink "EvenBodiesLaw" 40 yX8_size ∈ zg_tbl := zq5 _ (List.mem_of_getElem? (i := 134) (by decide +kernel)) rfl
theorem zv_48 : Cond.instanceMethod yX8_size ∈ zg_tbl := zq5 _ (List.mem_of_getElem? (i := 135) (by decide +kernel)) rfl
theorem zv_49 : Cond.selects RX8 yX8_size yX8_size ∈ zg_tbl := zq5 _ (List.mem_of_getElem? (i := 136) (by decide +kernel)) rfl
theorem zv_50 : Cond.code yX7_length cX7_length 4 (some .int) ∈ zg_tbl := zq2 _ (List.mem_of_getElem? (i := 45) (by decide +kernel)) rfl
theorem zv_51 : Cond.methodLink "EvenBodiesLaw" 41 yX7_length ∈ zg_tbl := zq2 _ (List.mem_of_getElem? (i := 42) (by decide +kernel)) rfl
theorem zv_52 : Cond.instanceMethod yX7_length ∈ zg_tbl := zq2 _ (List.mem_of_getElem? (i := 43) (by decide +kernel)) rfl
theorem zv_53 : Cond.selects RX7 yX7_length yX7_length ∈ zg_tbl := zq2 _ (List.mem_of_getElem? (i := 44) (by decide +kernel)) rfl
theorem zv_54 : Cond.code yX8_length cX8_length 4 (some .int) ∈ zg_tbl := zq5 _ (List.mem_of_getElem? (i := 176) (by decide +kernel)) rfl
theorem zv_55 : Cond.methodLink "EvenBodiesLaw" 44 yX8_length ∈ zg_tbl := zq5 _ (List.mem_of_getElem? (i := 173) (by decide +kernel)) rfl
theorem zv_56 : Cond.instanceMethod yX8_length ∈ zg_tbl := zq5 _ (List.mem_of_getElem? (i := 174) (by decide +kernel)) rfl
theorem zv_57 : Cond.selects RX8 yX8_length yX8_length ∈ zg_tbl := zq5 _ (List.mem_of_getElem? (i := 175) (by decide +kernel)) rfl
theorem zv_58 : Cond.code yX7_letter cX7_letter 5 (some .int) ∈ zg_tbl := zq2 _ (List.mem_of_getElem? (i := 57) (by decide +kernel)) rfl
theorem zv_59 : Cond.methodLink "EvenBodiesLaw" 45 yX7_letter ∈ zg_tbl := zq2 _ (List.mem_of_getElem? (i := 54) (by decide +kernel)) rfl
theorem zv_60 : Cond.instanceMethod yX7_letter ∈ zg_tbl := zq2 _ (List.mem_of_getElem? (i := 55) (by decide +kernel)) rfl
theorem zv_61 : Cond.selects RX7 yX7_letter yX7_letter ∈ zg_tbl := zq2 _ (List.mem_of_getElem? (i := 56) (by decide +kernel)) rfl
theorem zv_62 : Cond.code yX8_letter cX8_letter 5 (some .int) ∈ zg_tbl := zq5 _ (List.mem_of_getElem? (i := 184) (by decide +kernel)) rfl
theorem zv_63 : Cond.methodLink "EvenBodiesLaw" 48 yX8_letter ∈ zg_tbl := zq5 _ (List.mem_of_getElem? (i := 181) (by decide +kernel)) rfl
theorem zv_64 : Cond.instanceMethod yX8_letter ∈ zg_tbl := zq5 _ (List.mem_of_getElem? (i := 182) (by decide +kernel)) rfl
theorem zv_65 : Cond.selects RX8 yX8_letter yX8_letter ∈ zg_tbl := zq5 _ (List.mem_of_getElem? (i := 183) (by decide +kernel)) rfl
theorem zv_66 : Cond.code yX7_element cX7_element 4 (some .int) ∈ zg_tbl := zq2 _ (List.mem_of_getElem? (i := 65) (by decide +kernel)) rfl
theorem zv_67 : Cond.methodLink "EvenBodiesLaw" 49 yX7_element ∈ zg_tbl := zq2 _ (List.mem_of_getElem? (i := 62) (by decide +kernel)) rfl
theorem zv_68 : Cond.instanceMethod yX7_element ∈ zg_tbl := zq2 _ (List.mem_of_getElem? (i := 63) (by decide +kernel)) rfl
theorem zv_69 : Cond.selects RX7 yX7_element yX7_element ∈ zg_tbl := zq2 _ (List.mem_of_getElem? (i := 64) (by decide +kernel)) rfl
theorem zv_70 : Cond.code yX8_element cX8_element 8 (some .int) ∈ zg_tbl := zq5 _ (List.mem_of_getElem? (i := 192) (by decide +kernel)) rfl
theorem zv_71 : Cond.methodLink "EvenBodiesLaw" 52 yX8_element ∈ zg_tbl := zq5 _ (List.mem_of_getElem? (i := 189) (by decide +kernel)) rfl
theorem zv_72 : Cond.instanceMethod yX8_element ∈ zg_tbl := zq5 _ (List.mem_of_getElem? (i := 190) (by decide +kernel)) rfl
theorem zv_73 : Cond.selects RX8 yX8_element yX8_element ∈ zg_tbl := zq5 _ (List.mem_of_getElem? (i := 191) (by decide +kernel)) rfl
theorem zv_74 : Cond.code yX7_product cX7_product 5 (some .int) ∈ zg_tbl := zq2 _ (List.mem_of_getElem? (i := 81) (by decide +kernel)) rfl
theorem zv_75 : Cond.methodLink "EvenBodiesLaw" 53 yX7_product ∈ zg_tbl := zq2 _ (List.mem_of_getElem? (i := 78) (by decide +kernel)) rfl
theorem zv_76 : Cond.instanceMethod yX7_product ∈ zg_tbl := zq2 _ (List.mem_of_getElem? (i := 79) (by decide +kernel)) rfl
theorem zv_77 : Cond.selects RX7 yX7_product yX7_product ∈ zg_tbl := zq2 _ (List.mem_of_getElem? (i := 80) (by decide +kernel)) rfl
theorem zv_78 : Cond.code yX8_product cX8_product 5 (some .int) ∈ zg_tbl := zq5 _ (List.mem_of_getElem? (i := 196) (by decide +kernel)) rfl
theorem zv_79 : Cond.methodLink "EvenBodiesLaw" 56 yX8_product ∈ zg_tbl := zq5 _ (List.mem_of_getElem? (i := 193) (by decide +kernel)) rfl
theorem zv_80 : Cond.instanceMethod yX8_product ∈ zg_tbl := zq5 _ (List.mem_of_getElem? (i := 194) (by decide +kernel)) rfl
theorem zv_81 : Cond.selects RX8 yX8_product yX8_product ∈ zg_tbl := zq5 _ (List.mem_of_getElem? (i := 195) (by decide +kernel)) rfl
theorem zv_82 : Cond.code yX7_inverse cX7_inverse 4 (some .int) ∈ zg_tbl := zq2 _ (List.mem_of_getElem? (i := 89) (by decide +kernel)) rfl
theorem zv_83 : Cond.methodLink "EvenBodiesLaw" 57 yX7_inverse ∈ zg_tbl := zq2 _ (List.mem_of_getElem? (i := 86) (by decide +kernel)) rfl
theorem zv_84 : Cond.instanceMethod yX7_inverse ∈ zg_tbl := zq2 _ (List.mem_of_getElem? (i := 87) (by decide +kernel)) rfl
theorem zv_85 : Cond.selects RX7 yX7_inverse yX7_inverse ∈ zg_tbl := zq2 _ (List.mem_of_getElem? (i := 88) (by decide +kernel)) rfl
theorem zv_86 : Cond.code yX8_inverse cX8_inverse 4 (some .int) ∈ zg_tbl := zq5 _ (List.mem_of_getElem? (i := 204) (by decide +kernel)) rfl
theorem zv_87 : Cond.methodLink "EvenBodiesLaw" 60 yX8_inverse ∈ zg_tbl := zq5 _ (List.mem_of_getElem? (i := 201) (by decide +kernel)) rfl
theorem zv_88 : Cond.instanceMethod yX8_inverse ∈ zg_tbl := zq5 _ (List.mem_of_getElem? (i := 202) (by decide +kernel)) rfl
theorem zv_89 : Cond.selects RX8 yX8_inverse yX8_inverse ∈ zg_tbl := zq5 _ (List.mem_of_getElem? (i := 203) (by decide +kernel)) rfl
theorem zv_90 : Cond.code yX7_turns cX7_turns 4 (some .int) ∈ zg_tbl := zq2 _ (List.mem_of_getElem? (i := 97) (by decide +kernel)) rfl
theorem zv_91 : Cond.methodLink "EvenBodiesLaw" 61 yX7_turns ∈ zg_tbl := zq2 _ (List.mem_of_getElem? (i := 94) (by decide +kernel)) rfl
theorem zv_92 : Cond.instanceMethod yX7_turns ∈ zg_tbl := zq2 _ (List.mem_of_getElem? (i := 95) (by decide +kernel)) rfl
theorem zv_93 : Cond.selects RX7 yX7_turns yX7_turns ∈ zg_tbl := zq2 _ (List.mem_of_getElem? (i := 96) (by decide +kernel)) rfl
theorem zv_94 : Cond.code yX8_turns cX8_turns 6 (some .int) ∈ zg_tbl := zq5 _ (List.mem_of_getElem? (i := 212) (by decide +kernel)) rfl
theorem zv_95 : Cond.methodLink "EvenBodiesLaw" 64 yX8_turns ∈ zg_tbl := zq5 _ (List.mem_of_getElem? (i := 209) (by decide +kernel)) rfl
theorem zv_96 : Cond.instanceMethod yX8_turns ∈ zg_tbl := zq5 _ (List.mem_of_getElem? (i := 210) (by decide +kernel)) rfl
theorem zv_97 : Cond.selects RX8 yX8_turns yX8_turns ∈ zg_tbl := zq5 _ (List.mem_of_getElem? (i := 211) (by decide +kernel)) rfl
theorem zv_98 : Cond.code yX7_classSize cX7_classSize 4 (some .int) ∈ zg_tbl := zq2 _ (List.mem_of_getElem? (i := 106) (by decide +kernel)) rfl
theorem zv_99 : Cond.methodLink "EvenBodiesLaw" 65 yX7_classSize ∈ zg_tbl := zq2 _ (List.mem_of_getElem? (i := 103) (by decide +kernel)) rfl
theorem zv_100 : Cond.instanceMethod yX7_classSize ∈ zg_tbl := zq2 _ (List.mem_of_getElem? (i := 104) (by decide +kernel)) rfl
theorem zv_101 : Cond.selects RX7 yX7_classSize yX7_classSize ∈ zg_tbl := zq2 _ (List.mem_of_getElem? (i := 105) (by decide +kernel)) rfl
theorem zv_102 : Cond.code yX8_classSize cX8_classSize 7 (some .int) ∈ zg_tbl := zq5 _ (List.mem_of_getElem? (i := 216) (by decide +kernel)) rfl
theorem zv_103 : Cond.methodLink "EvenBodiesLaw" 68 yX8_classSize ∈ zg_tbl := zq5 _ (List.mem_of_getElem? (i := 213) (by decide +kernel)) rfl
theorem zv_104 : Cond.instanceMethod yX8_classSize ∈ zg_tbl := zq5 _ (List.mem_of_getElem? (i := 214) (by decide +kernel)) rfl
theorem zv_105 : Cond.selects RX8 yX8_classSize yX8_classSize ∈ zg_tbl := zq5 _ (List.mem_of_getElem? (i := 215) (by decide +kernel)) rfl
theorem zv_106 : Cond.code yX7_ofLength cX7_ofLength 4 (some .int) ∈ zg_tbl := zq2 _ (List.mem_of_getElem? (i := 118) (by decide +kernel)) rfl
theorem zv_107 : Cond.methodLink "EvenBodiesLaw" 69 yX7_ofLength ∈ zg_tbl := zq2 _ (List.mem_of_getElem? (i := 115) (by decide +kernel)) rfl
theorem zv_108 : Cond.instanceMethod yX7_ofLength ∈ zg_tbl := zq2 _ (List.mem_of_getElem? (i := 116) (by decide +kernel)) rfl
theorem zv_109 : Cond.selects RX7 yX7_ofLength yX7_ofLength ∈ zg_tbl := zq2 _ (List.mem_of_getElem? (i := 117) (by decide +kernel)) rfl
theorem zv_110 : Cond.code yX8_ofLength cX8_ofLength 6 (some .int) ∈ zg_tbl := zq5 _ (List.mem_of_getElem? (i := 224) (by decide +kernel)) rfl
theorem zv_111 : Cond.methodLink "EvenBodiesLaw" 72 yX8_ofLength ∈ zg_tbl := zq5 _ (List.mem_of_getElem? (i := 221) (by decide +kernel)) rfl
theorem zv_112 : Cond.instanceMethod yX8_ofLength ∈ zg_tbl := zq5 _ (List.mem_of_getElem? (i := 222) (by decide +kernel)) rfl
theorem zv_113 : Cond.selects RX8 yX8_ofLength yX8_ofLength ∈ zg_tbl := zq5 _ (List.mem_of_getElem? (i := 223) (by decide +kernel)) rfl
theorem zv_114 : Cond.code yX7_mirrors cX7_mirrors 3 (some .int) ∈ zg_tbl := zq2 _ (List.mem_of_getElem? (i := 126) (by decide +kernel)) rfl
theorem zv_115 : Cond.methodLink "EvenBodiesLaw" 73 yX7_mirrors ∈ zg_tbl := zq2 _ (List.mem_of_getElem? (i := 123) (by decide +kernel)) rfl
theorem zv_116 : Cond.instanceMethod yX7_mirrors ∈ zg_tbl := zq2 _ (List.mem_of_getElem? (i := 124) (by decide +kernel)) rfl
theorem zv_117 : Cond.selects RX7 yX7_mirrors yX7_mirrors ∈ zg_tbl := zq2 _ (List.mem_of_getElem? (i := 125) (by decide +kernel)) rfl
theorem zv_118 : Cond.code yX8_mirrors cX8_mirrors 7 (some .int) ∈ zg_tbl := zq5 _ (List.mem_of_getElem? (i := 228) (by decide +kernel)) rfl
theorem zv_119 : Cond.methodLink "EvenBodiesLaw" 76 yX8_mirrors ∈ zg_tbl := zq5 _ (List.mem_of_getElem? (i := 225) (by decide +kernel)) rfl
theorem zv_120 : Cond.instanceMethod yX8_mirrors ∈ zg_tbl := zq5 _ (List.mem_of_getElem? (i := 226) (by decide +kernel)) rfl
theorem zv_121 : Cond.selects RX8 yX8_mirrors yX8_mirrors ∈ zg_tbl := zq5 _ (List.mem_of_getElem? (i := 227) (by decide +kernel)) rfl
theorem zv_122 : Cond.code yX7_kinds cX7_kinds 3 (some .int) ∈ zg_tbl := zq2 _ (List.mem_of_getElem? (i := 130) (by decide +kernel)) rfl
theorem zv_123 : Cond.methodLink "EvenBodiesLaw" 77 yX7_kinds ∈ zg_tbl := zq2 _ (List.mem_of_getElem? (i := 127) (by decide +kernel)) rfl
theorem zv_124 : Cond.instanceMethod yX7_kinds ∈ zg_tbl := zq2 _ (List.mem_of_getElem? (i := 128) (by decide +kernel)) rfl
theorem zv_125 : Cond.selects RX7 yX7_kinds yX7_kinds ∈ zg_tbl := zq2 _ (List.mem_of_getElem? (i := 129) (by decide +kernel)) rfl
theorem zv_126 : Cond.code yX8_kinds cX8_kinds 5 (some .int) ∈ zg_tbl := zq5 _ (List.mem_of_getElem? (i := 232) (by decide +kernel)) rfl
theorem zv_127 : Cond.methodLink "EvenBodiesLaw" 80 yX8_kinds ∈ zg_tbl := zq5 _ (List.mem_of_getElem? (i := 229) (by decide +kernel)) rfl
theorem zv_128 : Cond.instanceMethod yX8_kinds ∈ zg_tbl := zq5 _ (List.mem_of_getElem? (i := 230) (by decide +kernel)) rfl
theorem zv_129 : Cond.selects RX8 yX8_kinds yX8_kinds ∈ zg_tbl := zq5 _ (List.mem_of_getElem? (i := 231) (by decide +kernel)) rfl
theorem zv_130 : Cond.code yX7_kind cX7_kind 4 (some .int) ∈ zg_tbl := zq2 _ (List.mem_of_getElem? (i := 156) (by decide +kernel)) rfl
theorem zv_131 : Cond.methodLink "EvenBodiesLaw" 81 yX7_kind ∈ zg_tbl := zq2 _ (List.mem_of_getElem? (i := 153) (by decide +kernel)) rfl
theorem zv_132 : Cond.instanceMethod yX7_kind ∈ zg_tbl := zq2 _ (List.mem_of_getElem? (i := 154) (by decide +kernel)) rfl
theorem zv_133 : Cond.selects RX7 yX7_kind yX7_kind ∈ zg_tbl := zq2 _ (List.mem_of_getElem? (i := 155) (by decide +kernel)) rfl
theorem zv_134 : Cond.code yX8_kind cX8_kind 6 (some .int) ∈ zg_tbl := zq6 _ (List.mem_of_getElem? (i := 0) (by decide +kernel)) rfl
theorem zv_135 : Cond.methodLink "EvenBodiesLaw" 84 yX8_kind ∈ zg_tbl := zq5 _ (List.mem_of_getElem? (i := 237) (by decide +kernel)) rfl
theorem zv_136 : Cond.instanceMethod yX8_kind ∈ zg_tbl := zq5 _ (List.mem_of_getElem? (i := 238) (by decide +kernel)) rfl
theorem zv_137 : Cond.selects RX8 yX8_kind yX8_kind ∈ zg_tbl := zq5 _ (List.mem_of_getElem? (i := 239) (by decide +kernel)) rfl
theorem zv_138 : Cond.code yX7_parts cX7_parts 4 (some .int) ∈ zg_tbl := zq2 _ (List.mem_of_getElem? (i := 164) (by decide +kernel)) rfl
theorem zv_139 : Cond.methodLink "EvenBodiesLaw" 85 yX7_parts ∈ zg_tbl := zq2 _ (List.mem_of_getElem? (i := 161) (by decide +kernel)) rfl
theorem zv_140 : Cond.instanceMethod yX7_parts ∈ zg_tbl := zq2 _ (List.mem_of_getElem? (i := 162) (by decide +kernel)) rfl
theorem zv_141 : Cond.selects RX7 yX7_parts yX7_parts ∈ zg_tbl := zq2 _ (List.mem_of_getElem? (i := 163) (by decide +kernel)) rfl
theorem zv_142 : Cond.code yX8_parts cX8_parts 4 (some .int) ∈ zg_tbl := zq6 _ (List.mem_of_getElem? (i := 4) (by decide +kernel)) rfl
theorem zv_143 : Cond.methodLink "EvenBodiesLaw" 88 yX8_parts ∈ zg_tbl := zq6 _ (List.mem_of_getElem? (i := 1) (by decide +kernel)) rfl
theorem zv_144 : Cond.instanceMethod yX8_parts ∈ zg_tbl := zq6 _ (List.mem_of_getElem? (i := 2) (by decide +kernel)) rfl
theorem zv_145 : Cond.selects RX8 yX8_parts yX8_parts ∈ zg_tbl := zq6 _ (List.mem_of_getElem? (i := 3) (by decide +kernel)) rfl
theorem zv_146 : Cond.code yX7_partOf cX7_partOf 5 (some .int) ∈ zg_tbl := zq2 _ (List.mem_of_getElem? (i := 221) (by decide +kernel)) rfl
theorem zv_147 : Cond.methodLink "EvenBodiesLaw" 89 yX7_partOf ∈ zg_tbl := zq2 _ (List.mem_of_getElem? (i := 218) (by decide +kernel)) rfl
theorem zv_148 : Cond.instanceMethod yX7_partOf ∈ zg_tbl := zq2 _ (List.mem_of_getElem? (i := 219) (by decide +kernel)) rfl
theorem zv_149 : Cond.selects RX7 yX7_partOf yX7_partOf ∈ zg_tbl := zq2 _ (List.mem_of_getElem? (i := 220) (by decide +kernel)) rfl
theorem zv_150 : Cond.code yX8_partOf cX8_partOf 5 (some .int) ∈ zg_tbl := zq6 _ (List.mem_of_getElem? (i := 12) (by decide +kernel)) rfl
theorem zv_151 : Cond.methodLink "EvenBodiesLaw" 92 yX8_partOf ∈ zg_tbl := zq6 _ (List.mem_of_getElem? (i := 9) (by decide +kernel)) rfl
theorem zv_152 : Cond.instanceMethod yX8_partOf ∈ zg_tbl := zq6 _ (List.mem_of_getElem? (i := 10) (by decide +kernel)) rfl
theorem zv_153 : Cond.selects RX8 yX8_partOf yX8_partOf ∈ zg_tbl := zq6 _ (List.mem_of_getElem? (i := 11) (by decide +kernel)) rfl
theorem zv_154 : Cond.code yX7_least cX7_least 5 (some .int) ∈ zg_tbl := zq2 _ (List.mem_of_getElem? (i := 229) (by decide +kernel)) rfl
theorem zv_155 : Cond.methodLink "EvenBodiesLaw" 93 yX7_least ∈ zg_tbl := zq2 _ (List.mem_of_getElem? (i := 226) (by decide +kernel)) rfl
theorem zv_156 : Cond.instanceMethod yX7_least ∈ zg_tbl := zq2 _ (List.mem_of_getElem? (i := 227) (by decide +kernel)) rfl
theorem zv_157 : Cond.selects RX7 yX7_least yX7_least ∈ zg_tbl := zq2 _ (List.mem_of_getElem? (i := 228) (by decide +kernel)) rfl
theorem zv_158 : Cond.code yX8_least cX8_least 5 (some .int) ∈ zg_tbl := zq6 _ (List.mem_of_getElem? (i := 16) (by decide +kernel)) rfl
theorem zv_159 : Cond.methodLink "EvenBodiesLaw" 96 yX8_least ∈ zg_tbl := zq6 _ (List.mem_of_getElem? (i := 13) (by decide +kernel)) rfl
theorem zv_160 : Cond.instanceMethod yX8_least ∈ zg_tbl := zq6 _ (List.mem_of_getElem? (i := 14) (by decide +kernel)) rfl
theorem zv_161 : Cond.selects RX8 yX8_least yX8_least ∈ zg_tbl := zq6 _ (List.mem_of_getElem? (i := 15) (by decide +kernel)) rfl
theorem zv_162 : Cond.code yX7_corners cX7_corners 5 (some .int) ∈ zg_tbl := zq3 _ (List.mem_of_getElem? (i := 2) (by decide +kernel)) rfl
theorem zv_163 : Cond.methodLink "EvenBodiesLaw" 97 yX7_corners ∈ zg_tbl := zq2 _ (List.mem_of_getElem? (i := 239) (by decide +kernel)) rfl
theorem zv_164 : Cond.instanceMethod yX7_corners ∈ zg_tbl := zq3 _ (List.mem_of_getElem? (i := 0) (by decide +kernel)) rfl
theorem zv_165 : Cond.selects RX7 yX7_corners yX7_corners ∈ zg_tbl := zq3 _ (List.mem_of_getElem? (i := 1) (by decide +kernel)) rfl
theorem zv_166 : Cond.code yX8_corners cX8_corners 5 (some .int) ∈ zg_tbl := zq6 _ (List.mem_of_getElem? (i := 20) (by decide +kernel)) rfl
theorem zv_167 : Cond.methodLink "EvenBodiesLaw" 100 yX8_corners ∈ zg_tbl := zq6 _ (List.mem_of_getElem? (i := 17) (by decide +kernel)) rfl
theorem zv_168 : Cond.instanceMethod yX8_corners ∈ zg_tbl := zq6 _ (List.mem_of_getElem? (i := 18) (by decide +kernel)) rfl
theorem zv_169 : Cond.selects RX8 yX8_corners yX8_corners ∈ zg_tbl := zq6 _ (List.mem_of_getElem? (i := 19) (by decide +kernel)) rfl
theorem zv_170 : Cond.code yX7_cornerOf cX7_cornerOf 6 (some .int) ∈ zg_tbl := zq3 _ (List.mem_of_getElem? (i := 10) (by decide +kernel)) rfl
theorem zv_171 : Cond.methodLink "EvenBodiesLaw" 101 yX7_cornerOf ∈ zg_tbl := zq3 _ (List.mem_of_getElem? (i := 7) (by decide +kernel)) rfl
theorem zv_172 : Cond.instanceMethod yX7_cornerOf ∈ zg_tbl := zq3 _ (List.mem_of_getElem? (i := 8) (by decide +kernel)) rfl
theorem zv_173 : Cond.selects RX7 yX7_cornerOf yX7_cornerOf ∈ zg_tbl := zq3 _ (List.mem_of_getElem? (i := 9) (by decide +kernel)) rfl
theorem zv_174 : Cond.code yX8_cornerOf cX8_cornerOf 8 (some .int) ∈ zg_tbl := zq6 _ (List.mem_of_getElem? (i := 28) (by decide +kernel)) rfl
theorem zv_175 : Cond.methodLink "EvenBodiesLaw" 104 yX8_cornerOf ∈ zg_tbl := zq6 _ (List.mem_of_getElem? (i := 25) (by decide +kernel)) rfl
theorem zv_176 : Cond.instanceMethod yX8_cornerOf ∈ zg_tbl := zq6 _ (List.mem_of_getElem? (i := 26) (by decide +kernel)) rfl
theorem zv_177 : Cond.selects RX8 yX8_cornerOf yX8_cornerOf ∈ zg_tbl := zq6 _ (List.mem_of_getElem? (i := 27) (by decide +kernel)) rfl
theorem zv_178 : Cond.code yX7_liesIn cX7_liesIn 7 (some .int) ∈ zg_tbl := zq3 _ (List.mem_of_getElem? (i := 19) (by decide +kernel)) rfl
theorem zv_179 : Cond.methodLink "EvenBodiesLaw" 105 yX7_liesIn ∈ zg_tbl := zq3 _ (List.mem_of_getElem? (i := 16) (by decide +kernel)) rfl
theorem zv_180 : Cond.instanceMethod yX7_liesIn ∈ zg_tbl := zq3 _ (List.mem_of_getElem? (i := 17) (by decide +kernel)) rfl
theorem zv_181 : Cond.selects RX7 yX7_liesIn yX7_liesIn ∈ zg_tbl := zq3 _ (List.mem_of_getElem? (i := 18) (by decide +kernel)) rfl
theorem zv_182 : Cond.code yX8_liesIn cX8_liesIn 9 (some .int) ∈ zg_tbl := zq6 _ (List.mem_of_getElem? (i := 32) (by decide +kernel)) rfl
theorem zv_183 : Cond.methodLink "EvenBodiesLaw" 109 yX8_liesIn ∈ zg_tbl := zq6 _ (List.mem_of_getElem? (i := 29) (by decide +kernel)) rfl
theorem zv_184 : Cond.instanceMethod yX8_liesIn ∈ zg_tbl := zq6 _ (List.mem_of_getElem? (i := 30) (by decide +kernel)) rfl
theorem zv_185 : Cond.selects RX8 yX8_liesIn yX8_liesIn ∈ zg_tbl := zq6 _ (List.mem_of_getElem? (i := 31) (by decide +kernel)) rfl
theorem zv_186 : Cond.code yX7_within cX7_within 6 (some .int) ∈ zg_tbl := zq3 _ (List.mem_of_getElem? (i := 30) (by decide +kernel)) rfl
theorem zv_187 : Cond.methodLink "EvenBodiesLaw" 110 yX7_within ∈ zg_tbl := zq3 _ (List.mem_of_getElem? (i := 27) (by decide +kernel)) rfl
theorem zv_188 : Cond.instanceMethod yX7_within ∈ zg_tbl := zq3 _ (List.mem_of_getElem? (i := 28) (by decide +kernel)) rfl
theorem zv_189 : Cond.selects RX7 yX7_within yX7_within ∈ zg_tbl := zq3 _ (List.mem_of_getElem? (i := 29) (by decide +kernel)) rfl
theorem zv_190 : Cond.code yX8_within cX8_within 8 (some .int) ∈ zg_tbl := zq6 _ (List.mem_of_getElem? (i := 39) (by decide +kernel)) rfl
theorem zv_191 : Cond.methodLink "EvenBodiesLaw" 113 yX8_within ∈ zg_tbl := zq6 _ (List.mem_of_getElem? (i := 36) (by decide +kernel)) rfl
theorem zv_192 : Cond.instanceMethod yX8_within ∈ zg_tbl := zq6 _ (List.mem_of_getElem? (i := 37) (by decide +kernel)) rfl
theorem zv_193 : Cond.selects RX8 yX8_within yX8_within ∈ zg_tbl := zq6 _ (List.mem_of_getElem? (i := 38) (by decide +kernel)) rfl
theorem zv_194 : Cond.code yX7_count cX7_count 4 (some .int) ∈ zg_tbl := zq3 _ (List.mem_of_getElem? (i := 34) (by decide +kernel)) rfl
theorem zv_195 : Cond.methodLink "EvenBodiesLaw" 114 yX7_count ∈ zg_tbl := zq3 _ (List.mem_of_getElem? (i := 31) (by decide +kernel)) rfl
theorem zv_196 : Cond.instanceMethod yX7_count ∈ zg_tbl := zq3 _ (List.mem_of_getElem? (i := 32) (by decide +kernel)) rfl
theorem zv_197 : Cond.selects RX7 yX7_count yX7_count ∈ zg_tbl := zq3 _ (List.mem_of_getElem? (i := 33) (by decide +kernel)) rfl
theorem zv_198 : Cond.code yX8_count cX8_count 3 (some .int) ∈ zg_tbl := zq6 _ (List.mem_of_getElem? (i := 43) (by decide +kernel)) rfl
theorem zv_199 : Cond.methodLink "EvenBodiesLaw" 117 yX8_count ∈ zg_tbl := zq6 _ (List.mem_of_getElem? (i := 40) (by decide +kernel)) rfl
theorem zv_200 : Cond.instanceMethod yX8_count ∈ zg_tbl := zq6 _ (List.mem_of_getElem? (i := 41) (by decide +kernel)) rfl
theorem zv_201 : Cond.selects RX8 yX8_count yX8_count ∈ zg_tbl := zq6 _ (List.mem_of_getElem? (i := 42) (by decide +kernel)) rfl
theorem zv_202 : Cond.code yX7_law cX7_law 3 (some .int) ∈ zg_tbl := zq3 _ (List.mem_of_getElem? (i := 46) (by decide +kernel)) rfl
theorem zv_203 : Cond.methodLink "EvenBodiesLaw" 118 yX7_law ∈ zg_tbl := zq3 _ (List.mem_of_getElem? (i := 43) (by decide +kernel)) rfl
theorem zv_204 : Cond.instanceMethod yX7_law ∈ zg_tbl := zq3 _ (List.mem_of_getElem? (i := 44) (by decide +kernel)) rfl
theorem zv_205 : Cond.selects RX7 yX7_law yX7_law ∈ zg_tbl := zq3 _ (List.mem_of_getElem? (i := 45) (by decide +kernel)) rfl
theorem zv_206 : Cond.code yX8_law cX8_law 5 (some .int) ∈ zg_tbl := zq6 _ (List.mem_of_getElem? (i := 51) (by decide +kernel)) rfl
theorem zv_207 : Cond.methodLink "EvenBodiesLaw" 121 yX8_law ∈ zg_tbl := zq6 _ (List.mem_of_getElem? (i := 48) (by decide +kernel)) rfl
theorem zv_208 : Cond.instanceMethod yX8_law ∈ zg_tbl := zq6 _ (List.mem_of_getElem? (i := 49) (by decide +kernel)) rfl
theorem zv_209 : Cond.selects RX8 yX8_law yX8_law ∈ zg_tbl := zq6 _ (List.mem_of_getElem? (i := 50) (by decide +kernel)) rfl
theorem zv_210 : Cond.code yX7_moves cX7_moves 5 (some .int) ∈ zg_tbl := zq3 _ (List.mem_of_getElem? (i := 55) (by decide +kernel)) rfl
theorem zv_211 : Cond.methodLink "EvenBodiesLaw" 122 yX7_moves ∈ zg_tbl := zq3 _ (List.mem_of_getElem? (i := 52) (by decide +kernel)) rfl
theorem zv_212 : Cond.instanceMethod yX7_moves ∈ zg_tbl := zq3 _ (List.mem_of_getElem? (i := 53) (by decide +kernel)) rfl
theorem zv_213 : Cond.selects RX7 yX7_moves yX7_moves ∈ zg_tbl := zq3 _ (List.mem_of_getElem? (i := 54) (by decide +kernel)) rfl
theorem zv_214 : Cond.code yX8_moves cX8_moves 6 (some .int) ∈ zg_tbl := zq6 _ (List.mem_of_getElem? (i := 55) (by decide +kernel)) rfl
theorem zv_215 : Cond.methodLink "EvenBodiesLaw" 125 yX8_moves ∈ zg_tbl := zq6 _ (List.mem_of_getElem? (i := 52) (by decide +kernel)) rfl
theorem zv_216 : Cond.instanceMethod yX8_moves ∈ zg_tbl := zq6 _ (List.mem_of_getElem? (i := 53) (by decide +kernel)) rfl
theorem zv_217 : Cond.selects RX8 yX8_moves yX8_moves ∈ zg_tbl := zq6 _ (List.mem_of_getElem? (i := 54) (by decide +kernel)) rfl
theorem zv_218 : Cond.code yX7_degree cX7_degree 4 (some .int) ∈ zg_tbl := zq3 _ (List.mem_of_getElem? (i := 138) (by decide +kernel)) rfl
theorem zv_219 : Cond.methodLink "EvenBodiesLaw" 126 yX7_degree ∈ zg_tbl := zq3 _ (List.mem_of_getElem? (i := 135) (by decide +kernel)) rfl
theorem zv_220 : Cond.instanceMethod yX7_degree ∈ zg_tbl := zq3 _ (List.mem_of_getElem? (i := 136) (by decide +kernel)) rfl
theorem zv_221 : Cond.selects RX7 yX7_degree yX7_degree ∈ zg_tbl := zq3 _ (List.mem_of_getElem? (i := 137) (by decide +kernel)) rfl
theorem zv_222 : Cond.code yX8_degree cX8_degree 4 (some .int) ∈ zg_tbl := zq6 _ (List.mem_of_getElem? (i := 59) (by decide +kernel)) rfl
theorem zv_223 : Cond.methodLink "EvenBodiesLaw" 129 yX8_degree ∈ zg_tbl := zq6 _ (List.mem_of_getElem? (i := 56) (by decide +kernel)) rfl
theorem zv_224 : Cond.instanceMethod yX8_degree ∈ zg_tbl := zq6 _ (List.mem_of_getElem? (i := 57) (by decide +kernel)) rfl
theorem zv_225 : Cond.selects RX8 yX8_degree yX8_degree ∈ zg_tbl := zq6 _ (List.mem_of_getElem? (i := 58) (by decide +kernel)) rfl
theorem zv_226 : Cond.code yX7_far cX7_far 5 (some .int) ∈ zg_tbl := zq3 _ (List.mem_of_getElem? (i := 142) (by decide +kernel)) rfl
theorem zv_227 : Cond.methodLink "EvenBodiesLaw" 130 yX7_far ∈ zg_tbl := zq3 _ (List.mem_of_getElem? (i := 139) (by decide +kernel)) rfl
theorem zv_228 : Cond.instanceMethod yX7_far ∈ zg_tbl := zq3 _ (List.mem_of_getElem? (i := 140) (by decide +kernel)) rfl
theorem zv_229 : Cond.selects RX7 yX7_far yX7_far ∈ zg_tbl := zq3 _ (List.mem_of_getElem? (i := 141) (by decide +kernel)) rfl
theorem zv_230 : Cond.code yX8_far cX8_far 5 (some .int) ∈ zg_tbl := zq6 _ (List.mem_of_getElem? (i := 71) (by decide +kernel)) rfl
theorem zv_231 : Cond.methodLink "EvenBodiesLaw" 133 yX8_far ∈ zg_tbl := zq6 _ (List.mem_of_getElem? (i := 68) (by decide +kernel)) rfl
theorem zv_232 : Cond.instanceMethod yX8_far ∈ zg_tbl := zq6 _ (List.mem_of_getElem? (i := 69) (by decide +kernel)) rfl
theorem zv_233 : Cond.selects RX8 yX8_far yX8_far ∈ zg_tbl := zq6 _ (List.mem_of_getElem? (i := 70) (by decide +kernel)) rfl
theorem zv_234 : Cond.code yX7_layer cX7_layer 4 (some .int) ∈ zg_tbl := zq3 _ (List.mem_of_getElem? (i := 151) (by decide +kernel)) rfl
theorem zv_235 : Cond.methodLink "EvenBodiesLaw" 134 yX7_layer ∈ zg_tbl := zq3 _ (List.mem_of_getElem? (i := 148) (by decide +kernel)) rfl
theorem zv_236 : Cond.instanceMethod yX7_layer ∈ zg_tbl := zq3 _ (List.mem_of_getElem? (i := 149) (by decide +kernel)) rfl
theorem zv_237 : Cond.selects RX7 yX7_layer yX7_layer ∈ zg_tbl := zq3 _ (List.mem_of_getElem? (i := 150) (by decide +kernel)) rfl
theorem zv_238 : Cond.code yX8_layer cX8_layer 6 (some .int) ∈ zg_tbl := zq6 _ (List.mem_of_getElem? (i := 79) (by decide +kernel)) rfl
theorem zv_239 : Cond.methodLink "EvenBodiesLaw" 137 yX8_layer ∈ zg_tbl := zq6 _ (List.mem_of_getElem? (i := 76) (by decide +kernel)) rfl
theorem zv_240 : Cond.instanceMethod yX8_layer ∈ zg_tbl := zq6 _ (List.mem_of_getElem? (i := 77) (by decide +kernel)) rfl
theorem zv_241 : Cond.selects RX8 yX8_layer yX8_layer ∈ zg_tbl := zq6 _ (List.mem_of_getElem? (i := 78) (by decide +kernel)) rfl
theorem zv_242 : Cond.code yX7_ways cX7_ways 6 (some .long) ∈ zg_tbl := zq3 _ (List.mem_of_getElem? (i := 159) (by decide +kernel)) rfl
theorem zv_243 : Cond.methodLink "EvenBodiesLaw" 138 yX7_ways ∈ zg_tbl := zq3 _ (List.mem_of_getElem? (i := 156) (by decide +kernel)) rfl
theorem zv_244 : Cond.instanceMethod yX7_ways ∈ zg_tbl := zq3 _ (List.mem_of_getElem? (i := 157) (by decide +kernel)) rfl
theorem zv_245 : Cond.selects RX7 yX7_ways yX7_ways ∈ zg_tbl := zq3 _ (List.mem_of_getElem? (i := 158) (by decide +kernel)) rfl
theorem zv_246 : Cond.code yX8_ways cX8_ways 9 (some .long) ∈ zg_tbl := zq6 _ (List.mem_of_getElem? (i := 83) (by decide +kernel)) rfl
theorem zv_247 : Cond.methodLink "EvenBodiesLaw" 142 yX8_ways ∈ zg_tbl := zq6 _ (List.mem_of_getElem? (i := 80) (by decide +kernel)) rfl
theorem zv_248 : Cond.instanceMethod yX8_ways ∈ zg_tbl := zq6 _ (List.mem_of_getElem? (i := 81) (by decide +kernel)) rfl
theorem zv_249 : Cond.selects RX8 yX8_ways yX8_ways ∈ zg_tbl := zq6 _ (List.mem_of_getElem? (i := 82) (by decide +kernel)) rfl
theorem zv_250 : Cond.code yX7_coloured cX7_coloured 3 (some .int) ∈ zg_tbl := zq3 _ (List.mem_of_getElem? (i := 172) (by decide +kernel)) rfl
theorem zv_251 : Cond.methodLink "EvenBodiesLaw" 143 yX7_coloured ∈ zg_tbl := zq3 _ (List.mem_of_getElem? (i := 169) (by decide +kernel)) rfl
theorem zv_252 : Cond.instanceMethod yX7_coloured ∈ zg_tbl := zq3 _ (List.mem_of_getElem? (i := 170) (by decide +kernel)) rfl
theorem zv_253 : Cond.selects RX7 yX7_coloured yX7_coloured ∈ zg_tbl := zq3 _ (List.mem_of_getElem? (i := 171) (by decide +kernel)) rfl
theorem zv_254 : Cond.code yX8_coloured cX8_coloured 6 (some .int) ∈ zg_tbl := zq6 _ (List.mem_of_getElem? (i := 88) (by decide +kernel)) rfl
theorem zv_255 : Cond.methodLink "EvenBodiesLaw" 146 yX8_coloured ∈ zg_tbl := zq6 _ (List.mem_of_getElem? (i := 85) (by decide +kernel)) rfl
theorem zv_256 : Cond.instanceMethod yX8_coloured ∈ zg_tbl := zq6 _ (List.mem_of_getElem? (i := 86) (by decide +kernel)) rfl
theorem zv_257 : Cond.selects RX8 yX8_coloured yX8_coloured ∈ zg_tbl := zq6 _ (List.mem_of_getElem? (i := 87) (by decide +kernel)) rfl
theorem zv_258 : Cond.code yX7_round cX7_round 5 (some .int) ∈ zg_tbl := zq3 _ (List.mem_of_getElem? (i := 180) (by decide +kernel)) rfl
theorem zv_259 : Cond.methodLink "EvenBodiesLaw" 147 yX7_round ∈ zg_tbl := zq3 _ (List.mem_of_getElem? (i := 177) (by decide +kernel)) rfl
theorem zv_260 : Cond.instanceMethod yX7_round ∈ zg_tbl := zq3 _ (List.mem_of_getElem? (i := 178) (by decide +kernel)) rfl
theorem zv_261 : Cond.selects RX7 yX7_round yX7_round ∈ zg_tbl := zq3 _ (List.mem_of_getElem? (i := 179) (by decide +kernel)) rfl
theorem zv_262 : Cond.code yX8_round cX8_round 4 (some .int) ∈ zg_tbl := zq6 _ (List.mem_of_getElem? (i := 92) (by decide +kernel)) rfl
theorem zv_263 : Cond.methodLink "EvenBodiesLaw" 150 yX8_round ∈ zg_tbl := zq6 _ (List.mem_of_getElem? (i := 89) (by decide +kernel)) rfl
theorem zv_264 : Cond.instanceMethod yX8_round ∈ zg_tbl := zq6 _ (List.mem_of_getElem? (i := 90) (by decide +kernel)) rfl
theorem zv_265 : Cond.selects RX8 yX8_round yX8_round ∈ zg_tbl := zq6 _ (List.mem_of_getElem? (i := 91) (by decide +kernel)) rfl
theorem zv_266 : Cond.code yX7_alike cX7_alike 3 (some .int) ∈ zg_tbl := zq4 _ (List.mem_of_getElem? (i := 62) (by decide +kernel)) rfl
theorem zv_267 : Cond.methodLink "EvenBodiesLaw" 151 yX7_alike ∈ zg_tbl := zq4 _ (List.mem_of_getElem? (i := 59) (by decide +kernel)) rfl
theorem zv_268 : Cond.instanceMethod yX7_alike ∈ zg_tbl := zq4 _ (List.mem_of_getElem? (i := 60) (by decide +kernel)) rfl
theorem zv_269 : Cond.selects RX7 yX7_alike yX7_alike ∈ zg_tbl := zq4 _ (List.mem_of_getElem? (i := 61) (by decide +kernel)) rfl
theorem zv_270 : Cond.code yX8_alike cX8_alike 3 (some .int) ∈ zg_tbl := zq6 _ (List.mem_of_getElem? (i := 128) (by decide +kernel)) rfl
theorem zv_271 : Cond.methodLink "EvenBodiesLaw" 154 yX8_alike ∈ zg_tbl := zq6 _ (List.mem_of_getElem? (i := 125) (by decide +kernel)) rfl
theorem zv_272 : Cond.instanceMethod yX8_alike ∈ zg_tbl := zq6 _ (List.mem_of_getElem? (i := 126) (by decide +kernel)) rfl
theorem zv_273 : Cond.selects RX8 yX8_alike yX8_alike ∈ zg_tbl := zq6 _ (List.mem_of_getElem? (i := 127) (by decide +kernel)) rfl
theorem zv_274 : Cond.code yX7_unlike cX7_unlike 3 (some .int) ∈ zg_tbl := zq4 _ (List.mem_of_getElem? (i := 70) (by decide +kernel)) rfl
theorem zv_275 : Cond.methodLink "EvenBodiesLaw" 155 yX7_unlike ∈ zg_tbl := zq4 _ (List.mem_of_getElem? (i := 67) (by decide +kernel)) rfl
theorem zv_276 : Cond.instanceMethod yX7_unlike ∈ zg_tbl := zq4 _ (List.mem_of_getElem? (i := 68) (by decide +kernel)) rfl
theorem zv_277 : Cond.selects RX7 yX7_unlike yX7_unlike ∈ zg_tbl := zq4 _ (List.mem_of_getElem? (i := 69) (by decide +kernel)) rfl
theorem zv_278 : Cond.code yX8_unlike cX8_unlike 8 (some .int) ∈ zg_tbl := zq6 _ (List.mem_of_getElem? (i := 140) (by decide +kernel)) rfl
theorem zv_279 : Cond.methodLink "EvenBodiesLaw" 158 yX8_unlike ∈ zg_tbl := zq6 _ (List.mem_of_getElem? (i := 137) (by decide +kernel)) rfl
theorem zv_280 : Cond.instanceMethod yX8_unlike ∈ zg_tbl := zq6 _ (List.mem_of_getElem? (i := 138) (by decide +kernel)) rfl
theorem zv_281 : Cond.selects RX8 yX8_unlike yX8_unlike ∈ zg_tbl := zq6 _ (List.mem_of_getElem? (i := 139) (by decide +kernel)) rfl
theorem zv_282 : Cond.code yX7_snub cX7_snub 4 (some .int) ∈ zg_tbl := zq4 _ (List.mem_of_getElem? (i := 78) (by decide +kernel)) rfl
theorem zv_283 : Cond.methodLink "EvenBodiesLaw" 159 yX7_snub ∈ zg_tbl := zq4 _ (List.mem_of_getElem? (i := 75) (by decide +kernel)) rfl
theorem zv_284 : Cond.instanceMethod yX7_snub ∈ zg_tbl := zq4 _ (List.mem_of_getElem? (i := 76) (by decide +kernel)) rfl
theorem zv_285 : Cond.selects RX7 yX7_snub yX7_snub ∈ zg_tbl := zq4 _ (List.mem_of_getElem? (i := 77) (by decide +kernel)) rfl
theorem zv_286 : Cond.code yX8_snub cX8_snub 5 (some .int) ∈ zg_tbl := zq6 _ (List.mem_of_getElem? (i := 144) (by decide +kernel)) rfl
theorem zv_287 : Cond.methodLink "EvenBodiesLaw" 162 yX8_snub ∈ zg_tbl := zq6 _ (List.mem_of_getElem? (i := 141) (by decide +kernel)) rfl
theorem zv_288 : Cond.instanceMethod yX8_snub ∈ zg_tbl := zq6 _ (List.mem_of_getElem? (i := 142) (by decide +kernel)) rfl
theorem zv_289 : Cond.selects RX8 yX8_snub yX8_snub ∈ zg_tbl := zq6 _ (List.mem_of_getElem? (i := 143) (by decide +kernel)) rfl
theorem zv_290 : Cond.code yX7_snubLaw cX7_snubLaw 4 (some .int) ∈ zg_tbl := zq4 _ (List.mem_of_getElem? (i := 143) (by decide +kernel)) rfl
theorem zv_291 : Cond.methodLink "EvenBodiesLaw" 163 yX7_snubLaw ∈ zg_tbl := zq4 _ (List.mem_of_getElem? (i := 140) (by decide +kernel)) rfl
theorem zv_292 : Cond.instanceMethod yX7_snubLaw ∈ zg_tbl := zq4 _ (List.mem_of_getElem? (i := 141) (by decide +kernel)) rfl
theorem zv_293 : Cond.selects RX7 yX7_snubLaw yX7_snubLaw ∈ zg_tbl := zq4 _ (List.mem_of_getElem? (i := 142) (by decide +kernel)) rfl
theorem zv_294 : Cond.code yX8_snubLaw cX8_snubLaw 4 (some .int) ∈ zg_tbl := zq6 _ (List.mem_of_getElem? (i := 160) (by decide +kernel)) rfl
theorem zv_295 : Cond.methodLink "EvenBodiesLaw" 166 yX8_snubLaw ∈ zg_tbl := zq6 _ (List.mem_of_getElem? (i := 157) (by decide +kernel)) rfl
theorem zv_296 : Cond.instanceMethod yX8_snubLaw ∈ zg_tbl := zq6 _ (List.mem_of_getElem? (i := 158) (by decide +kernel)) rfl
theorem zv_297 : Cond.selects RX8 yX8_snubLaw yX8_snubLaw ∈ zg_tbl := zq6 _ (List.mem_of_getElem? (i := 159) (by decide +kernel)) rfl
theorem zv_298 : Cond.code yX7_snubDegree cX7_snubDegree 4 (some .int) ∈ zg_tbl := zq4 _ (List.mem_of_getElem? (i := 147) (by decide +kernel)) rfl
theorem zv_299 : Cond.methodLink "EvenBodiesLaw" 167 yX7_snubDegree ∈ zg_tbl := zq4 _ (List.mem_of_getElem? (i := 144) (by decide +kernel)) rfl
theorem zv_300 : Cond.instanceMethod yX7_snubDegree ∈ zg_tbl := zq4 _ (List.mem_of_getElem? (i := 145) (by decide +kernel)) rfl
theorem zv_301 : Cond.selects RX7 yX7_snubDegree yX7_snubDegree ∈ zg_tbl := zq4 _ (List.mem_of_getElem? (i := 146) (by decide +kernel)) rfl
theorem zv_302 : Cond.code yX8_snubDegree cX8_snubDegree 5 (some .int) ∈ zg_tbl := zq6 _ (List.mem_of_getElem? (i := 164) (by decide +kernel)) rfl
theorem zv_303 : Cond.methodLink "EvenBodiesLaw" 170 yX8_snubDegree ∈ zg_tbl := zq6 _ (List.mem_of_getElem? (i := 161) (by decide +kernel)) rfl
theorem zv_304 : Cond.instanceMethod yX8_snubDegree ∈ zg_tbl := zq6 _ (List.mem_of_getElem? (i := 162) (by decide +kernel)) rfl
theorem zv_305 : Cond.selects RX8 yX8_snubDegree yX8_snubDegree ∈ zg_tbl := zq6 _ (List.mem_of_getElem? (i := 163) (by decide +kernel)) rfl
theorem zv_306 : Cond.code yX7_snubFar cX7_snubFar 5 (some .int) ∈ zg_tbl := zq4 _ (List.mem_of_getElem? (i := 155) (by decide +kernel)) rfl
theorem zv_307 : Cond.methodLink "EvenBodiesLaw" 171 yX7_snubFar ∈ zg_tbl := zq4 _ (List.mem_of_getElem? (i := 152) (by decide +kernel)) rfl
theorem zv_308 : Cond.instanceMethod yX7_snubFar ∈ zg_tbl := zq4 _ (List.mem_of_getElem? (i := 153) (by decide +kernel)) rfl
theorem zv_309 : Cond.selects RX7 yX7_snubFar yX7_snubFar ∈ zg_tbl := zq4 _ (List.mem_of_getElem? (i := 154) (by decide +kernel)) rfl
theorem zv_310 : Cond.code yX8_snubFar cX8_snubFar 6 (some .int) ∈ zg_tbl := zq6 _ (List.mem_of_getElem? (i := 168) (by decide +kernel)) rfl
theorem zv_311 : Cond.methodLink "EvenBodiesLaw" 174 yX8_snubFar ∈ zg_tbl := zq6 _ (List.mem_of_getElem? (i := 165) (by decide +kernel)) rfl
theorem zv_312 : Cond.instanceMethod yX8_snubFar ∈ zg_tbl := zq6 _ (List.mem_of_getElem? (i := 166) (by decide +kernel)) rfl
theorem zv_313 : Cond.selects RX8 yX8_snubFar yX8_snubFar ∈ zg_tbl := zq6 _ (List.mem_of_getElem? (i := 167) (by decide +kernel)) rfl
theorem zv_314 : Cond.code yX7_snubFaces cX7_snubFaces 4 (some .int) ∈ zg_tbl := zq4 _ (List.mem_of_getElem? (i := 165) (by decide +kernel)) rfl
theorem zv_315 : Cond.methodLink "EvenBodiesLaw" 175 yX7_snubFaces ∈ zg_tbl := zq4 _ (List.mem_of_getElem? (i := 162) (by decide +kernel)) rfl
theorem zv_316 : Cond.instanceMethod yX7_snubFaces ∈ zg_tbl := zq4 _ (List.mem_of_getElem? (i := 163) (by decide +kernel)) rfl
theorem zv_317 : Cond.selects RX7 yX7_snubFaces yX7_snubFaces ∈ zg_tbl := zq4 _ (List.mem_of_getElem? (i := 164) (by decide +kernel)) rfl
theorem zv_318 : Cond.code yX8_snubFaces cX8_snubFaces 4 (some .int) ∈ zg_tbl := zq6 _ (List.mem_of_getElem? (i := 172) (by decide +kernel)) rfl
theorem zv_319 : Cond.methodLink "EvenBodiesLaw" 178 yX8_snubFaces ∈ zg_tbl := zq6 _ (List.mem_of_getElem? (i := 169) (by decide +kernel)) rfl
theorem zv_320 : Cond.instanceMethod yX8_snubFaces ∈ zg_tbl := zq6 _ (List.mem_of_getElem? (i := 170) (by decide +kernel)) rfl
theorem zv_321 : Cond.selects RX8 yX8_snubFaces yX8_snubFaces ∈ zg_tbl := zq6 _ (List.mem_of_getElem? (i := 171) (by decide +kernel)) rfl
theorem zv_322 : Cond.code yX7_dual cX7_dual 5 (some .int) ∈ zg_tbl := zq4 _ (List.mem_of_getElem? (i := 170) (by decide +kernel)) rfl
theorem zv_323 : Cond.methodLink "EvenBodiesLaw" 179 yX7_dual ∈ zg_tbl := zq4 _ (List.mem_of_getElem? (i := 167) (by decide +kernel)) rfl
theorem zv_324 : Cond.instanceMethod yX7_dual ∈ zg_tbl := zq4 _ (List.mem_of_getElem? (i := 168) (by decide +kernel)) rfl
theorem zv_325 : Cond.selects RX7 yX7_dual yX7_dual ∈ zg_tbl := zq4 _ (List.mem_of_getElem? (i := 169) (by decide +kernel)) rfl
theorem zv_326 : Cond.code yX8_dual cX8_dual 5 (some .int) ∈ zg_tbl := zq6 _ (List.mem_of_getElem? (i := 176) (by decide +kernel)) rfl
theorem zv_327 : Cond.methodLink "EvenBodiesLaw" 182 yX8_dual ∈ zg_tbl := zq6 _ (List.mem_of_getElem? (i := 173) (by decide +kernel)) rfl
theorem zv_328 : Cond.instanceMethod yX8_dual ∈ zg_tbl := zq6 _ (List.mem_of_getElem? (i := 174) (by decide +kernel)) rfl
theorem zv_329 : Cond.selects RX8 yX8_dual yX8_dual ∈ zg_tbl := zq6 _ (List.mem_of_getElem? (i := 175) (by decide +kernel)) rfl
theorem zv_330 : Cond.code yX7_dualDegree cX7_dualDegree 4 (some .int) ∈ zg_tbl := zq4 _ (List.mem_of_getElem? (i := 184) (by decide +kernel)) rfl
theorem zv_331 : Cond.methodLink "EvenBodiesLaw" 183 yX7_dualDegree ∈ zg_tbl := zq4 _ (List.mem_of_getElem? (i := 181) (by decide +kernel)) rfl
theorem zv_332 : Cond.instanceMethod yX7_dualDegree ∈ zg_tbl := zq4 _ (List.mem_of_getElem? (i := 182) (by decide +kernel)) rfl
theorem zv_333 : Cond.selects RX7 yX7_dualDegree yX7_dualDegree ∈ zg_tbl := zq4 _ (List.mem_of_getElem? (i := 183) (by decide +kernel)) rfl
theorem zv_334 : Cond.code yX8_dualDegree cX8_dualDegree 7 (some .int) ∈ zg_tbl := zq6 _ (List.mem_of_getElem? (i := 184) (by decide +kernel)) rfl
theorem zv_335 : Cond.methodLink "EvenBodiesLaw" 186 yX8_dualDegree ∈ zg_tbl := zq6 _ (List.mem_of_getElem? (i := 181) (by decide +kernel)) rfl
theorem zv_336 : Cond.instanceMethod yX8_dualDegree ∈ zg_tbl := zq6 _ (List.mem_of_getElem? (i := 182) (by decide +kernel)) rfl
theorem zv_337 : Cond.selects RX8 yX8_dualDegree yX8_dualDegree ∈ zg_tbl := zq6 _ (List.mem_of_getElem? (i := 183) (by decide +kernel)) rfl
theorem zv_338 : Cond.code yX7_dualFar cX7_dualFar 3 (some .int) ∈ zg_tbl := zq4 _ (List.mem_of_getElem? (i := 192) (by decide +kernel)) rfl
theorem zv_339 : Cond.methodLink "EvenBodiesLaw" 187 yX7_dualFar ∈ zg_tbl := zq4 _ (List.mem_of_getElem? (i := 189) (by decide +kernel)) rfl
theorem zv_340 : Cond.instanceMethod yX7_dualFar ∈ zg_tbl := zq4 _ (List.mem_of_getElem? (i := 190) (by decide +kernel)) rfl
theorem zv_341 : Cond.selects RX7 yX7_dualFar yX7_dualFar ∈ zg_tbl := zq4 _ (List.mem_of_getElem? (i := 191) (by decide +kernel)) rfl
theorem zv_342 : Cond.code yX8_dualFar cX8_dualFar 7 (some .int) ∈ zg_tbl := zq6 _ (List.mem_of_getElem? (i := 188) (by decide +kernel)) rfl
theorem zv_343 : Cond.methodLink "EvenBodiesLaw" 190 yX8_dualFar ∈ zg_tbl := zq6 _ (List.mem_of_getElem? (i := 185) (by decide +kernel)) rfl
theorem zv_344 : Cond.instanceMethod yX8_dualFar ∈ zg_tbl := zq6 _ (List.mem_of_getElem? (i := 186) (by decide +kernel)) rfl
theorem zv_345 : Cond.selects RX8 yX8_dualFar yX8_dualFar ∈ zg_tbl := zq6 _ (List.mem_of_getElem? (i := 187) (by decide +kernel)) rfl
theorem zv_346 : Cond.code yX7_digest cX7_digest 7 (some .long) ∈ zg_tbl := zq4 _ (List.mem_of_getElem? (i := 211) (by decide +kernel)) rfl
theorem zv_347 : Cond.methodLink "EvenBodiesLaw" 191 yX7_digest ∈ zg_tbl := zq4 _ (List.mem_of_getElem? (i := 208) (by decide +kernel)) rfl
theorem zv_348 : Cond.instanceMethod yX7_digest ∈ zg_tbl := zq4 _ (List.mem_of_getElem? (i := 209) (by decide +kernel)) rfl
theorem zv_349 : Cond.selects RX7 yX7_digest yX7_digest ∈ zg_tbl := zq4 _ (List.mem_of_getElem? (i := 210) (by decide +kernel)) rfl
theorem zv_350 : Cond.code yX8_digest cX8_digest 6 (some .long) ∈ zg_tbl := zq6 _ (List.mem_of_getElem? (i := 192) (by decide +kernel)) rfl
theorem zv_351 : Cond.methodLink "EvenBodiesLaw" 195 yX8_digest ∈ zg_tbl := zq6 _ (List.mem_of_getElem? (i := 189) (by decide +kernel)) rfl
theorem zv_352 : Cond.instanceMethod yX8_digest ∈ zg_tbl := zq6 _ (List.mem_of_getElem? (i := 190) (by decide +kernel)) rfl
theorem zv_353 : Cond.selects RX8 yX8_digest yX8_digest ∈ zg_tbl := zq6 _ (List.mem_of_getElem? (i := 191) (by decide +kernel)) rfl
theorem zv_354 : Cond.code yX7_init cX7_init 2 none ∈ zg_tbl := zq1 _ (List.mem_of_getElem? (i := 19) (by decide +kernel)) rfl
theorem zv_355 : Cond.methodLink "EvenBodiesLaw" 9 yX7_init ∈ zg_tbl := zq1 _ (List.mem_of_getElem? (i := 17) (by decide +kernel)) rfl
theorem zv_356 : Cond.instanceMethod yX7_init ∈ zg_tbl := zq1 _ (List.mem_of_getElem? (i := 18) (by decide +kernel)) rfl
theorem zv_357 : Cond.code yX8_init cX8_init 2 none ∈ zg_tbl := zq4 _ (List.mem_of_getElem? (i := 219) (by decide +kernel)) rfl
theorem zv_358 : Cond.methodLink "EvenBodiesLaw" 12 yX8_init ∈ zg_tbl := zq4 _ (List.mem_of_getElem? (i := 217) (by decide +kernel)) rfl
theorem zv_359 : Cond.instanceMethod yX8_init ∈ zg_tbl := zq4 _ (List.mem_of_getElem? (i := 218) (by decide +kernel)) rfl
theorem zx_body : zL_meth 19 2 5 13 := ⟨RX7, TX7, 4, 3, yX7_body, cX7_body, (some .int), _, _, rfl, zv_0, by decide, rfl, zv_1, zv_2, zv_3, zv_4, by decide +kernel⟩
theorem zy_body : zL_meth 136 2 6 17 := ⟨RX8, TX8, 35, 3, yX8_body, cX8_body, (some .int), _, _, rfl, zv_5, by decide, rfl, zv_6, zv_7, zv_8, zv_9, by decide +kernel⟩
theorem zd_body : zL_decI 224 2 13 17 1556 := ⟨by decide +kernel, zL_b2 ⟨by decide +kernel, by decide +kernel, by decide +kernel, by decide +kernel, by decide +kernel⟩ ⟨by decide +kernel, by decide +kernel, by decide +kernel, by decide +kernel, by decide +kernel⟩, by decide +kernel, by decide +kernel, zL_b2 ⟨by decide +kernel, by decide +kernel, by decide +kernel, by decide +kernel, by decide +kernel⟩ ⟨by decide +kernel, by decide +kernel, by decide +kernel, by decide +kernel, by decide +kernel⟩, by decide +kernel, by decide +kernel, by decide⟩
theorem zx_angle : zL_meth 18 4 5 18 := ⟨RX7, TX7, 4, 6, yX7_angle, cX7_angle, (some .int), _, _, rfl, zv_10, by decide, rfl, zv_11, zv_12, zv_13, zv_4, by decide +kernel⟩
theorem zy_angle : zL_meth 135 4 6 22 := ⟨RX8, TX8, 35, 6, yX8_angle, cX8_angle, (some .int), _, _, rfl, zv_14, by decide, rfl, zv_15, zv_16, zv_17, zv_9, by decide +kernel⟩
theorem zd_angle : zL_decI 257 4 18 22 1503 := ⟨by decide +kernel, zL_b4 ⟨by decide +kernel, by decide +kernel, by decide +kernel, by decide +kernel, by decide +kernel⟩ ⟨by decide +kernel, by decide +kernel, by decide +kernel, by decide +kernel, by decide +kernel⟩ ⟨by decide +kernel, by decide +kernel, by decide +kernel, by decide +kernel, by decide +kernel⟩ ⟨by decide +kernel, by decide +kernel, by decide +kernel, by decide +kernel, by decide +kernel⟩, by decide +kernel, by decide +kernel, zL_b4 ⟨by decide +kernel, by decide +kernel, by decide +kernel, by decide +kernel, by decide +kernel⟩ ⟨by decide +kernel, by decide +kernel, by decide +kernel, by decide +kernel, by decide +kernel⟩ ⟨by decide +kernel, by decide +kernel, by decide +kernel, by decide +kernel, by decide +kernel⟩ ⟨by decide +kernel, by decide +kernel, by decide +kernel, by decide +kernel, by decide +kernel⟩, by decide +kernel, by decide +kernel, by decide⟩
theorem zx_ring : zL_meth 104 2 5 23 := ⟨RX7, TX7, 4, 3, yX7_ring, cX7_ring, (some .int), _, _, rfl, zv_18, by decide, rfl, zv_19, zv_20, zv_21, zv_4, by decide +kernel⟩
theorem zy_ring : zL_meth 180 2 6 26 := ⟨RX8, TX8, 35, 4, yX8_ring, cX8_ring, (some .int), _, _, rfl, zv_22, by decide, rfl, zv_23, zv_24, zv_25, zv_9, by decide +kernel⟩
theorem zd_ring : zL_decI 310 2 23 26 1470 := ⟨by decide +kernel, zL_b2 ⟨by decide +kernel, by decide +kernel, by decide +kernel, by decide +kernel, by decide +kernel⟩ ⟨by decide +kernel, by decide +kernel, by decide +kernel, by decide +kernel, by decide +kernel⟩, by decide +kernel, by decide +kernel, zL_b2 ⟨by decide +kernel, by decide +kernel, by decide +kernel, by decide +kernel, by decide +kernel⟩ ⟨by decide +kernel, by decide +kernel, by decide +kernel, by decide +kernel, by decide +kernel⟩, by decide +kernel, by decide +kernel, by decide⟩
theorem zx_order : zL_meth 98 3 5 27 := ⟨RX7, TX7, 4, 4, yX7_order, cX7_order, (some .int), _, _, rfl, zv_26, by decide, rfl, zv_27, zv_28, zv_29, zv_4, by decide +kernel⟩
theorem zy_order : zL_meth 176 3 6 31 := ⟨RX8, TX8, 35, 9, yX8_order, cX8_order, (some .int), _, _, rfl, zv_30, by decide, rfl, zv_31, zv_32, zv_33, zv_9, by decide +kernel⟩
theorem zd_order : zL_decI 343 3 27 31 1427 := ⟨by decide +kernel, zL_b3 ⟨by decide +kernel, by decide +kernel, by decide +kernel, by decide +kernel, by decide +kernel⟩ ⟨by decide +kernel, by decide +kernel, by decide +kernel, by decide +kernel, by decide +kernel⟩ ⟨by decide +kernel, by decide +kernel, by decide +kernel, by decide +kernel, by decide +kernel⟩, by decide +kernel, by decide +kernel, zL_b3 ⟨by decide +kernel, by decide +kernel, by decide +kernel, by decide +kernel, by decide +kernel⟩ ⟨by decide +kernel, by decide +kernel, by decide +kernel, by decide +kernel, by decide +kernel⟩ ⟨by decide +kernel, by decide +kernel, by decide +kernel, by decide +kernel, by decide +kernel⟩, by decide +kernel, by decide +kernel, by decide⟩
theorem zx_about : zL_meth 8 3 5 32 := ⟨RX7, TX7, 4, 4, yX7_about, cX7_about, (some .int), _, _, rfl, zv_34, by decide, rfl, zv_35, zv_36, zv_37, zv_4, by decide +kernel⟩
theorem zy_about : zL_meth 125 3 6 35 := ⟨RX8, TX8, 35, 4, yX8_about, cX8_about, (some .int), _, _, rfl, zv_38, by decide, rfl, zv_39, zv_40, zv_41, zv_9, by decide +kernel⟩
theorem zd_about : zL_decI 386 3 32 35 1384 := ⟨by decide +kernel, zL_b3 ⟨by decide +kernel, by decide +kernel, by decide +kernel, by decide +kernel, by decide +kernel⟩ ⟨by decide +kernel, by decide +kernel, by decide +kernel, by decide +kernel, by decide +kernel⟩ ⟨by decide +kernel, by decide +kernel, by decide +kernel, by decide +kernel, by decide +kernel⟩, by decide +kernel, by decide +kernel, zL_b3 ⟨by decide +kernel, by decide +kernel, by decide +kernel, by decide +kernel, by decide +kernel⟩ ⟨by decide +kernel, by decide +kernel, by decide +kernel, by decide +kernel, by decide +kernel⟩ ⟨by decide +kernel, by decide +kernel, by decide +kernel, by decide +kernel, by decide +kernel⟩, by decide +kernel, by decide +kernel, by decide⟩
theorem zx_size : zL_meth 59 1 5 36 := ⟨RX7, TX7, 4, 3, yX7_size, cX7_size, (some .int), _, _, rfl, zv_42, by decide, rfl, zv_43, zv_44, zv_45, zv_4, by decide +kernel⟩
theorem zy_size : zL_meth 182 1 6 40 := ⟨RX8, TX8, 35, 3, yX8_size, cX8_size, (some .int), _, _, rfl, zv_46, by decide, rfl, zv_47, zv_48, zv_49, zv_9, by decide +kernel⟩
theorem zd_size : zL_decI 429 1 36 40 1361 := ⟨by decide +kernel, zL_b1 ⟨by decide +kernel, by decide +kernel, by decide +kernel, by decide +kernel, by decide +kernel⟩, by decide +kernel, by decide +kernel, zL_b1 ⟨by decide +kernel, by decide +kernel, by decide +kernel, by decide +kernel, by decide +kernel⟩, by decide +kernel, by decide +kernel, by decide⟩
theorem zx_length : zL_meth 85 2 5 41 := ⟨RX7, TX7, 4, 4, yX7_length, cX7_length, (some .int), _, _, rfl, zv_50, by decide, rfl, zv_51, zv_52, zv_53, zv_4, by decide +kernel⟩
theorem zy_length : zL_meth 170 2 6 44 := ⟨RX8, TX8, 35, 4, yX8_length, cX8_length, (some .int), _, _, rfl, zv_54, by decide, rfl, zv_55, zv_56, zv_57, zv_9, by decide +kernel⟩
theorem zd_length : zL_decI 452 2 41 44 1328 := ⟨by decide +kernel, zL_b2 ⟨by decide +kernel, by decide +kernel, by decide +kernel, by decide +kernel, by decide +kernel⟩ ⟨by decide +kernel, by decide +kernel, by decide +kernel, by decide +kernel, by decide +kernel⟩, by decide +kernel, by decide +kernel, zL_b2 ⟨by decide +kernel, by decide +kernel, by decide +kernel, by decide +kernel, by decide +kernel⟩ ⟨by decide +kernel, by decide +kernel, by decide +kernel, by decide +kernel, by decide +kernel⟩, by decide +kernel, by decide +kernel, by decide⟩
theorem zx_letter : zL_meth 87 3 5 45 := ⟨RX7, TX7, 4, 5, yX7_letter, cX7_letter, (some .int), _, _, rfl, zv_58, by decide, rfl, zv_59, zv_60, zv_61, zv_4, by decide +kernel⟩
theorem zy_letter : zL_meth 171 3 6 48 := ⟨RX8, TX8, 35, 5, yX8_letter, cX8_letter, (some .int), _, _, rfl, zv_62, by decide, rfl, zv_63, zv_64, zv_65, zv_9, by decide +kernel⟩
theorem zd_letter : zL_decI 485 3 45 48 1285 := ⟨by decide +kernel, zL_b3 ⟨by decide +kernel, by decide +kernel, by decide +kernel, by decide +kernel, by decide +kernel⟩ ⟨by decide +kernel, by decide +kernel, by decide +kernel, by decide +kernel, by decide +kernel⟩ ⟨by decide +kernel, by decide +kernel, by decide +kernel, by decide +kernel, by decide +kernel⟩, by decide +kernel, by decide +kernel, zL_b3 ⟨by decide +kernel, by decide +kernel, by decide +kernel, by decide +kernel, by decide +kernel⟩ ⟨by decide +kernel, by decide +kernel, by decide +kernel, by decide +kernel, by decide +kernel⟩ ⟨by decide +kernel, by decide +kernel, by decide +kernel, by decide +kernel, by decide +kernel⟩, by decide +kernel, by decide +kernel, by decide⟩
theorem zx_element : zL_meth 68 2 5 49 := ⟨RX7, TX7, 4, 4, yX7_element, cX7_element, (some .int), _, _, rfl, zv_66, by decide, rfl, zv_67, zv_68, zv_69, zv_4, by decide +kernel⟩
theorem zy_element : zL_meth 161 2 6 52 := ⟨RX8, TX8, 35, 8, yX8_element, cX8_element, (some .int), _, _, rfl, zv_70, by decide, rfl, zv_71, zv_72, zv_73, zv_9, by decide +kernel⟩
theorem zd_element : zL_decI 528 2 49 52 1252 := ⟨by decide +kernel, zL_b2 ⟨by decide +kernel, by decide +kernel, by decide +kernel, by decide +kernel, by decide +kernel⟩ ⟨by decide +kernel, by decide +kernel, by decide +kernel, by decide +kernel, by decide +kernel⟩, by decide +kernel, by decide +kernel, zL_b2 ⟨by decide +kernel, by decide +kernel, by decide +kernel, by decide +kernel, by decide +kernel⟩ ⟨by decide +kernel, by decide +kernel, by decide +kernel, by decide +kernel, by decide +kernel⟩, by decide +kernel, by decide +kernel, by decide⟩
theorem zx_product : zL_meth 101 3 5 53 := ⟨RX7, TX7, 4, 5, yX7_product, cX7_product, (some .int), _, _, rfl, zv_74, by decide, rfl, zv_75, zv_76, zv_77, zv_4, by decide +kernel⟩
theorem zy_product : zL_meth 179 3 6 56 := ⟨RX8, TX8, 35, 5, yX8_product, cX8_product, (some .int), _, _, rfl, zv_78, by decide, rfl, zv_79, zv_80, zv_81, zv_9, by decide +kernel⟩
theorem zd_product : zL_decI 561 3 53 56 1209 := ⟨by decide +kernel, zL_b3 ⟨by decide +kernel, by decide +kernel, by decide +kernel, by decide +kernel, by decide +kernel⟩ ⟨by decide +kernel, by decide +kernel, by decide +kernel, by decide +kernel, by decide +kernel⟩ ⟨by decide +kernel, by decide +kernel, by decide +kernel, by decide +kernel, by decide +kernel⟩, by decide +kernel, by decide +kernel, zL_b3 ⟨by decide +kernel, by decide +kernel, by decide +kernel, by decide +kernel, by decide +kernel⟩ ⟨by decide +kernel, by decide +kernel, by decide +kernel, by decide +kernel, by decide +kernel⟩ ⟨by decide +kernel, by decide +kernel, by decide +kernel, by decide +kernel, by decide +kernel⟩, by decide +kernel, by decide +kernel, by decide⟩
theorem zx_inverse : zL_meth 72 2 5 57 := ⟨RX7, TX7, 4, 4, yX7_inverse, cX7_inverse, (some .int), _, _, rfl, zv_82, by decide, rfl, zv_83, zv_84, zv_85, zv_4, by decide +kernel⟩
theorem zy_inverse : zL_meth 163 2 6 60 := ⟨RX8, TX8, 35, 4, yX8_inverse, cX8_inverse, (some .int), _, _, rfl, zv_86, by decide, rfl, zv_87, zv_88, zv_89, zv_9, by decide +kernel⟩
theorem zd_inverse : zL_decI 604 2 57 60 1176 := ⟨by decide +kernel, zL_b2 ⟨by decide +kernel, by decide +kernel, by decide +kernel, by decide +kernel, by decide +kernel⟩ ⟨by decide +kernel, by decide +kernel, by decide +kernel, by decide +kernel, by decide +kernel⟩, by decide +kernel, by decide +kernel, zL_b2 ⟨by decide +kernel, by decide +kernel, by decide +kernel, by decide +kernel, by decide +kernel⟩ ⟨by decide +kernel, by decide +kernel, by decide +kernel, by decide +kernel, by decide +kernel⟩, by decide +kernel, by decide +kernel, by decide⟩
theorem zx_turns : zL_meth 112 2 5 61 := ⟨RX7, TX7, 4, 4, yX7_turns, cX7_turns, (some .int), _, _, rfl, zv_90, by decide, rfl, zv_91, zv_92, zv_93, zv_4, by decide +kernel⟩
theorem zy_turns : zL_meth 188 2 6 64 := ⟨RX8, TX8, 35, 6, yX8_turns, cX8_turns, (some .int), _, _, rfl, zv_94, by decide, rfl, zv_95, zv_96, zv_97, zv_9, by decide +kernel⟩
theorem zd_turns : zL_decI 637 2 61 64 1143 := ⟨by decide +kernel, zL_b2 ⟨by decide +kernel, by decide +kernel, by decide +kernel, by decide +kernel, by decide +kernel⟩ ⟨by decide +kernel, by decide +kernel, by decide +kernel, by decide +kernel, by decide +kernel⟩, by decide +kernel, by decide +kernel, zL_b2 ⟨by decide +kernel, by decide +kernel, by decide +kernel, by decide +kernel, by decide +kernel⟩ ⟨by decide +kernel, by decide +kernel, by decide +kernel, by decide +kernel, by decide +kernel⟩, by decide +kernel, by decide +kernel, by decide⟩
theorem zx_classSize : zL_meth 24 2 5 65 := ⟨RX7, TX7, 4, 4, yX7_classSize, cX7_classSize, (some .int), _, _, rfl, zv_98, by decide, rfl, zv_99, zv_100, zv_101, zv_4, by decide +kernel⟩
theorem zy_classSize : zL_meth 142 2 6 68 := ⟨RX8, TX8, 35, 7, yX8_classSize, cX8_classSize, (some .int), _, _, rfl, zv_102, by decide, rfl, zv_103, zv_104, zv_105, zv_9, by decide +kernel⟩
theorem zd_classSize : zL_decI 670 2 65 68 1110 := ⟨by decide +kernel, zL_b2 ⟨by decide +kernel, by decide +kernel, by decide +kernel, by decide +kernel, by decide +kernel⟩ ⟨by decide +kernel, by decide +kernel, by decide +kernel, by decide +kernel, by decide +kernel⟩, by decide +kernel, by decide +kernel, zL_b2 ⟨by decide +kernel, by decide +kernel, by decide +kernel, by decide +kernel, by decide +kernel⟩ ⟨by decide +kernel, by decide +kernel, by decide +kernel, by decide +kernel, by decide +kernel⟩, by decide +kernel, by decide +kernel, by decide⟩
theorem zx_ofLength : zL_meth 93 2 5 69 := ⟨RX7, TX7, 4, 4, yX7_ofLength, cX7_ofLength, (some .int), _, _, rfl, zv_106, by decide, rfl, zv_107, zv_108, zv_109, zv_4, by decide +kernel⟩
theorem zy_ofLength : zL_meth 175 2 6 72 := ⟨RX8, TX8, 35, 6, yX8_ofLength, cX8_ofLength, (some .int), _, _, rfl, zv_110, by decide, rfl, zv_111, zv_112, zv_113, zv_9, by decide +kernel⟩
theorem zd_ofLength : zL_decI 703 2 69 72 1077 := ⟨by decide +kernel, zL_b2 ⟨by decide +kernel, by decide +kernel, by decide +kernel, by decide +kernel, by decide +kernel⟩ ⟨by decide +kernel, by decide +kernel, by decide +kernel, by decide +kernel, by decide +kernel⟩, by decide +kernel, by decide +kernel, zL_b2 ⟨by decide +kernel, by decide +kernel, by decide +kernel, by decide +kernel, by decide +kernel⟩ ⟨by decide +kernel, by decide +kernel, by decide +kernel, by decide +kernel, by decide +kernel⟩, by decide +kernel, by decide +kernel, by decide⟩
theorem zx_mirrors : zL_meth 90 1 5 73 := ⟨RX7, TX7, 4, 3, yX7_mirrors, cX7_mirrors, (some .int), _, _, rfl, zv_114, by decide, rfl, zv_115, zv_116, zv_117, zv_4, by decide +kernel⟩
theorem zy_mirrors : zL_meth 173 1 6 76 := ⟨RX8, TX8, 35, 7, yX8_mirrors, cX8_mirrors, (some .int), _, _, rfl, zv_118, by decide, rfl, zv_119, zv_120, zv_121, zv_9, by decide +kernel⟩
theorem zd_mirrors : zL_decI 736 1 73 76 1054 := ⟨by decide +kernel, zL_b1 ⟨by decide +kernel, by decide +kernel, by decide +kernel, by decide +kernel, by decide +kernel⟩, by decide +kernel, by decide +kernel, zL_b1 ⟨by decide +kernel, by decide +kernel, by decide +kernel, by decide +kernel, by decide +kernel⟩, by decide +kernel, by decide +kernel, by decide⟩
theorem zx_kinds : zL_meth 77 2 5 77 := ⟨RX7, TX7, 4, 3, yX7_kinds, cX7_kinds, (some .int), _, _, rfl, zv_122, by decide, rfl, zv_123, zv_124, zv_125, zv_4, by decide +kernel⟩
theorem zy_kinds : zL_meth 166 2 6 80 := ⟨RX8, TX8, 35, 5, yX8_kinds, cX8_kinds, (some .int), _, _, rfl, zv_126, by decide, rfl, zv_127, zv_128, zv_129, zv_9, by decide +kernel⟩
theorem zd_kinds : zL_decI 759 2 77 80 1021 := ⟨by decide +kernel, zL_b2 ⟨by decide +kernel, by decide +kernel, by decide +kernel, by decide +kernel, by decide +kernel⟩ ⟨by decide +kernel, by decide +kernel, by decide +kernel, by decide +kernel, by decide +kernel⟩, by decide +kernel, by decide +kernel, zL_b2 ⟨by decide +kernel, by decide +kernel, by decide +kernel, by decide +kernel, by decide +kernel⟩ ⟨by decide +kernel, by decide +kernel, by decide +kernel, by decide +kernel, by decide +kernel⟩, by decide +kernel, by decide +kernel, by decide⟩
theorem zx_kind : zL_meth 75 3 5 81 := ⟨RX7, TX7, 4, 4, yX7_kind, cX7_kind, (some .int), _, _, rfl, zv_130, by decide, rfl, zv_131, zv_132, zv_133, zv_4, by decide +kernel⟩
theorem zy_kind : zL_meth 165 3 6 84 := ⟨RX8, TX8, 35, 6, yX8_kind, cX8_kind, (some .int), _, _, rfl, zv_134, by decide, rfl, zv_135, zv_136, zv_137, zv_9, by decide +kernel⟩
theorem zd_kind : zL_decI 792 3 81 84 978 := ⟨by decide +kernel, zL_b3 ⟨by decide +kernel, by decide +kernel, by decide +kernel, by decide +kernel, by decide +kernel⟩ ⟨by decide +kernel, by decide +kernel, by decide +kernel, by decide +kernel, by decide +kernel⟩ ⟨by decide +kernel, by decide +kernel, by decide +kernel, by decide +kernel, by decide +kernel⟩, by decide +kernel, by decide +kernel, zL_b3 ⟨by decide +kernel, by decide +kernel, by decide +kernel, by decide +kernel, by decide +kernel⟩ ⟨by decide +kernel, by decide +kernel, by decide +kernel, by decide +kernel, by decide +kernel⟩ ⟨by decide +kernel, by decide +kernel, by decide +kernel, by decide +kernel, by decide +kernel⟩, by decide +kernel, by decide +kernel, by decide⟩
theorem zx_parts : zL_meth 100 2 5 85 := ⟨RX7, TX7, 4, 4, yX7_parts, cX7_parts, (some .int), _, _, rfl, zv_138, by decide, rfl, zv_139, zv_140, zv_141, zv_4, by decide +kernel⟩
theorem zy_parts : zL_meth 178 2 6 88 := ⟨RX8, TX8, 35, 4, yX8_parts, cX8_parts, (some .int), _, _, rfl, zv_142, by decide, rfl, zv_143, zv_144, zv_145, zv_9, by decide +kernel⟩
theorem zd_parts : zL_decI 835 2 85 88 945 := ⟨by decide +kernel, zL_b2 ⟨by decide +kernel, by decide +kernel, by decide +kernel, by decide +kernel, by decide +kernel⟩ ⟨by decide +kernel, by decide +kernel, by decide +kernel, by decide +kernel, by decide +kernel⟩, by decide +kernel, by decide +kernel, zL_b2 ⟨by decide +kernel, by decide +kernel, by decide +kernel, by decide +kernel, by decide +kernel⟩ ⟨by decide +kernel, by decide +kernel, by decide +kernel, by decide +kernel, by decide +kernel⟩, by decide +kernel, by decide +kernel, by decide⟩
theorem zx_partOf : zL_meth 99 3 5 89 := ⟨RX7, TX7, 4, 5, yX7_partOf, cX7_partOf, (some .int), _, _, rfl, zv_146, by decide, rfl, zv_147, zv_148, zv_149, zv_4, by decide +kernel⟩
theorem zy_partOf : zL_meth 177 3 6 92 := ⟨RX8, TX8, 35, 5, yX8_partOf, cX8_partOf, (some .int), _, _, rfl, zv_150, by decide, rfl, zv_151, zv_152, zv_153, zv_9, by decide +kernel⟩
theorem zd_partOf : zL_decI 868 3 89 92 902 := ⟨by decide +kernel, zL_b3 ⟨by decide +kernel, by decide +kernel, by decide +kernel, by decide +kernel, by decide +kernel⟩ ⟨by decide +kernel, by decide +kernel, by decide +kernel, by decide +kernel, by decide +kernel⟩ ⟨by decide +kernel, by decide +kernel, by decide +kernel, by decide +kernel, by decide +kernel⟩, by decide +kernel, by decide +kernel, zL_b3 ⟨by decide +kernel, by decide +kernel, by decide +kernel, by decide +kernel, by decide +kernel⟩ ⟨by decide +kernel, by decide +kernel, by decide +kernel, by decide +kernel, by decide +kernel⟩ ⟨by decide +kernel, by decide +kernel, by decide +kernel, by decide +kernel, by decide +kernel⟩, by decide +kernel, by decide +kernel, by decide⟩
theorem zx_least : zL_meth 83 3 5 93 := ⟨RX7, TX7, 4, 5, yX7_least, cX7_least, (some .int), _, _, rfl, zv_154, by decide, rfl, zv_155, zv_156, zv_157, zv_4, by decide +kernel⟩
theorem zy_least : zL_meth 169 3 6 96 := ⟨RX8, TX8, 35, 5, yX8_least, cX8_least, (some .int), _, _, rfl, zv_158, by decide, rfl, zv_159, zv_160, zv_161, zv_9, by decide +kernel⟩
theorem zd_least : zL_decI 911 3 93 96 859 := ⟨by decide +kernel, zL_b3 ⟨by decide +kernel, by decide +kernel, by decide +kernel, by decide +kernel, by decide +kernel⟩ ⟨by decide +kernel, by decide +kernel, by decide +kernel, by decide +kernel, by decide +kernel⟩ ⟨by decide +kernel, by decide +kernel, by decide +kernel, by decide +kernel, by decide +kernel⟩, by decide +kernel, by decide +kernel, zL_b3 ⟨by decide +kernel, by decide +kernel, by decide +kernel, by decide +kernel, by decide +kernel⟩ ⟨by decide +kernel, by decide +kernel, by decide +kernel, by decide +kernel, by decide +kernel⟩ ⟨by decide +kernel, by decide +kernel, by decide +kernel, by decide +kernel, by decide +kernel⟩, by decide +kernel, by decide +kernel, by decide⟩
theorem zx_corners : zL_meth 52 3 5 97 := ⟨RX7, TX7, 4, 5, yX7_corners, cX7_corners, (some .int), _, _, rfl, zv_162, by decide, rfl, zv_163, zv_164, zv_165, zv_4, by decide +kernel⟩
theorem zy_corners : zL_meth 151 3 6 100 := ⟨RX8, TX8, 35, 5, yX8_corners, cX8_corners, (some .int), _, _, rfl, zv_166, by decide, rfl, zv_167, zv_168, zv_169, zv_9, by decide +kernel⟩
theorem zd_corners : zL_decI 954 3 97 100 816 := ⟨by decide +kernel, zL_b3 ⟨by decide +kernel, by decide +kernel, by decide +kernel, by decide +kernel, by decide +kernel⟩ ⟨by decide +kernel, by decide +kernel, by decide +kernel, by decide +kernel, by decide +kernel⟩ ⟨by decide +kernel, by decide +kernel, by decide +kernel, by decide +kernel, by decide +kernel⟩, by decide +kernel, by decide +kernel, zL_b3 ⟨by decide +kernel, by decide +kernel, by decide +kernel, by decide +kernel, by decide +kernel⟩ ⟨by decide +kernel, by decide +kernel, by decide +kernel, by decide +kernel, by decide +kernel⟩ ⟨by decide +kernel, by decide +kernel, by decide +kernel, by decide +kernel, by decide +kernel⟩, by decide +kernel, by decide +kernel, by decide⟩
theorem zx_cornerOf : zL_meth 51 4 5 101 := ⟨RX7, TX7, 4, 6, yX7_cornerOf, cX7_cornerOf, (some .int), _, _, rfl, zv_170, by decide, rfl, zv_171, zv_172, zv_173, zv_4, by decide +kernel⟩
theorem zy_cornerOf : zL_meth 150 4 6 104 := ⟨RX8, TX8, 35, 8, yX8_cornerOf, cX8_cornerOf, (some .int), _, _, rfl, zv_174, by decide, rfl, zv_175, zv_176, zv_177, zv_9, by decide +kernel⟩
theorem zd_cornerOf : zL_decI 997 4 101 104 763 := ⟨by decide +kernel, zL_b4 ⟨by decide +kernel, by decide +kernel, by decide +kernel, by decide +kernel, by decide +kernel⟩ ⟨by decide +kernel, by decide +kernel, by decide +kernel, by decide +kernel, by decide +kernel⟩ ⟨by decide +kernel, by decide +kernel, by decide +kernel, by decide +kernel, by decide +kernel⟩ ⟨by decide +kernel, by decide +kernel, by decide +kernel, by decide +kernel, by decide +kernel⟩, by decide +kernel, by decide +kernel, zL_b4 ⟨by decide +kernel, by decide +kernel, by decide +kernel, by decide +kernel, by decide +kernel⟩ ⟨by decide +kernel, by decide +kernel, by decide +kernel, by decide +kernel, by decide +kernel⟩ ⟨by decide +kernel, by decide +kernel, by decide +kernel, by decide +kernel, by decide +kernel⟩ ⟨by decide +kernel, by decide +kernel, by decide +kernel, by decide +kernel, by decide +kernel⟩, by decide +kernel, by decide +kernel, by decide⟩
theorem zx_liesIn : zL_meth 89 5 5 105 := ⟨RX7, TX7, 4, 7, yX7_liesIn, cX7_liesIn, (some .int), _, _, rfl, zv_178, by decide, rfl, zv_179, zv_180, zv_181, zv_4, by decide +kernel⟩
theorem zy_liesIn : zL_meth 172 5 6 109 := ⟨RX8, TX8, 35, 9, yX8_liesIn, cX8_liesIn, (some .int), _, _, rfl, zv_182, by decide, rfl, zv_183, zv_184, zv_185, zv_9, by decide +kernel⟩
theorem zd_liesIn : zL_decI 1050 5 105 109 700 := ⟨by decide +kernel, zL_b5 ⟨by decide +kernel, by decide +kernel, by decide +kernel, by decide +kernel, by decide +kernel⟩ ⟨by decide +kernel, by decide +kernel, by decide +kernel, by decide +kernel, by decide +kernel⟩ ⟨by decide +kernel, by decide +kernel, by decide +kernel, by decide +kernel, by decide +kernel⟩ ⟨by decide +kernel, by decide +kernel, by decide +kernel, by decide +kernel, by decide +kernel⟩ ⟨by decide +kernel, by decide +kernel, by decide +kernel, by decide +kernel, by decide +kernel⟩, by decide +kernel, by decide +kernel, zL_b5 ⟨by decide +kernel, by decide +kernel, by decide +kernel, by decide +kernel, by decide +kernel⟩ ⟨by decide +kernel, by decide +kernel, by decide +kernel, by decide +kernel, by decide +kernel⟩ ⟨by decide +kernel, by decide +kernel, by decide +kernel, by decide +kernel, by decide +kernel⟩ ⟨by decide +kernel, by decide +kernel, by decide +kernel, by decide +kernel, by decide +kernel⟩ ⟨by decide +kernel, by decide +kernel, by decide +kernel, by decide +kernel, by decide +kernel⟩, by decide +kernel, by decide +kernel, by decide⟩
theorem zx_within : zL_meth 117 4 5 110 := ⟨RX7, TX7, 4, 6, yX7_within, cX7_within, (some .int), _, _, rfl, zv_186, by decide, rfl, zv_187, zv_188, zv_189, zv_4, by decide +kernel⟩
theorem zy_within : zL_meth 191 4 6 113 := ⟨RX8, TX8, 35, 8, yX8_within, cX8_within, (some .int), _, _, rfl, zv_190, by decide, rfl, zv_191, zv_192, zv_193, zv_9, by decide +kernel⟩
theorem zd_within : zL_decI 1113 4 110 113 647 := ⟨by decide +kernel, zL_b4 ⟨by decide +kernel, by decide +kernel, by decide +kernel, by decide +kernel, by decide +kernel⟩ ⟨by decide +kernel, by decide +kernel, by decide +kernel, by decide +kernel, by decide +kernel⟩ ⟨by decide +kernel, by decide +kernel, by decide +kernel, by decide +kernel, by decide +kernel⟩ ⟨by decide +kernel, by decide +kernel, by decide +kernel, by decide +kernel, by decide +kernel⟩, by decide +kernel, by decide +kernel, zL_b4 ⟨by decide +kernel, by decide +kernel, by decide +kernel, by decide +kernel, by decide +kernel⟩ ⟨by decide +kernel, by decide +kernel, by decide +kernel, by decide +kernel, by decide +kernel⟩ ⟨by decide +kernel, by decide +kernel, by decide +kernel, by decide +kernel, by decide +kernel⟩ ⟨by decide +kernel, by decide +kernel, by decide +kernel, by decide +kernel, by decide +kernel⟩, by decide +kernel, by decide +kernel, by decide⟩
theorem zx_count : zL_meth 56 2 5 114 := ⟨RX7, TX7, 4, 4, yX7_count, cX7_count, (some .int), _, _, rfl, zv_194, by decide, rfl, zv_195, zv_196, zv_197, zv_4, by decide +kernel⟩
theorem zy_count : zL_meth 153 2 6 117 := ⟨RX8, TX8, 35, 3, yX8_count, cX8_count, (some .int), _, _, rfl, zv_198, by decide, rfl, zv_199, zv_200, zv_201, zv_9, by decide +kernel⟩
theorem zd_count : zL_decI 1166 2 114 117 614 := ⟨by decide +kernel, zL_b2 ⟨by decide +kernel, by decide +kernel, by decide +kernel, by decide +kernel, by decide +kernel⟩ ⟨by decide +kernel, by decide +kernel, by decide +kernel, by decide +kernel, by decide +kernel⟩, by decide +kernel, by decide +kernel, zL_b2 ⟨by decide +kernel, by decide +kernel, by decide +kernel, by decide +kernel, by decide +kernel⟩ ⟨by decide +kernel, by decide +kernel, by decide +kernel, by decide +kernel, by decide +kernel⟩, by decide +kernel, by decide +kernel, by decide⟩
theorem zx_law : zL_meth 79 1 5 118 := ⟨RX7, TX7, 4, 3, yX7_law, cX7_law, (some .int), _, _, rfl, zv_202, by decide, rfl, zv_203, zv_204, zv_205, zv_4, by decide +kernel⟩
theorem zy_law : zL_meth 167 1 6 121 := ⟨RX8, TX8, 35, 5, yX8_law, cX8_law, (some .int), _, _, rfl, zv_206, by decide, rfl, zv_207, zv_208, zv_209, zv_9, by decide +kernel⟩
theorem zd_law : zL_decI 1199 1 118 121 591 := ⟨by decide +kernel, zL_b1 ⟨by decide +kernel, by decide +kernel, by decide +kernel, by decide +kernel, by decide +kernel⟩, by decide +kernel, by decide +kernel, zL_b1 ⟨by decide +kernel, by decide +kernel, by decide +kernel, by decide +kernel, by decide +kernel⟩, by decide +kernel, by decide +kernel, by decide⟩
theorem zx_moves : zL_meth 91 3 5 122 := ⟨RX7, TX7, 4, 5, yX7_moves, cX7_moves, (some .int), _, _, rfl, zv_210, by decide, rfl, zv_211, zv_212, zv_213, zv_4, by decide +kernel⟩
theorem zy_moves : zL_meth 174 3 6 125 := ⟨RX8, TX8, 35, 6, yX8_moves, cX8_moves, (some .int), _, _, rfl, zv_214, by decide, rfl, zv_215, zv_216, zv_217, zv_9, by decide +kernel⟩
theorem zd_moves : zL_decI 1222 3 122 125 548 := ⟨by decide +kernel, zL_b3 ⟨by decide +kernel, by decide +kernel, by decide +kernel, by decide +kernel, by decide +kernel⟩ ⟨by decide +kernel, by decide +kernel, by decide +kernel, by decide +kernel, by decide +kernel⟩ ⟨by decide +kernel, by decide +kernel, by decide +kernel, by decide +kernel, by decide +kernel⟩, by decide +kernel, by decide +kernel, zL_b3 ⟨by decide +kernel, by decide +kernel, by decide +kernel, by decide +kernel, by decide +kernel⟩ ⟨by decide +kernel, by decide +kernel, by decide +kernel, by decide +kernel, by decide +kernel⟩ ⟨by decide +kernel, by decide +kernel, by decide +kernel, by decide +kernel, by decide +kernel⟩, by decide +kernel, by decide +kernel, by decide⟩
theorem zx_degree : zL_meth 58 2 5 126 := ⟨RX7, TX7, 4, 4, yX7_degree, cX7_degree, (some .int), _, _, rfl, zv_218, by decide, rfl, zv_219, zv_220, zv_221, zv_4, by decide +kernel⟩
theorem zy_degree : zL_meth 155 2 6 129 := ⟨RX8, TX8, 35, 4, yX8_degree, cX8_degree, (some .int), _, _, rfl, zv_222, by decide, rfl, zv_223, zv_224, zv_225, zv_9, by decide +kernel⟩
theorem zd_degree : zL_decI 1265 2 126 129 515 := ⟨by decide +kernel, zL_b2 ⟨by decide +kernel, by decide +kernel, by decide +kernel, by decide +kernel, by decide +kernel⟩ ⟨by decide +kernel, by decide +kernel, by decide +kernel, by decide +kernel, by decide +kernel⟩, by decide +kernel, by decide +kernel, zL_b2 ⟨by decide +kernel, by decide +kernel, by decide +kernel, by decide +kernel, by decide +kernel⟩ ⟨by decide +kernel, by decide +kernel, by decide +kernel, by decide +kernel, by decide +kernel⟩, by decide +kernel, by decide +kernel, by decide⟩
theorem zx_far : zL_meth 71 3 5 130 := ⟨RX7, TX7, 4, 5, yX7_far, cX7_far, (some .int), _, _, rfl, zv_226, by decide, rfl, zv_227, zv_228, zv_229, zv_4, by decide +kernel⟩
theorem zy_far : zL_meth 162 3 6 133 := ⟨RX8, TX8, 35, 5, yX8_far, cX8_far, (some .int), _, _, rfl, zv_230, by decide, rfl, zv_231, zv_232, zv_233, zv_9, by decide +kernel⟩
theorem zd_far : zL_decI 1298 3 130 133 472 := ⟨by decide +kernel, zL_b3 ⟨by decide +kernel, by decide +kernel, by decide +kernel, by decide +kernel, by decide +kernel⟩ ⟨by decide +kernel, by decide +kernel, by decide +kernel, by decide +kernel, by decide +kernel⟩ ⟨by decide +kernel, by decide +kernel, by decide +kernel, by decide +kernel, by decide +kernel⟩, by decide +kernel, by decide +kernel, zL_b3 ⟨by decide +kernel, by decide +kernel, by decide +kernel, by decide +kernel, by decide +kernel⟩ ⟨by decide +kernel, by decide +kernel, by decide +kernel, by decide +kernel, by decide +kernel⟩ ⟨by decide +kernel, by decide +kernel, by decide +kernel, by decide +kernel, by decide +kernel⟩, by decide +kernel, by decide +kernel, by decide⟩
theorem zx_layer : zL_meth 81 2 5 134 := ⟨RX7, TX7, 4, 4, yX7_layer, cX7_layer, (some .int), _, _, rfl, zv_234, by decide, rfl, zv_235, zv_236, zv_237, zv_4, by decide +kernel⟩
theorem zy_layer : zL_meth 168 2 6 137 := ⟨RX8, TX8, 35, 6, yX8_layer, cX8_layer, (some .int), _, _, rfl, zv_238, by decide, rfl, zv_239, zv_240, zv_241, zv_9, by decide +kernel⟩
theorem zd_layer : zL_decI 1341 2 134 137 439 := ⟨by decide +kernel, zL_b2 ⟨by decide +kernel, by decide +kernel, by decide +kernel, by decide +kernel, by decide +kernel⟩ ⟨by decide +kernel, by decide +kernel, by decide +kernel, by decide +kernel, by decide +kernel⟩, by decide +kernel, by decide +kernel, zL_b2 ⟨by decide +kernel, by decide +kernel, by decide +kernel, by decide +kernel, by decide +kernel⟩ ⟨by decide +kernel, by decide +kernel, by decide +kernel, by decide +kernel, by decide +kernel⟩, by decide +kernel, by decide +kernel, by decide⟩
theorem zx_ways : zL_meth 116 4 5 138 := ⟨RX7, TX7, 4, 6, yX7_ways, cX7_ways, (some .long), _, _, rfl, zv_242, by decide, rfl, zv_243, zv_244, zv_245, zv_4, by decide +kernel⟩
theorem zy_ways : zL_meth 190 4 6 142 := ⟨RX8, TX8, 35, 9, yX8_ways, cX8_ways, (some .long), _, _, rfl, zv_246, by decide, rfl, zv_247, zv_248, zv_249, zv_9, by decide +kernel⟩
theorem zd_ways : zL_decJ 1374 4 138 142 385 := ⟨by decide +kernel, zL_b4 ⟨by decide +kernel, by decide +kernel, by decide +kernel, by decide +kernel, by decide +kernel⟩ ⟨by decide +kernel, by decide +kernel, by decide +kernel, by decide +kernel, by decide +kernel⟩ ⟨by decide +kernel, by decide +kernel, by decide +kernel, by decide +kernel, by decide +kernel⟩ ⟨by decide +kernel, by decide +kernel, by decide +kernel, by decide +kernel, by decide +kernel⟩, by decide +kernel, by decide +kernel, zL_b4 ⟨by decide +kernel, by decide +kernel, by decide +kernel, by decide +kernel, by decide +kernel⟩ ⟨by decide +kernel, by decide +kernel, by decide +kernel, by decide +kernel, by decide +kernel⟩ ⟨by decide +kernel, by decide +kernel, by decide +kernel, by decide +kernel, by decide +kernel⟩ ⟨by decide +kernel, by decide +kernel, by decide +kernel, by decide +kernel, by decide +kernel⟩, by decide +kernel, by decide +kernel, by decide +kernel, by decide⟩
theorem zx_coloured : zL_meth 45 1 5 143 := ⟨RX7, TX7, 4, 3, yX7_coloured, cX7_coloured, (some .int), _, _, rfl, zv_250, by decide, rfl, zv_251, zv_252, zv_253, zv_4, by decide +kernel⟩
theorem zy_coloured : zL_meth 146 1 6 146 := ⟨RX8, TX8, 35, 6, yX8_coloured, cX8_coloured, (some .int), _, _, rfl, zv_254, by decide, rfl, zv_255, zv_256, zv_257, zv_9, by decide +kernel⟩
theorem zd_coloured : zL_decI 1428 1 143 146 362 := ⟨by decide +kernel, zL_b1 ⟨by decide +kernel, by decide +kernel, by decide +kernel, by decide +kernel, by decide +kernel⟩, by decide +kernel, by decide +kernel, zL_b1 ⟨by decide +kernel, by decide +kernel, by decide +kernel, by decide +kernel, by decide +kernel⟩, by decide +kernel, by decide +kernel, by decide⟩
theorem zx_round : zL_meth 105 2 5 147 := ⟨RX7, TX7, 4, 5, yX7_round, cX7_round, (some .int), _, _, rfl, zv_258, by decide, rfl, zv_259, zv_260, zv_261, zv_4, by decide +kernel⟩
theorem zy_round : zL_meth 181 2 6 150 := ⟨RX8, TX8, 35, 4, yX8_round, cX8_round, (some .int), _, _, rfl, zv_262, by decide, rfl, zv_263, zv_264, zv_265, zv_9, by decide +kernel⟩
theorem zd_round : zL_decI 1451 2 147 150 329 := ⟨by decide +kernel, zL_b2 ⟨by decide +kernel, by decide +kernel, by decide +kernel, by decide +kernel, by decide +kernel⟩ ⟨by decide +kernel, by decide +kernel, by decide +kernel, by decide +kernel, by decide +kernel⟩, by decide +kernel, by decide +kernel, zL_b2 ⟨by decide +kernel, by decide +kernel, by decide +kernel, by decide +kernel, by decide +kernel⟩ ⟨by decide +kernel, by decide +kernel, by decide +kernel, by decide +kernel, by decide +kernel⟩, by decide +kernel, by decide +kernel, by decide⟩
theorem zx_alike : zL_meth 15 2 5 151 := ⟨RX7, TX7, 4, 3, yX7_alike, cX7_alike, (some .int), _, _, rfl, zv_266, by decide, rfl, zv_267, zv_268, zv_269, zv_4, by decide +kernel⟩
theorem zy_alike : zL_meth 134 2 6 154 := ⟨RX8, TX8, 35, 3, yX8_alike, cX8_alike, (some .int), _, _, rfl, zv_270, by decide, rfl, zv_271, zv_272, zv_273, zv_9, by decide +kernel⟩
theorem zd_alike : zL_decI 1484 2 151 154 296 := ⟨by decide +kernel, zL_b2 ⟨by decide +kernel, by decide +kernel, by decide +kernel, by decide +kernel, by decide +kernel⟩ ⟨by decide +kernel, by decide +kernel, by decide +kernel, by decide +kernel, by decide +kernel⟩, by decide +kernel, by decide +kernel, zL_b2 ⟨by decide +kernel, by decide +kernel, by decide +kernel, by decide +kernel, by decide +kernel⟩ ⟨by decide +kernel, by decide +kernel, by decide +kernel, by decide +kernel, by decide +kernel⟩, by decide +kernel, by decide +kernel, by decide⟩
theorem zx_unlike : zL_meth 113 1 5 155 := ⟨RX7, TX7, 4, 3, yX7_unlike, cX7_unlike, (some .int), _, _, rfl, zv_274, by decide, rfl, zv_275, zv_276, zv_277, zv_4, by decide +kernel⟩
theorem zy_unlike : zL_meth 189 1 6 158 := ⟨RX8, TX8, 35, 8, yX8_unlike, cX8_unlike, (some .int), _, _, rfl, zv_278, by decide, rfl, zv_279, zv_280, zv_281, zv_9, by decide +kernel⟩
theorem zd_unlike : zL_decI 1517 1 155 158 273 := ⟨by decide +kernel, zL_b1 ⟨by decide +kernel, by decide +kernel, by decide +kernel, by decide +kernel, by decide +kernel⟩, by decide +kernel, by decide +kernel, zL_b1 ⟨by decide +kernel, by decide +kernel, by decide +kernel, by decide +kernel, by decide +kernel⟩, by decide +kernel, by decide +kernel, by decide⟩
theorem zx_snub : zL_meth 106 2 5 159 := ⟨RX7, TX7, 4, 4, yX7_snub, cX7_snub, (some .int), _, _, rfl, zv_282, by decide, rfl, zv_283, zv_284, zv_285, zv_4, by decide +kernel⟩
theorem zy_snub : zL_meth 183 2 6 162 := ⟨RX8, TX8, 35, 5, yX8_snub, cX8_snub, (some .int), _, _, rfl, zv_286, by decide, rfl, zv_287, zv_288, zv_289, zv_9, by decide +kernel⟩
theorem zd_snub : zL_decI 1540 2 159 162 240 := ⟨by decide +kernel, zL_b2 ⟨by decide +kernel, by decide +kernel, by decide +kernel, by decide +kernel, by decide +kernel⟩ ⟨by decide +kernel, by decide +kernel, by decide +kernel, by decide +kernel, by decide +kernel⟩, by decide +kernel, by decide +kernel, zL_b2 ⟨by decide +kernel, by decide +kernel, by decide +kernel, by decide +kernel, by decide +kernel⟩ ⟨by decide +kernel, by decide +kernel, by decide +kernel, by decide +kernel, by decide +kernel⟩, by decide +kernel, by decide +kernel, by decide⟩
theorem zx_snubLaw : zL_meth 110 1 5 163 := ⟨RX7, TX7, 4, 4, yX7_snubLaw, cX7_snubLaw, (some .int), _, _, rfl, zv_290, by decide, rfl, zv_291, zv_292, zv_293, zv_4, by decide +kernel⟩
theorem zy_snubLaw : zL_meth 187 1 6 166 := ⟨RX8, TX8, 35, 4, yX8_snubLaw, cX8_snubLaw, (some .int), _, _, rfl, zv_294, by decide, rfl, zv_295, zv_296, zv_297, zv_9, by decide +kernel⟩
theorem zd_snubLaw : zL_decI 1573 1 163 166 217 := ⟨by decide +kernel, zL_b1 ⟨by decide +kernel, by decide +kernel, by decide +kernel, by decide +kernel, by decide +kernel⟩, by decide +kernel, by decide +kernel, zL_b1 ⟨by decide +kernel, by decide +kernel, by decide +kernel, by decide +kernel, by decide +kernel⟩, by decide +kernel, by decide +kernel, by decide⟩
theorem zx_snubDegree : zL_meth 107 2 5 167 := ⟨RX7, TX7, 4, 4, yX7_snubDegree, cX7_snubDegree, (some .int), _, _, rfl, zv_298, by decide, rfl, zv_299, zv_300, zv_301, zv_4, by decide +kernel⟩
theorem zy_snubDegree : zL_meth 184 2 6 170 := ⟨RX8, TX8, 35, 5, yX8_snubDegree, cX8_snubDegree, (some .int), _, _, rfl, zv_302, by decide, rfl, zv_303, zv_304, zv_305, zv_9, by decide +kernel⟩
theorem zd_snubDegree : zL_decI 1596 2 167 170 184 := ⟨by decide +kernel, zL_b2 ⟨by decide +kernel, by decide +kernel, by decide +kernel, by decide +kernel, by decide +kernel⟩ ⟨by decide +kernel, by decide +kernel, by decide +kernel, by decide +kernel, by decide +kernel⟩, by decide +kernel, by decide +kernel, zL_b2 ⟨by decide +kernel, by decide +kernel, by decide +kernel, by decide +kernel, by decide +kernel⟩ ⟨by decide +kernel, by decide +kernel, by decide +kernel, by decide +kernel, by decide +kernel⟩, by decide +kernel, by decide +kernel, by decide⟩
theorem zx_snubFar : zL_meth 109 3 5 171 := ⟨RX7, TX7, 4, 5, yX7_snubFar, cX7_snubFar, (some .int), _, _, rfl, zv_306, by decide, rfl, zv_307, zv_308, zv_309, zv_4, by decide +kernel⟩
theorem zy_snubFar : zL_meth 186 3 6 174 := ⟨RX8, TX8, 35, 6, yX8_snubFar, cX8_snubFar, (some .int), _, _, rfl, zv_310, by decide, rfl, zv_311, zv_312, zv_313, zv_9, by decide +kernel⟩
theorem zd_snubFar : zL_decI 1629 3 171 174 141 := ⟨by decide +kernel, zL_b3 ⟨by decide +kernel, by decide +kernel, by decide +kernel, by decide +kernel, by decide +kernel⟩ ⟨by decide +kernel, by decide +kernel, by decide +kernel, by decide +kernel, by decide +kernel⟩ ⟨by decide +kernel, by decide +kernel, by decide +kernel, by decide +kernel, by decide +kernel⟩, by decide +kernel, by decide +kernel, zL_b3 ⟨by decide +kernel, by decide +kernel, by decide +kernel, by decide +kernel, by decide +kernel⟩ ⟨by decide +kernel, by decide +kernel, by decide +kernel, by decide +kernel, by decide +kernel⟩ ⟨by decide +kernel, by decide +kernel, by decide +kernel, by decide +kernel, by decide +kernel⟩, by decide +kernel, by decide +kernel, by decide⟩
theorem zx_snubFaces : zL_meth 108 2 5 175 := ⟨RX7, TX7, 4, 4, yX7_snubFaces, cX7_snubFaces, (some .int), _, _, rfl, zv_314, by decide, rfl, zv_315, zv_316, zv_317, zv_4, by decide +kernel⟩
theorem zy_snubFaces : zL_meth 185 2 6 178 := ⟨RX8, TX8, 35, 4, yX8_snubFaces, cX8_snubFaces, (some .int), _, _, rfl, zv_318, by decide, rfl, zv_319, zv_320, zv_321, zv_9, by decide +kernel⟩
theorem zd_snubFaces : zL_decI 1672 2 175 178 108 := ⟨by decide +kernel, zL_b2 ⟨by decide +kernel, by decide +kernel, by decide +kernel, by decide +kernel, by decide +kernel⟩ ⟨by decide +kernel, by decide +kernel, by decide +kernel, by decide +kernel, by decide +kernel⟩, by decide +kernel, by decide +kernel, zL_b2 ⟨by decide +kernel, by decide +kernel, by decide +kernel, by decide +kernel, by decide +kernel⟩ ⟨by decide +kernel, by decide +kernel, by decide +kernel, by decide +kernel, by decide +kernel⟩, by decide +kernel, by decide +kernel, by decide⟩
theorem zx_dual : zL_meth 62 2 5 179 := ⟨RX7, TX7, 4, 5, yX7_dual, cX7_dual, (some .int), _, _, rfl, zv_322, by decide, rfl, zv_323, zv_324, zv_325, zv_4, by decide +kernel⟩
theorem zy_dual : zL_meth 158 2 6 182 := ⟨RX8, TX8, 35, 5, yX8_dual, cX8_dual, (some .int), _, _, rfl, zv_326, by decide, rfl, zv_327, zv_328, zv_329, zv_9, by decide +kernel⟩
theorem zd_dual : zL_decI 1705 2 179 182 75 := ⟨by decide +kernel, zL_b2 ⟨by decide +kernel, by decide +kernel, by decide +kernel, by decide +kernel, by decide +kernel⟩ ⟨by decide +kernel, by decide +kernel, by decide +kernel, by decide +kernel, by decide +kernel⟩, by decide +kernel, by decide +kernel, zL_b2 ⟨by decide +kernel, by decide +kernel, by decide +kernel, by decide +kernel, by decide +kernel⟩ ⟨by decide +kernel, by decide +kernel, by decide +kernel, by decide +kernel, by decide +kernel⟩, by decide +kernel, by decide +kernel, by decide⟩
theorem zx_dualDegree : zL_meth 63 2 5 183 := ⟨RX7, TX7, 4, 4, yX7_dualDegree, cX7_dualDegree, (some .int), _, _, rfl, zv_330, by decide, rfl, zv_331, zv_332, zv_333, zv_4, by decide +kernel⟩
theorem zy_dualDegree : zL_meth 159 2 6 186 := ⟨RX8, TX8, 35, 7, yX8_dualDegree, cX8_dualDegree, (some .int), _, _, rfl, zv_334, by decide, rfl, zv_335, zv_336, zv_337, zv_9, by decide +kernel⟩
theorem zd_dualDegree : zL_decI 1738 2 183 186 42 := ⟨by decide +kernel, zL_b2 ⟨by decide +kernel, by decide +kernel, by decide +kernel, by decide +kernel, by decide +kernel⟩ ⟨by decide +kernel, by decide +kernel, by decide +kernel, by decide +kernel, by decide +kernel⟩, by decide +kernel, by decide +kernel, zL_b2 ⟨by decide +kernel, by decide +kernel, by decide +kernel, by decide +kernel, by decide +kernel⟩ ⟨by decide +kernel, by decide +kernel, by decide +kernel, by decide +kernel, by decide +kernel⟩, by decide +kernel, by decide +kernel, by decide⟩
theorem zx_dualFar : zL_meth 64 1 5 187 := ⟨RX7, TX7, 4, 3, yX7_dualFar, cX7_dualFar, (some .int), _, _, rfl, zv_338, by decide, rfl, zv_339, zv_340, zv_341, zv_4, by decide +kernel⟩
theorem zy_dualFar : zL_meth 160 1 6 190 := ⟨RX8, TX8, 35, 7, yX8_dualFar, cX8_dualFar, (some .int), _, _, rfl, zv_342, by decide, rfl, zv_343, zv_344, zv_345, zv_9, by decide +kernel⟩
theorem zd_dualFar : zL_decI 1771 1 187 190 19 := ⟨by decide +kernel, zL_b1 ⟨by decide +kernel, by decide +kernel, by decide +kernel, by decide +kernel, by decide +kernel⟩, by decide +kernel, by decide +kernel, zL_b1 ⟨by decide +kernel, by decide +kernel, by decide +kernel, by decide +kernel, by decide +kernel⟩, by decide +kernel, by decide +kernel, by decide⟩
theorem zx_digest : zL_meth 60 0 5 191 := ⟨RX7, TX7, 4, 7, yX7_digest, cX7_digest, (some .long), _, _, rfl, zv_346, by decide, rfl, zv_347, zv_348, zv_349, zv_4, by decide +kernel⟩
theorem zy_digest : zL_meth 156 0 6 195 := ⟨RX8, TX8, 35, 6, yX8_digest, cX8_digest, (some .long), _, _, rfl, zv_350, by decide, rfl, zv_351, zv_352, zv_353, zv_9, by decide +kernel⟩
theorem zd_digest : zL_decJ 1794 0 191 195 5 := ⟨by decide +kernel, zL_b0, by decide +kernel, by decide +kernel, zL_b0, by decide +kernel, by decide +kernel, by decide +kernel, by decide⟩
theorem zc_law_body : zL_goal 224 := zL_caseI (n := 2) (xi := 19) (yi := 136) (gs := [[(0, 4294967295, 0), (0, 4294967295, 0)]]) (by decide) zd_body zx_body zy_body (fun g hg => by rw [List.mem_singleton.mp hg]; exact zt_body_0) (fun xs => ⟨_, List.mem_singleton.mpr rfl, zG_full2 xs⟩)
theorem zc_law_angle : zL_goal 257 := zL_caseI (n := 4) (xi := 18) (yi := 135) (gs := [[(0, 4294967295, 0), (0, 4294967295, 0), (0, 4294967295, 0), (0, 4294967295, 0)]]) (by decide) zd_angle zx_angle zy_angle (fun g hg => by rw [List.mem_singleton.mp hg]; exact zt_angle_0) (fun xs => ⟨_, List.mem_singleton.mpr rfl, zG_full4 xs⟩)
theorem zc_law_ring : zL_goal 310 := zL_caseI (n := 2) (xi := 104) (yi := 180) (gs := [[(0, 4294967295, 0), (0, 4294967295, 0)]]) (by decide) zd_ring zx_ring zy_ring (fun g hg => by rw [List.mem_singleton.mp hg]; exact zt_ring_0) (fun xs => ⟨_, List.mem_singleton.mpr rfl, zG_full2 xs⟩)
theorem zc_law_order : zL_goal 343 := zL_caseI (n := 3) (xi := 98) (yi := 176) (gs := zgs_order) (by decide) zd_order zx_order zy_order (List.forall_mem_cons.mpr ⟨zt_order_0, List.forall_mem_cons.mpr ⟨zt_order_1, List.forall_mem_cons.mpr ⟨zt_order_2, List.forall_mem_cons.mpr ⟨zt_order_3, List.forall_mem_cons.mpr ⟨zt_order_4, List.forall_mem_cons.mpr ⟨zt_order_5, List.forall_mem_cons.mpr ⟨zt_order_6, List.forall_mem_cons.mpr ⟨zt_order_7, List.forall_mem_cons.mpr ⟨zt_order_8, List.forall_mem_cons.mpr ⟨zt_order_9, List.forall_mem_cons.mpr ⟨zt_order_10, List.forall_mem_cons.mpr ⟨zt_order_11, fun _ h => absurd h List.not_mem_nil⟩⟩⟩⟩⟩⟩⟩⟩⟩⟩⟩⟩) zG_order
theorem zc_law_about : zL_goal 386 := zL_caseI (n := 3) (xi := 8) (yi := 125) (gs := [[(0, 4294967295, 0), (0, 4294967295, 0), (0, 4294967295, 0)]]) (by decide) zd_about zx_about zy_about (fun g hg => by rw [List.mem_singleton.mp hg]; exact zt_about_0) (fun xs => ⟨_, List.mem_singleton.mpr rfl, zG_full3 xs⟩)
theorem zc_law_size : zL_goal 429 := zL_caseI (n := 1) (xi := 59) (yi := 182) (gs := [[(0, 4294967295, 0)]]) (by decide) zd_size zx_size zy_size (fun g hg => by rw [List.mem_singleton.mp hg]; exact zt_size_0) (fun xs => ⟨_, List.mem_singleton.mpr rfl, zG_full1 xs⟩)
theorem zc_law_length : zL_goal 452 := zL_caseI (n := 2) (xi := 85) (yi := 170) (gs := [[(0, 4294967295, 0), (0, 4294967295, 0)]]) (by decide) zd_length zx_length zy_length (fun g hg => by rw [List.mem_singleton.mp hg]; exact zt_length_0) (fun xs => ⟨_, List.mem_singleton.mpr rfl, zG_full2 xs⟩)
theorem zc_law_letter : zL_goal 485 := zL_caseI (n := 3) (xi := 87) (yi := 171) (gs := [[(0, 4294967295, 0), (0, 4294967295, 0), (0, 4294967295, 0)]]) (by decide) zd_letter zx_letter zy_letter (fun g hg => by rw [List.mem_singleton.mp hg]; exact zt_letter_0) (fun xs => ⟨_, List.mem_singleton.mpr rfl, zG_full3 xs⟩)
theorem zc_law_element : zL_goal 528 := zL_caseI (n := 2) (xi := 68) (yi := 161) (gs := zgs_element) (by decide) zd_element zx_element zy_element (List.forall_mem_cons.mpr ⟨zt_element_0, List.forall_mem_cons.mpr ⟨zt_element_1, List.forall_mem_cons.mpr ⟨zt_element_2, List.forall_mem_cons.mpr ⟨zt_element_3, List.forall_mem_cons.mpr ⟨zt_element_4, List.forall_mem_cons.mpr ⟨zt_element_5, List.forall_mem_cons.mpr ⟨zt_element_6, List.forall_mem_cons.mpr ⟨zt_element_7, List.forall_mem_cons.mpr ⟨zt_element_8, List.forall_mem_cons.mpr ⟨zt_element_9, List.forall_mem_cons.mpr ⟨zt_element_10, List.forall_mem_cons.mpr ⟨zt_element_11, List.forall_mem_cons.mpr ⟨zt_element_12, fun _ h => absurd h List.not_mem_nil⟩⟩⟩⟩⟩⟩⟩⟩⟩⟩⟩⟩⟩) zG_element
theorem zc_law_product : zL_goal 561 := zL_caseI (n := 3) (xi := 101) (yi := 179) (gs := [[(0, 4294967295, 0), (0, 4294967295, 0), (0, 4294967295, 0)]]) (by decide) zd_product zx_product zy_product (fun g hg => by rw [List.mem_singleton.mp hg]; exact zt_product_0) (fun xs => ⟨_, List.mem_singleton.mpr rfl, zG_full3 xs⟩)
theorem zc_law_inverse : zL_goal 604 := zL_caseI (n := 2) (xi := 72) (yi := 163) (gs := [[(0, 4294967295, 0), (0, 4294967295, 0)]]) (by decide) zd_inverse zx_inverse zy_inverse (fun g hg => by rw [List.mem_singleton.mp hg]; exact zt_inverse_0) (fun xs => ⟨_, List.mem_singleton.mpr rfl, zG_full2 xs⟩)
theorem zc_law_turns : zL_goal 637 := zL_caseI (n := 2) (xi := 112) (yi := 188) (gs := [[(0, 4294967295, 0), (0, 4294967295, 0)]]) (by decide) zd_turns zx_turns zy_turns (fun g hg => by rw [List.mem_singleton.mp hg]; exact zt_turns_0) (fun xs => ⟨_, List.mem_singleton.mpr rfl, zG_full2 xs⟩)
theorem zc_law_classSize : zL_goal 670 := zL_caseI (n := 2) (xi := 24) (yi := 142) (gs := [[(0, 4294967295, 0), (0, 4294967295, 0)]]) (by decide) zd_classSize zx_classSize zy_classSize (fun g hg => by rw [List.mem_singleton.mp hg]; exact zt_classSize_0) (fun xs => ⟨_, List.mem_singleton.mpr rfl, zG_full2 xs⟩)
theorem zc_law_ofLength : zL_goal 703 := zL_caseI (n := 2) (xi := 93) (yi := 175) (gs := [[(0, 4294967295, 0), (0, 4294967295, 0)]]) (by decide) zd_ofLength zx_ofLength zy_ofLength (fun g hg => by rw [List.mem_singleton.mp hg]; exact zt_ofLength_0) (fun xs => ⟨_, List.mem_singleton.mpr rfl, zG_full2 xs⟩)
theorem zc_law_mirrors : zL_goal 736 := zL_caseI (n := 1) (xi := 90) (yi := 173) (gs := [[(0, 4294967295, 0)]]) (by decide) zd_mirrors zx_mirrors zy_mirrors (fun g hg => by rw [List.mem_singleton.mp hg]; exact zt_mirrors_0) (fun xs => ⟨_, List.mem_singleton.mpr rfl, zG_full1 xs⟩)
theorem zc_law_kinds : zL_goal 759 := zL_caseI (n := 2) (xi := 77) (yi := 166) (gs := [[(0, 4294967295, 0), (0, 4294967295, 0)]]) (by decide) zd_kinds zx_kinds zy_kinds (fun g hg => by rw [List.mem_singleton.mp hg]; exact zt_kinds_0) (fun xs => ⟨_, List.mem_singleton.mpr rfl, zG_full2 xs⟩)
theorem zc_law_kind : zL_goal 792 := zL_caseI (n := 3) (xi := 75) (yi := 165) (gs := [[(0, 4294967295, 0), (0, 4294967295, 0), (0, 4294967295, 0)]]) (by decide) zd_kind zx_kind zy_kind (fun g hg => by rw [List.mem_singleton.mp hg]; exact zt_kind_0) (fun xs => ⟨_, List.mem_singleton.mpr rfl, zG_full3 xs⟩)
theorem zc_law_parts : zL_goal 835 := zL_caseI (n := 2) (xi := 100) (yi := 178) (gs := [[(0, 4294967295, 0), (0, 4294967295, 0)]]) (by decide) zd_parts zx_parts zy_parts (fun g hg => by rw [List.mem_singleton.mp hg]; exact zt_parts_0) (fun xs => ⟨_, List.mem_singleton.mpr rfl, zG_full2 xs⟩)
theorem zc_law_partOf : zL_goal 868 := zL_caseI (n := 3) (xi := 99) (yi := 177) (gs := [[(0, 4294967295, 0), (0, 4294967295, 0), (0, 4294967295, 0)]]) (by decide) zd_partOf zx_partOf zy_partOf (fun g hg => by rw [List.mem_singleton.mp hg]; exact zt_partOf_0) (fun xs => ⟨_, List.mem_singleton.mpr rfl, zG_full3 xs⟩)
theorem zc_law_least : zL_goal 911 := zL_caseI (n := 3) (xi := 83) (yi := 169) (gs := [[(0, 4294967295, 0), (0, 4294967295, 0), (0, 4294967295, 0)]]) (by decide) zd_least zx_least zy_least (fun g hg => by rw [List.mem_singleton.mp hg]; exact zt_least_0) (fun xs => ⟨_, List.mem_singleton.mpr rfl, zG_full3 xs⟩)
theorem zc_law_corners : zL_goal 954 := zL_caseI (n := 3) (xi := 52) (yi := 151) (gs := zgs_corners) (by decide) zd_corners zx_corners zy_corners (List.forall_mem_cons.mpr ⟨zt_corners_0, List.forall_mem_cons.mpr ⟨zt_corners_1, List.forall_mem_cons.mpr ⟨zt_corners_2, List.forall_mem_cons.mpr ⟨zt_corners_3, List.forall_mem_cons.mpr ⟨zt_corners_4, List.forall_mem_cons.mpr ⟨zt_corners_5, fun _ h => absurd h List.not_mem_nil⟩⟩⟩⟩⟩⟩) zG_corners
theorem zc_law_cornerOf : zL_goal 997 := zL_caseI (n := 4) (xi := 51) (yi := 150) (gs := zgs_cornerOf) (by decide) zd_cornerOf zx_cornerOf zy_cornerOf (List.forall_mem_cons.mpr ⟨zt_cornerOf_0, List.forall_mem_cons.mpr ⟨zt_cornerOf_1, List.forall_mem_cons.mpr ⟨zt_cornerOf_2, List.forall_mem_cons.mpr ⟨zt_cornerOf_3, List.forall_mem_cons.mpr ⟨zt_cornerOf_4, List.forall_mem_cons.mpr ⟨zt_cornerOf_5, List.forall_mem_cons.mpr ⟨zt_cornerOf_6, List.forall_mem_cons.mpr ⟨zt_cornerOf_7, List.forall_mem_cons.mpr ⟨zt_cornerOf_8, List.forall_mem_cons.mpr ⟨zt_cornerOf_9, List.forall_mem_cons.mpr ⟨zt_cornerOf_10, List.forall_mem_cons.mpr ⟨zt_cornerOf_11, List.forall_mem_cons.mpr ⟨zt_cornerOf_12, List.forall_mem_cons.mpr ⟨zt_cornerOf_13, List.forall_mem_cons.mpr ⟨zt_cornerOf_14, List.forall_mem_cons.mpr ⟨zt_cornerOf_15, List.forall_mem_cons.mpr ⟨zt_cornerOf_16, List.forall_mem_cons.mpr ⟨zt_cornerOf_17, List.forall_mem_cons.mpr ⟨zt_cornerOf_18, List.forall_mem_cons.mpr ⟨zt_cornerOf_19, List.forall_mem_cons.mpr ⟨zt_cornerOf_20, List.forall_mem_cons.mpr ⟨zt_cornerOf_21, List.forall_mem_cons.mpr ⟨zt_cornerOf_22, List.forall_mem_cons.mpr ⟨zt_cornerOf_23, fun _ h => absurd h List.not_mem_nil⟩⟩⟩⟩⟩⟩⟩⟩⟩⟩⟩⟩⟩⟩⟩⟩⟩⟩⟩⟩⟩⟩⟩⟩) zG_cornerOf
theorem zc_law_liesIn : zL_goal 1050 := zL_caseI (n := 5) (xi := 89) (yi := 172) (gs := zgs_liesIn) (by decide) zd_liesIn zx_liesIn zy_liesIn (List.forall_mem_cons.mpr ⟨zt_liesIn_0, List.forall_mem_cons.mpr ⟨zt_liesIn_1, List.forall_mem_cons.mpr ⟨zt_liesIn_2, List.forall_mem_cons.mpr ⟨zt_liesIn_3, List.forall_mem_cons.mpr ⟨zt_liesIn_4, List.forall_mem_cons.mpr ⟨zt_liesIn_5, fun _ h => absurd h List.not_mem_nil⟩⟩⟩⟩⟩⟩) zG_liesIn
theorem zc_law_within : zL_goal 1113 := zL_caseI (n := 4) (xi := 117) (yi := 191) (gs := zgs_within) (by decide) zd_within zx_within zy_within (List.forall_mem_cons.mpr ⟨zt_within_0, List.forall_mem_cons.mpr ⟨zt_within_1, List.forall_mem_cons.mpr ⟨zt_within_2, List.forall_mem_cons.mpr ⟨zt_within_3, List.forall_mem_cons.mpr ⟨zt_within_4, List.forall_mem_cons.mpr ⟨zt_within_5, fun _ h => absurd h List.not_mem_nil⟩⟩⟩⟩⟩⟩) zG_within
theorem zc_law_count : zL_goal 1166 := zL_caseI (n := 2) (xi := 56) (yi := 153) (gs := [[(0, 4294967295, 0), (0, 4294967295, 0)]]) (by decide) zd_count zx_count zy_count (fun g hg => by rw [List.mem_singleton.mp hg]; exact zt_count_0) (fun xs => ⟨_, List.mem_singleton.mpr rfl, zG_full2 xs⟩)
theorem zc_law_law : zL_goal 1199 := zL_caseI (n := 1) (xi := 79) (yi := 167) (gs := [[(0, 4294967295, 0)]]) (by decide) zd_law zx_law zy_law (fun g hg => by rw [List.mem_singleton.mp hg]; exact zt_law_0) (fun xs => ⟨_, List.mem_singleton.mpr rfl, zG_full1 xs⟩)
theorem zc_law_moves : zL_goal 1222 := zL_caseI (n := 3) (xi := 91) (yi := 174) (gs := [[(0, 4294967295, 0), (0, 4294967295, 0), (0, 4294967295, 0)]]) (by decide) zd_moves zx_moves zy_moves (fun g hg => by rw [List.mem_singleton.mp hg]; exact zt_moves_0) (fun xs => ⟨_, List.mem_singleton.mpr rfl, zG_full3 xs⟩)
theorem zc_law_degree : zL_goal 1265 := zL_caseI (n := 2) (xi := 58) (yi := 155) (gs := [[(0, 4294967295, 0), (0, 4294967295, 0)]]) (by decide) zd_degree zx_degree zy_degree (fun g hg => by rw [List.mem_singleton.mp hg]; exact zt_degree_0) (fun xs => ⟨_, List.mem_singleton.mpr rfl, zG_full2 xs⟩)
theorem zc_law_far : zL_goal 1298 := zL_caseI (n := 3) (xi := 71) (yi := 162) (gs := [[(0, 4294967295, 0), (0, 4294967295, 0), (0, 4294967295, 0)]]) (by decide) zd_far zx_far zy_far (fun g hg => by rw [List.mem_singleton.mp hg]; exact zt_far_0) (fun xs => ⟨_, List.mem_singleton.mpr rfl, zG_full3 xs⟩)
theorem zc_law_layer : zL_goal 1341 := zL_caseI (n := 2) (xi := 81) (yi := 168) (gs := [[(0, 4294967295, 0), (0, 4294967295, 0)]]) (by decide) zd_layer zx_layer zy_layer (fun g hg => by rw [List.mem_singleton.mp hg]; exact zt_layer_0) (fun xs => ⟨_, List.mem_singleton.mpr rfl, zG_full2 xs⟩)
theorem zc_law_ways : zL_goal 1374 := zL_caseJ (n := 4) (xi := 116) (yi := 190) (gs := zgs_ways) (by decide) zd_ways zx_ways zy_ways (List.forall_mem_cons.mpr ⟨zt_ways_0, List.forall_mem_cons.mpr ⟨zt_ways_1, List.forall_mem_cons.mpr ⟨zt_ways_2, List.forall_mem_cons.mpr ⟨zt_ways_3, List.forall_mem_cons.mpr ⟨zt_ways_4, List.forall_mem_cons.mpr ⟨zt_ways_5, List.forall_mem_cons.mpr ⟨zt_ways_6, List.forall_mem_cons.mpr ⟨zt_ways_7, List.forall_mem_cons.mpr ⟨zt_ways_8, List.forall_mem_cons.mpr ⟨zt_ways_9, List.forall_mem_cons.mpr ⟨zt_ways_10, List.forall_mem_cons.mpr ⟨zt_ways_11, List.forall_mem_cons.mpr ⟨zt_ways_12, List.forall_mem_cons.mpr ⟨zt_ways_13, List.forall_mem_cons.mpr ⟨zt_ways_14, fun _ h => absurd h List.not_mem_nil⟩⟩⟩⟩⟩⟩⟩⟩⟩⟩⟩⟩⟩⟩⟩) zG_ways
theorem zc_law_coloured : zL_goal 1428 := zL_caseI (n := 1) (xi := 45) (yi := 146) (gs := [[(0, 4294967295, 0)]]) (by decide) zd_coloured zx_coloured zy_coloured (fun g hg => by rw [List.mem_singleton.mp hg]; exact zt_coloured_0) (fun xs => ⟨_, List.mem_singleton.mpr rfl, zG_full1 xs⟩)
theorem zc_law_round : zL_goal 1451 := zL_caseI (n := 2) (xi := 105) (yi := 181) (gs := [[(0, 4294967295, 0), (0, 4294967295, 0)]]) (by decide) zd_round zx_round zy_round (fun g hg => by rw [List.mem_singleton.mp hg]; exact zt_round_0) (fun xs => ⟨_, List.mem_singleton.mpr rfl, zG_full2 xs⟩)
theorem zc_law_alike : zL_goal 1484 := zL_caseI (n := 2) (xi := 15) (yi := 134) (gs := [[(0, 4294967295, 0), (0, 4294967295, 0)]]) (by decide) zd_alike zx_alike zy_alike (fun g hg => by rw [List.mem_singleton.mp hg]; exact zt_alike_0) (fun xs => ⟨_, List.mem_singleton.mpr rfl, zG_full2 xs⟩)
theorem zc_law_unlike : zL_goal 1517 := zL_caseI (n := 1) (xi := 113) (yi := 189) (gs := [[(0, 4294967295, 0)]]) (by decide) zd_unlike zx_unlike zy_unlike (fun g hg => by rw [List.mem_singleton.mp hg]; exact zt_unlike_0) (fun xs => ⟨_, List.mem_singleton.mpr rfl, zG_full1 xs⟩)
theorem zc_law_snub : zL_goal 1540 := zL_caseI (n := 2) (xi := 106) (yi := 183) (gs := [[(0, 4294967295, 0), (0, 4294967295, 0)]]) (by decide) zd_snub zx_snub zy_snub (fun g hg => by rw [List.mem_singleton.mp hg]; exact zt_snub_0) (fun xs => ⟨_, List.mem_singleton.mpr rfl, zG_full2 xs⟩)
theorem zc_law_snubLaw : zL_goal 1573 := zL_caseI (n := 1) (xi := 110) (yi := 187) (gs := [[(0, 4294967295, 0)]]) (by decide) zd_snubLaw zx_snubLaw zy_snubLaw (fun g hg => by rw [List.mem_singleton.mp hg]; exact zt_snubLaw_0) (fun xs => ⟨_, List.mem_singleton.mpr rfl, zG_full1 xs⟩)
theorem zc_law_snubDegree : zL_goal 1596 := zL_caseI (n := 2) (xi := 107) (yi := 184) (gs := [[(0, 4294967295, 0), (0, 4294967295, 0)]]) (by decide) zd_snubDegree zx_snubDegree zy_snubDegree (fun g hg => by rw [List.mem_singleton.mp hg]; exact zt_snubDegree_0) (fun xs => ⟨_, List.mem_singleton.mpr rfl, zG_full2 xs⟩)
theorem zc_law_snubFar : zL_goal 1629 := zL_caseI (n := 3) (xi := 109) (yi := 186) (gs := [[(0, 4294967295, 0), (0, 4294967295, 0), (0, 4294967295, 0)]]) (by decide) zd_snubFar zx_snubFar zy_snubFar (fun g hg => by rw [List.mem_singleton.mp hg]; exact zt_snubFar_0) (fun xs => ⟨_, List.mem_singleton.mpr rfl, zG_full3 xs⟩)
theorem zc_law_snubFaces : zL_goal 1672 := zL_caseI (n := 2) (xi := 108) (yi := 185) (gs := [[(0, 4294967295, 0), (0, 4294967295, 0)]]) (by decide) zd_snubFaces zx_snubFaces zy_snubFaces (fun g hg => by rw [List.mem_singleton.mp hg]; exact zt_snubFaces_0) (fun xs => ⟨_, List.mem_singleton.mpr rfl, zG_full2 xs⟩)
theorem zc_law_dual : zL_goal 1705 := zL_caseI (n := 2) (xi := 62) (yi := 158) (gs := [[(0, 4294967295, 0), (0, 4294967295, 0)]]) (by decide) zd_dual zx_dual zy_dual (fun g hg => by rw [List.mem_singleton.mp hg]; exact zt_dual_0) (fun xs => ⟨_, List.mem_singleton.mpr rfl, zG_full2 xs⟩)
theorem zc_law_dualDegree : zL_goal 1738 := zL_caseI (n := 2) (xi := 63) (yi := 159) (gs := [[(0, 4294967295, 0), (0, 4294967295, 0)]]) (by decide) zd_dualDegree zx_dualDegree zy_dualDegree (fun g hg => by rw [List.mem_singleton.mp hg]; exact zt_dualDegree_0) (fun xs => ⟨_, List.mem_singleton.mpr rfl, zG_full2 xs⟩)
theorem zc_law_dualFar : zL_goal 1771 := zL_caseI (n := 1) (xi := 64) (yi := 160) (gs := [[(0, 4294967295, 0)]]) (by decide) zd_dualFar zx_dualFar zy_dualFar (fun g hg => by rw [List.mem_singleton.mp hg]; exact zt_dualFar_0) (fun xs => ⟨_, List.mem_singleton.mpr rfl, zG_full1 xs⟩)
theorem zc_law_digest : zL_goal 1794 := zL_caseJ (n := 0) (xi := 60) (yi := 156) (gs := [[]]) (by decide) zd_digest zx_digest zy_digest (fun g hg => by rw [List.mem_singleton.mp hg]; exact zt_digest_0) (fun xs => ⟨_, List.mem_singleton.mpr rfl, zG_full0 xs⟩)
theorem zx_init : zL_init 4 5 9 := ⟨RX7, TX7, 4, 2, yX7_init, cX7_init, _, _, rfl, zv_354, by decide, rfl, zv_355, zv_356, zv_4, rfl, by decide +kernel⟩
theorem zy_init : zL_init 120 6 12 := ⟨RX8, TX8, 35, 2, yX8_init, cX8_init, _, _, rfl, zv_357, by decide, rfl, zv_358, zv_359, zv_9, rfl, by decide +kernel⟩
