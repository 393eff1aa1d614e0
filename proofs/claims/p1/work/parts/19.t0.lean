/-! CLASS AND REFERENCE ALIKE, case by case (written by wip/p1/genlaw.py) -/
theorem zt_body_0 : zz_both zz_sameI (zz_smB zz_tab) 19 136 (zL_as 2) zh_x zh_m [(0, 4294967295, 0), (0, 4294967295, 0)] = true := by decide +kernel
theorem zt_angle_0 : zz_both zz_sameI (zz_smB zz_tab) 18 135 (zL_as 4) zh_x zh_m [(0, 4294967295, 0), (0, 4294967295, 0), (0, 4294967295, 0), (0, 4294967295, 0)] = true := by decide +kernel
theorem zt_ring_0 : zz_both zz_sameI (zz_smB zz_tab) 104 180 (zL_as 2) zh_x zh_m [(0, 4294967295, 0), (0, 4294967295, 0)] = true := by decide +kernel
theorem zt_about_0 : zz_both zz_sameI (zz_smB zz_tab) 8 125 (zL_as 3) zh_x zh_m [(0, 4294967295, 0), (0, 4294967295, 0), (0, 4294967295, 0)] = true := by decide +kernel
theorem zt_size_0 : zz_both zz_sameI (zz_smB zz_tab) 59 182 (zL_as 1) zh_x zh_m [(0, 4294967295, 0)] = true := by decide +kernel
theorem zt_length_0 : zz_both zz_sameI (zz_smB zz_tab) 85 170 (zL_as 2) zh_x zh_m [(0, 4294967295, 0), (0, 4294967295, 0)] = true := by decide +kernel
theorem zt_letter_0 : zz_both zz_sameI (zz_smB zz_tab) 87 171 (zL_as 3) zh_x zh_m [(0, 4294967295, 0), (0, 4294967295, 0), (0, 4294967295, 0)] = true := by decide +kernel
theorem zt_element_0 : zz_both zz_sameI (zz_smB zz_tab) 68 161 (zL_as 2) zh_x zh_m [(0, 4294967295, 0), (0, 2147483647, 0)] = true := by decide +kernel
theorem zt_element_1 : zz_both zz_sameI (zz_smB zz_tab) 68 161 (zL_as 2) zh_x zh_m [(0, 4294967295, 0), (2147483648, 2147483648, 0)] = true := by decide +kernel
theorem zt_element_2 : zz_both zz_sameI (zz_smB zz_tab) 68 161 (zL_as 2) zh_x zh_m [(0, 4294967295, 0), (2147483649, 2147483649, 0)] = true := by decide +kernel
theorem zt_element_3 : zz_both zz_sameI (zz_smB zz_tab) 68 161 (zL_as 2) zh_x zh_m [(0, 4294967295, 0), (2147483659, 2147483659, 0)] = true := by decide +kernel
theorem zt_element_4 : zz_both zz_sameI (zz_smB zz_tab) 68 161 (zL_as 2) zh_x zh_m [(0, 4294967295, 0), (2147483759, 2147483759, 0)] = true := by decide +kernel
theorem zt_element_5 : zz_both zz_sameI (zz_smB zz_tab) 68 161 (zL_as 2) zh_x zh_m [(0, 4294967295, 0), (2147484759, 2147484759, 0)] = true := by decide +kernel
theorem zt_element_6 : zz_both zz_sameI (zz_smB zz_tab) 68 161 (zL_as 2) zh_x zh_m [(0, 4294967295, 0), (2147494759, 2147494759, 0)] = true := by decide +kernel
theorem zt_element_7 : zz_both zz_sameI (zz_smB zz_tab) 68 161 (zL_as 2) zh_x zh_m [(0, 4294967295, 0), (2147594759, 2147594759, 0)] = true := by decide +kernel
theorem zt_element_8 : zz_both zz_sameI (zz_smB zz_tab) 68 161 (zL_as 2) zh_x zh_m [(0, 4294967295, 0), (2148594759, 2148594759, 0)] = true := by decide +kernel
theorem zt_element_9 : zz_both zz_sameI (zz_smB zz_tab) 68 161 (zL_as 2) zh_x zh_m [(0, 4294967295, 0), (2158594759, 2158594759, 0)] = true := by decide +kernel
theorem zt_element_10 : zz_both zz_sameI (zz_smB zz_tab) 68 161 (zL_as 2) zh_x zh_m [(0, 4294967295, 0), (2258594759, 2258594759, 0)] = true := by decide +kernel
theorem zt_element_11 : zz_both zz_sameI (zz_smB zz_tab) 68 161 (zL_as 2) zh_x zh_m [(0, 4294967295, 0), (3258594759, 3258594759, 0)] = true := by decide +kernel
theorem zt_element_12 : zz_both zz_sameI (zz_smB zz_tab) 68 161 (zL_as 2) zh_x zh_m [(0, 4294967295, 0), (2147483648, 4294967295, 1)] = true := by decide +kernel
theorem zt_product_0 : zz_both zz_sameI (zz_smB zz_tab) 101 179 (zL_as 3) zh_x zh_m [(0, 4294967295, 0), (0, 4294967295, 0), (0, 4294967295, 0)] = true := by decide +kernel
theorem zt_inverse_0 : zz_both zz_sameI (zz_smB zz_tab) 72 163 (zL_as 2) zh_x zh_m [(0, 4294967295, 0), (0, 4294967295, 0)] = true := by decide +kernel
theorem zt_turns_0 : zz_both zz_sameI (zz_smB zz_tab) 112 188 (zL_as 2) zh_x zh_m [(0, 4294967295, 0), (0, 4294967295, 0)] = true := by decide +kernel
theorem zt_classSize_0 : zz_both zz_sameI (zz_smB zz_tab) 24 142 (zL_as 2) zh_x zh_m [(0, 4294967295, 0), (0, 4294967295, 0)] = true := by decide +kernel
theorem zt_ofLength_0 : zz_both zz_sameI (zz_smB zz_tab) 93 175 (zL_as 2) zh_x zh_m [(0, 4294967295, 0), (0, 4294967295, 0)] = true := by decide +kernel
theorem zt_mirrors_0 : zz_both zz_sameI (zz_smB zz_tab) 90 173 (zL_as 1) zh_x zh_m [(0, 4294967295, 0)] = true := by decide +kernel
theorem zt_kinds_0 : zz_both zz_sameI (zz_smB zz_tab) 77 166 (zL_as 2) zh_x zh_m [(0, 4294967295, 0), (0, 4294967295, 0)] = true := by decide +kernel
theorem zt_kind_0 : zz_both zz_sameI (zz_smB zz_tab) 75 165 (zL_as 3) zh_x zh_m [(0, 4294967295, 0), (0, 4294967295, 0), (0, 4294967295, 0)] = true := by decide +kernel
theorem zt_parts_0 : zz_both zz_sameI (zz_smB zz_tab) 100 178 (zL_as 2) zh_x zh_m [(0, 4294967295, 0), (0, 4294967295, 0)] = true := by decide +kernel
theorem zt_partOf_0 : zz_both zz_sameI (zz_smB zz_tab) 99 177 (zL_as 3) zh_x zh_m [(0, 4294967295, 0), (0, 4294967295, 0), (0, 4294967295, 0)] = true := by decide +kernel
theorem zt_least_0 : zz_both zz_sameI (zz_smB zz_tab) 83 169 (zL_as 3) zh_x zh_m [(0, 4294967295, 0), (0, 4294967295, 0), (0, 4294967295, 0)] = true := by decide +kernel
theorem zt_count_0 : zz_both zz_sameI (zz_smB zz_tab) 56 153 (zL_as 2) zh_x zh_m [(0, 4294967295, 0), (0, 4294967295, 0)] = true := by decide +kernel
theorem zt_law_0 : zz_both zz_sameI (zz_smB zz_tab) 79 167 (zL_as 1) zh_x zh_m [(0, 4294967295, 0)] = true := by decide +kernel
theorem zt_moves_0 : zz_both zz_sameI (zz_smB zz_tab) 91 174 (zL_as 3) zh_x zh_m [(0, 4294967295, 0), (0, 4294967295, 0), (0, 4294967295, 0)] = true := by decide +kernel
theorem zt_degree_0 : zz_both zz_sameI (zz_smB zz_tab) 58 155 (zL_as 2) zh_x zh_m [(0, 4294967295, 0), (0, 4294967295, 0)] = true := by decide +kernel
theorem zt_far_0 : zz_both zz_sameI (zz_smB zz_tab) 71 162 (zL_as 3) zh_x zh_m [(0, 4294967295, 0), (0, 4294967295, 0), (0, 4294967295, 0)] = true := by decide +kernel
theorem zt_layer_0 : zz_both zz_sameI (zz_smB zz_tab) 81 168 (zL_as 2) zh_x zh_m [(0, 4294967295, 0), (0, 4294967295, 0)] = true := by decide +kernel
theorem zt_coloured_0 : zz_both zz_sameI (zz_smB zz_tab) 45 146 (zL_as 1) zh_x zh_m [(0, 4294967295, 0)] = true := by decide +kernel
theorem zt_round_0 : zz_both zz_sameI (zz_smB zz_tab) 105 181 (zL_as 2) zh_x zh_m [(0, 4294967295, 0), (0, 4294967295, 0)] = true := by decide +kernel
theorem zt_alike_0 : zz_both zz_sameI (zz_smB zz_tab) 15 134 (zL_as 2) zh_x zh_m [(0, 4294967295, 0), (0, 4294967295, 0)] = true := by decide +kernel
theorem zt_unlike_0 : zz_both zz_sameI (zz_smB zz_tab) 113 189 (zL_as 1) zh_x zh_m [(0, 4294967295, 0)] = true := by decide +kernel
theorem zt_snub_0 : zz_both zz_sameI (zz_smB zz_tab) 106 183 (zL_as 2) zh_x zh_m [(0, 4294967295, 0), (0, 4294967295, 0)] = true := by decide +kernel
theorem zt_snubLaw_0 : zz_both zz_sameI (zz_smB zz_tab) 110 187 (zL_as 1) zh_x zh_m [(0, 4294967295, 0)] = true := by decide +kernel
theorem zt_snubDegree_0 : zz_both zz_sameI (zz_smB zz_tab) 107 184 (zL_as 2) zh_x zh_m [(0, 4294967295, 0), (0, 4294967295, 0)] = true := by decide +kernel
theorem zt_snubFar_0 : zz_both zz_sameI (zz_smB zz_tab) 109 186 (zL_as 3) zh_x zh_m [(0, 4294967295, 0), (0, 4294967295, 0), (0, 4294967295, 0)] = true := by decide +kernel
theorem zt_snubFaces_0 : zz_both zz_sameI (zz_smB zz_tab) 108 185 (zL_as 2) zh_x zh_m [(0, 4294967295, 0), (0, 4294967295, 0)] = true := by decide +kernel
theorem zt_dual_0 : zz_both zz_sameI (zz_smB zz_tab) 62 158 (zL_as 2) zh_x zh_m [(0, 4294967295, 0), (0, 4294967295, 0)] = true := by decide +kernel
theorem zt_dualDegree_0 : zz_both zz_sameI (zz_smB zz_tab) 63 159 (zL_as 2) zh_x zh_m [(0, 4294967295, 0), (0, 4294967295, 0)] = true := by decide +kernel
theorem zt_dualFar_0 : zz_both zz_sameI (zz_smB zz_tab) 64 160 (zL_as 1) zh_x zh_m [(0, 4294967295, 0)] = true := by decide +kernel
theorem zt_digest_0 : zz_both zz_sameJ (zz_smB zz_tab) 60 156 (zL_as 0) zh_x zh_m [] = true := by decide +kernel
