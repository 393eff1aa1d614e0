/-! CLASS AND REFERENCE ALIKE, case by case (written by wip/p1/genlaw.py) -/
theorem zt_order_0 : zz_both zz_sameI (zz_smB zz_tab) 98 176 (zL_as 3) zh_x zh_m [(0, 4294967295, 0), (0, 2147483647, 0), (0, 4294967295, 0)] = true := by decide +kernel
theorem zt_order_1 : zz_both zz_sameI (zz_smB zz_tab) 98 176 (zL_as 3) zh_x zh_m [(0, 4294967295, 0), (2147483648, 2147483648, 0), (0, 4294967295, 0)] = true := by decide +kernel
theorem zt_order_2 : zz_both zz_sameI (zz_smB zz_tab) 98 176 (zL_as 3) zh_x zh_m [(0, 4294967295, 0), (2147483649, 2147483649, 0), (0, 4294967295, 0)] = true := by decide +kernel
theorem zt_order_3 : zz_both zz_sameI (zz_smB zz_tab) 98 176 (zL_as 3) zh_x zh_m [(0, 4294967295, 0), (2147483650, 2147483650, 0), (0, 4294967295, 0)] = true := by decide +kernel
theorem zt_order_4 : zz_both zz_sameI (zz_smB zz_tab) 98 176 (zL_as 3) zh_x zh_m [(0, 4294967295, 0), (2147483651, 2147483651, 0), (0, 4294967295, 0)] = true := by decide +kernel
theorem zt_order_5 : zz_both zz_sameI (zz_smB zz_tab) 98 176 (zL_as 3) zh_x zh_m [(0, 4294967295, 0), (2147483652, 2147483652, 0), (0, 4294967295, 0)] = true := by decide +kernel
theorem zt_order_6 : zz_both zz_sameI (zz_smB zz_tab) 98 176 (zL_as 3) zh_x zh_m [(0, 4294967295, 0), (2147483653, 2147483653, 0), (0, 4294967295, 0)] = true := by decide +kernel
theorem zt_order_7 : zz_both zz_sameI (zz_smB zz_tab) 98 176 (zL_as 3) zh_x zh_m [(0, 4294967295, 0), (2147483654, 2147483654, 0), (0, 4294967295, 0)] = true := by decide +kernel
theorem zt_order_8 : zz_both zz_sameI (zz_smB zz_tab) 98 176 (zL_as 3) zh_x zh_m [(0, 4294967295, 0), (2147483655, 2147483655, 0), (0, 4294967295, 0)] = true := by decide +kernel
theorem zt_order_9 : zz_both zz_sameI (zz_smB zz_tab) 98 176 (zL_as 3) zh_x zh_m [(0, 4294967295, 0), (2147483656, 2147483656, 0), (0, 4294967295, 0)] = true := by decide +kernel
theorem zt_order_10 : zz_both zz_sameI (zz_smB zz_tab) 98 176 (zL_as 3) zh_x zh_m [(0, 4294967295, 0), (2147483657, 2147483657, 0), (0, 4294967295, 0)] = true := by decide +kernel
theorem zt_order_11 : zz_both zz_sameI (zz_smB zz_tab) 98 176 (zL_as 3) zh_x zh_m [(0, 4294967295, 0), (2147483658, 4294967295, 0), (0, 4294967295, 0)] = true := by decide +kernel
theorem zt_corners_0 : zz_both zz_sameI (zz_smB zz_tab) 52 151 (zL_as 3) zh_x zh_m [(0, 2147483647, 0), (0, 4294967295, 0), (0, 4294967295, 0)] = true := by decide +kernel
theorem zt_corners_1 : zz_both zz_sameI (zz_smB zz_tab) 52 151 (zL_as 3) zh_x zh_m [(2147483648, 2147483648, 0), (0, 4294967295, 0), (0, 4294967295, 0)] = true := by decide +kernel
theorem zt_corners_2 : zz_both zz_sameI (zz_smB zz_tab) 52 151 (zL_as 3) zh_x zh_m [(2147483649, 2147483649, 0), (0, 4294967295, 0), (0, 4294967295, 0)] = true := by decide +kernel
theorem zt_corners_3 : zz_both zz_sameI (zz_smB zz_tab) 52 151 (zL_as 3) zh_x zh_m [(2147483650, 2147483650, 0), (0, 4294967295, 0), (0, 4294967295, 0)] = true := by decide +kernel
theorem zt_corners_4 : zz_both zz_sameI (zz_smB zz_tab) 52 151 (zL_as 3) zh_x zh_m [(2147483651, 2147483651, 0), (0, 4294967295, 0), (0, 4294967295, 0)] = true := by decide +kernel
theorem zt_corners_5 : zz_both zz_sameI (zz_smB zz_tab) 52 151 (zL_as 3) zh_x zh_m [(2147483652, 4294967295, 0), (0, 4294967295, 0), (0, 4294967295, 0)] = true := by decide +kernel
theorem zt_liesIn_0 : zz_both zz_sameI (zz_smB zz_tab) 89 172 (zL_as 5) zh_x zh_m [(0, 2147483647, 0), (0, 4294967295, 0), (0, 4294967295, 0), (0, 4294967295, 0), (0, 4294967295, 0)] = true := by decide +kernel
theorem zt_liesIn_1 : zz_both zz_sameI (zz_smB zz_tab) 89 172 (zL_as 5) zh_x zh_m [(2147483648, 2147483648, 0), (0, 4294967295, 0), (0, 4294967295, 0), (0, 4294967295, 0), (0, 4294967295, 0)] = true := by decide +kernel
theorem zt_liesIn_2 : zz_both zz_sameI (zz_smB zz_tab) 89 172 (zL_as 5) zh_x zh_m [(2147483649, 2147483649, 0), (0, 4294967295, 0), (0, 4294967295, 0), (0, 4294967295, 0), (0, 4294967295, 0)] = true := by decide +kernel
theorem zt_liesIn_3 : zz_both zz_sameI (zz_smB zz_tab) 89 172 (zL_as 5) zh_x zh_m [(2147483650, 2147483650, 0), (0, 4294967295, 0), (0, 4294967295, 0), (0, 4294967295, 0), (0, 4294967295, 0)] = true := by decide +kernel
theorem zt_liesIn_4 : zz_both zz_sameI (zz_smB zz_tab) 89 172 (zL_as 5) zh_x zh_m [(2147483651, 2147483651, 0), (0, 4294967295, 0), (0, 4294967295, 0), (0, 4294967295, 0), (0, 4294967295, 0)] = true := by decide +kernel
theorem zt_liesIn_5 : zz_both zz_sameI (zz_smB zz_tab) 89 172 (zL_as 5) zh_x zh_m [(2147483652, 4294967295, 0), (0, 4294967295, 0), (0, 4294967295, 0), (0, 4294967295, 0), (0, 4294967295, 0)] = true := by decide +kernel
theorem zt_within_0 : zz_both zz_sameI (zz_smB zz_tab) 117 191 (zL_as 4) zh_x zh_m [(0, 2147483647, 0), (0, 4294967295, 0), (0, 4294967295, 0), (0, 4294967295, 0)] = true := by decide +kernel
theorem zt_within_1 : zz_both zz_sameI (zz_smB zz_tab) 117 191 (zL_as 4) zh_x zh_m [(2147483648, 2147483648, 0), (0, 4294967295, 0), (0, 4294967295, 0), (0, 4294967295, 0)] = true := by decide +kernel
theorem zt_within_2 : zz_both zz_sameI (zz_smB zz_tab) 117 191 (zL_as 4) zh_x zh_m [(2147483649, 2147483649, 0), (0, 4294967295, 0), (0, 4294967295, 0), (0, 4294967295, 0)] = true := by decide +kernel
theorem zt_within_3 : zz_both zz_sameI (zz_smB zz_tab) 117 191 (zL_as 4) zh_x zh_m [(2147483650, 2147483650, 0), (0, 4294967295, 0), (0, 4294967295, 0), (0, 4294967295, 0)] = true := by decide +kernel
theorem zt_within_4 : zz_both zz_sameI (zz_smB zz_tab) 117 191 (zL_as 4) zh_x zh_m [(2147483651, 2147483651, 0), (0, 4294967295, 0), (0, 4294967295, 0), (0, 4294967295, 0)] = true := by decide +kernel
theorem zt_within_5 : zz_both zz_sameI (zz_smB zz_tab) 117 191 (zL_as 4) zh_x zh_m [(2147483652, 4294967295, 0), (0, 4294967295, 0), (0, 4294967295, 0), (0, 4294967295, 0)] = true := by decide +kernel
