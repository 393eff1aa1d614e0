/-! CLASS AND REFERENCE ALIKE, case by case (written by wip/p1/genlaw.py) -/
theorem zt_cornerOf_0 : zz_both zz_sameI (zz_smB zz_tab) 51 150 (zL_as 4) zh_x zh_m [(0, 4294967295, 0), (0, 4294967295, 0), (0, 4294967295, 0), (0, 2147483647, 0)] = true := by decide +kernel
theorem zt_cornerOf_1 : zz_both zz_sameI (zz_smB zz_tab) 51 150 (zL_as 4) zh_x zh_m [(0, 4294967295, 0), (0, 4294967295, 0), (0, 4294967295, 0), (2147483648, 2147483648, 0)] = true := by decide +kernel
theorem zt_cornerOf_2 : zz_both zz_sameI (zz_smB zz_tab) 51 150 (zL_as 4) zh_x zh_m [(0, 4294967295, 0), (0, 4294967295, 0), (0, 4294967295, 0), (2147483649, 2147483649, 0)] = true := by decide +kernel
theorem zt_cornerOf_3 : zz_both zz_sameI (zz_smB zz_tab) 51 150 (zL_as 4) zh_x zh_m [(0, 4294967295, 0), (0, 4294967295, 0), (0, 4294967295, 0), (2147483650, 4294967295, 0)] = true := by decide +kernel
