/-! CLASS AND REFERENCE ALIKE, case by case (written by wip/p1/genlaw.py) -/
theorem zt_ways_0 : zz_both zz_sameJ (zz_smB zz_tab) 116 190 (zL_as 4) zh_x zh_m [(0, 4294967295, 0), (0, 4294967295, 0), (0, 4294967295, 0), (0, 2147483647, 0)] = true := by decide +kernel
theorem zt_ways_1 : zz_both zz_sameJ (zz_smB zz_tab) 116 190 (zL_as 4) zh_x zh_m [(0, 4294967295, 0), (0, 4294967295, 0), (0, 4294967295, 0), (2147483648, 2147483648, 0)] = true := by decide +kernel
theorem zt_ways_2 : zz_both zz_sameJ (zz_smB zz_tab) 116 190 (zL_as 4) zh_x zh_m [(0, 4294967295, 0), (0, 4294967295, 0), (0, 4294967295, 0), (2147483649, 2147483649, 0)] = true := by decide +kernel
theorem zt_ways_3 : zz_both zz_sameJ (zz_smB zz_tab) 116 190 (zL_as 4) zh_x zh_m [(0, 4294967295, 0), (0, 4294967295, 0), (0, 4294967295, 0), (2147483650, 2147483650, 0)] = true := by decide +kernel
theorem zt_ways_4 : zz_both zz_sameJ (zz_smB zz_tab) 116 190 (zL_as 4) zh_x zh_m [(0, 4294967295, 0), (0, 4294967295, 0), (0, 4294967295, 0), (2147483651, 2147483651, 0)] = true := by decide +kernel
theorem zt_ways_5 : zz_both zz_sameJ (zz_smB zz_tab) 116 190 (zL_as 4) zh_x zh_m [(0, 4294967295, 0), (0, 4294967295, 0), (0, 4294967295, 0), (2147483652, 2147483652, 0)] = true := by decide +kernel
theorem zt_ways_6 : zz_both zz_sameJ (zz_smB zz_tab) 116 190 (zL_as 4) zh_x zh_m [(0, 4294967295, 0), (0, 4294967295, 0), (0, 4294967295, 0), (2147483653, 2147483653, 0)] = true := by decide +kernel
theorem zt_ways_7 : zz_both zz_sameJ (zz_smB zz_tab) 116 190 (zL_as 4) zh_x zh_m [(0, 4294967295, 0), (0, 4294967295, 0), (0, 4294967295, 0), (2147483654, 2147483654, 0)] = true := by decide +kernel
theorem zt_ways_8 : zz_both zz_sameJ (zz_smB zz_tab) 116 190 (zL_as 4) zh_x zh_m [(0, 4294967295, 0), (0, 4294967295, 0), (0, 4294967295, 0), (2147483655, 2147483655, 0)] = true := by decide +kernel
theorem zt_ways_9 : zz_both zz_sameJ (zz_smB zz_tab) 116 190 (zL_as 4) zh_x zh_m [(0, 4294967295, 0), (0, 4294967295, 0), (0, 4294967295, 0), (2147483656, 2147483656, 0)] = true := by decide +kernel
theorem zt_ways_10 : zz_both zz_sameJ (zz_smB zz_tab) 116 190 (zL_as 4) zh_x zh_m [(0, 4294967295, 0), (0, 4294967295, 0), (0, 4294967295, 0), (2147483657, 2147483657, 0)] = true := by decide +kernel
theorem zt_ways_11 : zz_both zz_sameJ (zz_smB zz_tab) 116 190 (zL_as 4) zh_x zh_m [(0, 4294967295, 0), (0, 4294967295, 0), (0, 4294967295, 0), (2147483658, 2147483658, 0)] = true := by decide +kernel
theorem zt_ways_12 : zz_both zz_sameJ (zz_smB zz_tab) 116 190 (zL_as 4) zh_x zh_m [(0, 4294967295, 0), (0, 4294967295, 0), (0, 4294967295, 0), (2147483659, 2147483659, 0)] = true := by decide +kernel
theorem zt_ways_13 : zz_both zz_sameJ (zz_smB zz_tab) 116 190 (zL_as 4) zh_x zh_m [(0, 4294967295, 0), (0, 4294967295, 0), (0, 4294967295, 0), (2147483660, 2147483660, 0)] = true := by decide +kernel
theorem zt_ways_14 : zz_both zz_sameJ (zz_smB zz_tab) 116 190 (zL_as 4) zh_x zh_m [(0, 4294967295, 0), (0, 4294967295, 0), (0, 4294967295, 0), (2147483661, 4294967295, 0)] = true := by decide +kernel
