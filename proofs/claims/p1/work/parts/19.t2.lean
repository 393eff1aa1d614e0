/-! CLASS AND REFERENCE ALIKE, case by case (written by wip/p1/genlaw.py) -/
theorem zt_ways_0 : zz_both zz_sameJ (zz_smB zz_tab) 116 190 (zL_as 4) zh_x zh_m [(0, 4294967295, 0), (0, 4294967295, 0), (0, 4294967295, 0), (0, 4294967295, 0)] = true := by decide +kernel
