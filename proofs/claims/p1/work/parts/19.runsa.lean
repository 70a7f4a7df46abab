theorem zr_a1 : zq_go (zy_all 1 ++ zy_all 3 ++ zy_all 4 ++ zy_all 7 ++ zy_all 9 ++ [zy_op 2 [zy_lo, zy_a, zy_a, zy_a, zy_a] [], zy_op 2 [zy_p 0, zy_a, zy_a, zy_a, zy_a] [], zy_op 2 [zy_hi 1, zy_a, zy_a, zy_a, zy_a] []] ++ zy_out 8 10) = true := by decide +kernel
theorem zr_10 : zq_go (zy_out 10 5 ++ zy_1st 10 0 5) = true := by decide +kernel
theorem zr_11 : zq_go (zy_out 11 7 ++ zy_1st 11 0 7) = true := by decide +kernel
theorem zr_b1 : zq_go (zy_dv ++ zy_all 14 ++ zy_all 16 ++ zy_all 18 ++ zy_all 19) = true := by decide +kernel
theorem zr_b2 : zq_go (zy_all 21 ++ zy_all 22 ++ zy_all 23 ++ zy_all 24 ++ zy_all 25 ++ zy_all 26 ++ zy_md 15 2 [zy_a, zy_a, zy_a, zy_a, zy_a] ++ zy_all 28 ++ zy_all 29 ++ zy_all 30 ++ zy_all 31) = true := by decide +kernel
theorem zr_27 : zq_go (zy_all 27) = true := by decide +kernel
theorem zr_17 : zq_go (zy_out 17 7 ++ zy_1st 17 0 7) = true := by decide +kernel
theorem zr_5 : zq_go (zy_out2 5 25) = true := by decide +kernel
theorem zr_6 : zq_go (zy_out2 6 25) = true := by decide +kernel
theorem zr_13 : zq_go (zy_bz) = true := by decide +kernel
theorem zr_20 : zq_go (zy_rt) = true := by decide +kernel
theorem zr_0 : zq_go (zy_o0) = true := by decide +kernel
