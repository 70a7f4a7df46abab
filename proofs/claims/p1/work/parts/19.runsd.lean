theorem zr_6_0 : zq_go (zy_2nd 6 (zy_p (Int.ofNat 0)) 0 25) = true := by decide +kernel
theorem zr_6_1 : zq_go (zy_2nd 6 (zy_p (Int.ofNat 1)) 0 25) = true := by decide +kernel
theorem zr_6_2 : zq_go (zy_2nd 6 (zy_p (Int.ofNat 2)) 0 25) = true := by decide +kernel
theorem zr_6_3 : zq_go (zy_2nd 6 (zy_p (Int.ofNat 3)) 0 25) = true := by decide +kernel
theorem zr_6_4 : zq_go (zy_2nd 6 (zy_p (Int.ofNat 4)) 0 25) = true := by decide +kernel
theorem zr_6_5 : zq_go (zy_2nd 6 (zy_p (Int.ofNat 5)) 0 25) = true := by decide +kernel
theorem zr_6_6 : zq_go (zy_2nd 6 (zy_p (Int.ofNat 6)) 0 25) = true := by decide +kernel
theorem zr_6_7 : zq_go (zy_2nd 6 (zy_p (Int.ofNat 7)) 0 25) = true := by decide +kernel
theorem zr_6_8 : zq_go (zy_2nd 6 (zy_p (Int.ofNat 8)) 0 25) = true := by decide +kernel
theorem zr_6_9 : zq_go (zy_2nd 6 (zy_p (Int.ofNat 9)) 0 25) = true := by decide +kernel
theorem zr_20_0 : zq_go (zy_2nd 20 zy_a 0 25) = true := by decide +kernel
theorem zr_20_25 : zq_go (zy_2nd 20 zy_a 25 25) = true := by decide +kernel
theorem zr_20_50 : zq_go (zy_2nd 20 zy_a 50 25) = true := by decide +kernel
theorem zr_20_75 : zq_go (zy_2nd 20 zy_a 75 22) = true := by decide +kernel
