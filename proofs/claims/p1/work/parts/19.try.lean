def zy_lo : Int × Int := (-2147483648, -1)
def zy_hi (x : Int) : Int × Int := (x, 2147483647)
theorem zt_try1 : zq_go [zy_op 1 [zy_a, zy_a, zy_a, zy_a, zy_a] []] = true := by decide +kernel
theorem zt_try2 : zq_go [zy_op 2 [zy_lo, zy_a, zy_a, zy_a, zy_a] [], zy_op 2 [zy_p 0, zy_a, zy_a, zy_a, zy_a] [], zy_op 2 [zy_hi 1, zy_a, zy_a, zy_a, zy_a] []] = true := by decide +kernel
theorem zt_try3 : zq_go [zy_op 3 [zy_a, zy_a, zy_a, zy_a, zy_a] []] = true := by decide +kernel
theorem zt_try4 : zq_go [zy_op 4 [zy_a, zy_a, zy_a, zy_a, zy_a] []] = true := by decide +kernel
theorem zt_try7 : zq_go [zy_op 7 [zy_a, zy_a, zy_a, zy_a, zy_a] []] = true := by decide +kernel
theorem zt_try9 : zq_go [zy_op 9 [zy_a, zy_a, zy_a, zy_a, zy_a] []] = true := by decide +kernel
