def zy_lo : Int × Int := (-2147483648, -1)
def zy_hi (x : Int) : Int × Int := (x, 2147483647)
def zy_md (k : Int) (i : Nat) (l : List (Int × Int)) : List zy_E := [zy_op k (l ++ [(-6, -1), zy_lo]) [(1, i, 7, zy_mkt 6 0 1 0), (3, i, 7, zy_mkt 7 0 1 0)], zy_op k (l ++ [zy_p 0, zy_a]) [(1, i, 7, 0), (3, i, 7, zy_mkt 7 0 1 0)], zy_op k (l ++ [(1, 6), zy_hi 0]) [(1, i, 7, zy_mkt 6 0 1 0), (3, i, 7, zy_mkt 7 0 1 0)]]
theorem zt_try15 : zq_go (zy_md 15 2 [zy_a, zy_a, zy_a, zy_a, zy_a]) = true := by decide +kernel
theorem zt_try5b : zq_go (zy_md 5 3 [zy_p 3, zy_p 24, zy_a, zy_a, zy_a]) = true := by decide +kernel
