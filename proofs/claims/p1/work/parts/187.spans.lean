/-! What the scripts of six numbers are cut into. -/
def zy_lo : Int × Int := (-2147483648, -1)
def zy_hi (x : Int) : Int × Int := (x, 2147483647)
def zy_rg : Int × Int := (0, 9)
/-- the remainder by 7 of what a place says, and its xor with 7, stand in places 6 and 7: less than 0, 0, more than 0 -/
def zy_md (k : Int) (i : Nat) (l : List (Int × Int)) : List zy_E := [zy_op k (l ++ [(-6, -1), zy_lo]) [(1, i, 7, zy_mkt 6 0 1 0), (3, i, 7, zy_mkt 7 0 1 0)], zy_op k (l ++ [zy_p 0, zy_a]) [(1, i, 7, 0), (3, i, 7, zy_mkt 7 0 1 0)], zy_op k (l ++ [(1, 6), zy_hi 0]) [(1, i, 7, zy_mkt 6 0 1 0), (3, i, 7, zy_mkt 7 0 1 0)]]
def zy_all (k : Int) : List zy_E := [zy_op k [zy_a, zy_a, zy_a, zy_a, zy_a] []]
/-- the first number: out of its span below or above, or one of n from lo on -/
def zy_1st (k : Int) (lo n : Nat) : List zy_E := (List.range n).map (fun j => zy_op k [zy_p (Int.ofNat (lo + j)), zy_a, zy_a, zy_a, zy_a] [])
def zy_out (k : Int) (n : Int) : List zy_E := [zy_op k [zy_lo, zy_a, zy_a, zy_a, zy_a] [], zy_op k [zy_hi n, zy_a, zy_a, zy_a, zy_a] []]
def zy_o0 : List zy_E := [zy_op 0 [(-2147483648, 1), zy_a, zy_a, zy_a, zy_a] [], zy_op 0 [zy_hi 98, zy_a, zy_a, zy_a, zy_a] []]
def zy_2nd (k : Int) (f : Int × Int) (lo n : Nat) : List zy_E := (List.range n).map (fun j => zy_op k [f, zy_p (Int.ofNat (lo + j)), zy_a, zy_a, zy_a] [])
def zy_out2 (k : Int) (n : Int) : List zy_E := [zy_op k [zy_lo, zy_a, zy_a, zy_a, zy_a] [], zy_op k [zy_hi 10, zy_a, zy_a, zy_a, zy_a] [], zy_op k [zy_rg, zy_lo, zy_a, zy_a, zy_a] [], zy_op k [zy_rg, zy_hi n, zy_a, zy_a, zy_a] []]
def zy_set (r lo n : Nat) : List zy_E := (List.range n).flatMap (fun j => zy_md 5 3 [zy_p (Int.ofNat r), zy_p (Int.ofNat (lo + j)), zy_a, zy_a, zy_a])
def zy_bz : List zy_E := [zy_op 13 [zy_a, zy_a, zy_lo, zy_a, zy_a] [], zy_op 13 [zy_a, zy_a, zy_hi 10, zy_a, zy_a] [], zy_op 13 [zy_a, zy_a, zy_rg, zy_lo, zy_a] [], zy_op 13 [zy_a, zy_a, zy_rg, zy_hi 10, zy_a] [], zy_op 13 [zy_a, zy_a, zy_rg, zy_rg, zy_a] [(4, 3, 4, 0)]]
def zy_bzt (r t n : Nat) : List zy_E := (List.range n).map (fun j => zy_op 13 [zy_a, zy_a, zy_p (Int.ofNat r), zy_p (Int.ofNat (t + j)), zy_a] [])
def zy_dv : List zy_E := [zy_op 12 [zy_a, zy_a, zy_a, zy_a, zy_a] [(2, 3, 4, 0)], zy_op 12 [zy_a, zy_a, zy_a, zy_a, zy_a] [(4, 3, 4, 0)]]
def zy_rt : List zy_E := [zy_op 20 [zy_a, zy_lo, zy_a, zy_a, zy_a] [], zy_op 20 [zy_a, zy_hi 97, zy_a, zy_a, zy_a] []]
