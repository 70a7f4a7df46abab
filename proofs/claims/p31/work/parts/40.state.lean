/-! The heap behind the constructor; the state of an object as polynomials S and what else changes, U. -/
def zH0 : zv_H :=
  [(7, [1, 3, 24, 26, 28, 72, 74, 91, 152, 154, 156]), (1, [7, 2]), (50, [0, 1, 4, 5, 2, 3, 6, 0, 0, 0, 0, 0, 0, 0, 0, 0, 0, 0, 0, 0, 0, 0, 0, 0, 0, 0, 0, 0, 0, 0, 0, 0, 0, 0, 0, 0, 0, 0, 0, 0, 0, 0, 0, 0, 0, 0, 0, 0, 0, 0, 0, 0, 0, 0, 0, 0, 0, 0, 0, 0, 0, 0, 0, 0, 0, 0, 0, 0, 0, 0, 0, 0, 0, 0, 0, 0, 0, 0, 0, 0, 0, 0, 0, 0, 0, 0, 0, 0, 0, 0, 0, 0, 0, 0, 0, 0, 0]), (52, [4, 6, 8, 10, 12, 14, 16, 18, 20, 22]), (3, [1, 5, -1]), (50, List.replicate 25 (0)), (3, [1, 7, -1]), (50, List.replicate 25 (0)),
   (3, [1, 9, -1]), (50, List.replicate 25 (0)), (3, [1, 11, -1]), (50, List.replicate 25 (0)), (3, [1, 13, -1]), (50, List.replicate 25 (0)), (3, [1, 15, -1]), (50, List.replicate 25 (0)),
   (3, [1, 17, -1]), (50, List.replicate 25 (0)), (3, [1, 19, -1]), (50, List.replicate 25 (0)), (3, [1, 21, -1]), (50, List.replicate 25 (0)), (3, [1, 23, -1]), (50, List.replicate 25 (0)),
   (6, [25, 0]), (50, List.replicate 400 (0)), (6, [27, 0]), (50, List.replicate 160 (0)), (4, [1, 24, 3, 29, 68, 70, 0, 0, -1, -1]), (52, [30, 32, 34, 36, 38, 40, 42, 44, 46, 48, 50, 52, 54, 56, 58, 60, 62, 64, 66]), (3, [1, 31, -1]), (50, List.replicate 25 (0)),
   (3, [1, 33, -1]), (50, List.replicate 25 (0)), (3, [1, 35, -1]), (50, List.replicate 25 (0)), (3, [1, 37, -1]), (50, List.replicate 25 (0)), (3, [1, 39, -1]), (50, List.replicate 25 (0)),
   (3, [1, 41, -1]), (50, List.replicate 25 (0)), (3, [1, 43, -1]), (50, List.replicate 25 (0)), (3, [1, 45, -1]), (50, List.replicate 25 (0)), (3, [1, 47, -1]), (50, List.replicate 25 (0)),
   (3, [1, 49, -1]), (50, List.replicate 25 (0)), (3, [1, 51, -1]), (50, List.replicate 25 (0)), (3, [1, 53, -1]), (50, List.replicate 25 (0)), (3, [1, 55, -1]), (50, List.replicate 25 (0)),
   (3, [1, 57, -1]), (50, List.replicate 25 (0)), (3, [1, 59, -1]), (50, List.replicate 25 (0)), (3, [1, 61, -1]), (50, List.replicate 25 (0)), (3, [1, 63, -1]), (50, List.replicate 25 (0)),
   (3, [1, 65, -1]), (50, List.replicate 25 (0)), (3, [1, 67, -1]), (50, List.replicate 25 (0)), (3, [1, 69, -1]), (50, List.replicate 25 (0)), (3, [1, 71, -1]), (50, List.replicate 25 (0)),
   (2, [1, 73, 0]), (50, List.replicate 97 (-1)), (0, [1, 75, 77, 79, 81, 83, 85, 87, 89]), (3, [1, 76, -1]), (50, List.replicate 25 (0)), (3, [1, 78, -1]), (50, List.replicate 25 (0)), (3, [1, 80, -1]),
   (50, List.replicate 25 (0)), (3, [1, 82, -1]), (50, List.replicate 25 (0)), (3, [1, 84, -1]), (50, List.replicate 25 (0)), (3, [1, 86, -1]), (50, List.replicate 25 (0)), (3, [1, 88, -1]),
   (50, List.replicate 25 (0)), (3, [1, 90, -1]), (50, List.replicate 25 (0)), (5, [1, 74, 92, 93, 0, 94, 95, 0, 144, 146, 148, 150]), (52, [96, 98, 100, 102, 104, 106, 108, 110, 112, 114, 116, 118, 120, 122, 124, 126, 128, 130, 132, 134, 136, 138, 140, 142]), (50, List.replicate 24 (0)), (50, List.replicate 576 (0)), (50, List.replicate 24 (0)),
   (3, [1, 97, -1]), (50, List.replicate 25 (0)), (3, [1, 99, -1]), (50, List.replicate 25 (0)), (3, [1, 101, -1]), (50, List.replicate 25 (0)), (3, [1, 103, -1]), (50, List.replicate 25 (0)),
   (3, [1, 105, -1]), (50, List.replicate 25 (0)), (3, [1, 107, -1]), (50, List.replicate 25 (0)), (3, [1, 109, -1]), (50, List.replicate 25 (0)), (3, [1, 111, -1]), (50, List.replicate 25 (0)),
   (3, [1, 113, -1]), (50, List.replicate 25 (0)), (3, [1, 115, -1]), (50, List.replicate 25 (0)), (3, [1, 117, -1]), (50, List.replicate 25 (0)), (3, [1, 119, -1]), (50, List.replicate 25 (0)),
   (3, [1, 121, -1]), (50, List.replicate 25 (0)), (3, [1, 123, -1]), (50, List.replicate 25 (0)), (3, [1, 125, -1]), (50, List.replicate 25 (0)), (3, [1, 127, -1]), (50, List.replicate 25 (0)),
   (3, [1, 129, -1]), (50, List.replicate 25 (0)), (3, [1, 131, -1]), (50, List.replicate 25 (0)), (3, [1, 133, -1]), (50, List.replicate 25 (0)), (3, [1, 135, -1]), (50, List.replicate 25 (0)),
   (3, [1, 137, -1]), (50, List.replicate 25 (0)), (3, [1, 139, -1]), (50, List.replicate 25 (0)), (3, [1, 141, -1]), (50, List.replicate 25 (0)), (3, [1, 143, -1]), (50, List.replicate 25 (0)),
   (3, [1, 145, -1]), (50, List.replicate 25 (0)), (3, [1, 147, -1]), (50, List.replicate 25 (0)), (3, [1, 149, -1]), (50, List.replicate 25 (0)), (3, [1, 151, -1]), (50, List.replicate 25 (0)),
   (3, [1, 153, -1]), (50, List.replicate 25 (0)), (3, [1, 155, -1]), (50, List.replicate 25 (0)), (3, [1, 157, -1]), (50, List.replicate 25 (0))]
def zT0 : zT := zH0.map (fun c => (c.1, c.2.length))
def zPq (a : Int) : Bool := (decide (4 ≤ a) && decide (a ≤ 22) && decide (a % 2 = 0)) || (decide (75 ≤ a) && decide (a ≤ 89) && decide (a % 2 = 1)) || (decide (96 ≤ a) && decide (a ≤ 156) && decide (a % 2 = 0))
def zMu (a i : Int) : Bool := decide (a = 2) || (decide (92 ≤ a) && decide (a ≤ 95)) || decide (158 ≤ a) || (decide (a = 74) && decide (3 ≤ i) && decide (i ≤ 8)) || (decide (a = 91) && (decide (i = 4) || decide (i = 7)))
def zCo (a i : Int) : Int := ((zH0[a.toNat]?).getD (0, [])).2.getD i.toNat 0
noncomputable def zS {R : Type} (p : Int) (inv : Int → Int) (co : R → Nat → Int) (S : Int → R) (U : zD) : zD := fun a i =>
  if zPq a = true then (if i = 0 then 1 else if i = 1 then a + 1 else (zlen co (S a) : Int) - 1)
  else if zPq (a - 1) = true then co (S (a - 1)) i.toNat
  else if a = 1 ∧ i = 0 then p
  else if a = 2 ∧ 0 ≤ i ∧ i < p then inv i
  else if zMu a i = true then U a i else zCo a i
def zup {R : Type} (S : Int → R) (q : Int) (v : R) : Int → R := fun a => if a = q then v else S a
theorem zup_s {R : Type} (S : Int → R) (q : Int) (v : R) : zup S q v q = v := if_pos rfl
theorem zup_o {R : Type} (S : Int → R) {q a : Int} (v : R) (h : a ≠ q) : zup S q v a = S a := if_neg h
theorem zup_same {R : Type} (S : Int → R) (q : Int) : zup S q (S q) = S := by
  funext a
  unfold zup
  split
  · next h => rw [h]
  · rfl
theorem zup_up {R : Type} (S : Int → R) (q : Int) (v w : R) : zup (zup S q v) q w = zup S q w := by
  funext a
  unfold zup
  split <;> rfl
theorem zup_cm {R : Type} (S : Int → R) {q r : Int} (v w : R) (h : q ≠ r) : zup (zup S q v) r w = zup (zup S r w) q v := by
  funext a
  unfold zup
  by_cases h1 : a = r
  · rw [if_pos h1, if_neg (by omega), if_pos h1]
  · rw [if_neg h1]
    split
    · rfl
    · rfl
def zTT (T : zT) : Prop := ∃ T1, T = zT0 ++ T1
theorem zPq_iff (a : Int) : zPq a = true ↔ (4 ≤ a ∧ a ≤ 22 ∧ a % 2 = 0) ∨ (75 ≤ a ∧ a ≤ 89 ∧ a % 2 = 1) ∨ (96 ≤ a ∧ a ≤ 156 ∧ a % 2 = 0) := by
  unfold zPq
  simp only [Bool.or_eq_true, Bool.and_eq_true, decide_eq_true_eq]
  omega
theorem zPq_n {a : Int} (h : zPq a = true) : zPq (a + 1) = false := by
  have h1 := (zPq_iff a).mp h
  cases h2 : zPq (a + 1) with
  | false => rfl
  | true => have := (zPq_iff (a + 1)).mp h2; omega
theorem zPq_0 {a : Int} (h : zPq a = true) : 0 ≤ a ∧ a < 157 := by
  have h1 := (zPq_iff a).mp h
  omega
theorem zT0_len : zT0.length = 158 := by decide +kernel
theorem zT0_P : (List.range 158).all (fun a => !zPq (a : Int) || (decide (zT0[a]? = some (3, 3)) && decide (zT0[a + 1]? = some (50, 25)))) = true := by decide +kernel
theorem zTT_k {T : zT} (hT : zTT T) {a : Int} (h0 : 0 ≤ a) (h1 : a < 158) {k l : Nat} (h : zT0[a.toNat]? = some (k, l)) : zk T a = k ∧ zn T a = l := by
  obtain ⟨T1, rfl⟩ := hT
  have e : (zT0 ++ T1)[a.toNat]? = some (k, l) := by
    rw [List.getElem?_append_left (by rw [zT0_len]; omega), h]
  unfold zk zn
  rw [if_pos h0, if_pos h0, e]
  exact ⟨rfl, rfl⟩
theorem zTT_a {T : zT} (hT : zTT T) {t : zT} : zTT (T ++ t) := by
  obtain ⟨T1, rfl⟩ := hT
  exact ⟨T1 ++ t, by rw [List.append_assoc]⟩
theorem zP_T0 {a : Int} (h : zPq a = true) : zT0[a.toNat]? = some (3, 3) ∧ zT0[(a + 1).toNat]? = some (50, 25) := by
  obtain ⟨h0, h1⟩ := zPq_0 h
  have h2 := List.all_eq_true.mp zT0_P a.toNat (List.mem_range.mpr (by omega))
  rw [Int.toNat_of_nonneg h0, h] at h2
  simp only [Bool.not_true, Bool.false_or, Bool.and_eq_true, decide_eq_true_eq] at h2
  rw [show (a + 1).toNat = a.toNat + 1 by omega]
  exact h2
section
variable {T : zT} {q : Int}
theorem zP_ob (hT : zTT T) (hq : zPq q = true) : zob T q 3 3 := zTT_k hT (zPq_0 hq).1 (by have := zPq_0 hq; omega) (zP_T0 hq).1
theorem zP_k (hT : zTT T) (hq : zPq q = true) : zk T q = 3 := (zP_ob hT hq).1
theorem zP_rk (hT : zTT T) (hq : zPq q = true) : zk T (q + 1) = 50 := (zTT_k hT (by have := zPq_0 hq; omega) (by have := zPq_0 hq; omega) (zP_T0 hq).2).1
theorem zP_rn (hT : zTT T) (hq : zPq q = true) : zn T (q + 1) = 25 := (zTT_k hT (by have := zPq_0 hq; omega) (by have := zPq_0 hq; omega) (zP_T0 hq).2).2
theorem zP_ar (hT : zTT T) (hq : zPq q = true) (i : Int) : zar T (q + 1) 50 i = (0 ≤ i ∧ i < 25) := by
  unfold zar
  rw [zP_rk hT hq, zP_rn hT hq]
  simp
end
theorem zin25 : zin 25 := by unfold zin; omega
section
variable {R : Type} {p : Int} {inv : Int → Int} {co : R → Nat → Int} {S : Int → R} {U : zD} {q : Int}
theorem zS_f0 (hq : zPq q = true) : zS p inv co S U q 0 = 1 := by
  unfold zS
  rw [if_pos hq, if_pos rfl]
theorem zS_f1 (hq : zPq q = true) : zS p inv co S U q 1 = q + 1 := by
  unfold zS
  rw [if_pos hq, if_neg (by omega), if_pos rfl]
theorem zS_f2 (hq : zPq q = true) : zS p inv co S U q 2 = (zlen co (S q) : Int) - 1 := by
  unfold zS
  rw [if_pos hq, if_neg (by omega), if_neg (by omega)]
theorem zS_row (hq : zPq q = true) (i : Int) : zS p inv co S U (q + 1) i = co (S q) i.toNat := by
  unfold zS
  have e : q + 1 - 1 = q := by omega
  rw [zPq_n hq, if_neg (by decide), e, if_pos hq]
theorem zS_p : zS p inv co S U 1 0 = p := rfl
theorem zS_p1 : zS p inv co S U 1 1 = 2 := rfl
theorem zS_inv {i : Int} (h0 : 0 ≤ i) (h1 : i < p) : zS p inv co S U 2 i = inv i := by
  show (if _ then _ else _) = _
  rw [if_neg (by decide), if_neg (by decide), if_neg (by omega), if_pos ⟨rfl, h0, h1⟩]
theorem zS_mu {a i : Int} (h1 : zMu a i = true) (h2 : a ≠ 2) : zS p inv co S U a i = U a i := by
  have h3 : zPq a = false ∧ zPq (a - 1) = false ∧ a ≠ 1 := by
    unfold zMu at h1
    simp only [Bool.or_eq_true, Bool.and_eq_true, decide_eq_true_eq] at h1
    refine ⟨?_, ?_, by omega⟩
    · cases h : zPq a with
      | false => rfl
      | true => have := (zPq_iff a).mp h; omega
    · cases h : zPq (a - 1) with
      | false => rfl
      | true => have := (zPq_iff (a - 1)).mp h; omega
  unfold zS
  rw [h3.1, h3.2.1, if_neg (by decide), if_neg (by decide), if_neg (by omega), if_neg (by omega), if_pos h1]
theorem zS_zu {a i x : Int} (h1 : zMu a i = true) (h2 : a ≠ 2) : zu (zS p inv co S U) a i x = zS p inv co S (zu U a i x) := by
  funext b j
  unfold zu
  by_cases h : b = a ∧ j = i
  · obtain ⟨rfl, rfl⟩ := h
    rw [if_pos ⟨rfl, rfl⟩, zS_mu h1 h2, if_pos ⟨rfl, rfl⟩]
  · rw [if_neg h]
    unfold zS
    simp only [if_neg h]
end
/-- one polynomial's row and degree, as they are in the midst of a method -/
def zW (D : zD) (q : Int) (f : Int → Int) (h : Int) : zD := fun a i => if a = q ∧ i = 2 then h else if a = q + 1 then f i else D a i
section
variable {D : zD} {q h : Int} {f : Int → Int}
theorem zW_row (i : Int) : zW D q f h (q + 1) i = f i := by
  unfold zW
  rw [if_neg (by omega), if_pos rfl]
theorem zW_f2 : zW D q f h q 2 = h := if_pos ⟨rfl, rfl⟩
theorem zW_f {i : Int} (hi : i ≠ 2) : zW D q f h q i = D q i := by
  unfold zW
  rw [if_neg (by omega), if_neg (by omega)]
theorem zW_o {a : Int} (i : Int) (h1 : a ≠ q) (h2 : a ≠ q + 1) : zW D q f h a i = D a i := by
  unfold zW
  rw [if_neg (by omega), if_neg h2]
theorem zW_u {i x : Int} : zu (zW D q f h) (q + 1) i x = zW D q (fun j => if j = i then x else f j) h := by
  funext a j
  unfold zu zW
  by_cases h1 : a = q + 1
  · subst h1
    by_cases h2 : j = i
    · subst h2
      rw [if_pos ⟨rfl, rfl⟩, if_neg (by omega), if_pos rfl]
      exact (if_pos rfl).symm
    · rw [if_neg (by omega), if_neg (by omega), if_pos rfl, if_neg (by omega), if_pos rfl]
      exact (if_neg h2).symm
  · rw [if_neg (by omega)]
    split
    · rfl
    · rfl
theorem zW_u2 {x : Int} : zu (zW D q f h) q 2 x = zW D q f x := by
  funext a j
  unfold zu zW
  split
  · rfl
  · rfl
end
section
variable {R : Type} {p : Int} {inv : Int → Int} {co : R → Nat → Int} {S : Int → R} {U : zD} {q : Int} {T : zT}
theorem zW_in (hq : zPq q = true) : zS p inv co S U = zW (zS p inv co S U) q (fun i => co (S q) i.toNat) ((zlen co (S q) : Int) - 1) := by
  funext a i
  unfold zW
  by_cases h1 : a = q ∧ i = 2
  · obtain ⟨rfl, rfl⟩ := h1
    rw [if_pos ⟨rfl, rfl⟩, zS_f2 hq]
  · rw [if_neg h1]
    by_cases h2 : a = q + 1
    · subst h2
      rw [if_pos rfl, zS_row hq]
    · rw [if_neg h2]
theorem zW_out (hT : zTT T) (hq : zPq q = true) {v : R} {f : Int → Int} {h : Int} (hf : ∀ k : Nat, k < 25 → f k = co v k) (hh : h = (zlen co v : Int) - 1) : zqH T (zW (zS p inv co S U) q f h) = zqH T (zS p inv co (zup S q v) U) := by
  refine zq_eq (fun a _ _ i hi0 hi => ?_)
  unfold zW
  by_cases h1 : a = q ∧ i = 2
  · obtain ⟨rfl, rfl⟩ := h1
    rw [if_pos ⟨rfl, rfl⟩, zS_f2 hq, zup_s, hh]
  · rw [if_neg h1]
    by_cases h2 : a = q + 1
    · subst h2
      rw [if_pos rfl, zS_row hq, zup_s]
      rw [zP_rn hT hq] at hi
      have := hf i.toNat (by omega)
      rw [Int.toNat_of_nonneg hi0] at this
      exact this
    · rw [if_neg h2]
      unfold zS
      by_cases h3 : zPq a = true
      · rw [if_pos h3, if_pos h3]
        by_cases h4 : a = q
        · subst h4
          have : (3 : Int) = zn T a := (zP_ob hT hq).2.symm
          rw [← this] at hi
          by_cases h5 : i = 0
          · rw [if_pos h5, if_pos h5]
          · rw [if_neg h5, if_neg h5, if_pos (by omega), if_pos (by omega)]
        · rw [zup_o _ _ h4]
      · rw [if_neg h3, if_neg h3]
        by_cases h4 : zPq (a - 1) = true
        · rw [if_pos h4, if_pos h4, zup_o _ _ (by omega)]
        · rw [if_neg h4, if_neg h4]
end
