/-! What the rules want of ints and of the heap. -/
theorem zs_stepE {E : List (List Int)} {y pc len a b w : Nat} {ls st : List zv_V} {h : zv_H} {ins : Instr} {v : Int} (e : zt_at y pc = some (ins, len, a, b, w, v)) : zs_step E (y, pc, ls, st, h) = zs_ins E y pc ls st h ins len a b v := by
  show (zo_o (zt_at y pc) fun e => match e with | (ins, len, a, b, _, v) => zs_ins E y pc ls st h ins len a b v) = _
  rw [e]
  rfl
theorem zin_0 : zin 0 := by unfold zin; omega
theorem zi_of {x : Int} (h : zin x) : (Int32.ofInt x).toInt = x := Int32.toInt_ofInt_of_le (by unfold zin at h; omega) (by unfold zin at h; omega)
theorem zi_inj {x y : Int} (h1 : zin x) (h2 : zin y) : Int32.ofInt x = Int32.ofInt y ↔ x = y := by
  constructor
  · intro h
    rw [← zi_of h1, ← zi_of h2, h]
  · rintro rfl; rfl
theorem zi_lt {x y : Int} (h1 : zin x) (h2 : zin y) : Int32.ofInt x < Int32.ofInt y ↔ x < y := by rw [Int32.lt_iff_toInt_lt, zi_of h1, zi_of h2]
theorem zi_le {x y : Int} (h1 : zin x) (h2 : zin y) : Int32.ofInt x ≤ Int32.ofInt y ↔ x ≤ y := by rw [Int32.le_iff_toInt_le, zi_of h1, zi_of h2]
section
variable {x y : Int}
theorem zi_cmp_eq (h1 : zin x) (h2 : zin y) : zi_cmp .eq (Int32.ofInt x) (Int32.ofInt y) = decide (x = y) := decide_eq_decide.mpr (zi_inj h1 h2)
theorem zi_cmp_ne (h1 : zin x) (h2 : zin y) : zi_cmp .ne (Int32.ofInt x) (Int32.ofInt y) = decide (x ≠ y) := by
  show (!decide (Int32.ofInt x = Int32.ofInt y)) = _
  rw [decide_not, decide_eq_decide.mpr (zi_inj h1 h2)]
theorem zi_cmp_lt (h1 : zin x) (h2 : zin y) : zi_cmp .lt (Int32.ofInt x) (Int32.ofInt y) = decide (x < y) := decide_eq_decide.mpr (zi_lt h1 h2)
theorem zi_cmp_ge (h1 : zin x) (h2 : zin y) : zi_cmp .ge (Int32.ofInt x) (Int32.ofInt y) = decide (y ≤ x) := decide_eq_decide.mpr (zi_le h2 h1)
theorem zi_cmp_gt (h1 : zin x) (h2 : zin y) : zi_cmp .gt (Int32.ofInt x) (Int32.ofInt y) = decide (y < x) := decide_eq_decide.mpr (zi_lt h2 h1)
theorem zi_cmp_le (h1 : zin x) (h2 : zin y) : zi_cmp .le (Int32.ofInt x) (Int32.ofInt y) = decide (x ≤ y) := decide_eq_decide.mpr (zi_le h1 h2)
theorem zi_max_ok (h1 : zin x) (h2 : zin y) : zi_max x y = if x < y then y else x := by
  unfold zi_max
  by_cases h : x < y
  · rw [if_pos h, decide_eq_true ((zi_lt h1 h2).mpr h)]; rfl
  · rw [if_neg h, decide_eq_false (fun h' => h ((zi_lt h1 h2).mp h'))]; rfl
theorem zi_min_ok (h1 : zin x) (h2 : zin y) : zi_min x y = if y < x then y else x := by
  unfold zi_min
  by_cases h : y < x
  · rw [if_pos h, decide_eq_true ((zi_lt h2 h1).mpr h)]; rfl
  · rw [if_neg h, decide_eq_false (fun h' => h ((zi_lt h2 h1).mp h'))]; rfl
theorem zi_ne0 (h2 : 0 < y) (h3 : y ≤ 2147483647) : ¬ Int32.ofInt y = 0 := by
  intro h
  have := (zi_inj (x := y) (y := 0) (by unfold zin; omega) zin_0).mp h
  omega
end
theorem zin_of (x : Int) : zin (Int32.ofInt x).toInt := by
  have h1 := Int32.le_toInt (Int32.ofInt x)
  have h2 := Int32.toInt_lt (Int32.ofInt x)
  unfold zin
  omega
theorem zi_bmod {x : Int} (h : zin x) : x.bmod (2 ^ 32) = x := by
  have := zi_of h
  rw [Int32.toInt_ofInt] at this
  exact this
theorem zi_tz {x y : Int} (h1 : zin x) (h2 : 0 < y) : zin (x.tdiv y) ∧ zin (x.tdiv y * y) := by
  unfold zin at *
  by_cases hx : 0 ≤ x
  · rw [Int.tdiv_eq_ediv_of_nonneg hx]
    have a1 := Int.ediv_nonneg hx (Int.le_of_lt h2)
    have a2 := Int.ediv_mul_le x (Int.ne_of_gt h2)
    have a3 := Int.mul_nonneg a1 (Int.le_of_lt h2)
    have a4 := Int.ediv_le_self y hx
    omega
  · obtain ⟨z, rfl⟩ : ∃ z, x = -z := ⟨-x, by omega⟩
    have hz : 0 ≤ z := by omega
    rw [Int.neg_tdiv, Int.tdiv_eq_ediv_of_nonneg hz, Int.neg_mul]
    have a1 := Int.ediv_nonneg hz (Int.le_of_lt h2)
    have a2 := Int.ediv_mul_le z (Int.ne_of_gt h2)
    have a3 := Int.mul_nonneg a1 (Int.le_of_lt h2)
    have a4 := Int.ediv_le_self y hz
    omega
theorem zi_div_ok {x y : Int} (h1 : zin x) (h2 : 0 < y) (h3 : y ≤ 2147483647) : zi_div x y = x.tdiv y := by
  have hy : zin y := by unfold zin; omega
  unfold zi_div
  rw [Int32.toInt_div, zi_of h1, zi_of hy]
  exact zi_bmod (zi_tz h1 h2).1
theorem zi_rem_ok {x y : Int} (h1 : zin x) (h2 : 0 < y) (h3 : y ≤ 2147483647) : zi_rem x y = x.tmod y := by
  have hy : zin y := by unfold zin; omega
  obtain ⟨b1, b2⟩ := zi_tz h1 h2
  have b3 : x - x.tdiv y * y = x.tmod y := by rw [Int.tmod_def, Int.mul_comm]
  have b4 : zin (x.tmod y) := by
    have c1 := Int.tmod_lt_of_pos x h2
    have c2 := Int.tmod_eq_emod (a := x) (b := y)
    have c3 := Int.emod_nonneg x (Int.ne_of_gt h2)
    have c4 : -y < x.tmod y := by
      by_cases hx : 0 ≤ x
      · have := Int.tmod_nonneg y hx
        omega
      · have h5 := Int.tmod_lt_of_pos (-x) h2
        rw [Int.neg_tmod] at h5
        omega
    unfold zin
    omega
  unfold zi_rem
  rw [Int32.toInt_sub, Int32.toInt_mul, Int32.toInt_div, zi_of h1, zi_of hy, zi_bmod b1, zi_bmod b2, b3, zi_bmod b4]
theorem zi_n0 {x : Int} (h0 : 0 ≤ x) (h1 : x ≤ 100000) : decide (Int32.ofInt x < 0) = false := decide_eq_false (fun h => by
  have := (zi_lt (x := x) (y := 0) (by unfold zin; omega) zin_0).mp h
  omega)
theorem zi_nn {x : Int} (h0 : 0 ≤ x) (h1 : x ≤ 100000) : (Int32.ofInt x).toNatClampNeg = x.toNat := by
  show (Int32.ofInt x).toInt.toNat = _
  rw [zi_of (by unfold zin; omega)]
theorem zb_ne {a b : Nat} (h : a ≠ b) : Nat.beq a b = false := by
  cases hb : Nat.beq a b with
  | false => rfl
  | true => exact absurd (Nat.eq_of_beq_eq_true hb) h
theorem zi_9999 {a : Nat} (h : Nat.ble 9000 a = false) : Nat.beq a 9999 = false := by
  cases hb : Nat.beq a 9999 with
  | false => rfl
  | true =>
    rw [Nat.eq_of_beq_eq_true hb] at h
    exact absurd h (by decide)
theorem zs_recvok {T : zT} {D : zD} {q : Int} {k : Nat} {as : List zv_V} (h : zk T q = k) (h9 : k ≠ 99) : zs_recv (zqH T D) k ((2, q) :: as) = true := by
  obtain ⟨g1, -⟩ := zq_get (D := D) h h9
  unfold zs_recv
  show (true && _) = true
  simp only [g1]
  exact Nat.beq_refl k
theorem zs_callok {y pc t : Nat} {ls st as : List zv_V} {h : zv_H} {m : zm_M} (hm : zm_at t = some m) (hst : (Nat.ble m.2.2.2.2.2.1 st.length && Nat.ble ((st.drop m.2.2.2.2.2.1).map zs_cat).sum 8) = true) (has : (st.take m.2.2.2.2.2.1).reverse = as) : zs_call y pc t ls st h = some (.inr (.inl (t, as, (y, pc + 3, ls, st.drop m.2.2.2.2.2.1, h)))) := by
  obtain ⟨m1, m2, m3, m4, m5, m6, m7⟩ := m
  unfold zs_call
  rw [hm]
  show zo_g (Nat.ble m6 st.length && Nat.ble ((st.drop m6).map zs_cat).sum 8) _ = _
  rw [show (Nat.ble m6 st.length && Nat.ble ((st.drop m6).map zs_cat).sum 8) = true from hst, show (st.take m6).reverse = as from has]
  rfl
/-- a new cell -/
def znew (D : zD) (n : Nat) (l : List Int) : zD := fun a i => if a = (n : Int) then l.getD i.toNat 0 else D a i
theorem zqH_new {T : zT} {D : zD} {k : Nat} {l : List Int} : zqH T D ++ [(k, l)] = zqH (T ++ [(k, l.length)]) (znew D T.length l) := by
  apply List.ext_getElem?
  intro i
  rw [zqH, List.getElem?_append, List.length_mapIdx, zqH, List.getElem?_mapIdx, List.getElem?_mapIdx, List.getElem?_append]
  by_cases hi : i < T.length
  · rw [if_pos hi, if_pos hi]
    cases T[i]? with
    | none => rfl
    | some t =>
      have e : D (i : Int) = znew D T.length l (i : Int) := by
        funext j
        have : ¬ ((i : Int) = (T.length : Int)) := by omega
        simp [znew, this]
      show some (zqC t.1 t.2 (D (i : Int))) = some (zqC t.1 t.2 (znew D T.length l (i : Int)))
      rw [← e]
  · rw [if_neg hi, if_neg hi]
    by_cases hi2 : i = T.length
    · subst hi2
      simp only [Nat.sub_self, List.getElem?_cons_zero, Option.map_some]
      congr 1
      unfold zqC
      congr 1
      apply List.ext_getElem?
      intro j
      by_cases hj : j < l.length
      · simp [hj, znew]
      · simp [hj]
    · have : ∃ n, i - T.length = n + 1 := ⟨i - T.length - 1, by omega⟩
      obtain ⟨n, hn⟩ := this
      rw [hn]
      rfl
/-! One rule an instruction, over the judgement zj. -/
theorem zr_iconst {E : List (List Int)} {d rt y pc len a b w : Nat} {v : Int} {ls st : List zv_V} {T : zT} {D : zD} {Q : Int → zT → zD → Prop} {i} (e : zt_at y pc = some (.iconst i, len, a, b, w, v))  (k : zj E d rt y (pc + 1) ls ((0, v) :: st) T D Q) : zj E d rt y pc ls st T D Q := by
  refine zj_nx ?_ k
  rw [zs_stepE e]
  rfl
theorem zr_bipush {E : List (List Int)} {d rt y pc len a b w : Nat} {v : Int} {ls st : List zv_V} {T : zT} {D : zD} {Q : Int → zT → zD → Prop} {i} (e : zt_at y pc = some (.bipush i, len, a, b, w, v))  (k : zj E d rt y (pc + 2) ls ((0, v) :: st) T D Q) : zj E d rt y pc ls st T D Q := by
  refine zj_nx ?_ k
  rw [zs_stepE e]
  rfl
theorem zr_sipush {E : List (List Int)} {d rt y pc len a b w : Nat} {v : Int} {ls st : List zv_V} {T : zT} {D : zD} {Q : Int → zT → zD → Prop} {i} (e : zt_at y pc = some (.sipush i, len, a, b, w, v))  (k : zj E d rt y (pc + 3) ls ((0, v) :: st) T D Q) : zj E d rt y pc ls st T D Q := by
  refine zj_nx ?_ k
  rw [zs_stepE e]
  rfl
theorem zr_ldc {E : List (List Int)} {d rt y pc len a b w : Nat} {v : Int} {ls st : List zv_V} {T : zT} {D : zD} {Q : Int → zT → zD → Prop} {i} (e : zt_at y pc = some (.ldc i, len, a, b, w, v)) (h : a = 0) (k : zj E d rt y (pc + 2) ls ((0, v) :: st) T D Q) : zj E d rt y pc ls st T D Q := by
  refine zj_nx ?_ k
  rw [zs_stepE e]
  subst h; rfl
theorem zr_ldc_w {E : List (List Int)} {d rt y pc len a b w : Nat} {v : Int} {ls st : List zv_V} {T : zT} {D : zD} {Q : Int → zT → zD → Prop} {i} (e : zt_at y pc = some (.ldc_w i, len, a, b, w, v)) (h : a = 0) (k : zj E d rt y (pc + 3) ls ((0, v) :: st) T D Q) : zj E d rt y pc ls st T D Q := by
  refine zj_nx ?_ k
  rw [zs_stepE e]
  subst h; rfl
theorem zr_iload_n {E : List (List Int)} {d rt y pc len a b w : Nat} {v : Int} {ls st : List zv_V} {T : zT} {D : zD} {Q : Int → zT → zD → Prop} {i} {x : Int} (e : zt_at y pc = some (.iload_n i, len, a, b, w, v)) (h : ls[a]? = some (0, x)) (k : zj E d rt y (pc + 1) ls ((0, x) :: st) T D Q) : zj E d rt y pc ls st T D Q := by
  refine zj_nx ?_ k
  rw [zs_stepE e]
  show zs_load y pc 1 a 0 ls st _ = _
  unfold zs_load
  rw [h]
  rfl
theorem zr_iload {E : List (List Int)} {d rt y pc len a b w : Nat} {v : Int} {ls st : List zv_V} {T : zT} {D : zD} {Q : Int → zT → zD → Prop} {i} {x : Int} (e : zt_at y pc = some (.iload i, len, a, b, w, v)) (h : ls[a]? = some (0, x)) (k : zj E d rt y (pc + 2) ls ((0, x) :: st) T D Q) : zj E d rt y pc ls st T D Q := by
  refine zj_nx ?_ k
  rw [zs_stepE e]
  show zs_load y pc 2 a 0 ls st _ = _
  unfold zs_load
  rw [h]
  rfl
theorem zr_aload_n {E : List (List Int)} {d rt y pc len a b w : Nat} {v : Int} {ls st : List zv_V} {T : zT} {D : zD} {Q : Int → zT → zD → Prop} {i} {x : Int} (e : zt_at y pc = some (.aload_n i, len, a, b, w, v)) (h : ls[a]? = some (2, x)) (k : zj E d rt y (pc + 1) ls ((2, x) :: st) T D Q) : zj E d rt y pc ls st T D Q := by
  refine zj_nx ?_ k
  rw [zs_stepE e]
  show zs_load y pc 1 a 2 ls st _ = _
  unfold zs_load
  rw [h]
  rfl
theorem zr_aload {E : List (List Int)} {d rt y pc len a b w : Nat} {v : Int} {ls st : List zv_V} {T : zT} {D : zD} {Q : Int → zT → zD → Prop} {i} {x : Int} (e : zt_at y pc = some (.aload i, len, a, b, w, v)) (h : ls[a]? = some (2, x)) (k : zj E d rt y (pc + 2) ls ((2, x) :: st) T D Q) : zj E d rt y pc ls st T D Q := by
  refine zj_nx ?_ k
  rw [zs_stepE e]
  show zs_load y pc 2 a 2 ls st _ = _
  unfold zs_load
  rw [h]
  rfl
theorem zr_istore_n {E : List (List Int)} {d rt y pc len a b w : Nat} {v : Int} {ls st : List zv_V} {T : zT} {D : zD} {Q : Int → zT → zD → Prop} {i} {x : Int} (e : zt_at y pc = some (.istore_n i, len, a, b, w, v)) (h : (Nat.blt a ls.length && zs_pok ls a) = true) (k : zj E d rt y (pc + 1) (ls.set a (0, x)) st T D Q) : zj E d rt y pc ls ((0, x) :: st) T D Q := by
  refine zj_nx ?_ k
  rw [zs_stepE e]
  show zs_store y pc 1 a 0 ls _ _ = _
  unfold zs_store zo_1 zo_g
  simp only [Nat.beq_refl, cond_true, h]
  rfl
theorem zr_istore {E : List (List Int)} {d rt y pc len a b w : Nat} {v : Int} {ls st : List zv_V} {T : zT} {D : zD} {Q : Int → zT → zD → Prop} {i} {x : Int} (e : zt_at y pc = some (.istore i, len, a, b, w, v)) (h : (Nat.blt a ls.length && zs_pok ls a) = true) (k : zj E d rt y (pc + 2) (ls.set a (0, x)) st T D Q) : zj E d rt y pc ls ((0, x) :: st) T D Q := by
  refine zj_nx ?_ k
  rw [zs_stepE e]
  show zs_store y pc 2 a 0 ls _ _ = _
  unfold zs_store zo_1 zo_g
  simp only [Nat.beq_refl, cond_true, h]
  rfl
theorem zr_astore_n {E : List (List Int)} {d rt y pc len a b w : Nat} {v : Int} {ls st : List zv_V} {T : zT} {D : zD} {Q : Int → zT → zD → Prop} {i} {x : Int} (e : zt_at y pc = some (.astore_n i, len, a, b, w, v)) (h : (Nat.blt a ls.length && zs_pok ls a) = true) (k : zj E d rt y (pc + 1) (ls.set a (2, x)) st T D Q) : zj E d rt y pc ls ((2, x) :: st) T D Q := by
  refine zj_nx ?_ k
  rw [zs_stepE e]
  show zs_store y pc 1 a 2 ls _ _ = _
  unfold zs_store zo_1 zo_g
  simp only [Nat.beq_refl, cond_true, h]
  rfl
theorem zr_astore {E : List (List Int)} {d rt y pc len a b w : Nat} {v : Int} {ls st : List zv_V} {T : zT} {D : zD} {Q : Int → zT → zD → Prop} {i} {x : Int} (e : zt_at y pc = some (.astore i, len, a, b, w, v)) (h : (Nat.blt a ls.length && zs_pok ls a) = true) (k : zj E d rt y (pc + 2) (ls.set a (2, x)) st T D Q) : zj E d rt y pc ls ((2, x) :: st) T D Q := by
  refine zj_nx ?_ k
  rw [zs_stepE e]
  show zs_store y pc 2 a 2 ls _ _ = _
  unfold zs_store zo_1 zo_g
  simp only [Nat.beq_refl, cond_true, h]
  rfl
theorem zr_iinc {E : List (List Int)} {d rt y pc len a b w : Nat} {v : Int} {ls st : List zv_V} {T : zT} {D : zD} {Q : Int → zT → zD → Prop} {i j} {x : Int} (e : zt_at y pc = some (.iinc i j, len, a, b, w, v)) (h : ls[a]? = some (0, x)) (h2 : zs_pok ls a = true) (k : zj E d rt y (pc + 3) (ls.set a (0, x + v)) st T D Q) : zj E d rt y pc ls st T D Q := by
  refine zj_nx ?_ k
  rw [zs_stepE e]
  show (zo_o ls[a]? fun x => zo_g (Nat.beq x.1 0 && zs_pok ls a) (zs_nx y (pc + 3) (ls.set a (0, x.2 + v)) st _)) = _
  rw [h]
  show zo_g (true && zs_pok ls a) _ = _
  rw [h2]
  rfl
theorem zr_iadd {E : List (List Int)} {d rt y pc len a b w : Nat} {v : Int} {ls st : List zv_V} {T : zT} {D : zD} {Q : Int → zT → zD → Prop} {x1 x2 : Int} (e : zt_at y pc = some (.iadd, len, a, b, w, v))  (k : zj E d rt y (pc + 1) ls ((0, x1 + x2) :: st) T D Q) : zj E d rt y pc ls ((0, x2) :: (0, x1) :: st) T D Q := by
  refine zj_nx ?_ k
  rw [zs_stepE e]
  rfl
theorem zr_isub {E : List (List Int)} {d rt y pc len a b w : Nat} {v : Int} {ls st : List zv_V} {T : zT} {D : zD} {Q : Int → zT → zD → Prop} {x1 x2 : Int} (e : zt_at y pc = some (.isub, len, a, b, w, v))  (k : zj E d rt y (pc + 1) ls ((0, x1 - x2) :: st) T D Q) : zj E d rt y pc ls ((0, x2) :: (0, x1) :: st) T D Q := by
  refine zj_nx ?_ k
  rw [zs_stepE e]
  rfl
theorem zr_imul {E : List (List Int)} {d rt y pc len a b w : Nat} {v : Int} {ls st : List zv_V} {T : zT} {D : zD} {Q : Int → zT → zD → Prop} {x1 x2 : Int} (e : zt_at y pc = some (.imul, len, a, b, w, v))  (k : zj E d rt y (pc + 1) ls ((0, x1 * x2) :: st) T D Q) : zj E d rt y pc ls ((0, x2) :: (0, x1) :: st) T D Q := by
  refine zj_nx ?_ k
  rw [zs_stepE e]
  rfl
theorem zr_iand {E : List (List Int)} {d rt y pc len a b w : Nat} {v : Int} {ls st : List zv_V} {T : zT} {D : zD} {Q : Int → zT → zD → Prop} {x1 x2 : Int} (e : zt_at y pc = some (.iand, len, a, b, w, v))  (k : zj E d rt y (pc + 1) ls ((0, zi_and x1 x2) :: st) T D Q) : zj E d rt y pc ls ((0, x2) :: (0, x1) :: st) T D Q := by
  refine zj_nx ?_ k
  rw [zs_stepE e]
  rfl
theorem zr_ixor {E : List (List Int)} {d rt y pc len a b w : Nat} {v : Int} {ls st : List zv_V} {T : zT} {D : zD} {Q : Int → zT → zD → Prop} {x1 x2 : Int} (e : zt_at y pc = some (.ixor, len, a, b, w, v))  (k : zj E d rt y (pc + 1) ls ((0, zi_xor x1 x2) :: st) T D Q) : zj E d rt y pc ls ((0, x2) :: (0, x1) :: st) T D Q := by
  refine zj_nx ?_ k
  rw [zs_stepE e]
  rfl
theorem zr_ishr {E : List (List Int)} {d rt y pc len a b w : Nat} {v : Int} {ls st : List zv_V} {T : zT} {D : zD} {Q : Int → zT → zD → Prop} {x1 x2 : Int} (e : zt_at y pc = some (.ishr, len, a, b, w, v))  (k : zj E d rt y (pc + 1) ls ((0, zi_shr x1 x2) :: st) T D Q) : zj E d rt y pc ls ((0, x2) :: (0, x1) :: st) T D Q := by
  refine zj_nx ?_ k
  rw [zs_stepE e]
  rfl
theorem zr_ineg {E : List (List Int)} {d rt y pc len a b w : Nat} {v : Int} {ls st : List zv_V} {T : zT} {D : zD} {Q : Int → zT → zD → Prop} {x : Int} (e : zt_at y pc = some (.ineg, len, a, b, w, v))  (k : zj E d rt y (pc + 1) ls ((0, -x) :: st) T D Q) : zj E d rt y pc ls ((0, x) :: st) T D Q := by
  refine zj_nx ?_ k
  rw [zs_stepE e]
  rfl
theorem zr_irem {E : List (List Int)} {d rt y pc len a b w : Nat} {v : Int} {ls st : List zv_V} {T : zT} {D : zD} {Q : Int → zT → zD → Prop} {x1 x2 : Int} (e : zt_at y pc = some (.irem, len, a, b, w, v)) (h1 : zin x1) (h2 : 0 < x2) (h3 : x2 ≤ 2147483647) (k : zj E d rt y (pc + 1) ls ((0, x1.tmod x2) :: st) T D Q) : zj E d rt y pc ls ((0, x2) :: (0, x1) :: st) T D Q := by
  refine zj_nx ?_ k
  rw [zs_stepE e]
  show zo_g (!decide (Int32.ofInt x2 = 0)) (zs_nx y (pc + 1) ls ((0, zi_rem x1 x2) :: st) _) = _
  rw [decide_eq_false (zi_ne0 h2 h3), zi_rem_ok h1 h2 h3]
  rfl
theorem zr_idiv {E : List (List Int)} {d rt y pc len a b w : Nat} {v : Int} {ls st : List zv_V} {T : zT} {D : zD} {Q : Int → zT → zD → Prop} {x1 x2 : Int} (e : zt_at y pc = some (.idiv, len, a, b, w, v)) (h1 : zin x1) (h2 : 0 < x2) (h3 : x2 ≤ 2147483647) (k : zj E d rt y (pc + 1) ls ((0, x1.tdiv x2) :: st) T D Q) : zj E d rt y pc ls ((0, x2) :: (0, x1) :: st) T D Q := by
  refine zj_nx ?_ k
  rw [zs_stepE e]
  show zo_g (!decide (Int32.ofInt x2 = 0)) (zs_nx y (pc + 1) ls ((0, zi_div x1 x2) :: st) _) = _
  rw [decide_eq_false (zi_ne0 h2 h3), zi_div_ok h1 h2 h3]
  rfl
theorem zr_iremN {E : List (List Int)} {d rt y pc len a b w : Nat} {v : Int} {ls st : List zv_V} {T : zT} {D : zD} {Q : Int → zT → zD → Prop} {x1 x2 : Int} (e : zt_at y pc = some (.irem, len, a, b, w, v)) (h2 : 0 < x2) (h3 : x2 ≤ 2147483647) (k : zj E d rt y (pc + 1) ls ((0, ((Int32.ofInt x1).toInt).tmod x2) :: st) T D Q) : zj E d rt y pc ls ((0, x2) :: (0, x1) :: st) T D Q := by
  refine zj_nx ?_ k
  rw [zs_stepE e]
  show zo_g (!decide (Int32.ofInt x2 = 0)) (zs_nx y (pc + 1) ls ((0, zi_rem x1 x2) :: st) _) = _
  have e1 : zi_rem x1 x2 = zi_rem (Int32.ofInt x1).toInt x2 := by unfold zi_rem; rw [Int32.ofInt_toInt]
  rw [decide_eq_false (zi_ne0 h2 h3), e1, zi_rem_ok (zin_of x1) h2 h3]
  rfl
theorem zr_dup {E : List (List Int)} {d rt y pc len a b w : Nat} {v : Int} {ls st : List zv_V} {T : zT} {D : zD} {Q : Int → zT → zD → Prop} {x : zv_V} (e : zt_at y pc = some (.dup, len, a, b, w, v)) (h : zs_wide x = false) (k : zj E d rt y (pc + 1) ls (x :: x :: st) T D Q) : zj E d rt y pc ls (x :: st) T D Q := by
  refine zj_nx ?_ k
  rw [zs_stepE e]
  show zo_g (!zs_wide x) _ = _
  rw [h]
  rfl
theorem zr_pop {E : List (List Int)} {d rt y pc len a b w : Nat} {v : Int} {ls st : List zv_V} {T : zT} {D : zD} {Q : Int → zT → zD → Prop} {x : zv_V} (e : zt_at y pc = some (.pop, len, a, b, w, v)) (h : zs_wide x = false) (k : zj E d rt y (pc + 1) ls st T D Q) : zj E d rt y pc ls (x :: st) T D Q := by
  refine zj_nx ?_ k
  rw [zs_stepE e]
  show zo_g (!zs_wide x) _ = _
  rw [h]
  rfl
theorem zr_goto {E : List (List Int)} {d rt y pc len a b w : Nat} {v : Int} {ls st : List zv_V} {T : zT} {D : zD} {Q : Int → zT → zD → Prop} {i} (e : zt_at y pc = some (.goto i, len, a, b, w, v))  (k : zj E d rt y (a) ls st T D Q) : zj E d rt y pc ls st T D Q := by
  refine zj_nx ?_ k
  rw [zs_stepE e]
  rfl
theorem zr_aconst_null {E : List (List Int)} {d rt y pc len a b w : Nat} {v : Int} {ls st : List zv_V} {T : zT} {D : zD} {Q : Int → zT → zD → Prop}  (e : zt_at y pc = some (.aconst_null, len, a, b, w, v))  (k : zj E d rt y (pc + 1) ls ((2, -1) :: st) T D Q) : zj E d rt y pc ls st T D Q := by
  refine zj_nx ?_ k
  rw [zs_stepE e]
  rfl
theorem zr_icmp_eq {E : List (List Int)} {d rt y pc len a b w : Nat} {v : Int} {ls st : List zv_V} {T : zT} {D : zD} {Q : Int → zT → zD → Prop} {i} {x1 x2 : Int} (e : zt_at y pc = some (.if_icmp .eq i, len, a, b, w, v)) (h1 : zin x1) (h2 : zin x2) (kt : x1 = x2 → zj E d rt y a ls st T D Q) (kf : x1 ≠ x2 → zj E d rt y (pc + 3) ls st T D Q) : zj E d rt y pc ls ((0, x2) :: (0, x1) :: st) T D Q := by
  by_cases hc : x1 = x2
  · refine zj_nx ?_ (kt hc)
    rw [zs_stepE e]
    show zs_goto (zi_cmp .eq (Int32.ofInt x1) (Int32.ofInt x2)) y a pc ls st _ = _
    rw [zi_cmp_eq h1 h2, decide_eq_true hc]
    rfl
  · refine zj_nx ?_ (kf hc)
    rw [zs_stepE e]
    show zs_goto (zi_cmp .eq (Int32.ofInt x1) (Int32.ofInt x2)) y a pc ls st _ = _
    rw [zi_cmp_eq h1 h2, decide_eq_false hc]
    rfl
theorem zr_icmp_ne {E : List (List Int)} {d rt y pc len a b w : Nat} {v : Int} {ls st : List zv_V} {T : zT} {D : zD} {Q : Int → zT → zD → Prop} {i} {x1 x2 : Int} (e : zt_at y pc = some (.if_icmp .ne i, len, a, b, w, v)) (h1 : zin x1) (h2 : zin x2) (kt : x1 ≠ x2 → zj E d rt y a ls st T D Q) (kf : x1 = x2 → zj E d rt y (pc + 3) ls st T D Q) : zj E d rt y pc ls ((0, x2) :: (0, x1) :: st) T D Q := by
  by_cases hc : x1 ≠ x2
  · refine zj_nx ?_ (kt hc)
    rw [zs_stepE e]
    show zs_goto (zi_cmp .ne (Int32.ofInt x1) (Int32.ofInt x2)) y a pc ls st _ = _
    rw [zi_cmp_ne h1 h2, decide_eq_true hc]
    rfl
  · refine zj_nx ?_ (kf (Decidable.not_not.mp hc))
    rw [zs_stepE e]
    show zs_goto (zi_cmp .ne (Int32.ofInt x1) (Int32.ofInt x2)) y a pc ls st _ = _
    rw [zi_cmp_ne h1 h2, decide_eq_false hc]
    rfl
theorem zr_icmp_lt {E : List (List Int)} {d rt y pc len a b w : Nat} {v : Int} {ls st : List zv_V} {T : zT} {D : zD} {Q : Int → zT → zD → Prop} {i} {x1 x2 : Int} (e : zt_at y pc = some (.if_icmp .lt i, len, a, b, w, v)) (h1 : zin x1) (h2 : zin x2) (kt : x1 < x2 → zj E d rt y a ls st T D Q) (kf : x2 ≤ x1 → zj E d rt y (pc + 3) ls st T D Q) : zj E d rt y pc ls ((0, x2) :: (0, x1) :: st) T D Q := by
  by_cases hc : x1 < x2
  · refine zj_nx ?_ (kt hc)
    rw [zs_stepE e]
    show zs_goto (zi_cmp .lt (Int32.ofInt x1) (Int32.ofInt x2)) y a pc ls st _ = _
    rw [zi_cmp_lt h1 h2, decide_eq_true hc]
    rfl
  · refine zj_nx ?_ (kf (by omega))
    rw [zs_stepE e]
    show zs_goto (zi_cmp .lt (Int32.ofInt x1) (Int32.ofInt x2)) y a pc ls st _ = _
    rw [zi_cmp_lt h1 h2, decide_eq_false hc]
    rfl
theorem zr_icmp_ge {E : List (List Int)} {d rt y pc len a b w : Nat} {v : Int} {ls st : List zv_V} {T : zT} {D : zD} {Q : Int → zT → zD → Prop} {i} {x1 x2 : Int} (e : zt_at y pc = some (.if_icmp .ge i, len, a, b, w, v)) (h1 : zin x1) (h2 : zin x2) (kt : x2 ≤ x1 → zj E d rt y a ls st T D Q) (kf : x1 < x2 → zj E d rt y (pc + 3) ls st T D Q) : zj E d rt y pc ls ((0, x2) :: (0, x1) :: st) T D Q := by
  by_cases hc : x2 ≤ x1
  · refine zj_nx ?_ (kt hc)
    rw [zs_stepE e]
    show zs_goto (zi_cmp .ge (Int32.ofInt x1) (Int32.ofInt x2)) y a pc ls st _ = _
    rw [zi_cmp_ge h1 h2, decide_eq_true hc]
    rfl
  · refine zj_nx ?_ (kf (by omega))
    rw [zs_stepE e]
    show zs_goto (zi_cmp .ge (Int32.ofInt x1) (Int32.ofInt x2)) y a pc ls st _ = _
    rw [zi_cmp_ge h1 h2, decide_eq_false hc]
    rfl
theorem zr_icmp_gt {E : List (List Int)} {d rt y pc len a b w : Nat} {v : Int} {ls st : List zv_V} {T : zT} {D : zD} {Q : Int → zT → zD → Prop} {i} {x1 x2 : Int} (e : zt_at y pc = some (.if_icmp .gt i, len, a, b, w, v)) (h1 : zin x1) (h2 : zin x2) (kt : x2 < x1 → zj E d rt y a ls st T D Q) (kf : x1 ≤ x2 → zj E d rt y (pc + 3) ls st T D Q) : zj E d rt y pc ls ((0, x2) :: (0, x1) :: st) T D Q := by
  by_cases hc : x2 < x1
  · refine zj_nx ?_ (kt hc)
    rw [zs_stepE e]
    show zs_goto (zi_cmp .gt (Int32.ofInt x1) (Int32.ofInt x2)) y a pc ls st _ = _
    rw [zi_cmp_gt h1 h2, decide_eq_true hc]
    rfl
  · refine zj_nx ?_ (kf (by omega))
    rw [zs_stepE e]
    show zs_goto (zi_cmp .gt (Int32.ofInt x1) (Int32.ofInt x2)) y a pc ls st _ = _
    rw [zi_cmp_gt h1 h2, decide_eq_false hc]
    rfl
theorem zr_icmp_le {E : List (List Int)} {d rt y pc len a b w : Nat} {v : Int} {ls st : List zv_V} {T : zT} {D : zD} {Q : Int → zT → zD → Prop} {i} {x1 x2 : Int} (e : zt_at y pc = some (.if_icmp .le i, len, a, b, w, v)) (h1 : zin x1) (h2 : zin x2) (kt : x1 ≤ x2 → zj E d rt y a ls st T D Q) (kf : x2 < x1 → zj E d rt y (pc + 3) ls st T D Q) : zj E d rt y pc ls ((0, x2) :: (0, x1) :: st) T D Q := by
  by_cases hc : x1 ≤ x2
  · refine zj_nx ?_ (kt hc)
    rw [zs_stepE e]
    show zs_goto (zi_cmp .le (Int32.ofInt x1) (Int32.ofInt x2)) y a pc ls st _ = _
    rw [zi_cmp_le h1 h2, decide_eq_true hc]
    rfl
  · refine zj_nx ?_ (kf (by omega))
    rw [zs_stepE e]
    show zs_goto (zi_cmp .le (Int32.ofInt x1) (Int32.ofInt x2)) y a pc ls st _ = _
    rw [zi_cmp_le h1 h2, decide_eq_false hc]
    rfl
theorem zr_if_eq {E : List (List Int)} {d rt y pc len a b w : Nat} {v : Int} {ls st : List zv_V} {T : zT} {D : zD} {Q : Int → zT → zD → Prop} {i} {x : Int} (e : zt_at y pc = some (.ifCond .eq i, len, a, b, w, v)) (h1 : zin x) (kt : x = 0 → zj E d rt y a ls st T D Q) (kf : x ≠ 0 → zj E d rt y (pc + 3) ls st T D Q) : zj E d rt y pc ls ((0, x) :: st) T D Q := by
  by_cases hc : x = 0
  · refine zj_nx ?_ (kt hc)
    rw [zs_stepE e]
    show zs_goto (zi_cmp .eq (Int32.ofInt x) (Int32.ofInt 0)) y a pc ls st _ = _
    rw [zi_cmp_eq h1 zin_0, decide_eq_true hc]
    rfl
  · refine zj_nx ?_ (kf hc)
    rw [zs_stepE e]
    show zs_goto (zi_cmp .eq (Int32.ofInt x) (Int32.ofInt 0)) y a pc ls st _ = _
    rw [zi_cmp_eq h1 zin_0, decide_eq_false hc]
    rfl
theorem zr_if_ne {E : List (List Int)} {d rt y pc len a b w : Nat} {v : Int} {ls st : List zv_V} {T : zT} {D : zD} {Q : Int → zT → zD → Prop} {i} {x : Int} (e : zt_at y pc = some (.ifCond .ne i, len, a, b, w, v)) (h1 : zin x) (kt : x ≠ 0 → zj E d rt y a ls st T D Q) (kf : x = 0 → zj E d rt y (pc + 3) ls st T D Q) : zj E d rt y pc ls ((0, x) :: st) T D Q := by
  by_cases hc : x ≠ 0
  · refine zj_nx ?_ (kt hc)
    rw [zs_stepE e]
    show zs_goto (zi_cmp .ne (Int32.ofInt x) (Int32.ofInt 0)) y a pc ls st _ = _
    rw [zi_cmp_ne h1 zin_0, decide_eq_true hc]
    rfl
  · refine zj_nx ?_ (kf (Decidable.not_not.mp hc))
    rw [zs_stepE e]
    show zs_goto (zi_cmp .ne (Int32.ofInt x) (Int32.ofInt 0)) y a pc ls st _ = _
    rw [zi_cmp_ne h1 zin_0, decide_eq_false hc]
    rfl
theorem zr_if_lt {E : List (List Int)} {d rt y pc len a b w : Nat} {v : Int} {ls st : List zv_V} {T : zT} {D : zD} {Q : Int → zT → zD → Prop} {i} {x : Int} (e : zt_at y pc = some (.ifCond .lt i, len, a, b, w, v)) (h1 : zin x) (kt : x < 0 → zj E d rt y a ls st T D Q) (kf : 0 ≤ x → zj E d rt y (pc + 3) ls st T D Q) : zj E d rt y pc ls ((0, x) :: st) T D Q := by
  by_cases hc : x < 0
  · refine zj_nx ?_ (kt hc)
    rw [zs_stepE e]
    show zs_goto (zi_cmp .lt (Int32.ofInt x) (Int32.ofInt 0)) y a pc ls st _ = _
    rw [zi_cmp_lt h1 zin_0, decide_eq_true hc]
    rfl
  · refine zj_nx ?_ (kf (by omega))
    rw [zs_stepE e]
    show zs_goto (zi_cmp .lt (Int32.ofInt x) (Int32.ofInt 0)) y a pc ls st _ = _
    rw [zi_cmp_lt h1 zin_0, decide_eq_false hc]
    rfl
theorem zr_if_ge {E : List (List Int)} {d rt y pc len a b w : Nat} {v : Int} {ls st : List zv_V} {T : zT} {D : zD} {Q : Int → zT → zD → Prop} {i} {x : Int} (e : zt_at y pc = some (.ifCond .ge i, len, a, b, w, v)) (h1 : zin x) (kt : 0 ≤ x → zj E d rt y a ls st T D Q) (kf : x < 0 → zj E d rt y (pc + 3) ls st T D Q) : zj E d rt y pc ls ((0, x) :: st) T D Q := by
  by_cases hc : 0 ≤ x
  · refine zj_nx ?_ (kt hc)
    rw [zs_stepE e]
    show zs_goto (zi_cmp .ge (Int32.ofInt x) (Int32.ofInt 0)) y a pc ls st _ = _
    rw [zi_cmp_ge h1 zin_0, decide_eq_true hc]
    rfl
  · refine zj_nx ?_ (kf (by omega))
    rw [zs_stepE e]
    show zs_goto (zi_cmp .ge (Int32.ofInt x) (Int32.ofInt 0)) y a pc ls st _ = _
    rw [zi_cmp_ge h1 zin_0, decide_eq_false hc]
    rfl
theorem zr_if_gt {E : List (List Int)} {d rt y pc len a b w : Nat} {v : Int} {ls st : List zv_V} {T : zT} {D : zD} {Q : Int → zT → zD → Prop} {i} {x : Int} (e : zt_at y pc = some (.ifCond .gt i, len, a, b, w, v)) (h1 : zin x) (kt : 0 < x → zj E d rt y a ls st T D Q) (kf : x ≤ 0 → zj E d rt y (pc + 3) ls st T D Q) : zj E d rt y pc ls ((0, x) :: st) T D Q := by
  by_cases hc : 0 < x
  · refine zj_nx ?_ (kt hc)
    rw [zs_stepE e]
    show zs_goto (zi_cmp .gt (Int32.ofInt x) (Int32.ofInt 0)) y a pc ls st _ = _
    rw [zi_cmp_gt h1 zin_0, decide_eq_true hc]
    rfl
  · refine zj_nx ?_ (kf (by omega))
    rw [zs_stepE e]
    show zs_goto (zi_cmp .gt (Int32.ofInt x) (Int32.ofInt 0)) y a pc ls st _ = _
    rw [zi_cmp_gt h1 zin_0, decide_eq_false hc]
    rfl
theorem zr_if_le {E : List (List Int)} {d rt y pc len a b w : Nat} {v : Int} {ls st : List zv_V} {T : zT} {D : zD} {Q : Int → zT → zD → Prop} {i} {x : Int} (e : zt_at y pc = some (.ifCond .le i, len, a, b, w, v)) (h1 : zin x) (kt : x ≤ 0 → zj E d rt y a ls st T D Q) (kf : 0 < x → zj E d rt y (pc + 3) ls st T D Q) : zj E d rt y pc ls ((0, x) :: st) T D Q := by
  by_cases hc : x ≤ 0
  · refine zj_nx ?_ (kt hc)
    rw [zs_stepE e]
    show zs_goto (zi_cmp .le (Int32.ofInt x) (Int32.ofInt 0)) y a pc ls st _ = _
    rw [zi_cmp_le h1 zin_0, decide_eq_true hc]
    rfl
  · refine zj_nx ?_ (kf (by omega))
    rw [zs_stepE e]
    show zs_goto (zi_cmp .le (Int32.ofInt x) (Int32.ofInt 0)) y a pc ls st _ = _
    rw [zi_cmp_le h1 zin_0, decide_eq_false hc]
    rfl
theorem zr_ifnull {E : List (List Int)} {d rt y pc len a b w : Nat} {v : Int} {ls st : List zv_V} {T : zT} {D : zD} {Q : Int → zT → zD → Prop} {i} {x : Int} (e : zt_at y pc = some (.ifnull i, len, a, b, w, v))  (kt : x = -1 → zj E d rt y a ls st T D Q) (kf : x ≠ -1 → zj E d rt y (pc + 3) ls st T D Q) : zj E d rt y pc ls ((2, x) :: st) T D Q := by
  by_cases hc : x = -1
  · refine zj_nx ?_ (kt hc)
    rw [zs_stepE e]
    show zs_goto (decide (x = -1)) y a pc ls st _ = _
    rw [decide_eq_true hc]
    rfl
  · refine zj_nx ?_ (kf hc)
    rw [zs_stepE e]
    show zs_goto (decide (x = -1)) y a pc ls st _ = _
    rw [decide_eq_false hc]
    rfl
theorem zr_ifnonnull {E : List (List Int)} {d rt y pc len a b w : Nat} {v : Int} {ls st : List zv_V} {T : zT} {D : zD} {Q : Int → zT → zD → Prop} {i} {x : Int} (e : zt_at y pc = some (.ifnonnull i, len, a, b, w, v))  (kt : x ≠ -1 → zj E d rt y a ls st T D Q) (kf : x = -1 → zj E d rt y (pc + 3) ls st T D Q) : zj E d rt y pc ls ((2, x) :: st) T D Q := by
  by_cases hc : x ≠ -1
  · refine zj_nx ?_ (kt hc)
    rw [zs_stepE e]
    show zs_goto (!decide (x = -1)) y a pc ls st _ = _
    rw [decide_eq_false hc]
    rfl
  · refine zj_nx ?_ (kf (Decidable.not_not.mp hc))
    rw [zs_stepE e]
    show zs_goto (!decide (x = -1)) y a pc ls st _ = _
    rw [decide_eq_true (Decidable.not_not.mp hc)]
    rfl
theorem zr_getfield {E : List (List Int)} {d rt y pc len a b w : Nat} {v : Int} {ls st : List zv_V} {T : zT} {D : zD} {Q : Int → zT → zD → Prop} {i} {q : Int} {n t : Nat} (e : zt_at y pc = some (.getfield i, len, a, b, w, v)) (h : zob T q a n) (hb : b < n) (ht : zf_tag a b = some t) (h9 : a ≠ 99) (k : zj E d rt y (pc + 3) ls ((zf_vt t, D q (b : Int)) :: st) T D Q) : zj E d rt y pc ls ((2, q) :: st) T D Q := by
  refine zj_nx ?_ k
  rw [zs_stepE e]
  obtain ⟨h1, h2⟩ := h
  obtain ⟨g1, g2, l, g3, g4⟩ := zq_get (D := D) h1 h9
  have hl : l = n := by omega
  show (zo_o (zh_at (zqH T D) q) fun c => zo_g (Nat.beq c.1 a) (zo_o (zf_tag a b) fun t => zo_o c.2[b]? fun x => zs_nx y (pc + 3) ls ((zf_vt t, x) :: st) _)) = _
  rw [g1, ht]
  show zo_g (Nat.beq a a) (zo_o (zqC a (zn T q).toNat (D q)).2[b]? fun x => zs_nx y (pc + 3) ls ((zf_vt t, x) :: st) _) = _
  rw [zqC_get (by omega), Nat.beq_refl]
  rfl
theorem zr_putfield {E : List (List Int)} {d rt y pc len a b w : Nat} {v : Int} {ls st : List zv_V} {T : zT} {D : zD} {Q : Int → zT → zD → Prop} {i} {q x : Int} {n t : Nat} (e : zt_at y pc = some (.putfield i, len, a, b, w, v)) (h : zob T q a n) (hb : b < n) (ht : zf_tag a b = some t) (h9 : a ≠ 99) (h5 : Nat.beq t 5 = false) (k : zj E d rt y (pc + 3) ls st T (zu D q (b : Int) x) Q) : zj E d rt y pc ls ((zf_vt t, x) :: (2, q) :: st) T D Q := by
  refine zj_nx ?_ k
  rw [zs_stepE e]
  obtain ⟨h1, h2⟩ := h
  obtain ⟨g1, g2, l, g3, g4⟩ := zq_get (D := D) h1 h9
  have hl : l = n := by omega
  have e2 : (zn T q).toNat = l := by omega
  show (zo_o (zh_at (zqH T D) q) fun c => zo_g (Nat.beq c.1 a && Nat.blt b c.2.length) (zo_o (zf_tag a b) fun t' => zo_g (Nat.beq (zf_vt t) (zf_vt t') && (!Nat.beq t' 5 || (decide (x = 0) || decide (x = 1)))) (zs_nx y (pc + 3) ls st ((zqH T D).set q.toNat (a, c.2.set b x))))) = _
  rw [g1, ht]
  show zo_g (Nat.beq a a && Nat.blt b (zqC a (zn T q).toNat (D q)).2.length) (zo_g (Nat.beq (zf_vt t) (zf_vt t) && (!Nat.beq t 5 || (decide (x = 0) || decide (x = 1)))) (zs_nx y (pc + 3) ls st ((zqH T D).set q.toNat (a, (zqC a (zn T q).toNat (D q)).2.set b x)))) = _
  rw [zqC_len, e2, Nat.beq_refl, Nat.beq_refl, h5, show Nat.blt b l = true from Nat.ble_eq_true_of_le (by omega), zq_set g2 g3 (by omega)]
  rfl
theorem zr_iaload {E : List (List Int)} {d rt y pc len a b w : Nat} {v : Int} {ls st : List zv_V} {T : zT} {D : zD} {Q : Int → zT → zD → Prop} {q i : Int} (e : zt_at y pc = some (.iaload, len, a, b, w, v)) (h : zar T q 50 i) (k : zj E d rt y (pc + 1) ls ((0, D q i) :: st) T D Q) : zj E d rt y pc ls ((0, i) :: (2, q) :: st) T D Q := by
  refine zj_nx ?_ k
  rw [zs_stepE e]
  obtain ⟨h1, h2, h3, h4⟩ := h
  obtain ⟨g1, g2, l, g3, g4⟩ := zq_get (D := D) h1 (by decide)
  have e2 : (zn T q).toNat = l := by omega
  show (cond (decide (0 ≤ q)) (zo_o (zh_at (zqH T D) q) fun c => zo_g (Nat.beq c.1 50) (zo_o (zi_ix i c.2.length) fun j => zs_nx y (pc + 1) ls ((0, c.2.getD j 0) :: st) _)) _) = _
  rw [decide_eq_true g2, g1, e2]
  show (zo_o (zi_ix i (zqC 50 l (D q)).2.length) fun j => zs_nx y (pc + 1) ls ((0, (zqC 50 l (D q)).2.getD j 0) :: st) _) = _
  rw [zqC_len, zi_ixok h2 (by omega) (by omega)]
  show zs_nx y (pc + 1) ls ((0, (zqC 50 l (D q)).2.getD i.toNat 0) :: st) _ = _
  rw [zqC_getD (by omega), Int.toNat_of_nonneg h2]
  rfl
theorem zr_ialoadE {E : List (List Int)} {d rt y pc len a b w : Nat} {v : Int} {ls st : List zv_V} {T : zT} {D : zD} {Q : Int → zT → zD → Prop} {q i : Int} {l : List Int} (e : zt_at y pc = some (.iaload, len, a, b, w, v)) (h : E[(-q - 2).toNat]? = some l) (hq : q ≤ -2) (h2 : 0 ≤ i) (h3 : i < l.length) (h4 : (l.length : Int) ≤ 2147483647) (k : zj E d rt y (pc + 1) ls ((0, l.getD i.toNat 0) :: st) T D Q) : zj E d rt y pc ls ((0, i) :: (2, q) :: st) T D Q := by
  refine zj_nx ?_ k
  rw [zs_stepE e]
  show (cond (decide (0 ≤ q)) _ (zo_g (decide (q ≤ -2)) (zo_o E[(-q - 2).toNat]? fun l => zo_o (zi_ix i l.length) fun j => zs_nx y (pc + 1) ls ((0, l.getD j 0) :: st) _))) = _
  rw [decide_eq_false (show ¬ 0 ≤ q by omega), decide_eq_true hq, h]
  show (zo_o (zi_ix i l.length) fun j => zs_nx y (pc + 1) ls ((0, l.getD j 0) :: st) _) = _
  rw [zi_ixok h2 h3 h4]
  rfl
theorem zr_aaload {E : List (List Int)} {d rt y pc len a b w : Nat} {v : Int} {ls st : List zv_V} {T : zT} {D : zD} {Q : Int → zT → zD → Prop} {q i : Int} (e : zt_at y pc = some (.aaload, len, a, b, w, v)) (h : zar T q 52 i) (h5 : -1 ≤ D q i) (k : zj E d rt y (pc + 1) ls ((2, D q i) :: st) T D Q) : zj E d rt y pc ls ((0, i) :: (2, q) :: st) T D Q := by
  refine zj_nx ?_ k
  rw [zs_stepE e]
  obtain ⟨h1, h2, h3, h4⟩ := h
  obtain ⟨g1, g2, l, g3, g4⟩ := zq_get (D := D) h1 (by decide)
  have e2 : (zn T q).toNat = l := by omega
  show (zo_o (zh_at (zqH T D) q) fun c => zo_g (Nat.beq c.1 52) (zo_o (zi_ix i c.2.length) fun j => zo_g (decide (-1 ≤ c.2.getD j 0)) (zs_nx y (pc + 1) ls ((2, c.2.getD j 0) :: st) _))) = _
  rw [g1, e2]
  show (zo_o (zi_ix i (zqC 52 l (D q)).2.length) fun j => zo_g (decide (-1 ≤ (zqC 52 l (D q)).2.getD j 0)) (zs_nx y (pc + 1) ls ((2, (zqC 52 l (D q)).2.getD j 0) :: st) _)) = _
  rw [zqC_len, zi_ixok h2 (by omega) (by omega)]
  show zo_g (decide (-1 ≤ (zqC 52 l (D q)).2.getD i.toNat 0)) (zs_nx y (pc + 1) ls ((2, (zqC 52 l (D q)).2.getD i.toNat 0) :: st) _) = _
  rw [zqC_getD (by omega), Int.toNat_of_nonneg h2, decide_eq_true h5]
  rfl
theorem zr_iastore {E : List (List Int)} {d rt y pc len a b w : Nat} {v : Int} {ls st : List zv_V} {T : zT} {D : zD} {Q : Int → zT → zD → Prop} {q i x : Int} (e : zt_at y pc = some (.iastore, len, a, b, w, v)) (h : zar T q 50 i) (k : zj E d rt y (pc + 1) ls st T (zu D q i x) Q) : zj E d rt y pc ls ((0, x) :: (0, i) :: (2, q) :: st) T D Q := by
  refine zj_nx ?_ k
  rw [zs_stepE e]
  obtain ⟨h1, h2, h3, h4⟩ := h
  obtain ⟨g1, g2, l, g3, g4⟩ := zq_get (D := D) h1 (by decide)
  have e2 : (zn T q).toNat = l := by omega
  show (zo_o (zh_at (zqH T D) q) fun c => zo_g (Nat.beq c.1 50) (zo_o (zi_ix i c.2.length) fun j => zs_nx y (pc + 1) ls st ((zqH T D).set q.toNat (50, c.2.set j x)))) = _
  rw [g1, e2]
  show (zo_o (zi_ix i (zqC 50 l (D q)).2.length) fun j => zs_nx y (pc + 1) ls st ((zqH T D).set q.toNat (50, (zqC 50 l (D q)).2.set j x))) = _
  rw [zqC_len, zi_ixok h2 (by omega) (by omega)]
  show zs_nx y (pc + 1) ls st ((zqH T D).set q.toNat (50, (zqC 50 l (D q)).2.set i.toNat x)) = _
  rw [zq_set g2 g3 (by omega), Int.toNat_of_nonneg h2]
  rfl
theorem zr_aastore {E : List (List Int)} {d rt y pc len a b w : Nat} {v : Int} {ls st : List zv_V} {T : zT} {D : zD} {Q : Int → zT → zD → Prop} {q i x : Int} (e : zt_at y pc = some (.aastore, len, a, b, w, v)) (h : zar T q 52 i) (hx : zk T x = 3) (k : zj E d rt y (pc + 1) ls st T (zu D q i x) Q) : zj E d rt y pc ls ((2, x) :: (0, i) :: (2, q) :: st) T D Q := by
  refine zj_nx ?_ k
  rw [zs_stepE e]
  obtain ⟨h1, h2, h3, h4⟩ := h
  obtain ⟨g1, g2, l, g3, g4⟩ := zq_get (D := D) h1 (by decide)
  obtain ⟨g5, -⟩ := zq_get (D := D) hx (by decide)
  have e2 : (zn T q).toNat = l := by omega
  show (zo_o (zh_at (zqH T D) q) fun c => zo_g (Nat.beq c.1 52) (zo_o (zi_ix i c.2.length) fun j => zo_o (zh_at (zqH T D) x) fun cx => zo_g (Nat.beq cx.1 3) (zs_nx y (pc + 1) ls st ((zqH T D).set q.toNat (52, c.2.set j x))))) = _
  rw [g1, e2, g5]
  show (zo_o (zi_ix i (zqC 52 l (D q)).2.length) fun j => zs_nx y (pc + 1) ls st ((zqH T D).set q.toNat (52, (zqC 52 l (D q)).2.set j x))) = _
  rw [zqC_len, zi_ixok h2 (by omega) (by omega)]
  show zs_nx y (pc + 1) ls st ((zqH T D).set q.toNat (52, (zqC 52 l (D q)).2.set i.toNat x)) = _
  rw [zq_set g2 g3 (by omega), Int.toNat_of_nonneg h2]
  rfl
theorem zr_arraylength {E : List (List Int)} {d rt y pc len a b w : Nat} {v : Int} {ls st : List zv_V} {T : zT} {D : zD} {Q : Int → zT → zD → Prop} {q : Int} (e : zt_at y pc = some (.arraylength, len, a, b, w, v)) (h : zk T q = 50 ∨ zk T q = 52) (k : zj E d rt y (pc + 1) ls ((0, zn T q) :: st) T D Q) : zj E d rt y pc ls ((2, q) :: st) T D Q := by
  refine zj_nx ?_ k
  rw [zs_stepE e]
  obtain ⟨kk, h1, h99, h5⟩ : ∃ kk, zk T q = kk ∧ kk ≠ 99 ∧ (Nat.beq kk 50 || Nat.beq kk 52) = true := by
    rcases h with h | h
    · exact ⟨50, h, by decide, rfl⟩
    · exact ⟨52, h, by decide, rfl⟩
  obtain ⟨g1, g2, l, g3, g4⟩ := zq_get (D := D) h1 h99
  have e2 : (zn T q).toNat = l := by omega
  show (cond (decide (0 ≤ q)) (zo_o (zh_at (zqH T D) q) fun c => zo_g (Nat.beq c.1 50 || Nat.beq c.1 52) (zs_nx y (pc + 1) ls ((0, (c.2.length : Int)) :: st) _)) _) = _
  rw [decide_eq_true g2, g1, e2]
  show zo_g (Nat.beq kk 50 || Nat.beq kk 52) (zs_nx y (pc + 1) ls ((0, (((zqC kk l (D q)).2.length : Nat) : Int)) :: st) _) = _
  rw [h5, zqC_len, g4]
  rfl
theorem zr_arraylengthE {E : List (List Int)} {d rt y pc len a b w : Nat} {v : Int} {ls st : List zv_V} {T : zT} {D : zD} {Q : Int → zT → zD → Prop} {q : Int} {l : List Int} (e : zt_at y pc = some (.arraylength, len, a, b, w, v)) (h : E[(-q - 2).toNat]? = some l) (hq : q ≤ -2) (k : zj E d rt y (pc + 1) ls ((0, (l.length : Int)) :: st) T D Q) : zj E d rt y pc ls ((2, q) :: st) T D Q := by
  refine zj_nx ?_ k
  rw [zs_stepE e]
  show (cond (decide (0 ≤ q)) _ (zo_g (decide (q ≤ -2)) (zo_o E[(-q - 2).toNat]? fun l => zs_nx y (pc + 1) ls ((0, (l.length : Int)) :: st) _))) = _
  rw [decide_eq_false (show ¬ 0 ≤ q by omega), decide_eq_true hq, h]
  rfl
theorem zr_getstatic {E : List (List Int)} {d rt y pc len a b w : Nat} {v : Int} {ls st : List zv_V} {T : zT} {D : zD} {Q : Int → zT → zD → Prop} {i} (e : zt_at y pc = some (.getstatic i, len, a, b, w, v)) (h : (Nat.beq y zk_law && Nat.beq a 0) = true) (k : zj E d rt y (pc + 3) ls ((2, -3) :: st) T D Q) : zj E d rt y pc ls st T D Q := by
  refine zj_nx ?_ k
  rw [zs_stepE e]
  show zo_g (Nat.beq y zk_law && Nat.beq a 0) _ = _
  rw [h]
  rfl
theorem zr_new {E : List (List Int)} {d rt y pc len a b w : Nat} {v : Int} {ls st : List zv_V} {T : zT} {D : zD} {Q : Int → zT → zD → Prop} {i} {ts : List Nat} (e : zt_at y pc = some (.new i, len, a, b, w, v)) (h : zf_tags[a]? = some ts) (k : zj E d rt y (pc + 3) ls ((2, (T.length : Int)) :: st) (T ++ [(a, ts.length)]) (znew D T.length (ts.map (fun t => cond (Nat.beq t 2) (-1) 0))) Q) : zj E d rt y pc ls st T D Q := by
  refine zj_nx ?_ k
  rw [zs_stepE e]
  show (zo_o (zf_new a) fun l => zs_nx y (pc + 3) ls ((2, ((zqH T D).length : Int)) :: st) (zqH T D ++ [(a, l)])) = _
  unfold zf_new
  rw [h, zqH_len]
  show zs_nx y (pc + 3) ls ((2, (T.length : Int)) :: st) (zqH T D ++ [(a, ts.map (fun t => cond (Nat.beq t 2) (-1) 0))]) = _
  rw [zqH_new, List.length_map]
  rfl
theorem zr_newarray {E : List (List Int)} {d rt y pc len a b w : Nat} {v : Int} {ls st : List zv_V} {T : zT} {D : zD} {Q : Int → zT → zD → Prop} {ty} {x : Int} (e : zt_at y pc = some (.newarray ty, len, a, b, w, v)) (h0 : 0 ≤ x) (h1 : x ≤ 100000) (k : zj E d rt y (pc + 2) ls ((2, (T.length : Int)) :: st) (T ++ [(50, x.toNat)]) (znew D T.length (List.replicate x.toNat 0)) Q) : zj E d rt y pc ls ((0, x) :: st) T D Q := by
  refine zj_nx ?_ k
  rw [zs_stepE e]
  show zo_g (!decide (Int32.ofInt x < 0) && Nat.ble ((Int32.ofInt x).toNatClampNeg * 4) 536870912) (zs_nx y (pc + 2) ls ((2, ((zqH T D).length : Int)) :: st) (zqH T D ++ [(50, List.replicate (Int32.ofInt x).toNatClampNeg 0)])) = _
  rw [zi_n0 h0 h1, zi_nn h0 h1, zqH_len, zqH_new (l := List.replicate x.toNat 0), List.length_replicate, show Nat.ble (x.toNat * 4) 536870912 = true from Nat.ble_eq_true_of_le (by omega)]
  rfl
theorem zr_return {E : List (List Int)} {d y pc len a b w : Nat} {v : Int} {ls : List zv_V} {T : zT} {D : zD} {Q : Int → zT → zD → Prop} {m : zm_M} (e : zt_at y pc = some (.return_, len, a, b, w, v)) (h : zm_at y = some m) (h2 : Nat.beq m.2.2.2.2.1 0 = true) (k : Q 0 T D) : zj E d 0 y pc ls [] T D Q := by
  refine zj_ret (rt := 0) 0 ?_ k
  rw [zs_stepE e]
  obtain ⟨m1, m2, m3, m4, m5, m6⟩ := m
  show (zo_o (zm_at y) fun m => match m with | (_, _, _, _, rc, _) => zo_g (Nat.beq rc 0 && List.isEmpty ([] : List zv_V)) (some (Sum.inr (Sum.inr (0, (0, 0), zqH T D))) : Option zv_S)) = _
  rw [h]
  show zo_g (Nat.beq m5 0 && List.isEmpty ([] : List zv_V)) _ = _
  rw [show Nat.beq m5 0 = true from h2]
  rfl
theorem zr_ireturn {E : List (List Int)} {d y pc len a b w : Nat} {v : Int} {ls : List zv_V} {T : zT} {D : zD} {Q : Int → zT → zD → Prop} {m : zm_M} {x : Int} (e : zt_at y pc = some (.ireturn, len, a, b, w, v)) (h : zm_at y = some m) (h2 : (Nat.beq m.2.2.2.2.1 1 || (Nat.beq m.2.2.2.2.1 2 && (decide (x = 0) || decide (x = 1)))) = true) (k : Q x T D) : zj E d 1 y pc ls [(0, x)] T D Q := by
  refine zj_ret (rt := 1) x ?_ k
  rw [zs_stepE e]
  obtain ⟨m1, m2, m3, m4, m5, m6⟩ := m
  show zs_ret y [(0, x)] 0 (fun rc x => Nat.beq rc 1 || (Nat.beq rc 2 && (decide (x = 0) || decide (x = 1)))) (zqH T D) = _
  unfold zs_ret
  rw [h]
  show zo_g ((Nat.beq m5 1 || (Nat.beq m5 2 && (decide (x = 0) || decide (x = 1)))) && List.isEmpty ([] : List zv_V)) _ = _
  rw [show (Nat.beq m5 1 || (Nat.beq m5 2 && (decide (x = 0) || decide (x = 1)))) = true from h2]
  rfl
theorem zr_areturn {E : List (List Int)} {d y pc len a b w : Nat} {v : Int} {ls : List zv_V} {T : zT} {D : zD} {Q : Int → zT → zD → Prop} {m : zm_M} {x : Int} (e : zt_at y pc = some (.areturn, len, a, b, w, v)) (h : zm_at y = some m) (h2 : Nat.beq m.2.2.2.2.1 3 = true) (h3 : -1 ≤ x) (k : Q x T D) : zj E d 2 y pc ls [(2, x)] T D Q := by
  refine zj_ret (rt := 2) x ?_ k
  rw [zs_stepE e]
  obtain ⟨m1, m2, m3, m4, m5, m6⟩ := m
  show zs_ret y [(2, x)] 2 (fun rc x => Nat.beq rc 3 && decide (-1 ≤ x)) (zqH T D) = _
  unfold zs_ret
  rw [h]
  show zo_g ((Nat.beq m5 3 && decide (-1 ≤ x)) && List.isEmpty ([] : List zv_V)) _ = _
  rw [show Nat.beq m5 3 = true from h2, decide_eq_true h3]
  rfl
theorem zr_invokevirtual {E : List (List Int)} {d rt rt2 y pc a w : Nat} {v : Int} {ls st : List zv_V} {T : zT} {D : zD} {Q : Int → zT → zD → Prop} {i} {m : zm_M} {q : Int} {as : List zv_V} (e : zt_at y pc = some (.invokevirtual i, 3, a, 0, w, v)) (hm : zm_at a = some m) (h9 : Nat.ble 9000 a = false) (hst : (Nat.ble m.2.2.2.2.2.1 st.length && Nat.ble ((st.drop m.2.2.2.2.2.1).map zs_cat).sum 8) = true) (has : (st.take m.2.2.2.2.2.1).reverse = ((2, q) :: as)) (hr : zk T q = m.2.2.2.2.2.2.1) (hr9 : m.2.2.2.2.2.2.1 ≠ 99) (hd : 0 < d) (k : zc E (d - 1) rt2 a ((2, q) :: as) T D (fun x T2 D2 => zj E d rt y (pc + 3) ls (zpush rt2 x (st.drop m.2.2.2.2.2.1)) T2 D2 Q)) : zj E d rt y pc ls st T D Q := by
  refine zj_call hd ?_ k
  rw [zs_stepE e]
  show (zo_o (zm_at a) fun m => zo_g (zs_recv (zqH T D) m.2.2.2.2.2.2.1 ((st.take m.2.2.2.2.2.1).reverse) && Nat.beq 0 0) (zs_call y pc a ls st (zqH T D))) = _
  rw [hm]
  show zo_g (zs_recv (zqH T D) m.2.2.2.2.2.2.1 ((st.take m.2.2.2.2.2.1).reverse) && Nat.beq 0 0) (zs_call y pc a ls st (zqH T D)) = _
  rw [has, zs_recvok hr hr9]
  show zs_call y pc a ls st (zqH T D) = _
  exact zs_callok hm hst has
theorem zr_invokespecial {E : List (List Int)} {d rt rt2 y pc a w : Nat} {v : Int} {ls st : List zv_V} {T : zT} {D : zD} {Q : Int → zT → zD → Prop} {i} {m : zm_M} {q : Int} {as : List zv_V} (e : zt_at y pc = some (.invokespecial i, 3, a, 2, w, v)) (hm : zm_at a = some m) (h9 : Nat.ble 9000 a = false) (hst : (Nat.ble m.2.2.2.2.2.1 st.length && Nat.ble ((st.drop m.2.2.2.2.2.1).map zs_cat).sum 8) = true) (has : (st.take m.2.2.2.2.2.1).reverse = ((2, q) :: as)) (hr : zk T q = m.2.2.2.2.2.2.1) (hr9 : m.2.2.2.2.2.2.1 ≠ 99) (hd : 0 < d) (k : zc E (d - 1) rt2 a ((2, q) :: as) T D (fun x T2 D2 => zj E d rt y (pc + 3) ls (zpush rt2 x (st.drop m.2.2.2.2.2.1)) T2 D2 Q)) : zj E d rt y pc ls st T D Q := by
  refine zj_call hd ?_ k
  rw [zs_stepE e]
  show (cond (Nat.beq a 9999) _ (zo_o (zm_at a) fun m => zo_g (zs_recv (zqH T D) m.2.2.2.2.2.2.1 ((st.take m.2.2.2.2.2.1).reverse) && Nat.beq 2 2) (zs_call y pc a ls st (zqH T D)))) = _
  rw [zi_9999 h9, hm]
  show zo_g (zs_recv (zqH T D) m.2.2.2.2.2.2.1 ((st.take m.2.2.2.2.2.1).reverse) && Nat.beq 2 2) (zs_call y pc a ls st (zqH T D)) = _
  rw [has, zs_recvok hr hr9]
  show zs_call y pc a ls st (zqH T D) = _
  exact zs_callok hm hst has
theorem zr_invokestatic {E : List (List Int)} {d rt rt2 y pc a w : Nat} {v : Int} {ls st : List zv_V} {T : zT} {D : zD} {Q : Int → zT → zD → Prop} {i} {m : zm_M} {as : List zv_V} (e : zt_at y pc = some (.invokestatic i, 3, a, 1, w, v)) (hm : zm_at a = some m) (h9 : Nat.ble 9000 a = false) (hst : (Nat.ble m.2.2.2.2.2.1 st.length && Nat.ble ((st.drop m.2.2.2.2.2.1).map zs_cat).sum 8) = true) (has : (st.take m.2.2.2.2.2.1).reverse = as)  (hd : 0 < d) (k : zc E (d - 1) rt2 a as T D (fun x T2 D2 => zj E d rt y (pc + 3) ls (zpush rt2 x (st.drop m.2.2.2.2.2.1)) T2 D2 Q)) : zj E d rt y pc ls st T D Q := by
  refine zj_call hd ?_ k
  rw [zs_stepE e]
  show (cond (Nat.ble 9000 a) _ (zo_g (Nat.beq 1 1) (zs_call y pc a ls st (zqH T D)))) = _
  rw [h9]
  show zs_call y pc a ls st (zqH T D) = _
  exact zs_callok hm hst has
theorem zr_mmax {E : List (List Int)} {d rt y pc len a b w : Nat} {v : Int} {ls st : List zv_V} {T : zT} {D : zD} {Q : Int → zT → zD → Prop} {i} {x1 x2 : Int} (e : zt_at y pc = some (.invokestatic i, len, a, b, w, v)) (ha : a = 9001) (h1 : zin x1) (h2 : zin x2) (hst : Nat.ble (st.map zs_cat).sum 8 = true) (k : zj E d rt y (pc + 3) ls ((0, if x1 < x2 then x2 else x1) :: st) T D Q) : zj E d rt y pc ls ((0, x2) :: (0, x1) :: st) T D Q := by
  refine zj_nx ?_ k
  rw [zs_stepE e]
  show (cond (Nat.ble 9000 a) (zo_g (Nat.ble (st.map zs_cat).sum 8) (zs_nx y (pc + 3) ls ((0, cond (Nat.beq a 9001) (zi_max x1 x2) (zi_min x1 x2)) :: st) _)) _) = _
  rw [show Nat.ble 9000 a = true from Nat.ble_eq_true_of_le (by omega), show Nat.beq a 9001 = true by rw [ha]; exact Nat.beq_refl _, hst, zi_max_ok h1 h2]
  rfl
theorem zr_mmin {E : List (List Int)} {d rt y pc len a b w : Nat} {v : Int} {ls st : List zv_V} {T : zT} {D : zD} {Q : Int → zT → zD → Prop} {i} {x1 x2 : Int} (e : zt_at y pc = some (.invokestatic i, len, a, b, w, v)) (ha : a = 9002) (h1 : zin x1) (h2 : zin x2) (hst : Nat.ble (st.map zs_cat).sum 8 = true) (k : zj E d rt y (pc + 3) ls ((0, if x2 < x1 then x2 else x1) :: st) T D Q) : zj E d rt y pc ls ((0, x2) :: (0, x1) :: st) T D Q := by
  refine zj_nx ?_ k
  rw [zs_stepE e]
  show (cond (Nat.ble 9000 a) (zo_g (Nat.ble (st.map zs_cat).sum 8) (zs_nx y (pc + 3) ls ((0, cond (Nat.beq a 9001) (zi_max x1 x2) (zi_min x1 x2)) :: st) _)) _) = _
  rw [show Nat.ble 9000 a = true from Nat.ble_eq_true_of_le (by omega), zb_ne (show a ≠ 9001 by omega), hst, zi_min_ok h1 h2]
  rfl
theorem zr_objinit {E : List (List Int)} {d rt y pc len a b w : Nat} {v : Int} {ls st : List zv_V} {T : zT} {D : zD} {Q : Int → zT → zD → Prop} {i} {q : Int} (e : zt_at y pc = some (.invokespecial i, len, a, b, w, v)) (ha : a = 9999) (hq : 0 ≤ q) (hst : Nat.ble (st.map zs_cat).sum 8 = true) (k : zj E d rt y (pc + 3) ls st T D Q) : zj E d rt y pc ls ((2, q) :: st) T D Q := by
  refine zj_nx ?_ k
  rw [zs_stepE e]
  show (cond (Nat.beq a 9999) (zo_g (decide (0 ≤ q) && Nat.ble (st.map zs_cat).sum 8) _) _) = _
  rw [show Nat.beq a 9999 = true by rw [ha]; exact Nat.beq_refl _, hst, decide_eq_true hq]
  rfl
theorem zin_c {x : Int} (h : (decide (-2147483648 ≤ x) && decide (x ≤ 2147483647)) = true) : zin x := by
  obtain ⟨h1, h2⟩ := Bool.and_eq_true_iff.mp h
  exact ⟨of_decide_eq_true h1, of_decide_eq_true h2⟩
theorem zr_bool {x : Int} (h : x = 0 ∨ x = 1) : (Nat.beq 2 1 || (Nat.beq 2 2 && (decide (x = 0) || decide (x = 1)))) = true := by
  rcases h with rfl | rfl <;> rfl
theorem zr_tsw_in {E : List (List Int)} {d rt y pc len a b w : Nat} {v : Int} {ls st : List zv_V} {T : zT} {D : zD} {Q : Int → zT → zD → Prop} {dd lo hi : Int} {offs : Array Int} {x o : Int} {j : Nat} (e : zt_at y pc = some (.tableswitch dd lo hi offs, len, a, b, w, v)) (h1 : zin x) (hx : x = lo + (j : Int)) (ho : offs[j]? = some o) (hd : 0 ≤ (pc : Int) + o ∧ lo ≤ lo + (j : Int) ∧ lo + (j : Int) ≤ hi) (k : zj E d rt y ((pc : Int) + o).toNat ls st T D Q) : zj E d rt y pc ls ((0, x) :: st) T D Q := by
  refine zj_nx ?_ k
  rw [zs_stepE e]
  show (cond (decide ((Int32.ofInt x).toInt < lo) || decide (hi < (Int32.ofInt x).toInt)) (zo_g (decide (0 ≤ (pc : Int) + dd)) (zs_nx y ((pc : Int) + dd).toNat ls st _))
      (zo_o offs[((Int32.ofInt x).toInt - lo).toNat]? fun o => zo_g (decide (0 ≤ (pc : Int) + o)) (zs_nx y ((pc : Int) + o).toNat ls st _))) = _
  rw [zi_of h1, decide_eq_false (show ¬ x < lo by omega), decide_eq_false (show ¬ hi < x by omega), show (x - lo).toNat = j by omega, ho]
  show zo_g (decide (0 ≤ (pc : Int) + o)) _ = _
  rw [decide_eq_true hd.1]
  rfl
theorem zr_tsw_out {E : List (List Int)} {d rt y pc len a b w : Nat} {v : Int} {ls st : List zv_V} {T : zT} {D : zD} {Q : Int → zT → zD → Prop} {dd lo hi : Int} {offs : Array Int} {x : Int} (e : zt_at y pc = some (.tableswitch dd lo hi offs, len, a, b, w, v)) (h1 : zin x) (hx : x < lo ∨ hi < x) (hd : 0 ≤ (pc : Int) + dd) (k : zj E d rt y ((pc : Int) + dd).toNat ls st T D Q) : zj E d rt y pc ls ((0, x) :: st) T D Q := by
  refine zj_nx ?_ k
  rw [zs_stepE e]
  show (cond (decide ((Int32.ofInt x).toInt < lo) || decide (hi < (Int32.ofInt x).toInt)) (zo_g (decide (0 ≤ (pc : Int) + dd)) (zs_nx y ((pc : Int) + dd).toNat ls st _))
      (zo_o offs[((Int32.ofInt x).toInt - lo).toNat]? fun o => zo_g (decide (0 ≤ (pc : Int) + o)) (zs_nx y ((pc : Int) + o).toNat ls st _))) = _
  rw [zi_of h1, show (decide (x < lo) || decide (hi < x)) = true by simpa using hx]
  show zo_g (decide (0 ≤ (pc : Int) + dd)) _ = _
  rw [decide_eq_true hd]
  rfl
