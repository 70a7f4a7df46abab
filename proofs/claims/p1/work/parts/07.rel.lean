/-! What a state of the machine has to do with a heap of the walk: b: where the new cells begin; pre: where the arrays stand that nobody writes; cI, cQ: the classes of int[] and of the arrays of references. -/
def zc_ref (b : Nat) (pre : Nat → Nat) (z : Int) : Value := if 0 ≤ z then .ref (b + z.toNat) else if z = -1 then .null else .ref (pre (-z - 2).toNat)
/-- a reference that nobody looks at -/
def zc_any (n : Nat) : Value := if n = 0 then .null else .ref (n - 1)
def zc_v (b : Nat) (pre : Nat → Nat) (v : zv_V) : Value := match v.1 with
  | 0 => .int (Int32.ofInt v.2)
  | 1 => .long (Int64.ofInt v.2)
  | 2 => zc_ref b pre v.2
  | 3 => .double (UInt64.ofNat v.2.toNat)
  | 8 => zc_any (pre 3)
  | _ => .null
def zc_q (b : Nat) (z : Int) : Option Nat := if 0 ≤ z then some (b + z.toNat) else none
def zc_fv (b : Nat) (pre : Nat → Nat) (k : Nat) (l : List Int) (j : Nat) : Value := match zf_tag k j with
  | none => .null
  | some t => zc_v b pre (zf_vt t, l.getD j 0)
def zc_fs (b : Nat) (pre : Nat → Nat) (k : Nat) (l : List Int) : List Value := (List.range l.length).map (zc_fv b pre k l)
def zc_cell (b : Nat) (pre : Nat → Nat) (cI cL cQ : ClassId) (c : zv_C) : va_E :=
  if c.1 = 50 then .inl (cI, c.2.length, .inl (fun j => Int32.ofInt (c.2.getD j 0)))
  else if c.1 = 51 then .inl (cL, c.2.length, .inr (.inl (fun j => Int64.ofInt (c.2.getD j 0))))
  else if c.1 = 52 then .inl (cQ, c.2.length, .inr (.inr (.inr (.inr (fun j => zc_q b (c.2.getD j 0))))))
  else .inr (c.1, zc_fs b pre c.1 c.2)
def zc_ws (b : Nat) (pre : Nat → Nat) (cI cL cQ : ClassId) (h : zv_H) : va_W := (List.range h.length).map (fun a => (b + a, zc_cell b pre cI cL cQ (h.getD a (0, []))))
def zx_Rel (b : Nat) (pre : Nat → Nat) (D : va_G) (cI cL cQ : ClassId) (h : zv_H) (H : Heap) : Prop := va_P D zvCl (zc_ws b pre cI cL cQ h) H ∧ H.size = b + h.length
def zx_K (D : va_G) (cI cL cQ : ClassId) (U : State) : Prop := va_K D zvCl [(cI, .int), (cQ, .object "PolyLathe$Poly"), (cL, .long)] U ∧ va_AO "PolyLathe$Poly" U ∧
  (∀ q ∈ zx_cast, va_Nw (.castable q.1 q.2) U) ∧ (∀ q ∈ zx_decl, va_Nw (.declares q) U) ∧ (∀ q ∈ zx_strs, ∃ a, vk_R q.1 q.2.1 q.2.2 a U) ∧ (∀ i j : Nat, ∀ p q : String × Nat × Nat, zk_exc[i]? = some p → zk_exc[j]? = some q → i ≠ j → va_Nc p.1 q.1 U) ∧
  ∀ q ∈ zx_nest, va_Nw (.fieldLinkNest q.1 q.2.1 q.2.2.1 q.2.2.2.1 q.2.2.2.2.1 q.2.2.2.2.2) U
def zx_E (b : Nat) (pre : Nat → Nat) (E : List (List Int)) (U : State) (H : Heap) : Prop := ∀ (i : Nat) (l : List Int), E[i]? = some l → pre i < b ∧ ∃ cell : Cell, H[pre i]? = some cell ∧ U.isArrayOf cell .int ∧ cell.vm ≠ .unknown ∧
  l.length ≤ cell.slots.size ∧ cell.slots.size.toInt32 = Int32.ofNat l.length ∧ ∀ j, j < l.length → cell.slots[j]? = some (.int (Int32.ofInt (l.getD j 0)))
/-- the statics that a throw reads; the text "0", and what its methods read -/
def zx_G (b : Nat) (pre : Nat → Nat) (U : State) (H : Heap) : Prop := (vx_Zq Bundle.tN "UNASSIGNED_STACK" Bundle.steD (fun q => b ≤ q) U H ∧ vx_Zq Bundle.tN "SUPPRESSED_SENTINEL" Bundle.listD (fun q => b ≤ q) U H) ∧ vk_S 1 [1] [[48]] (fun _ => pre 1) (fun _ => pre 2) (fun q => b ≤ q) U H ∧ va_Z "java/lang/String" "COMPACT_STRINGS" "Z" (.int 1) (fun q => b ≤ q) U H ∧ va_Z "jdk/internal/util/Preconditions" "SIOOBE_FORMATTER" "Ljava/util/function/BiFunction;" (zc_any (pre 3)) (fun q => b ≤ q) U H ∧ vk_R "PolyLatheModel" 184 "0" (pre 1) U
def zx_sl (h : zv_H) : Nat := (h.map (fun c => c.2.length)).sum
def zx_lv1 (b : Nat) (pre : Nat → Nat) (ls : List zv_V) (i : Nat) : Option (Nat × Value) := match ls[i]? with
  | none => none
  | some v => if v.1 = 9 then none else some (i, zc_v b pre v)
def zx_lv (b : Nat) (pre : Nat → Nat) (ls : List zv_V) : List (Nat × Value) := (List.range ls.length).filterMap (zx_lv1 b pre ls)
/-- the words that serve everywhere -/
def zx_TB : List Cond := lw_tbl.filter goodWord
theorem zk_w_mem {i : Nat} {w : Cond} (h : zk_w i w = true) : w ∈ zx_TB := by
  unfold zk_w at h
  cases hi : lw_tbl[i]? with
  | none => rw [hi] at h; cases h
  | some w' =>
    rw [hi] at h
    simp only [Bool.and_eq_true, decide_eq_true_eq] at h
    obtain ⟨rfl, h2⟩ := h
    exact List.mem_filter.mpr ⟨List.mem_of_getElem? hi, h2⟩
theorem zx_TB_good {ws : List Cond} (h : ∀ w ∈ ws, w ∈ zx_TB) : GoodIn zx_TB ws := fun w hw => ⟨h w hw, good_of_word (List.mem_filter.mp (h w hw)).2⟩
theorem zo_1_inv {α : Type} {st : List zv_V} {t : Nat} {k : Int → List zv_V → Option α} {q : α} (h : zo_1 st t k = some q) : ∃ x r, st = (t, x) :: r ∧ k x r = some q := by
  cases st with
  | nil => cases h
  | cons v r =>
    obtain ⟨t', x⟩ := v
    unfold zo_1 at h
    by_cases e : t' = t
    · subst e
      simp only [Nat.beq_refl, cond_true] at h
      exact ⟨x, r, rfl, h⟩
    · have : Nat.beq t' t = false := by rw [← Bool.not_eq_true, Nat.beq_eq]; exact e
      simp only [this, cond_false] at h
      cases h
theorem zo_g_inv {α : Type} {b : Bool} {k : Option α} {q : α} (h : zo_g b k = some q) : b = true ∧ k = some q := by
  cases b with
  | true => exact ⟨rfl, h⟩
  | false => cases h
theorem zo_o_inv {α β : Type} {o : Option β} {k : β → Option α} {q : α} (h : zo_o o k = some q) : ∃ x, o = some x ∧ k x = some q := by
  cases o with
  | none => cases h
  | some x => exact ⟨x, rfl, h⟩
theorem zh_at_inv {h : zv_H} {z : Int} {c : zv_C} (e : zh_at h z = some c) : 0 ≤ z ∧ h[z.toNat]? = some c := by
  unfold zh_at at e
  by_cases hz : 0 ≤ z
  · rw [decide_eq_true hz] at e
    exact ⟨hz, e⟩
  · rw [decide_eq_false hz] at e
    cases e
theorem zi_ix_inv {i : Int} {n j : Nat} (e : zi_ix i n = some j) : vp_in (Int32.ofInt i) n ∧ (Int32.ofInt i).toNatClampNeg = j ∧ j < n := by
  unfold zi_ix at e
  by_cases h : (!decide (Int32.ofInt i < 0) && decide ((Int32.ofInt i).toNatClampNeg < n)) = true
  · rw [h] at e
    cases e
    simp only [Bool.and_eq_true, Bool.not_eq_true', decide_eq_false_iff_not, decide_eq_true_eq] at h
    exact ⟨fun q => q.elim h.1 (fun q => by omega), rfl, h.2⟩
  · rw [Bool.not_eq_true] at h
    rw [h] at e
    cases e
section
variable {b : Nat} {pre : Nat → Nat} {D : va_G} {cI cL cQ : ClassId}
theorem zc_ref_nn {z : Int} (h : 0 ≤ z) : zc_ref b pre z = .ref (b + z.toNat) := if_pos h
theorem zc_ref_n : zc_ref b pre (-1) = .null := rfl
theorem zc_ref_p {z : Int} (h : z ≤ -2) : zc_ref b pre z = .ref (pre (-z - 2).toNat) := by
  unfold zc_ref
  rw [if_neg (by omega), if_neg (by omega)]
theorem zc_ref_or (z : Int) : zc_ref b pre z = .null ∨ ∃ a, zc_ref b pre z = .ref a := by
  unfold zc_ref
  by_cases h : 0 ≤ z
  · rw [if_pos h]; exact Or.inr ⟨_, rfl⟩
  · rw [if_neg h]
    by_cases h2 : z = -1
    · rw [if_pos h2]; exact Or.inl rfl
    · rw [if_neg h2]; exact Or.inr ⟨_, rfl⟩
theorem zc_ws_get {h : zv_H} {a : Nat} {c : zv_C} (e : h[a]? = some c) : (zc_ws b pre cI cL cQ h)[a]? = some (b + a, zc_cell b pre cI cL cQ c) := by
  have hl : a < h.length := (List.getElem?_eq_some_iff.mp e).1
  unfold zc_ws
  rw [List.getElem?_map, List.getElem?_range hl, Option.map_some, List.getD_eq_getElem?_getD, e]
  rfl
theorem zc_ws_len (h : zv_H) : (zc_ws b pre cI cL cQ h).length = h.length := by simp [zc_ws]
theorem zc_ws_inv {h : zv_H} {k : Nat} {q : Nat × va_E} (e : (zc_ws b pre cI cL cQ h)[k]? = some q) : ∃ c, h[k]? = some c ∧ q = (b + k, zc_cell b pre cI cL cQ c) := by
  have hl : k < h.length := by have := (List.getElem?_eq_some_iff.mp e).1; rwa [zc_ws_len] at this
  have e2 := zc_ws_get (b := b) (pre := pre) (cI := cI) (cL := cL) (cQ := cQ) (List.getElem?_eq_getElem hl)
  exact ⟨_, List.getElem?_eq_getElem hl, Option.some.inj (e.symm.trans e2)⟩
theorem zc_ws_set {h : zv_H} {a : Nat} (c : zv_C) (hl : a < h.length) : (zc_ws b pre cI cL cQ h).set a (b + a, zc_cell b pre cI cL cQ c) = zc_ws b pre cI cL cQ (h.set a c) := by
  apply List.ext_getElem?
  intro k
  by_cases hk : k < h.length
  · by_cases e : a = k
    · subst e
      rw [List.getElem?_set_self (by rw [zc_ws_len]; exact hl), zc_ws_get (List.getElem?_set_self hl)]
    · rw [List.getElem?_set_ne e, zc_ws_get (List.getElem?_eq_getElem hk), zc_ws_get (by rw [List.getElem?_set_ne e]; exact List.getElem?_eq_getElem hk)]
  · rw [List.getElem?_eq_none (by rw [List.length_set, zc_ws_len]; omega), List.getElem?_eq_none (by rw [zc_ws_len, List.length_set]; omega)]
theorem zc_ws_push (h : zv_H) (c : zv_C) : zc_ws b pre cI cL cQ (h ++ [c]) = zc_ws b pre cI cL cQ h ++ [(b + h.length, zc_cell b pre cI cL cQ c)] := by
  apply List.ext_getElem?
  intro k
  by_cases hk : k < h.length
  · rw [List.getElem?_append_left (by rw [zc_ws_len]; exact hk), zc_ws_get (List.getElem?_eq_getElem hk), zc_ws_get (by rw [List.getElem?_append_left hk]; exact List.getElem?_eq_getElem hk)]
  · by_cases e : k = h.length
    · subst e
      rw [zc_ws_get (c := c) (by simp), List.getElem?_append_right (by rw [zc_ws_len]; omega), zc_ws_len]
      simp
    · rw [List.getElem?_eq_none (by rw [zc_ws_len]; simp; omega), List.getElem?_eq_none (by simp [zc_ws_len]; omega)]
theorem zc_ws_D (h : zv_H) : va_D (fun q => b ≤ q) (zc_ws b pre cI cL cQ h) := by
  refine ⟨fun i j p q hi hj e => ?_, fun k q hk => ?_⟩
  · obtain ⟨c1, -, rfl⟩ := zc_ws_inv hi
    obtain ⟨c2, -, rfl⟩ := zc_ws_inv hj
    simp only at e
    omega
  · obtain ⟨c1, -, rfl⟩ := zc_ws_inv hk
    simp
theorem zx_sl_push (h : zv_H) (c : zv_C) : zx_sl (h ++ [c]) = zx_sl h + c.2.length := by simp [zx_sl]
theorem zx_sl_set {h : zv_H} {a : Nat} {c c' : zv_C} (e : h[a]? = some c) (hl : c'.2.length = c.2.length) : zx_sl (h.set a c') = zx_sl h := by
  induction h generalizing a with
  | nil => cases e
  | cons x t ih =>
    cases a with
    | zero => cases e; simp [zx_sl, hl]
    | succ a =>
      have := ih (a := a) (by simpa using e)
      simp only [zx_sl, List.set_cons_succ, List.map_cons, List.sum_cons] at this ⊢
      omega
/-- a cell is written: the same world but for it -/
theorem zx_Rel.set {h : zv_H} {H H1 : Heap} {a : Nat} {c c' : zv_C} (hR : zx_Rel b pre D cI cL cQ h H) (e : h[a]? = some c) (hz : H1.size = H.size) (ho : ∀ q, q ≠ b + a → H1[q]? = H[q]?)
    (hc : va_at D zvCl (b + a, zc_cell b pre cI cL cQ c') H1) : zx_Rel b pre D cI cL cQ (h.set a c') H1 := by
  have hl : a < h.length := (List.getElem?_eq_some_iff.mp e).1
  refine ⟨?_, by rw [hz, hR.2, List.length_set]⟩
  rw [← zc_ws_set c' hl]
  exact hR.1.set (zc_ws_D h) (zc_ws_get e) hc ho
theorem zx_Rel.push {h : zv_H} {H H1 : Heap} {c : zv_C} (hR : zx_Rel b pre D cI cL cQ h H) (hz : H1.size = H.size + 1) (ho : ∀ q, q < H.size → H1[q]? = H[q]?)
    (hc : va_at D zvCl (b + h.length, zc_cell b pre cI cL cQ c) H1) : zx_Rel b pre D cI cL cQ (h ++ [c]) H1 := by
  refine ⟨?_, by rw [hz, hR.2, List.length_append]; rfl⟩
  rw [zc_ws_push]
  refine (hR.1.kept (fun k x hx => ho x.1 ((hR.1 k x hx).lt))).app (fun k x hx => ?_)
  cases k with
  | zero => cases hx; exact hc
  | succ k => simp at hx
theorem zx_Rel.at {h : zv_H} {H : Heap} {a : Nat} {c : zv_C} (hR : zx_Rel b pre D cI cL cQ h H) (e : h[a]? = some c) : va_at D zvCl (b + a, zc_cell b pre cI cL cQ c) H := hR.1 a _ (zc_ws_get e)
end
