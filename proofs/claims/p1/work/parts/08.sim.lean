/-! A step of the walk is a step of the machine. -/
/-- what holds in a method's frame: its code, the words, what the tables say, the arrays that nobody writes -/
def zx_C (p : Program) (s : State) (m : MethodId) (args : Array Value) (meth : Method) (c : Code) (b : Nat) (pre : Nat → Nat) (D : va_G) (cI cL cQ : ClassId) (E : List (List Int)) (y : Nat) (mm : zm_M) : Prop :=
  p.tables.exec = Jvm.exec ∧ zm_at y = some mm ∧ c.code = mm.2.1 ∧ meth.sig.returnType = mm.2.2.2.1 ∧ c.maxLocals = mm.2.2.1 ∧ s.vm.findClass mm.1.cls = some m.cls ∧ (∀ w ∈ zx_TB, w.before args s = true) ∧ meth.locks = false ∧ meth.name = mm.1.name ∧
  zx_K D cI cL cQ s ∧ zx_E b pre E s s.heap ∧ b ≤ s.heap.size ∧ zx_G b pre s s.heap ∧ c.exceptionTable.toList = tableOf (zk_hh y)
/-- the walk's end, at the machine -/
def zx_o (b : Nat) (pre : Nat → Nat) (r : zv_R) : Option Value := match r.1 with
  | 0 => none
  | _ => some (zc_v b pre r.2.1)
def zx_Q (b : Nat) (pre : Nat → Nat) (D : va_G) (cI cL cQ : ClassId) (r : zv_R) : Array Value → State → Outcome → State → Prop := fun _ st o t => o = .returned (zx_o b pre r) ∧ zx_Rel b pre D cI cL cQ r.2.2 t.heap ∧ va_F (fun q => b ≤ q) st t
/-- ... where it throws -/
def zx_X (b : Nat) (pre : Nat → Nat) (D : va_G) (cI cL cQ : ClassId) (r : zv_R) : String → State → State → Prop := fun e st t => (∃ q, zk_exc[r.2.1.1]? = some q ∧ q.1 = e) ∧ zx_Rel b pre D cI cL cQ r.2.2 t.heap ∧ va_F (fun q => b ≤ q) st t
/-- the end that a result stands for -/
def zx_M (below : List Frame) (b : Nat) (pre : Nat → Nat) (D : va_G) (cI cL cQ : ClassId) (r : zv_R) (args : Array Value) (s : State) (mc ms : Nat) : State → Prop :=
  if r.1 = 2 then vx_MQ below (fun _ _ _ _ => False) (zx_X b pre D cI cL cQ r) args s mc ms (fun q => b ≤ q) else MQ below (zx_Q b pre D cI cL cQ r) args s mc ms (fun q => b ≤ q)
def zx_W (p : Program) (l : Launch) (e : Env) (R : Room) (s : State) (m : MethodId) (args : Array Value) (below : List Frame) (meth : Method) (c : Code) (b : Nat) (pre : Nat → Nat) (D : va_G) (cI cL cQ : ClassId) (Q : State → Prop) (c0 s0 : Nat) (fr : zv_F) : Prop :=
  ∀ (H : Heap) (locs : List Loc) (lsM : Array Slot) (cells slots : Nat), zx_Rel b pre D cI cL cQ fr.2.2.2.2 H → va_S (fun q => b ≤ q) s.heap H locs → lv_has lsM c.maxLocals (zx_lv b pre fr.2.2.1) → fr.2.2.1.length = c.maxLocals →
    cells + c0 = fr.2.2.2.2.length → slots + s0 = zx_sl fr.2.2.2.2 → W p l e R s m args below meth c H locs cells slots Q (F0 m fr.2.1 lsM (fr.2.2.2.1.map (zc_v b pre)))
theorem zx_lv_mem {b : Nat} {pre : Nat → Nat} {ls : List zv_V} {q : Nat × Value} (h : q ∈ zx_lv b pre ls) : ∃ v, ls[q.1]? = some v ∧ v.1 ≠ 9 ∧ q.2 = zc_v b pre v := by
  obtain ⟨i, -, hi⟩ := List.mem_filterMap.mp h
  unfold zx_lv1 at hi
  cases hv : ls[i]? with
  | none => rw [hv] at hi; cases hi
  | some v =>
    rw [hv] at hi
    simp only at hi
    by_cases h9 : v.1 = 9
    · rw [if_pos h9] at hi; cases hi
    · rw [if_neg h9] at hi; cases hi; exact ⟨v, hv, h9, rfl⟩
theorem zx_lv_at {b : Nat} {pre : Nat → Nat} {ls : List zv_V} {i : Nat} {v : zv_V} (hv : ls[i]? = some v) (h9 : v.1 ≠ 9) : (i, zc_v b pre v) ∈ zx_lv b pre ls := by
  refine List.mem_filterMap.mpr ⟨i, List.mem_range.mpr (List.getElem?_eq_some_iff.mp hv).1, ?_⟩
  unfold zx_lv1
  rw [hv]
  exact if_neg h9
theorem zx_local {b : Nat} {pre : Nat → Nat} {ls : List zv_V} {lsM : Array Slot} {n i : Nat} {v : zv_V} (hl : lv_has lsM n (zx_lv b pre ls)) (hv : ls[i]? = some v) (h9 : v.1 ≠ 9) : lsM[i]? = some (.val (zc_v b pre v)) := hl.2.2 _ (zx_lv_at hv h9)
theorem zc_v_cat {b : Nat} {pre : Nat → Nat} {v : zv_V} (h : zs_wide v = false) : (zc_v b pre v).category = 1 := by
  obtain ⟨t, z⟩ := v
  simp only [zs_wide, Bool.or_eq_false_iff] at h
  match t, h with
  | 0, _ => rfl
  | 1, h => exact absurd h.1 (by decide)
  | 2, _ =>
    show (zc_ref b pre z).category = 1
    rcases zc_ref_or (b := b) (pre := pre) z with h | ⟨a, h⟩ <;> rw [h] <;> rfl
  | 3, h => exact absurd h.2 (by decide)
  | 4, _ => rfl
  | 5, _ => rfl
  | 6, _ => rfl
  | 7, _ => rfl
  | 8, _ =>
    show (zc_any (pre 3)).category = 1
    unfold zc_any
    by_cases h : pre 3 = 0
    · rw [if_pos h]; rfl
    · rw [if_neg h]; rfl
  | t + 9, _ => rfl
theorem zc_v_cat2 {b : Nat} {pre : Nat → Nat} {v : zv_V} (h : zs_wide v = true) : (zc_v b pre v).category = 2 := by
  obtain ⟨t, z⟩ := v
  simp only [zs_wide, Bool.or_eq_true] at h
  rcases h with h | h
  · have h : t = 1 := Nat.eq_of_beq_eq_true h
    subst h
    rfl
  · have h : t = 3 := Nat.eq_of_beq_eq_true h
    subst h
    rfl
/-- what stands behind a store of one word -/
theorem zx_stored {b : Nat} {pre : Nat → Nat} {ls : List zv_V} {i : Nat} {v : zv_V} (hp : zs_pok ls i = true) (ls' : Array Slot) (n : Nat) (h : lv_has ls' n ((i, zc_v b pre v) :: (zx_lv b pre ls).filter (fun q => !(q.1 == i) && !(q.1 + 1 == i && q.2.category == 2)))) : lv_has ls' n (zx_lv b pre (ls.set i v)) := by
  refine ⟨h.1, h.2.1, fun q hq => h.2.2 q ?_⟩
  obtain ⟨w, hw, h9, hq2⟩ := zx_lv_mem hq
  obtain ⟨j, qv⟩ := q
  simp only at hw hq2
  subst hq2
  by_cases e : i = j
  · subst e
    have hl : i < ls.length := by have := (List.getElem?_eq_some_iff.mp hw).1; rwa [List.length_set] at this
    rw [List.getElem?_set_self hl] at hw
    cases hw
    exact List.mem_cons_self
  · rw [List.getElem?_set_ne e] at hw
    refine List.mem_cons_of_mem _ (List.mem_filter.mpr ⟨zx_lv_at hw h9, ?_⟩)
    simp only [Bool.and_eq_true, Bool.not_eq_true', beq_eq_false_iff_ne, ne_eq, Bool.and_eq_false_iff]
    refine ⟨fun q => e q.symm, ?_⟩
    by_cases e2 : j + 1 = i
    · subst e2
      right
      simp only [zs_pok, hw, Bool.not_eq_true'] at hp
      rw [zc_v_cat hp]
      decide
    · exact Or.inl e2
theorem zx_stored9 {b : Nat} {pre : Nat → Nat} {ls : List zv_V} {i : Nat} {v : Value} (hp : zs_pok ls i = true) (hi : i < ls.length) (ls' : Array Slot) (n : Nat) (h : lv_has ls' n ((i, v) :: (zx_lv b pre ls).filter (fun q => !(q.1 == i) && !(q.1 + 1 == i && q.2.category == 2)))) : lv_has ls' n (zx_lv b pre (ls.set i (9, 0))) := by
  refine ⟨h.1, h.2.1, fun q hq => h.2.2 q ?_⟩
  obtain ⟨w, hw, h9, hq2⟩ := zx_lv_mem hq
  obtain ⟨j, qv⟩ := q
  simp only at hw hq2
  subst hq2
  by_cases e : i = j
  · subst e
    rw [List.getElem?_set_self hi] at hw
    cases hw
    exact absurd rfl h9
  · rw [List.getElem?_set_ne e] at hw
    refine List.mem_cons_of_mem _ (List.mem_filter.mpr ⟨zx_lv_at hw h9, ?_⟩)
    simp only [Bool.and_eq_true, Bool.not_eq_true', beq_eq_false_iff_ne, ne_eq, Bool.and_eq_false_iff]
    refine ⟨fun q => e q.symm, ?_⟩
    by_cases e2 : j + 1 = i
    · subst e2
      right
      simp only [zs_pok, hw, Bool.not_eq_true'] at hp
      rw [zc_v_cat hp]
      decide
    · exact Or.inl e2
theorem zx_stored2 {b : Nat} {pre : Nat → Nat} {ls : List zv_V} {i : Nat} {v : zv_V} (hp : zs_pok ls i = true) (hi : i + 1 < ls.length) (ls' : Array Slot) (n : Nat) (h : lv_has ls' n ((i, zc_v b pre v) :: (zx_lv b pre ls).filter (fun q => !(q.1 == i) && (!(q.1 == i + 1) && !(q.1 + 1 == i && q.2.category == 2))))) : lv_has ls' n (zx_lv b pre ((ls.set i v).set (i + 1) (9, 0))) := by
  refine ⟨h.1, h.2.1, fun q hq => h.2.2 q ?_⟩
  obtain ⟨w, hw, h9, hq2⟩ := zx_lv_mem hq
  obtain ⟨j, qv⟩ := q
  simp only at hw hq2
  subst hq2
  by_cases e1 : i + 1 = j
  · subst e1
    rw [List.getElem?_set_self (by rw [List.length_set]; exact hi)] at hw
    cases hw
    exact absurd rfl h9
  · rw [List.getElem?_set_ne e1] at hw
    by_cases e : i = j
    · subst e
      rw [List.getElem?_set_self (by omega)] at hw
      cases hw
      exact List.mem_cons_self
    · rw [List.getElem?_set_ne e] at hw
      refine List.mem_cons_of_mem _ (List.mem_filter.mpr ⟨zx_lv_at hw h9, ?_⟩)
      simp only [Bool.and_eq_true, Bool.not_eq_true', beq_eq_false_iff_ne, ne_eq, Bool.and_eq_false_iff]
      refine ⟨fun q => e q.symm, fun q => e1 q.symm, ?_⟩
      by_cases e2 : j + 1 = i
      · subst e2
        right
        simp only [zs_pok, hw, Bool.not_eq_true'] at hp
        rw [zc_v_cat hp]
        decide
      · exact Or.inl e2
theorem zc_cats {b : Nat} {pre : Nat → Nat} (st : List zv_V) : ((st.map (zc_v b pre)).map fun v => v.category).sum = (st.map zs_cat).sum := by
  induction st with
  | nil => rfl
  | cons v st ih =>
    simp only [List.map_cons, List.sum_cons, ih]
    congr 1
    obtain ⟨t, z⟩ := v
    match t with
    | 0 => rfl
    | 1 => rfl
    | 2 =>
      show (zc_ref b pre z).category = 1
      rcases zc_ref_or (b := b) (pre := pre) z with h | ⟨a, h⟩ <;> rw [h] <;> rfl
    | 3 => rfl
    | 4 => rfl
    | 5 => rfl
    | 6 => rfl
    | 7 => rfl
    | 8 => exact zc_v_cat (v := (8, z)) rfl
    | t + 9 => rfl
theorem zk_jump_of {pc : Nat} {o : Int} {t : Nat} (h : zk_jump pc o t = true) : (pc : Int) + o = (t : Int) := of_decide_eq_true h
theorem zs_nx_inv {y pc : Nat} {ls st : List zv_V} {h : zv_H} {S : zv_S} (e : zs_nx y pc ls st h = some S) : S = .inl (y, pc, ls, st, h) := (Option.some.inj e).symm
theorem zs_goto_inv {q : Bool} {y t pc : Nat} {ls st : List zv_V} {h : zv_H} {S : zv_S} (e : zs_goto q y t pc ls st h = some S) : S = .inl (y, if q = true then t else pc + 3, ls, st, h) := by
  cases q
  · exact zs_nx_inv e
  · exact zs_nx_inv e
section
variable {p : Program} {l : Launch} {e : Env} {R : Room} {s : State} {m : MethodId} {args : Array Value} {below : List Frame} {meth : Method} {c : Code} {b : Nat} {pre : Nat → Nat} {D : va_G} {cI cL cQ : ClassId} {Q : State → Prop} {c0 s0 : Nat} {E : List (List Int)} {y : Nat} {mm : zm_M}
variable {pc len a0 b0 w0 : Nat} {v0 : Int} {ls st : List zv_V} {h : zv_H} {S : zv_S}
/-- loads -/
theorem zx_load1 (C : zx_C p s m args meth c b pre D cI cL cQ E y mm) {t : Nat} (hz : zs_load y pc len a0 t ls st h = some S) (ht : t < 9)
    (hi : ∀ (lsM : Array Slot) (H : Heap) (locs : List Loc) (cells slots : Nat) (x : Int) (rest : List Value), lsM[a0]? = some (.val (zc_v b pre (t, x))) → W p l e R s m args below meth c H locs cells slots Q (F0 m (pc + len) lsM (zc_v b pre (t, x) :: rest)) → W p l e R s m args below meth c H locs cells slots Q (F0 m pc lsM rest))
    (kn : ∀ fr, S = .inl fr → zx_W p l e R s m args below meth c b pre D cI cL cQ Q c0 s0 fr) : zx_W p l e R s m args below meth c b pre D cI cL cQ Q c0 s0 (y, pc, ls, st, h) := by
  obtain ⟨⟨t', x⟩, hx, hz1⟩ := zo_o_inv hz
  obtain ⟨h1, hz2⟩ := zo_g_inv hz1
  have h1 : t' = t := Nat.eq_of_beq_eq_true h1
  subst h1
  have hz := zs_nx_inv hz2
  intro H locs lsM cells slots hR hS hl hn g1 g2
  exact hi lsM H locs cells slots x _ (zx_local hl hx (show ¬ t' = 9 by omega)) (kn _ hz H locs lsM cells slots hR hS hl hn g1 g2)
/-- stores -/
theorem zx_store1 (C : zx_C p s m args meth c b pre D cI cL cQ E y mm) {t : Nat} (hz : zs_store y pc len a0 t ls st h = some S)
    (hi : ∀ (lsM : Array Slot) (H : Heap) (locs : List Loc) (cells slots : Nat) (x : Int) (rest : List Value) (lv : List (Nat × Value)), lv_has lsM c.maxLocals lv → a0 < c.maxLocals → (∀ ls' : Array Slot, lv_has ls' c.maxLocals ((a0, zc_v b pre (t, x)) :: lv.filter (fun q => !(q.1 == a0) && !(q.1 + 1 == a0 && q.2.category == 2))) → W p l e R s m args below meth c H locs cells slots Q (F0 m (pc + len) ls' rest)) → W p l e R s m args below meth c H locs cells slots Q (F0 m pc lsM (zc_v b pre (t, x) :: rest)))
    (kn : ∀ fr, S = .inl fr → zx_W p l e R s m args below meth c b pre D cI cL cQ Q c0 s0 fr) : zx_W p l e R s m args below meth c b pre D cI cL cQ Q c0 s0 (y, pc, ls, st, h) := by
  obtain ⟨x, r, rfl, hz1⟩ := zo_1_inv hz
  obtain ⟨h1, hz2⟩ := zo_g_inv hz1
  obtain ⟨h1, h2⟩ := Bool.and_eq_true_iff.mp h1
  have h1 : a0 < ls.length := Nat.le_of_ble_eq_true h1
  have hz := zs_nx_inv hz2
  intro H locs lsM cells slots hR hS hl hn g1 g2
  have hn2 : ls.length = c.maxLocals := hn
  exact hi lsM H locs cells slots x _ _ hl (by omega) (fun ls' h' => kn _ hz H locs ls' cells slots hR hS (zx_stored h2 ls' _ h') (by rw [List.length_set]; exact hn) g1 g2)
theorem zx_int2 {f : Int → Int → Int} {g : Int32 → Int32 → Int32} (hf : ∀ u v, Int32.ofInt (f u v) = g (Int32.ofInt u) (Int32.ofInt v)) (hz : zs_int2 f y pc ls st h = some S)
    (hi : ∀ (lsM : Array Slot) (H : Heap) (locs : List Loc) (cells slots : Nat) (u v : Int32) (rest : List Value), W p l e R s m args below meth c H locs cells slots Q (F0 m (pc + 1) lsM (.int (g u v) :: rest)) → W p l e R s m args below meth c H locs cells slots Q (F0 m pc lsM (.int v :: .int u :: rest)))
    (kn : ∀ fr, S = .inl fr → zx_W p l e R s m args below meth c b pre D cI cL cQ Q c0 s0 fr) : zx_W p l e R s m args below meth c b pre D cI cL cQ Q c0 s0 (y, pc, ls, st, h) := by
  obtain ⟨x2, r2, rfl, hz2⟩ := zo_1_inv hz
  obtain ⟨x1, r1, rfl, hz1⟩ := zo_1_inv hz2
  have hz := zs_nx_inv hz1
  intro H locs lsM cells slots hR hS hl hn g1 g2
  refine hi lsM H locs cells slots _ _ _ ?_
  have k := kn _ hz H locs lsM cells slots hR hS hl hn g1 g2
  rw [← hf]
  exact k
theorem zx_store2 (C : zx_C p s m args meth c b pre D cI cL cQ E y mm) {t : Nat} (hz : zs_store2 y pc len a0 t ls st h = some S)
    (hi : ∀ (lsM : Array Slot) (H : Heap) (locs : List Loc) (cells slots : Nat) (x : Int) (rest : List Value) (lv : List (Nat × Value)), lv_has lsM c.maxLocals lv → a0 + 1 < c.maxLocals → (∀ ls' : Array Slot, lv_has ls' c.maxLocals ((a0, zc_v b pre (t, x)) :: lv.filter (fun q => !(q.1 == a0) && (!(q.1 == a0 + 1) && !(q.1 + 1 == a0 && q.2.category == 2)))) → W p l e R s m args below meth c H locs cells slots Q (F0 m (pc + len) ls' rest)) → W p l e R s m args below meth c H locs cells slots Q (F0 m pc lsM (zc_v b pre (t, x) :: rest)))
    (kn : ∀ fr, S = .inl fr → zx_W p l e R s m args below meth c b pre D cI cL cQ Q c0 s0 fr) : zx_W p l e R s m args below meth c b pre D cI cL cQ Q c0 s0 (y, pc, ls, st, h) := by
  obtain ⟨x, r, rfl, hz1⟩ := zo_1_inv hz
  obtain ⟨h1, hz2⟩ := zo_g_inv hz1
  obtain ⟨h1, h2⟩ := Bool.and_eq_true_iff.mp h1
  have h1 : a0 + 1 < ls.length := Nat.le_of_ble_eq_true h1
  have hz := zs_nx_inv hz2
  intro H locs lsM cells slots hR hS hl hn g1 g2
  have hn2 : ls.length = c.maxLocals := hn
  exact hi lsM H locs cells slots x _ _ hl (by omega) (fun ls' h' => kn _ hz H locs ls' cells slots hR hS (zx_stored2 h2 h1 ls' _ h') (by show ((ls.set _ _).set _ _).length = _; rw [List.length_set, List.length_set]; exact hn) g1 g2)
theorem zx_long2 {f : Int → Int → Int} {g : Int64 → Int64 → Int64} (hf : ∀ u v, Int64.ofInt (f u v) = g (Int64.ofInt u) (Int64.ofInt v)) (hz : zs_long2 f y pc ls st h = some S)
    (hi : ∀ (lsM : Array Slot) (H : Heap) (locs : List Loc) (cells slots : Nat) (u v : Int64) (rest : List Value), W p l e R s m args below meth c H locs cells slots Q (F0 m (pc + 1) lsM (.long (g u v) :: rest)) → W p l e R s m args below meth c H locs cells slots Q (F0 m pc lsM (.long v :: .long u :: rest)))
    (kn : ∀ fr, S = .inl fr → zx_W p l e R s m args below meth c b pre D cI cL cQ Q c0 s0 fr) : zx_W p l e R s m args below meth c b pre D cI cL cQ Q c0 s0 (y, pc, ls, st, h) := by
  obtain ⟨x2, r2, rfl, hz2⟩ := zo_1_inv hz
  obtain ⟨x1, r1, rfl, hz1⟩ := zo_1_inv hz2
  have hz := zs_nx_inv hz1
  intro H locs lsM cells slots hR hS hl hn g1 g2
  refine hi lsM H locs cells slots _ _ _ ?_
  have k := kn _ hz H locs lsM cells slots hR hS hl hn g1 g2
  rw [← hf]
  exact k
end
