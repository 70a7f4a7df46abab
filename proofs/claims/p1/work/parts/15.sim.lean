/-! WHAT THE WALK RECKONS, THE MACHINE DOES. -/
theorem zm_lt {y : Nat} {mm : zm_M} (h : zm_at y = some mm) : y ≤ 256 := by
  have h1 : ∀ y, y < 272 → (zm_at y).isSome = true → y ≤ 256 := by decide +kernel
  exact h1 y (zm_256 h) (by rw [h]; rfl)
theorem zt_find_inv {es : List ze_E} {pc : Nat} {e : Instr × Nat × Nat × Nat × Nat × Int} (h : zt_find es pc = some e) : (pc, e) ∈ es := by
  induction es with
  | nil => cases h
  | cons q t ih =>
    unfold zt_find at h
    by_cases h1 : Nat.beq q.1 pc = true
    · rw [h1, cond_true] at h
      have h1 := Nat.eq_of_beq_eq_true h1
      cases h
      rw [← h1]
      exact List.mem_cons_self
    · rw [Bool.not_eq_true] at h1
      rw [h1, cond_false] at h
      exact List.mem_cons_of_mem _ (ih h)
theorem zk_ats {y pc : Nat} {mm : zm_M} {ins : Instr} {len a b w : Nat} {v : Int} (hm : zm_at y = some mm) (h : zt_at y pc = some (ins, len, a, b, w, v)) : decode mm.2.1 pc = .ok (ins, len) ∧ zk_ins mm mm.1 pc ins len a b w v = true := by
  have hy := zm_lt hm
  have hk := (zk_every y (by omega)).2 (pc / 16)
  unfold zk_chunk at hk
  rw [hm] at hk
  unfold zt_at at h
  cases he : (zt_tab y)[pc / 16]? with
  | none => rw [he] at h; cases h
  | some es =>
    rw [he] at h hk
    have h1 := List.all_eq_true.mp hk _ (zt_find_inv h)
    unfold zk_ent at h1
    obtain ⟨h2, h3⟩ := Bool.and_eq_true_iff.mp h1
    refine ⟨?_, h3⟩
    cases hd : decode mm.2.1 pc with
    | error q => rw [hd] at h2; cases h2
    | ok q =>
      obtain ⟨i, n⟩ := q
      rw [hd] at h2
      obtain ⟨h4, h5⟩ := Bool.and_eq_true_iff.mp h2
      rw [of_decide_eq_true h4, zk_len h5]
theorem zk_head_of {y : Nat} {mm : zm_M} (hm : zm_at y = some mm) : zk_rc mm.2.2.2.2.1 mm.2.2.2.1 = true ∧ mm.2.2.1 ≤ 20 ∧ plainFor mm.1 = true ∧ (y ≠ zk_law → zk_code y mm ∈ zx_TB) ∧ ∀ q ∈ zh_find zh_tabs y, zk_hand mm q = true := by
  have hy := zm_lt hm
  have hk := (zk_every y (by omega)).1
  unfold zk_head at hk
  rw [hm] at hk
  simp only [Bool.and_eq_true] at hk
  obtain ⟨⟨⟨⟨h1, h2⟩, h3⟩, h4⟩, h6⟩ := hk
  refine ⟨h1, Nat.le_of_ble_eq_true h2, h3, fun hne => ?_, fun q hq => List.all_eq_true.mp h6 q hq⟩
  rcases Bool.or_eq_true_iff.mp h4 with h5 | h5
  · exact absurd (zk_len h5) hne
  · exact zk_w_mem h5
/-- the arguments' places -/
theorem zx_args {b : Nat} {pre : Nat → Nat} : ∀ (as : List zv_V) (k j : Nat) (v : zv_V), (zs_locals as)[j]? = some v → v.1 ≠ 9 → (k + j, zc_v b pre v) ∈ lv_args k (as.map (zc_v b pre))
  | [], _, _, _, h, _ => by simp [zs_locals] at h
  | v :: as, k, j, v', h, h9 => by
    rw [List.map_cons, lv_args]
    cases hw : zs_wide v with
    | false =>
      have hc : (zc_v b pre v).category = 1 := zc_v_cat hw
      rw [zs_locals, hw, cond_false] at h
      rw [if_neg (by omega)]
      cases j with
      | zero => cases h; exact List.mem_cons_self
      | succ j =>
        have := zx_args (b := b) (pre := pre) as (k + 1) j v' (by simpa using h) h9
        rw [show k + (j + 1) = k + 1 + j by omega]
        exact List.mem_cons_of_mem _ this
    | true =>
      have hc : (zc_v b pre v).category = 2 := zc_v_cat2 hw
      rw [zs_locals, hw, cond_true] at h
      rw [if_pos hc]
      match j, h with
      | 0, h => cases h; exact List.mem_cons_self
      | 1, h => cases h; exact absurd rfl h9
      | j + 2, h =>
        have := zx_args (b := b) (pre := pre) as (k + 2) j v' (by simpa using h) h9
        rw [show k + (j + 2) = k + 2 + j by omega]
        exact List.mem_cons_of_mem _ this
theorem zx_sls {b : Nat} {pre : Nat → Nat} (as : List zv_V) : (lg_sl (as.map (zc_v b pre))).length = (zs_locals as).length := by
  induction as with
  | nil => rfl
  | cons v as ih =>
    unfold lg_sl at ih ⊢
    rw [List.map_cons, List.flatMap_cons, List.length_append, ih, zs_locals]
    cases hw : zs_wide v with
    | false =>
      rw [if_neg (by rw [zc_v_cat hw]; decide), cond_false]
      simp
      omega
    | true =>
      rw [if_pos (zc_v_cat2 hw), cond_true]
      simp
      omega
theorem zx_entry_lv {b : Nat} {pre : Nat → Nat} {as : List zv_V} {n : Nat} {lsM : Array Slot} (hl : lv_has lsM n (lv_args 0 (as.map (zc_v b pre)))) (k : Nat) : lv_has lsM n (zx_lv b pre (zs_locals as ++ List.replicate k (9, 0))) := by
  refine ⟨hl.1, hl.2.1, fun q hq => ?_⟩
  obtain ⟨v, hv, h9, hq2⟩ := zx_lv_mem hq
  by_cases hj : q.1 < (zs_locals as).length
  · rw [List.getElem?_append_left hj] at hv
    have := zx_args (b := b) (pre := pre) as 0 q.1 v hv h9
    rw [Nat.zero_add, ← hq2] at this
    exact hl.2.2 _ this
  · rw [List.getElem?_append_right (by omega), List.getElem?_replicate] at hv
    by_cases h2 : q.1 - (zs_locals as).length < k
    · rw [if_pos h2] at hv; cases hv; exact absurd rfl h9
    · rw [if_neg h2] at hv; cases hv
/-- a method's contract from its body, with handlers -/
theorem zx_ofWH {l : Launch} {y : MethodName} {ws ws' : List Cond} {rm : Room} {Pc : Array Value → State → Prop} {Qc : Array Value → State → Outcome → State → Prop} {mc ms : Nat} {free : Addr → Prop} {cc : ByteArray} {maxL : Nat} {ret : Option FieldType} {hh : List (Nat × Nat × Nat × Nat)}
    (hy : plainFor y = true) (hw : ws = Cond.codeWith y cc maxL ret hh :: ws')
    (body : ∀ p e s m args below meth c s₁, BodyLoose p l y (headSpec ws rm) cc maxL ret e s m args below meth c s₁ → c.maxLocals = maxL → Pc args s →
      W p l e (headSpec ws rm).room s m args below meth c s.heap [] 0 0 (MQ below Qc args s mc ms free) (entryFrame m args maxL)) : Met l y ws rm Pc Qc mc ms free := by
  refine MetFree.of_bodySF (code := cc) (maxLocals := maxL) (ret := ret) hy ?_ ?_
  · intro args s m h hn
    obtain ⟨m9, meth, c, hn9, h1, h2, h3, h4, -, h5, h6, -⟩ := Cond.codeWith_spec (atoms_spec (ws := ws) h _ (by rw [hw]; exact List.mem_cons_self))
    cases hn.symm.trans hn9
    exact ⟨meth, c, h1, h2, h3, h4, h5, h6⟩
  · intro p e s m args below meth c s₁ B hml hP _
    have hh0 : s₁.heap = s.heap := by rw [B.state]; rfl
    obtain ⟨t, a1, o, b1, b2, b3⟩ := body p e s m args below meth c s₁ B hml hP s₁ hh0 (Stand.of_body B)
    exact ⟨t, o, a1, b1, b2, ⟨b3.1, b3.2⟩⟩
theorem zx_ofWX {l : Launch} {y : MethodName} {ws ws' : List Cond} {rm : Room} {Pc : Array Value → State → Prop} {Qc : Array Value → State → Outcome → State → Prop} {XC : String → State → State → Prop} {mc ms : Nat} {free : Addr → Prop} {cc : ByteArray} {maxL : Nat} {ret : Option FieldType}
    (hy : plainFor y = true) (hw : ws = Cond.code y cc maxL ret :: ws')
    (body : ∀ p e s m args below meth c s₁, BodyLoose p l y (headSpec ws rm) cc maxL ret e s m args below meth c s₁ → c.maxLocals = maxL → Pc args s →
      W p l e (headSpec ws rm).room s m args below meth c s.heap [] 0 0 (vx_MQ below Qc XC args s mc ms free) (entryFrame m args maxL)) : vx_Met l y ws rm Pc Qc XC mc ms free := by
  refine MetFree.of_bodySF (code := cc) (maxLocals := maxL) (ret := ret) hy ?_ ?_
  · intro args s m h hn
    obtain ⟨meth, c, h1, h2, h3, h4, h5, h6, -, -⟩ := Cond.code_spec hn (atoms_spec (ws := ws) h _ (by rw [hw]; exact List.mem_cons_self))
    exact ⟨meth, c, h1, h2, h3, h4, h5, h6⟩
  · intro p e s m args below meth c s₁ B hml hP _
    have hh0 : s₁.heap = s.heap := by rw [B.state]; rfl
    obtain ⟨t, a1, o, b1, b2, b3⟩ := body p e s m args below meth c s₁ B hml hP s₁ hh0 (Stand.of_body B)
    exact ⟨t, o, a1, b1, b2, b3⟩
section
variable {l : Launch} {b : Nat} {pre : Nat → Nat} {D : va_G} {cI cL cQ : ClassId} {E : List (List Int)}
/-- the walk from a frame is the machine's -/
def zx_Runs (l : Launch) (b : Nat) (pre : Nat → Nat) (D : va_G) (cI cL cQ : ClassId) (E : List (List Int)) (f : Nat) : Prop := ∀ (d : Nat) (fr : zv_F) (Rr : zv_R) (mm : zm_M) (p : Program) (e : Env) (R : Room) (s : State) (m : MethodId) (args : Array Value) (below : List Frame) (meth : Method) (c : Code) (c0 s0 mc ms : Nat),
  zs_exec E f d fr = some Rr → zx_C p s m args meth c b pre D cI cL cQ E fr.1 mm → d + 10 ≤ R.frames → (d + 4) * 40 ≤ R.locals → mc + c0 = Rr.2.2.length → ms + s0 = zx_sl Rr.2.2 → mc ≤ R.cells → ms ≤ R.slots →
  zx_W p l e R s m args below meth c b pre D cI cL cQ (zx_M below b pre D cI cL cQ Rr args s mc ms) c0 s0 fr
/-- the handlers' table -/
theorem zx_tab {p : Program} {y : MethodName} {S : Spec} {cc : ByteArray} {maxL : Nat} {ret : Option FieldType} {e : Env} {s s₁ : State} {m : MethodId} {args : Array Value} {below : List Frame} {meth : Method} {c : Code} (B : BodyLoose p l y S cc maxL ret e s m args below meth c s₁) (h : (Cond.code y cc maxL ret).before args s = true) : c.exceptionTable.toList = [] := by
  obtain ⟨meth9, c9, h1, h2, -, -, -, -, h7, -⟩ := Cond.code_spec B.named h
  cases Option.some.inj (h1.symm.trans B.method)
  cases Option.some.inj (h2.symm.trans (Stand.of_body B).code)
  rw [Array.isEmpty_iff.mp h7]
/-- the body of a method, entered -/
theorem zx_body {f : Nat} (hf : zx_Runs l b pre D cI cL cQ E f) {d t : Nat} {as : List zv_V} {h : zv_H} {fr : zv_F} {Rr : zv_R} {mt : zm_M} {mc ms : Nat} (hm : zm_at t = some mt) (he : zs_entry t as h = some fr) (hx : zs_exec E f d fr = some Rr) (h1 : mc + h.length = Rr.2.2.length) (h2 : ms + zx_sl h = zx_sl Rr.2.2)
    {p : Program} {e : Env} {s s₁ : State} {m : MethodId} {args : Array Value} {below : List Frame} {meth : Method} {c : Code} (B : BodyLoose p l mt.1 (headSpec (zx_ws t mt) { frames := d + 10, cells := mc, slots := ms, locals := (d + 4) * 40 }) mt.2.1 mt.2.2.1 mt.2.2.2.1 e s m args below meth c s₁) (hml : c.maxLocals = mt.2.2.1) (hv : zx_P b pre D cI cL cQ E as h args s) :
    W p l e (headSpec (zx_ws t mt) { frames := d + 10, cells := mc, slots := ms, locals := (d + 4) * 40 }).room s m args below meth c s.heap [] 0 0 (zx_M below b pre D cI cL cQ Rr args s mc ms) (entryFrame m args mt.2.2.1) := by
  obtain ⟨mt', hm', he1⟩ := zo_o_inv he
  cases hm.symm.trans hm'
  obtain ⟨yn, bytes, ml, ret, rest⟩ := mt
  obtain ⟨he2, he3⟩ := zo_g_inv he1
  simp only [Bool.and_eq_true, Bool.not_eq_true'] at he2
  obtain ⟨h3, h5⟩ := he2
  have h3 := Nat.le_of_ble_eq_true h3
  obtain ⟨k1, k2, k3, k4, -⟩ := zk_head_of hm
  obtain ⟨rfl, hR, hK, hE, hbs, hG⟩ := hv
  have hts0 := atoms_spec (ws := zx_ws t (yn, bytes, ml, ret, rest)) B.pre
  have htab : c.exceptionTable.toList = tableOf (zk_hh t) := by
    have hcode := hts0 _ List.mem_cons_self
    cases hh : List.isEmpty (zk_hh t) with
    | true =>
      rw [zk_code_n hh] at hcode
      rw [zx_tab B hcode, List.isEmpty_iff.mp hh]
      rfl
    | false =>
      rw [zk_code_w hh] at hcode
      exact vx_table (x := yn) B hcode
  have C : zx_C p s m ((as.map (zc_v b pre)).toArray) meth c b pre D cI cL cQ E t (yn, bytes, ml, ret, rest) := ⟨B.exec, hm, B.bytes, B.returns, hml, findClass_of_methodNamed B.named, fun w hw => hts0 w (List.mem_cons_of_mem _ hw), B.notSynchronized, (name_of_methodNamed B.named B.method).1, hK, hE, hbs, hG, htab⟩
  have hfr := (Option.some.inj he3).symm
  have hW := hf d fr Rr (yn, bytes, ml, ret, rest) p e (headSpec (zx_ws t (yn, bytes, ml, ret, rest)) { frames := d + 10, cells := mc, slots := ms, locals := (d + 4) * 40 }).room s m ((as.map (zc_v b pre)).toArray) below meth c h.length (zx_sl h) mc ms hx (by rw [hfr]; exact C) (Nat.le_refl _) (Nat.le_refl _) h1 h2 (Nat.le_refl _) (Nat.le_refl _)
  subst hfr
  rw [lg_entry_eq]
  have hl := lv_entry (as.map (zc_v b pre)) (n := ml) (by rw [zx_sls as]; exact h3)
  have hml : c.maxLocals = ml := hml
  show W p l e _ s m _ below meth c s.heap [] 0 0 _ (F0 m 0 ((lg_sl (as.map (zc_v b pre)) ++ List.replicate (ml - (lg_sl (as.map (zc_v b pre))).length) Slot.unset).toArray) [])
  rw [← hml] at hl ⊢
  exact hW s.heap [] _ 0 0 hR ⟨Nat.le_refl _, fun _ _ _ => rfl, fun q hq => absurd hq List.not_mem_nil⟩ (zx_entry_lv hl _) (by show (zs_locals as ++ List.replicate _ _).length = _; rw [List.length_append, List.length_replicate, hml]; omega) (Nat.zero_add _) (Nat.zero_add _)
theorem zx_met {f : Nat} (hf : zx_Runs l b pre D cI cL cQ E f) {d t : Nat} {as : List zv_V} {h : zv_H} {fr : zv_F} {Rr : zv_R} {mt : zm_M} {mc ms : Nat} (hm : zm_at t = some mt) (he : zs_entry t as h = some fr) (hx : zs_exec E f d fr = some Rr) (h1 : mc + h.length = Rr.2.2.length) (h2 : ms + zx_sl h = zx_sl Rr.2.2) (hr2 : Rr.1 ≠ 2) :
    Met l mt.1 (zx_ws t mt) { frames := d + 10, cells := mc, slots := ms, locals := (d + 4) * 40 } (zx_P b pre D cI cL cQ E as h) (zx_Q b pre D cI cL cQ Rr) mc ms (fun q => b ≤ q) := by
  obtain ⟨k1, k2, k3, k4, -⟩ := zk_head_of hm
  cases hh : List.isEmpty (zk_hh t) with
  | true =>
    refine va_MetF (cc := mt.2.1) (maxL := mt.2.2.1) (ret := mt.2.2.2.1) k3 (by rw [zx_ws, zk_code_n hh]) ?_
    intro p e s m args below meth c s₁ B hml hv
    have := zx_body hf hm he hx h1 h2 B hml hv
    unfold zx_M at this
    rw [if_neg hr2] at this
    exact this
  | false =>
    refine zx_ofWH (cc := mt.2.1) (maxL := mt.2.2.1) (ret := mt.2.2.2.1) (hh := zk_hh t) k3 (by rw [zx_ws, zk_code_w hh]) ?_
    intro p e s m args below meth c s₁ B hml hv
    have := zx_body hf hm he hx h1 h2 B hml hv
    unfold zx_M at this
    rw [if_neg hr2] at this
    exact this
theorem zx_metX {f : Nat} (hf : zx_Runs l b pre D cI cL cQ E f) {d t : Nat} {as : List zv_V} {h : zv_H} {fr : zv_F} {Rr : zv_R} {mt : zm_M} {mc ms : Nat} (hm : zm_at t = some mt) (he : zs_entry t as h = some fr) (hx : zs_exec E f d fr = some Rr) (h1 : mc + h.length = Rr.2.2.length) (h2 : ms + zx_sl h = zx_sl Rr.2.2) (hr2 : Rr.1 = 2) (hh : List.isEmpty (zk_hh t) = true) :
    vx_Met l mt.1 (zx_ws t mt) { frames := d + 10, cells := mc, slots := ms, locals := (d + 4) * 40 } (zx_P b pre D cI cL cQ E as h) (fun _ _ _ _ => False) (zx_X b pre D cI cL cQ Rr) mc ms (fun q => b ≤ q) := by
  obtain ⟨k1, k2, k3, k4, -⟩ := zk_head_of hm
  refine zx_ofWX (cc := mt.2.1) (maxL := mt.2.2.1) (ret := mt.2.2.2.1) k3 (by rw [zx_ws, zk_code_n hh]) ?_
  intro p e s m args below meth c s₁ B hml hv
  have := zx_body hf hm he hx h1 h2 B hml hv
  unfold zx_M at this
  rw [if_pos hr2] at this
  exact this
theorem zk_store_of {y pc' : Nat} {mm : zm_M} (hm : zm_at y = some mm) (ins : Instr) (len' a' : Nat) (rest' : Nat × Nat × Int) (ht : zt_at y pc' = some (ins, len', a', rest')) : decode mm.2.1 pc' = .ok (ins, len') ∧ (∀ n, ins = .astore_n n → (n : Nat) = a' ∧ len' = 1) ∧ (∀ n, ins = .astore n → n = a' ∧ len' = 2) := by
  obtain ⟨b', w', v'⟩ := rest'
  obtain ⟨hd, hk⟩ := zk_ats hm ht
  refine ⟨hd, fun n e => ?_, fun n e => ?_⟩
  · subst e
    simp only [zk_ins, Bool.and_eq_true, decide_eq_true_eq] at hk
    exact ⟨hk.1, zk_len hk.2⟩
  · subst e
    simp only [zk_ins, Bool.and_eq_true] at hk
    exact ⟨zk_len hk.1, zk_len hk.2⟩
theorem zx_40 {d n : Nat} (h : (d + 1 + 4) * 40 ≤ n) : (d + 4) * 40 + 40 ≤ n := by
  rw [Nat.add_right_comm d 1 4, Nat.add_mul (d + 4) 1 40, Nat.one_mul] at h
  exact h
/-- what follows a call -/
def zs_after (E : List (List Int)) (f d t : Nat) (as : List zv_V) (g : zv_F) : Option zv_R := match d with
  | 0 => none
  | d' + 1 => match zs_entry t as g.2.2.2.2 with
    | none => none
    | some fr' => match zs_exec E f d' fr' with
      | none => none
      | some r => match zs_back r g with
        | none => cond (Nat.beq r.1 2 && List.isEmpty (zh_find zh_tabs g.1) && !zm_ini g.1) (some r) none
        | some g' => zs_exec E f (d' + 1) g'
theorem zx_callOf {f : Nat} (ih : zx_Runs l b pre D cI cL cQ E f) {d y t : Nat} {as : List zv_V} {g : zv_F} {Rr : zv_R} {mm : zm_M} {p : Program} {e : Env} {R : Room} {s : State} {m : MethodId} {args : Array Value} {below : List Frame} {meth : Method} {c : Code} {c0 s0 mc ms : Nat}
    (h : zs_after E f d t as g = some Rr) (C : zx_C p s m args meth c b pre D cI cL cQ E y mm) (hgy : g.1 = y) (k5 : ∀ q ∈ zh_find zh_tabs y, zk_hand mm q = true) (hF : d + 10 ≤ R.frames) (hL : (d + 4) * 40 ≤ R.locals) (h1 : mc + c0 = Rr.2.2.length) (h2 : ms + s0 = zx_sl Rr.2.2) (h3 : mc ≤ R.cells) (h4 : ms ≤ R.slots) :
    zx_callee p l e R s m args below meth c b pre D cI cL cQ (zx_M below b pre D cI cL cQ Rr args s mc ms) c0 s0 E t as g g.2.2.2.2 := by
  unfold zs_after at h
  cases d with
  | zero => cases h
  | succ d =>
    simp only at h
    cases he : zs_entry t as g.2.2.2.2 with
    | none => rw [he] at h; cases h
    | some fr' =>
      rw [he] at h
      simp only at h
      cases hc : zs_exec E f d fr' with
      | none => rw [hc] at h; cases h
      | some r' =>
        rw [hc] at h
        simp only at h
        obtain ⟨mt, hm, he1⟩ := zo_o_inv he
        have hne : t ≠ zk_law ∧ fr'.1 = t := by
          obtain ⟨yn, bytes, ml, ret, rest⟩ := mt
          obtain ⟨he2, he3⟩ := zo_g_inv he1
          simp only [Bool.and_eq_true, Bool.not_eq_true'] at he2
          refine ⟨fun q => ?_, by rw [← Option.some.inj he3]⟩
          rw [q] at he2
          exact absurd he2.2 (by decide)
        obtain ⟨-, j2, -, j4, -⟩ := zk_head_of hm
        have m1 := zs_mono _ _ _ _ hc
        rw [zs_entry_h he, hne.2] at m1
        have mR : r'.2.2.length ≤ Rr.2.2.length ∧ zx_sl r'.2.2 ≤ zx_sl Rr.2.2 := by
          cases hb : zs_back r' g with
          | none =>
            rw [hb] at h
            simp only at h
            cases hq : (Nat.beq r'.1 2 && List.isEmpty (zh_find zh_tabs g.1) && !zm_ini g.1) with
            | true => rw [hq, cond_true] at h; cases h; exact ⟨Nat.le_refl _, Nat.le_refl _⟩
            | false => rw [hq] at h; cases h
          | some g' =>
            rw [hb] at h
            have := zs_mono _ _ _ _ h
            rw [zs_back_h hb] at this
            exact ⟨this.1, this.2.1⟩
        have f1 : d + 10 + 1 ≤ R.frames := hF
        have f2 : (d + 4) * 40 + 40 ≤ R.locals := zx_40 hL
        have f3 : r'.2.2.length - g.2.2.2.2.length + g.2.2.2.2.length = r'.2.2.length := Nat.sub_add_cancel m1.1
        have f4 : zx_sl r'.2.2 - zx_sl g.2.2.2.2 + zx_sl g.2.2.2.2 = zx_sl r'.2.2 := Nat.sub_add_cancel m1.2.1
        have f5 : r'.2.2.length ≤ R.cells + c0 := Nat.le_trans mR.1 (h1 ▸ Nat.add_le_add_right h3 c0)
        have f6 : zx_sl r'.2.2 ≤ R.slots + s0 := Nat.le_trans mR.2 (h2 ▸ Nat.add_le_add_right h4 s0)
        refine ⟨mt, d + 10, (d + 4) * 40, r'.2.2.length - g.2.2.2.2.length, zx_sl r'.2.2 - zx_sl g.2.2.2.2, r', hm, f1, f2, j2, j4 hne.1, f3, f4, f5, f6, ?_⟩
        by_cases hr2 : r'.1 = 2
        · right
          obtain ⟨q1, q2⟩ := m1.2.2 hr2
          have hem : List.isEmpty (zk_hh t) = true := by unfold zk_hh; rw [q2]; rfl
          refine ⟨q1, hem, zx_metX ih hm he hc f3 f4 hr2 hem, ?_⟩
          cases hb : zs_back r' g with
          | none =>
            rw [hb] at h
            simp only at h
            cases hq : (Nat.beq r'.1 2 && List.isEmpty (zh_find zh_tabs g.1) && !zm_ini g.1) with
            | true =>
              rw [hq, cond_true] at h
              cases h
              simp only [Bool.and_eq_true] at hq
              have hno := List.isEmpty_iff.mp hq.1.2
              rw [hgy] at hno
              exact zx_passed C hr2 hno h1 h2
            | false => rw [hq] at h; cases h
          | some g' =>
            rw [hb] at h
            simp only at h
            refine zx_caught C hgy hr2 k5 (fun pc' ins len' a' rest' ht => zk_store_of C.2.1 ins len' a' rest' ht) hb ?_
            exact ih (d + 1) g' Rr mm p e R s m args below meth c c0 s0 mc ms h (by rw [(zs_back_i hb).1, hgy]; exact C) hF hL h1 h2 h3 h4
        · left
          cases hb : zs_back r' g with
          | none =>
            rw [hb] at h
            simp only at h
            rw [show Nat.beq r'.1 2 = false by rw [← Bool.not_eq_true, Nat.beq_eq]; exact hr2] at h
            cases h
          | some g' =>
            rw [hb] at h
            simp only at h
            exact ⟨hr2, zx_met ih hm he hc f3 f4 hr2, g', rfl, ih (d + 1) g' Rr mm p e R s m args below meth c c0 s0 mc ms h (by rw [(zs_back_i hb).1, hgy]; exact C) hF hL h1 h2 h3 h4⟩
theorem zx_runs (hst : l.stackTraces = false) : ∀ f : Nat, zx_Runs l b pre D cI cL cQ E f := by
  intro f
  induction f with
  | zero => intro d fr Rr mm p e R s m args below meth c c0 s0 mc ms h; cases h
  | succ f ih =>
    intro d fr Rr mm p e R s m args below meth c c0 s0 mc ms h C hF hL h1 h2 h3 h4
    have hmono := zs_mono _ _ _ _ h
    rw [zs_exec] at h
    cases hs : zs_step E fr with
    | none => rw [hs] at h; cases h
    | some S =>
      rw [hs] at h
      have hok := zs_step_ok hs
      obtain ⟨ins, len, a0, b0, w0, v0, ht, hz⟩ := zs_step_inv hs
      obtain ⟨y, pc, ls, st, hp⟩ := fr
      obtain ⟨hd, hk⟩ := zk_ats C.2.1 ht
      obtain ⟨k1, -, -, -, k5⟩ := zk_head_of C.2.1
      refine zx_step (E := E) C (by omega) (by omega) (fun cells slots g1 g2 => ?_) hd hk hz (fun hi => ?_) (fun fr' hS => ?_) (fun ix hi ha hthr => ?_) (fun fr' hS => ?_) (fun t as g hS => ?_)
      · have e1 : hp.length ≤ Rr.2.2.length := hmono.1
        have e2 : zx_sl hp ≤ zx_sl Rr.2.2 := hmono.2.1
        omega
      · have hlen : len = 1 := by rcases hi with rfl | rfl | rfl | rfl | rfl <;> exact zk_len hk
        subst hlen
        refine zx_rets C k1 h1 h2 hi hd hz (fun r hr => ?_)
        subst hr
        exact Option.some.inj h
      · subst hS
        have := zs_mono _ _ _ _ h
        omega
      · subst hi
        have hlen : len = 3 := by
          simp only [zk_ins, Bool.and_eq_true] at hk
          exact zk_len hk.1
        subst hlen
        simp only [zs_ins] at hz
        rw [show Nat.ble 100 a0 = true from Nat.ble_eq_true_of_le ha, cond_true] at hz
        refine zx_throw C hst hd hthr ha hz (fun r hr => ?_) h1 h2 (by omega) (by omega) h3 h4
        subst hr
        exact Option.some.inj h
      · subst hS
        exact ih d fr' Rr mm p e R s m args below meth c c0 s0 mc ms h (by rw [show fr'.1 = y from hok.1]; exact C) hF hL h1 h2 h3 h4
      · subst hS
        exact zx_callOf ih (t := t) (as := as) (g := g) h C hok.1 k5 hF hL h1 h2 h3 h4
end
