/-! A throw, with the heap behind it told exactly. (zx_throwS and zx_throwSW began as the printed vx_throwS and vx_throwSW; of the heap they say more.) -/
section
variable {p : Program} {l : Launch} {e : Env} {R : Room} {s : State} {m : MethodId} {args : Array Value} {below : List Frame} {meth : Method} {c : Code} {H : Heap} {locs : List Loc} {cells slots : Nat} {Q : State → Prop}
variable {mc ms : Nat} {free : Addr → Prop} {A0 A1 : Nat → Prop} {H0 : Heap} {a : Array Value} {ls : Array Slot} {st0 rest : List Value}
variable {Qc : Array Value → State → Outcome → State → Prop} {XC : String → State → State → Prop}
theorem zx_throwS {cc : ByteArray} {pc : Nat} (hexec : p.tables.exec = Jvm.exec) (hb : c.code = cc) (hl : l.stackTraces = false) {own cls text : String} {names : List String} {ik is ic mc ms sa : Nat} {A : Nat → Prop}
    (hown : s.vm.findClass own = some m.cls) (hcls : Bundle.fit cls = true) (hnames : ∀ n ∈ names, Bundle.fit n = true)
    (hk : (Cond.classLink own ik cls).before args s = true) (hini : (Cond.initialized cls).before args s = true) (hstr : vk_R own is text sa s) (hat : ∀ w ∈ vx_atS own ic cls names, w.before args s = true)
    (hgood : ∀ w ∈ Cond.classLink own ik cls :: Cond.initialized cls :: vx_atS own ic cls names, vx_ot w = true)
    (hU : vx_Zq Bundle.tN "UNASSIGNED_STACK" Bundle.steD A s s.heap) (hN : vx_Zq Bundle.tN "SUPPRESSED_SENTINEL" Bundle.listD A s s.heap) (hS : va_S A s.heap H locs) (hsize : ls.size = c.maxLocals)
    (d0 : decode cc pc = .ok (.new ik, 3)) (d3 : decode cc (pc + 3) = .ok (.dup, 1)) (d4 : decode cc (pc + 4) = .ok (.ldc is, 2)) (d6 : decode cc (pc + 6) = .ok (.invokespecial ic, 3)) (d9 : decode cc (pc + 9) = .ok (.athrow, 1))
    (hout : ∀ x ∈ c.exceptionTable.toList, covers x (pc + 9) = false)
    (hRframes : names.length + 3 < R.frames) (hRlocals : (rest.map fun v => v.category).sum + (13 * (names.length + 1) + 43) ≤ R.locals) (hRcells : cells + 1 ≤ R.cells) (hRslots : slots + 6 ≤ R.slots) (hlocks : meth.locks = false)
    (hx : ∀ (t : State) (ce : Cell), s.vm.Alike t.vm → t.heap.size = H.size + 1 → (∀ q : Nat, q < H.size → t.heap[q]? = H[q]?) → t.heap[H.size]? = some ce → ce.vm = .none → s.vm.findClass cls = some ce.cls → XC cls s t)
    (hf : ∀ z ∈ locs, free z.base) (hc : cells + 1 ≤ mc) (hs : slots + 6 ≤ ms) :
    W p l e R s m args below meth c H locs cells slots (vx_MQ below Qc XC args s mc ms free) (F0 m pc ls rest) := by
  intro T hT X
  have htr : e.platform.stackTraces = false := (show e.platform.stackTraces = l.stackTraces by rw [X.admits.platform]).trans hl
  have Y := vx_rebase X (R' := { frames := R.frames, locals := R.locals, cells := 1, slots := 6 }) (Nat.le_refl _) (Nat.le_refl _) hRcells hRslots
  obtain ⟨s', hA⟩ : ∃ z, z = (T.setVm s.vm).setFrames (.invoking m args :: below) := ⟨_, rfl⟩
  rw [← hA] at Y
  have hvm : s'.vm = s.vm := by rw [hA]; rfl
  have hhp : s'.heap = H := by rw [hA]; exact hT
  have hW0 : s.WarmedH s'.vm := by rw [hvm]; exact State.WarmedH.refl s
  have hat' : ∀ w ∈ vx_atS own ic cls names, w.before args s' = true := fun w hw => vx_ot_at hW0 hvm.symm (hgood w (List.mem_cons_of_mem _ (List.mem_cons_of_mem _ hw))) (hat w hw)
  have hk' : (Cond.classLink own ik cls).before args s' = true := vx_ot_at hW0 hvm.symm (hgood _ List.mem_cons_self) hk
  have hini' : (Cond.initialized cls).before args s' = true := vx_ot_at hW0 hvm.symm (hgood _ (List.mem_cons_of_mem _ List.mem_cons_self)) hini
  have hU' : vx_Zq Bundle.tN "UNASSIGNED_STACK" Bundle.steD A s' s'.heap := by rw [hhp]; exact vx_Zq.moved hW0.alike (hU.kept hS.2.1)
  have hN' : vx_Zq Bundle.tN "SUPPRESSED_SENTINEL" Bundle.listD A s' s'.heap := by rw [hhp]; exact vx_Zq.moved hW0.alike (hN.kept hS.2.1)
  have h : ∀ w ∈ Bundle.ownAtoms own ic cls names, w.before args s' = true := vx_own hat' (vx_isRefq hU'.1) (vx_isRefq hN'.1) hU'.2.word hN'.2.word
  have hown' : s'.vm.findClass own = some m.cls := by rw [hvm]; exact hown
  have hins : (Cond.instantiable cls 6).before args s' = true := h _ (by simp [Bundle.ownAtoms])
  obtain ⟨vm₁, cX, kX, hfX, hkX, -, -, X₁, st1⟩ := Y.newCold hexec (own := own) (C := cls) (index := ik) (n := 6) hown' hk' hins hini'
    (g := F0 m pc ls rest) rfl (by rw [hb]; exact d0) (Nat.le_refl _) (Nat.le_refl _)
  generalize hT1 : (T.setVm vm₁).pushCell { cls := cX, slots := kX.instanceTypes.map defaultValue, vm := .none } = T1 at X₁ st1
  have hcat : (Value.ref T.heap.size).category = 1 := rfl
  have hcellA : T1.heap[T.heap.size]? = some (freshCell cX kX) := by rw [← hT1]; exact State.heap_pushCell_size _ _
  have d3' : decode c.code (pc + 3) = .ok (.dup, 1) := by rw [hb]; exact d3
  have d4' : decode c.code (pc + 4) = .ok (.ldc is, 2) := by rw [hb]; exact d4
  have hstr' : vk_R own is text sa s' := vk_R.warm hW0 hstr
  obtain ⟨U, hsteps, hrun, hend, hW, hsame, ce, hce, hO⟩ := X₁.ctorThrowS hexec htr (own := own) (cls := cls) (names := names) (ic := ic) hown' hcls hnames h (fun x hx => nomatch hx) hfX hkX hcellA (by rw [hhp, hT]; exact Nat.le_refl _) (msg := .ref sa) rfl
    (g := { method := m, pc := pc + 6, locals := ls, stack := .ref sa :: .ref T.heap.size :: .ref T.heap.size :: rest, locked := none }) rfl hsize rfl rfl (rest := rest) rfl
    (by rw [hb]; exact d6) (by rw [hb]; exact d9) hout hRframes (by simp only [List.map_cons, List.sum_cons, hcat]; omega) hlocks
  obtain ⟨f1, f2⟩ := vx_frame hsame
  rw [hhp] at f1 f2
  have f1x : U.heap.size = H.size + 1 := by
    obtain ⟨-, -, z3, -⟩ := id hsame
    have z3 : U.heap.size ≤ s'.heap.size + 1 := z3
    rw [hhp] at z3
    have z4 := (Array.getElem?_eq_some_iff.mp hce).1
    rw [hT] at z4
    omega
  have hWs : s.WarmedH U.vm := State.WarmedH.trans hW0 hW
  have hcl : s.vm.findClass cls = some ce.cls := by
    have h9 := hO.cls
    rw [hvm] at h9
    exact h9
  have hall : s.sameButNew ({ U with vm := s.vm } : State) locs mc ms := by
    subst hA
    obtain ⟨e1, e2⟩ := hsame
    rw [State.setFrames_setFrames] at e1
    have h2 : (T.setVm s.vm).sameButNew ({ U with vm := s.vm } : State) [] (0 + 1) (0 + 6) := ⟨e1, e2⟩
    have h3 := X.same.trans h2
    rw [List.append_nil] at h3
    exact h3.mono hc hs
  refine ⟨U, ?_, .threw T.heap.size, hrun, hend, Or.inr ⟨T.heap.size, rfl, cls, ce, locs, hx U ce hWs.alike f1x (fun q hq => f2 q hq (fun z hz => nomatch hz)) (by rw [← hT]; exact hce) hO.vm hcl, hce, hO.vm, hcl, hWs, hall, hf⟩⟩
  refine st1 _ ?_
  show Steps p.tables e below (T1.setTop { method := m, pc := pc + 3, locals := ls, stack := .ref T.heap.size :: rest, locked := none }) _
  jvm_step X₁.here [X₁.here.top, hexec, d3', Value.category]
  exact X₁.ldcString hexec (own := own) (text := text) (index := is) (a := sa) hown' hstr'.1 hstr'.2
    (g := { method := m, pc := pc + 4, locals := ls, stack := .ref T.heap.size :: .ref T.heap.size :: rest, locked := none }) rfl d4' _ hsteps
theorem zx_throwSW {cc : ByteArray} {pc : Nat} (hexec : p.tables.exec = Jvm.exec) (hb : c.code = cc) (hl : l.stackTraces = false) {own cls text : String} {names : List String} {ik is ic mc ms sa : Nat} {A : Nat → Prop}
    (hown : s.vm.findClass own = some m.cls) (hcls : Bundle.fit cls = true) (hnames : ∀ n ∈ names, Bundle.fit n = true)
    (hk : (Cond.classLink own ik cls).before args s = true) (hini : (Cond.initialized cls).before args s = true) (hstr : vk_R own is text sa s) (hat : ∀ w ∈ vx_atS own ic cls names, w.before args s = true)
    (hgood : ∀ w ∈ Cond.classLink own ik cls :: Cond.initialized cls :: vx_atS own ic cls names, vx_ot w = true)
    (hU : vx_Zq Bundle.tN "UNASSIGNED_STACK" Bundle.steD A s s.heap) (hN : vx_Zq Bundle.tN "SUPPRESSED_SENTINEL" Bundle.listD A s s.heap) (hS : va_S A s.heap H locs) (hsize : ls.size = c.maxLocals)
    (d0 : decode cc pc = .ok (.new ik, 3)) (d3 : decode cc (pc + 3) = .ok (.dup, 1)) (d4 : decode cc (pc + 4) = .ok (.ldc_w is, 3)) (d7 : decode cc (pc + 7) = .ok (.invokespecial ic, 3)) (d10 : decode cc (pc + 10) = .ok (.athrow, 1))
    (hout : ∀ x ∈ c.exceptionTable.toList, covers x (pc + 10) = false)
    (hRframes : names.length + 3 < R.frames) (hRlocals : (rest.map fun v => v.category).sum + (13 * (names.length + 1) + 43) ≤ R.locals) (hRcells : cells + 1 ≤ R.cells) (hRslots : slots + 6 ≤ R.slots) (hlocks : meth.locks = false)
    (hx : ∀ (t : State) (ce : Cell), s.vm.Alike t.vm → t.heap.size = H.size + 1 → (∀ q : Nat, q < H.size → t.heap[q]? = H[q]?) → t.heap[H.size]? = some ce → ce.vm = .none → s.vm.findClass cls = some ce.cls → XC cls s t)
    (hf : ∀ z ∈ locs, free z.base) (hc : cells + 1 ≤ mc) (hs : slots + 6 ≤ ms) :
    W p l e R s m args below meth c H locs cells slots (vx_MQ below Qc XC args s mc ms free) (F0 m pc ls rest) := by
  intro T hT X
  have htr : e.platform.stackTraces = false := (show e.platform.stackTraces = l.stackTraces by rw [X.admits.platform]).trans hl
  have Y := vx_rebase X (R' := { frames := R.frames, locals := R.locals, cells := 1, slots := 6 }) (Nat.le_refl _) (Nat.le_refl _) hRcells hRslots
  obtain ⟨s', hA⟩ : ∃ z, z = (T.setVm s.vm).setFrames (.invoking m args :: below) := ⟨_, rfl⟩
  rw [← hA] at Y
  have hvm : s'.vm = s.vm := by rw [hA]; rfl
  have hhp : s'.heap = H := by rw [hA]; exact hT
  have hW0 : s.WarmedH s'.vm := by rw [hvm]; exact State.WarmedH.refl s
  have hat' : ∀ w ∈ vx_atS own ic cls names, w.before args s' = true := fun w hw => vx_ot_at hW0 hvm.symm (hgood w (List.mem_cons_of_mem _ (List.mem_cons_of_mem _ hw))) (hat w hw)
  have hk' : (Cond.classLink own ik cls).before args s' = true := vx_ot_at hW0 hvm.symm (hgood _ List.mem_cons_self) hk
  have hini' : (Cond.initialized cls).before args s' = true := vx_ot_at hW0 hvm.symm (hgood _ (List.mem_cons_of_mem _ List.mem_cons_self)) hini
  have hU' : vx_Zq Bundle.tN "UNASSIGNED_STACK" Bundle.steD A s' s'.heap := by rw [hhp]; exact vx_Zq.moved hW0.alike (hU.kept hS.2.1)
  have hN' : vx_Zq Bundle.tN "SUPPRESSED_SENTINEL" Bundle.listD A s' s'.heap := by rw [hhp]; exact vx_Zq.moved hW0.alike (hN.kept hS.2.1)
  have h : ∀ w ∈ Bundle.ownAtoms own ic cls names, w.before args s' = true := vx_own hat' (vx_isRefq hU'.1) (vx_isRefq hN'.1) hU'.2.word hN'.2.word
  have hown' : s'.vm.findClass own = some m.cls := by rw [hvm]; exact hown
  have hins : (Cond.instantiable cls 6).before args s' = true := h _ (by simp [Bundle.ownAtoms])
  obtain ⟨vm₁, cX, kX, hfX, hkX, -, -, X₁, st1⟩ := Y.newCold hexec (own := own) (C := cls) (index := ik) (n := 6) hown' hk' hins hini'
    (g := F0 m pc ls rest) rfl (by rw [hb]; exact d0) (Nat.le_refl _) (Nat.le_refl _)
  generalize hT1 : (T.setVm vm₁).pushCell { cls := cX, slots := kX.instanceTypes.map defaultValue, vm := .none } = T1 at X₁ st1
  have hcat : (Value.ref T.heap.size).category = 1 := rfl
  have hcellA : T1.heap[T.heap.size]? = some (freshCell cX kX) := by rw [← hT1]; exact State.heap_pushCell_size _ _
  have d3' : decode c.code (pc + 3) = .ok (.dup, 1) := by rw [hb]; exact d3
  have d4' : decode c.code (pc + 4) = .ok (.ldc_w is, 3) := by rw [hb]; exact d4
  have hstr' : vk_R own is text sa s' := vk_R.warm hW0 hstr
  obtain ⟨U, hsteps, hrun, hend, hW, hsame, ce, hce, hO⟩ := X₁.ctorThrowS hexec htr (own := own) (cls := cls) (names := names) (ic := ic) hown' hcls hnames h (fun x hx => nomatch hx) hfX hkX hcellA (by rw [hhp, hT]; exact Nat.le_refl _) (msg := .ref sa) rfl
    (g := { method := m, pc := pc + 7, locals := ls, stack := .ref sa :: .ref T.heap.size :: .ref T.heap.size :: rest, locked := none }) rfl hsize rfl rfl (rest := rest) rfl
    (by rw [hb]; exact d7) (by rw [hb]; exact d10) hout hRframes (by simp only [List.map_cons, List.sum_cons, hcat]; omega) hlocks
  obtain ⟨f1, f2⟩ := vx_frame hsame
  rw [hhp] at f1 f2
  have f1x : U.heap.size = H.size + 1 := by
    obtain ⟨-, -, z3, -⟩ := id hsame
    have z3 : U.heap.size ≤ s'.heap.size + 1 := z3
    rw [hhp] at z3
    have z4 := (Array.getElem?_eq_some_iff.mp hce).1
    rw [hT] at z4
    omega
  have hWs : s.WarmedH U.vm := State.WarmedH.trans hW0 hW
  have hcl : s.vm.findClass cls = some ce.cls := by
    have h9 := hO.cls
    rw [hvm] at h9
    exact h9
  have hall : s.sameButNew ({ U with vm := s.vm } : State) locs mc ms := by
    subst hA
    obtain ⟨e1, e2⟩ := hsame
    rw [State.setFrames_setFrames] at e1
    have h2 : (T.setVm s.vm).sameButNew ({ U with vm := s.vm } : State) [] (0 + 1) (0 + 6) := ⟨e1, e2⟩
    have h3 := X.same.trans h2
    rw [List.append_nil] at h3
    exact h3.mono hc hs
  refine ⟨U, ?_, .threw T.heap.size, hrun, hend, Or.inr ⟨T.heap.size, rfl, cls, ce, locs, hx U ce hWs.alike f1x (fun q hq => f2 q hq (fun z hz => nomatch hz)) (by rw [← hT]; exact hce) hO.vm hcl, hce, hO.vm, hcl, hWs, hall, hf⟩⟩
  refine st1 _ ?_
  show Steps p.tables e below (T1.setTop { method := m, pc := pc + 3, locals := ls, stack := .ref T.heap.size :: rest, locked := none }) _
  jvm_step X₁.here [X₁.here.top, hexec, d3', Value.category]
  exact X₁.ldcStringW hexec (own := own) (text := text) (index := is) (a := sa) hown' hstr'.1 hstr'.2
    (g := { method := m, pc := pc + 4, locals := ls, stack := .ref T.heap.size :: .ref T.heap.size :: rest, locked := none }) rfl d4' _ hsteps
end
theorem zk_excs {k : Nat} {q : String × Nat × Nat} (h : zk_exc[k]? = some q) : zvCl[k + zk_E0]? = some (q.1, TE, 0) ∧ (q.1, q.1) ∈ zx_cast := by
  match k, h with
  | 0, h => cases h; exact ⟨rfl, by decide⟩
  | 1, h => cases h; exact ⟨rfl, by decide⟩
  | 2, h => cases h; exact ⟨rfl, by decide⟩
  | k + 3, h => simp [zk_exc] at h
section
variable {p : Program} {l : Launch} {e : Env} {R : Room} {s : State} {m : MethodId} {args : Array Value} {below : List Frame} {meth : Method} {c : Code} {b : Nat} {pre : Nat → Nat} {D : va_G} {cI cL cQ : ClassId} {c0 s0 : Nat} {E : List (List Int)} {y : Nat} {mm : zm_M}
variable {pc len a0 b0 w0 : Nat} {v0 : Int} {ls st : List zv_V} {h : zv_H} {S : zv_S} {Q : State → Prop}
theorem zk_thw_of {own cls : String} {ic : Nat} (hK : zx_K D cI cL cQ s) (hts : ∀ w ∈ zx_TB, w.before args s = true) (h : zk_thw own ic cls = true) : (∀ w ∈ vx_atS own ic cls zk_names, w.before args s = true) ∧ (∀ w ∈ vx_atS own ic cls zk_names, vx_ot w = true) ∧ Bundle.fit cls = true ∧ ∀ n ∈ zk_names, Bundle.fit n = true := by
  unfold zk_thw at h
  simp only [Bool.and_eq_true] at h
  obtain ⟨⟨h1, h2⟩, h3⟩ := h
  refine ⟨fun w hw => ?_, fun w hw => ?_, h2, fun n hn => List.all_eq_true.mp h3 n hn⟩
  · have := List.all_eq_true.mp h1 w hw
    obtain ⟨h4, h5⟩ := Bool.and_eq_true_iff.mp this
    cases hg : goodWord w with
    | true =>
      rw [hg, cond_true] at h5
      exact hts w (List.mem_filter.mpr ⟨of_decide_eq_true h5, hg⟩)
    | false =>
      rw [hg, cond_false] at h5
      cases w with
      | castable u v => exact va_Nw.use rfl (hK.2.2.1 (u, v) (of_decide_eq_true h5))
      | declares z => exact va_Nw.use rfl (hK.2.2.2.1 z (of_decide_eq_true h5))
      | _ => cases h5
  · exact (Bool.and_eq_true_iff.mp (List.all_eq_true.mp h1 w hw)).1
theorem zx_throw (C : zx_C p s m args meth c b pre D cI cL cQ E y mm) (hl : l.stackTraces = false) {ix mc ms : Nat} {Rr : zv_R} (hd : decode mm.2.1 pc = .ok (.new ix, 3)) (hk : zk_throw mm pc ix a0 w0 = true) (ha : 100 ≤ a0)
    (hz : (zo_g (Nat.ble (st.map zs_cat).sum 8 && Nat.blt a0 103 && !zm_ini y && List.isEmpty (zh_find zh_tabs y)) (some (Sum.inr (Sum.inr (2, (a0 - 100, (h.length : Int)), h ++ [(a0 - 100 + zk_E0, List.replicate 6 0)]))) : Option zv_S)) = some S) (kr : ∀ r, S = .inr (.inr r) → r = Rr) (hmc : mc + c0 = Rr.2.2.length) (hms : ms + s0 = zx_sl Rr.2.2)
    (hF : 6 ≤ R.frames) (hL : 100 ≤ R.locals) (hmR : mc ≤ R.cells) (hsR : ms ≤ R.slots) :
    zx_W p l e R s m args below meth c b pre D cI cL cQ (zx_M below b pre D cI cL cQ Rr args s mc ms) c0 s0 (y, pc, ls, st, h) := by
  obtain ⟨hx, hm, hb, hr, hml, hown, hts, hlocks, hnm, hK, hE, hbs, hG, htab⟩ := C
  obtain ⟨g0, hz1⟩ := zo_g_inv hz
  simp only [Bool.and_eq_true] at g0
  obtain ⟨⟨⟨g1, g2⟩, -⟩, g3⟩ := g0
  have g1 := Nat.le_of_ble_eq_true g1
  have hRr := kr _ (Option.some.inj hz1).symm
  subst hRr
  unfold zk_throw at hk
  cases hex : zk_exc[a0 - 100]? with
  | none => rw [hex] at hk; cases hk
  | some q =>
  obtain ⟨cls, wi, wn⟩ := q
  rw [hex] at hk
  simp only [Bool.and_eq_true, decide_eq_true_eq] at hk
  obtain ⟨⟨⟨k1, k2⟩, k3⟩, k4⟩ := hk
  have hnil : zk_hh y = [] := by unfold zk_hh; rw [List.isEmpty_iff.mp g3]; rfl
  have hno : ∀ (x : ExceptionTableEntry) (z : Nat), x ∈ c.exceptionTable.toList → covers x z = false := by
    intro x z hx
    rw [htab, hnil] at hx
    cases hx
  intro H locs lsM cells slots hR hS hlv hn f1 f2
  have f1' : cells + c0 = h.length := f1
  have f2' : slots + s0 = zx_sl h := f2
  have hR' : zx_Rel b pre D cI cL cQ h H := hR
  have hmc' : mc + c0 = h.length + 1 := by rw [hmc]; simp
  have hms' : ms + s0 = zx_sl h + 6 := by rw [hms]; show zx_sl (h ++ _) = _; rw [zx_sl_push]; rfl
  have hcl := zk_excs hex
  have hXC : ∀ (t : State) (ce : Cell), s.vm.Alike t.vm → t.heap.size = H.size + 1 → (∀ q : Nat, q < H.size → t.heap[q]? = H[q]?) → t.heap[H.size]? = some ce → ce.vm = .none → s.vm.findClass cls = some ce.cls → zx_X b pre D cI cL cQ (2, (a0 - 100, (h.length : Int)), h ++ [(a0 - 100 + zk_E0, List.replicate 6 0)]) cls s t := by
    intro t ce _ z1 o1 hce hcv hcc
    refine ⟨⟨_, hex, rfl⟩, hR'.push z1 o1 ?_, ?_⟩
    · rw [zc_cellO (zx_kind hcl.1).1 (zx_kind hcl.1).2, ← hR'.2]
      refine ⟨_, hcl.1, ce, hce, ?_, hcv, fun k hk => absurd hk (Nat.not_lt_zero k)⟩
      have := (hK.1.1 _ _ hcl.1).2.1
      exact Option.some.inj (hcc.symm.trans this)
    · exact ⟨by rw [z1]; have := hS.1; omega, fun q h1 h2 => (o1 q (Nat.lt_of_lt_of_le h1 hS.1)).trans (hS.2.1 q h1 h2)⟩
  show W p l e R s m args below meth c H locs cells slots (vx_MQ below (fun _ _ _ _ => False) (zx_X b pre D cI cL cQ (2, (a0 - 100, (h.length : Int)), h ++ [(a0 - 100 + zk_E0, List.replicate 6 0)])) args s mc ms (fun q => b ≤ q)) (F0 m pc lsM (st.map (zc_v b pre)))
  have hcat : ((st.map (zc_v b pre)).map fun v => v.category).sum + (13 * (zk_names.length + 1) + 43) ≤ R.locals := by
    rw [zc_cats]
    have : zk_names.length = 2 := rfl
    omega
  have hnl : zk_names.length + 3 < R.frames := by
    have : zk_names.length = 2 := rfl
    omega
  have strs : ∀ is : Nat, zk_str mm.1.cls is = true → ∃ tx sa, vk_R mm.1.cls is tx sa s := by
    intro is hs
    unfold zk_str at hs
    obtain ⟨q, hq, hq2⟩ := List.any_eq_true.mp hs
    simp only [Bool.and_eq_true, decide_eq_true_eq] at hq2
    obtain ⟨sa, hsa⟩ := hK.2.2.2.2.1 q hq
    rw [hq2.1, Nat.eq_of_beq_eq_true hq2.2] at hsa
    exact ⟨_, sa, hsa⟩
  have goods : ∀ ic : Nat, zk_thw mm.1.cls ic cls = true → ∀ w ∈ Cond.classLink mm.1.cls ix cls :: Cond.initialized cls :: vx_atS mm.1.cls ic cls zk_names, vx_ot w = true := by
    intro ic hi w hw
    rcases List.mem_cons.mp hw with rfl | hw
    · unfold vx_ot; rw [(List.mem_filter.mp (zk_w_mem k1)).2, Bool.or_true]
    · rcases List.mem_cons.mp hw with rfl | hw
      · unfold vx_ot; rw [(List.mem_filter.mp (zk_w_mem k2)).2, Bool.or_true]
      · exact (zk_thw_of hK hts hi).2.1 w hw
  split at k4
  · next is hd4 =>
    simp only [Bool.and_eq_true, decide_eq_true_eq] at k4
    obtain ⟨⟨k5, k6⟩, k7⟩ := k4
    split at k7
    · next ic hd6 =>
      obtain ⟨tx, sa, hsa⟩ := strs is k5
      obtain ⟨w1, w2, w3, w4⟩ := zk_thw_of hK hts k7
      exact zx_throwS hx hb hl hown w3 w4 (hts _ (zk_w_mem k1)) (hts _ (zk_w_mem k2)) hsa w1 (goods ic k7) hG.1.1 hG.1.2 hS hlv.1 hd k3 hd4 hd6 k6 (fun x hx => hno x _ hx) hnl hcat (by omega) (by omega) hlocks hXC hS.2.2 (by omega) (by omega)
    · cases k7
  · next is hd4 =>
    simp only [Bool.and_eq_true, decide_eq_true_eq] at k4
    obtain ⟨⟨k5, k6⟩, k7⟩ := k4
    split at k7
    · next ic hd7 =>
      obtain ⟨tx, sa, hsa⟩ := strs is k5
      obtain ⟨w1, w2, w3, w4⟩ := zk_thw_of hK hts k7
      exact zx_throwSW hx hb hl hown w3 w4 (hts _ (zk_w_mem k1)) (hts _ (zk_w_mem k2)) hsa w1 (goods ic k7) hG.1.1 hG.1.2 hS hlv.1 hd k3 hd4 hd7 k6 (fun x hx => hno x _ hx) hnl hcat (by omega) (by omega) hlocks hXC hS.2.2 (by omega) (by omega)
    · cases k7
  · cases k4
/-- a throw goes on -/
theorem zx_passed {mc ms : Nat} {r' : zv_R} {g : zv_F} (C : zx_C p s m args meth c b pre D cI cL cQ E y mm) (h2 : r'.1 = 2) (hno : zh_find zh_tabs y = []) (hmc : mc + c0 = r'.2.2.length) (hms : ms + s0 = zx_sl r'.2.2) :
    zx_T p l e R s m args below meth c b pre D cI cL cQ (zx_M below b pre D cI cL cQ r' args s mc ms) c0 s0 r' g := by
  obtain ⟨hx, hm, hb, hr, hml, hown, hts, hlocks, hnm, hK, hE, hbs, hG, htab⟩ := C
  intro ce q en H locs lsM rest cells slots hex hR hS hlv hn g1 g2 hce hcv hcl
  have hnil : zk_hh y = [] := by unfold zk_hh; rw [hno]; rfl
  unfold zx_M
  rw [if_pos h2]
  refine vx_out (E := en.1) (fun x hx => ?_) hlocks hce hcv hcl (fun t ht _ => ⟨⟨en, hex, rfl⟩, by rw [ht]; exact hR, by rw [ht]; exact hS.1, fun q h1 h2 => by rw [ht]; exact hS.2.1 q h1 h2⟩) hS.2.2 (by omega) (by omega)
  rw [htab, hnil] at hx
  cases hx
theorem zh_pick_inv {hs : List (Nat × Nat × Nat × Nat × Nat × Nat)} {k ex t : Nat} (h : zh_pick hs k ex = some t) : ∃ p1 q p2, hs = p1 ++ q :: p2 ∧ (∀ z ∈ p1, ¬ (z.1 ≤ k ∧ k < z.2.1 ∧ z.2.2.2.2.1 = ex)) ∧ (q.1 ≤ k ∧ k < q.2.1 ∧ q.2.2.2.2.1 = ex) ∧ t = q.2.2.1 := by
  induction hs with
  | nil => cases h
  | cons q qs ih =>
    unfold zh_pick at h
    by_cases hc : (Nat.ble q.1 k && Nat.blt k q.2.1 && Nat.beq q.2.2.2.2.1 ex) = true
    · rw [hc, cond_true] at h
      simp only [Bool.and_eq_true] at hc
      exact ⟨[], q, qs, rfl, fun z hz => absurd hz List.not_mem_nil, ⟨Nat.le_of_ble_eq_true hc.1.1, Nat.le_of_ble_eq_true hc.1.2, Nat.eq_of_beq_eq_true hc.2⟩, (Option.some.inj h).symm⟩
    · have hc' := hc
      rw [Bool.not_eq_true] at hc
      rw [hc, cond_false] at h
      obtain ⟨p1, q', p2, e1, e2, e3⟩ := ih h
      refine ⟨q :: p1, q', p2, by rw [e1]; rfl, fun z hz => ?_, e3⟩
      rcases List.mem_cons.mp hz with rfl | hz
      · rintro ⟨a1, a2, a3⟩
        refine hc' ?_
        simp only [Bool.and_eq_true]
        exact ⟨⟨Nat.ble_eq_true_of_le a1, Nat.ble_eq_true_of_le a2⟩, by rw [a3]; exact Nat.beq_refl _⟩
      · exact e2 z hz
/-- a throw is caught: on behind the store of the exception -/
theorem zx_caught {r' : zv_R} {g g' : zv_F} (C : zx_C p s m args meth c b pre D cI cL cQ E y mm) (hy : g.1 = y) (h2 : r'.1 = 2) (hhand : ∀ q ∈ zh_find zh_tabs y, zk_hand mm q = true) (hdec : ∀ pc' ins len' a' rest', zt_at y pc' = some (ins, len', a', rest') → decode mm.2.1 pc' = .ok (ins, len') ∧ (∀ n, ins = .astore_n n → (n : Nat) = a' ∧ len' = 1) ∧ (∀ n, ins = .astore n → n = a' ∧ len' = 2))
    (hback : zs_back r' g = some g') (kk : zx_W p l e R s m args below meth c b pre D cI cL cQ Q c0 s0 g') : zx_T p l e R s m args below meth c b pre D cI cL cQ Q c0 s0 r' g := by
  obtain ⟨hx, hm, hb, hr, hml, hown, hts, hlocks, hnm, hK, hE, hbs, hG, htab⟩ := C
  intro ce q en H locs lsM rest cells slots hex hR hS hlv hn g1 g2 hce hcv hcl
  obtain ⟨k, v, h'⟩ := r'
  obtain ⟨y', gpc, gls, gst, gh⟩ := g
  have hy : y' = y := hy
  subst hy
  have h2 : k = 2 := h2
  subst h2
  obtain ⟨t, hpick, hh⟩ := zo_o_inv (show (zo_o (zh_pick (zh_find zh_tabs y') (gpc - 3) v.1) fun t => zs_hand y' t gls h') = some g' from hback)
  obtain ⟨p1, z, p2, e1, e2, ⟨e3, e4, e5⟩, rfl⟩ := zh_pick_inv hpick
  have htl : c.exceptionTable.toList = (p1.map fun q => (⟨q.1, q.2.1, q.2.2.1, q.2.2.2.1⟩ : ExceptionTableEntry)) ++ (⟨z.1, z.2.1, z.2.2.1, z.2.2.2.1⟩ : ExceptionTableEntry) :: (p2.map fun q => (⟨q.1, q.2.1, q.2.2.1, q.2.2.2.1⟩ : ExceptionTableEntry)) := by
    rw [htab]
    unfold zk_hh tableOf
    rw [e1, List.map_map, List.map_append, List.map_cons]
    rfl
  have hz := hhand z (by rw [e1]; simp)
  unfold zk_hand at hz
  rw [e5, hex] at hz
  obtain ⟨en1, en2⟩ := en
  simp only [Bool.and_eq_true, Bool.not_eq_true'] at hz
  obtain ⟨z1, z2⟩ := hz
  have z2 : z.2.2.2.1 ≠ 0 := fun q => by rw [q] at z2; exact absurd z2 (by decide)
  refine vx_catch (E := en1) (name := en1) hown _ _ _ htl (fun x hx => ?_) ?_ z2 (hts _ (zk_w_mem z1)) (va_Nw.use rfl (hK.2.2.1 _ (zk_excs hex).2)) hce hcv hcl ?_
  · obtain ⟨w, hw, rfl⟩ := List.mem_map.mp hx
    by_cases hcv2 : w.1 ≤ gpc - 3 ∧ gpc - 3 < w.2.1
    · right
      have hne : w.2.2.2.2.1 ≠ v.1 := fun q => e2 w hw ⟨hcv2.1, hcv2.2, q⟩
      have hwz := hhand w (by rw [e1]; simp [hw])
      unfold zk_hand at hwz
      cases hwe : zk_exc[w.2.2.2.2.1]? with
      | none => rw [hwe] at hwz; cases hwz
      | some ew =>
        obtain ⟨ew1, ew2⟩ := ew
        rw [hwe] at hwz
        simp only [Bool.and_eq_true, Bool.not_eq_true'] at hwz
        exact ⟨fun q => by have := hwz.2; rw [show w.2.2.2.1 = 0 from q] at this; exact absurd this (by decide), ew1, hts _ (zk_w_mem hwz.1), hK.2.2.2.2.2.1 _ _ _ _ hex hwe (fun q => hne q.symm)⟩
    · left
      unfold covers
      by_cases a1 : w.1 ≤ gpc - 3
      · have a2 : ¬ gpc - 3 < w.2.1 := fun q => hcv2 ⟨a1, q⟩
        simp [a1, a2]
      · simp [a1]
  · unfold covers
    simp
    omega
  · unfold zs_hand at hh
    cases ht : zt_at y' z.2.2.1 with
    | none => rw [ht] at hh; cases hh
    | some it =>
      obtain ⟨ins, len', a', rest'⟩ := it
      rw [ht] at hh
      obtain ⟨d1, d2, d3⟩ := hdec _ _ _ _ _ ht
      cases ins with
      | astore_n n =>
        obtain ⟨f1, hh2⟩ := zo_g_inv hh
        obtain ⟨f1, f2⟩ := Bool.and_eq_true_iff.mp f1
        have f1 : a' < gls.length := Nat.le_of_ble_eq_true f1
        obtain ⟨n1, n2⟩ := d2 n rfl
        subst n2
        have hg' := (Option.some.inj hh2)
        subst hg'
        have hn2 : gls.length = c.maxLocals := hn
        exact lv_astore_n hx hb d1 n1 hlv (by omega) rfl (fun ls' h'' => kk H locs ls' cells slots hR hS (zx_stored9 f2 f1 ls' _ h'') (by show (gls.set _ _).length = _; rw [List.length_set]; exact hn) g1 g2)
      | astore n =>
        obtain ⟨f1, hh2⟩ := zo_g_inv hh
        obtain ⟨f1, f2⟩ := Bool.and_eq_true_iff.mp f1
        have f1 : a' < gls.length := Nat.le_of_ble_eq_true f1
        obtain ⟨n1, n2⟩ := d3 n rfl
        subst n2
        subst n1
        have hg' := (Option.some.inj hh2)
        subst hg'
        have hn2 : gls.length = c.maxLocals := hn
        exact lv_astore hx hb d1 hlv (by omega) rfl (fun ls' h'' => kk H locs ls' cells slots hR hS (zx_stored9 f2 f1 ls' _ h'') (by show (gls.set _ _).length = _; rw [List.length_set]; exact hn) g1 g2)
      | _ => cases hh
end
