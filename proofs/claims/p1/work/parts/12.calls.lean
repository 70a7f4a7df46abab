/-! Calls and returns. -/
section
variable {p : Program} {l : Launch} {e : Env} {R : Room} {s : State} {m : MethodId} {args : Array Value} {below : List Frame} {meth : Method} {c : Code} {b : Nat} {pre : Nat → Nat} {D : va_G} {cI cL cQ : ClassId} {Q : State → Prop} {c0 s0 : Nat} {E : List (List Int)} {y : Nat} {mm : zm_M}
variable {pc len a0 b0 w0 : Nat} {v0 : Int} {ls st : List zv_V} {h : zv_H} {S : zv_S}
theorem vk_ex {own tx : String} {k : Nat} {u U : State} (hv : U.vm = u.vm) (h : ∃ a, vk_R own k tx a u) : ∃ a, vk_R own k tx a U := h.elim (fun a h => ⟨a, vk_R.same hv h⟩)
theorem zx_K.same {u U : State} (h : u.vm = U.vm) (hK : zx_K D cI cL cQ u) : zx_K D cI cL cQ U := by
  have ha : u.vm.Alike U.vm := by rw [h]; exact Vm.Alike.refl _
  obtain ⟨h1, h2, h3, h4, h5, h6, h7⟩ := hK
  exact ⟨va_K.moved ha h1, va_AO.moved ha h2, fun q hq => va_Nw.same rfl h (h3 q hq), fun q hq => va_Nw.same rfl h (h4 q hq), fun q hq => vk_ex h.symm (h5 q hq), fun i j p q hi hj hne => va_Nc.moved ha (h6 i j p q hi hj hne), fun q hq => va_Nw.same rfl h (h7 q hq)⟩
theorem zx_K.warm {U : State} (hW : s.WarmedH U.vm) (hK : zx_K D cI cL cQ s) : zx_K D cI cL cQ U := by
  obtain ⟨h1, h2, h3, h4, h5, h6, h7⟩ := hK
  exact ⟨va_K.moved hW.alike h1, va_AO.moved hW.alike h2, fun q hq => va_Nw.warmC hW (h3 q hq), fun q hq => va_Nw.warmD hW (h4 q hq), fun q hq => (h5 q hq).elim (fun a h => ⟨a, vk_R.warm hW h⟩), fun i j p q hi hj hne => va_Nc.moved hW.alike (h6 i j p q hi hj hne), fun q hq => va_Nw.warmF hW (h7 q hq)⟩
theorem zx_G.kept {U : State} {H0 H : Heap} {locs : List Loc} (hG : zx_G b pre U H0) (hS : va_S (fun q => b ≤ q) H0 H locs) : zx_G b pre U H := ⟨⟨hG.1.1.kept hS.2.1, hG.1.2.kept hS.2.1⟩, hG.2.1.kept hS.2.1, hG.2.2.1.kept hS.2.1, hG.2.2.2.1.kept hS.2.1, hG.2.2.2.2⟩
theorem zx_G.same {u U : State} {H : Heap} (hv : U.vm = u.vm) (hG : zx_G b pre u H) : zx_G b pre U H := by
  have h : u.vm.Alike U.vm := by rw [hv]; exact Vm.Alike.refl _
  exact ⟨⟨vx_Zq.moved h hG.1.1, vx_Zq.moved h hG.1.2⟩, vk_S.moved h hG.2.1, va_Z.moved h hG.2.2.1, va_Z.moved h hG.2.2.2.1, vk_R.same hv hG.2.2.2.2⟩
theorem zx_G.warm {U : State} {H : Heap} (hW : s.WarmedH U.vm) (hG : zx_G b pre s H) : zx_G b pre U H :=
  ⟨⟨vx_Zq.moved hW.alike hG.1.1, vx_Zq.moved hW.alike hG.1.2⟩, vk_S.moved hW.alike hG.2.1, va_Z.moved hW.alike hG.2.2.1, va_Z.moved hW.alike hG.2.2.2.1, vk_R.warm hW hG.2.2.2.2⟩
theorem zx_E.alike {u U : State} {H : Heap} (h : u.vm.Alike U.vm) (hE : zx_E b pre E u H) : zx_E b pre E U H := by
  intro i l hi
  obtain ⟨h1, cell, h2, h3, h4⟩ := hE i l hi
  exact ⟨h1, cell, h2, State.isArrayOf_alike h h3, h4⟩
/-- a method's start -/
def zx_P (b : Nat) (pre : Nat → Nat) (D : va_G) (cI cL cQ : ClassId) (E : List (List Int)) (as : List zv_V) (h : zv_H) : Array Value → State → Prop := va_Pc (as.map (zc_v b pre)) (fun U => zx_Rel b pre D cI cL cQ h U.heap ∧ zx_K D cI cL cQ U ∧ zx_E b pre E U U.heap ∧ b ≤ U.heap.size ∧ zx_G b pre U U.heap)
theorem zx_P.blind (as : List zv_V) : FrameBlind (zx_P b pre D cI cL cQ E as h) := fun a U g mk q => ⟨q.1, q.2.1, zx_K.same (u := U) (U := U.calling g mk a) rfl q.2.2.1, zx_E.alike (u := U) (U := U.calling g mk a) (Vm.Alike.refl U.vm) q.2.2.2.1, q.2.2.2.2.1, zx_G.same (u := U) (U := U.calling g mk a) rfl q.2.2.2.2.2⟩
theorem zx_P.of {as : List zv_V} {H : Heap} (hK : zx_K D cI cL cQ s) (hE : zx_E b pre E s H) (hG : zx_G b pre s H) (hR : zx_Rel b pre D cI cL cQ h H) {a : Array Value} (ha : a = (as.map (zc_v b pre)).toArray) : ∀ U : State, U.heap = H → s.WarmedH U.vm → zx_P b pre D cI cL cQ E as h a U := by
  intro U hU hW
  refine ⟨ha, by rw [hU]; exact hR, zx_K.warm hW hK, by rw [hU]; exact zx_E.alike hW.alike hE, by rw [hU, hR.2]; omega, by rw [hU]; exact zx_G.warm hW hG⟩
def zx_ws (t : Nat) (mt : zm_M) : List Cond := zk_code t mt :: zx_TB
/-- behind a call: what came back -/
theorem zx_behind {H : Heap} {locs : List Loc} {cells slots mc ms : Nat} {lsM : Array Slot} {st0 : List Value} {r' : zv_R} {rest : List zv_V} {g' : zv_F} {a : Array Value}
    (hr : va_Run p l e R s m args below meth c H locs cells slots mc ms (F0 m pc lsM st0) (rest.map (zc_v b pre)) (zx_Q b pre D cI cL cQ r' a) (fun q => b ≤ q))
    (hS : va_S (fun q => b ≤ q) s.heap H locs) (hl : lv_has lsM c.maxLocals (zx_lv b pre ls)) (hn : ls.length = c.maxLocals) (g1 : cells + mc + c0 = r'.2.2.length) (g2 : slots + ms + s0 = zx_sl r'.2.2)
    (hr2 : r'.1 ≠ 2) (hb : zs_back r' (y, pc + 3, ls, rest, h) = some g') (kk : zx_W p l e R s m args below meth c b pre D cI cL cQ Q c0 s0 g') : W p l e R s m args below meth c H locs cells slots Q (F0 m pc lsM st0) := by
  intro T hT X
  obtain ⟨v, st₀, t, T', L, h0, X', hL, e1, e2, ⟨hv, hR', hF⟩, hgo⟩ := hr T hT X
  have hv : v = zx_o b pre r' := Outcome.returned.inj hv
  subst hv
  have hS' : va_S (fun q => b ≤ q) s.heap T'.heap (locs ++ L) := by
    obtain ⟨f1, f2⟩ := hF
    rw [h0] at f1 f2
    rw [e1]
    exact ⟨Nat.le_trans hS.1 f1, fun q h1 h2 => (f2 q (Nat.lt_of_lt_of_le h1 hS.1) h2).trans (hS.2.1 q h1 h2), fun q hq => by
      rcases List.mem_append.mp hq with h | h
      · exact hS.2.2 q h
      · exact hL q h⟩
  have key : W p l e R s m args below meth c T'.heap (locs ++ L) (cells + mc) (slots + ms) Q (F0 m (pc + 3) lsM ((zx_o b pre r').toList ++ rest.map (zc_v b pre))) := by
    obtain ⟨k, v, h'⟩ := r'
    match k, hb with
    | 0, hb =>
      cases hb
      exact kk T'.heap (locs ++ L) lsM (cells + mc) (slots + ms) (by rw [e1]; exact hR') hS' hl hn g1 g2
    | 1, hb =>
      cases hb
      exact kk T'.heap (locs ++ L) lsM (cells + mc) (slots + ms) (by rw [e1]; exact hR') hS' hl hn g1 g2
    | 2, hb => exact absurd rfl hr2
    | k + 3, hb => cases hb
  obtain ⟨t2, a1, b1⟩ := key T' rfl X'
  exact ⟨t2, hgo t2 a1, b1⟩
/-- what follows a throw out of a call: at the frame g, for every place of the exception -/
def zx_T (p : Program) (l : Launch) (e : Env) (R : Room) (s : State) (m : MethodId) (args : Array Value) (below : List Frame) (meth : Method) (c : Code) (b : Nat) (pre : Nat → Nat) (D : va_G) (cI cL cQ : ClassId) (Q : State → Prop) (c0 s0 : Nat) (r' : zv_R) (g : zv_F) : Prop :=
  ∀ (ce : Cell) (q : Nat) (en : String × Nat × Nat) (H : Heap) (locs : List Loc) (lsM : Array Slot) (rest : List Value) (cells slots : Nat), zk_exc[r'.2.1.1]? = some en → zx_Rel b pre D cI cL cQ r'.2.2 H → va_S (fun q => b ≤ q) s.heap H locs → lv_has lsM c.maxLocals (zx_lv b pre g.2.2.1) → g.2.2.1.length = c.maxLocals →
    cells + c0 = r'.2.2.length → slots + s0 = zx_sl r'.2.2 → H[q]? = some ce → ce.vm = .none → s.vm.findClass en.1 = some ce.cls → vx_W p l e R s m args below meth c H locs cells slots Q (F0 m (g.2.1 - 3) lsM rest) q
theorem zx_behindX {H : Heap} {locs : List Loc} {cells slots mc ms : Nat} {lsM : Array Slot} {st0 : List Value} {r' : zv_R} {rest : List Value} {g : zv_F}
    (hr : vx_Run p l e R s m args below meth c H locs cells slots mc ms (F0 m pc lsM st0) rest (fun _ _ _ => False) (zx_X b pre D cI cL cQ r') (fun q => b ≤ q))
    (hS : va_S (fun q => b ≤ q) s.heap H locs) (hl : lv_has lsM c.maxLocals (zx_lv b pre g.2.2.1)) (hn : g.2.2.1.length = c.maxLocals) (g1 : cells + mc + c0 = r'.2.2.length) (g2 : slots + ms + s0 = zx_sl r'.2.2) (hpc : g.2.1 = pc + 3)
    (kk : zx_T p l e R s m args below meth c b pre D cI cL cQ Q c0 s0 r' g) : W p l e R s m args below meth c H locs cells slots Q (F0 m pc lsM st0) := by
  intro T hT X
  rcases hr T hT X with ⟨v, st₀, t, T', L, h0, X', hL, e1, e2, hf, -⟩ | ⟨q, st₀, t, T', L, en, ce, h0, X', hL, e1, e2, ⟨⟨w, hw1, hw2⟩, hR', hF⟩, hce, hcv, hcl, hgo⟩
  · exact hf.elim
  · have hS' : va_S (fun q => b ≤ q) s.heap T'.heap (locs ++ L) := by
      obtain ⟨f1, f2⟩ := hF
      rw [h0] at f1 f2
      rw [e1]
      exact ⟨Nat.le_trans hS.1 f1, fun q h1 h2 => (f2 q (Nat.lt_of_lt_of_le h1 hS.1) h2).trans (hS.2.1 q h1 h2), fun q hq => by
        rcases List.mem_append.mp hq with h | h
        · exact hS.2.2 q h
        · exact hL q h⟩
    have key := kk ce q w T'.heap (locs ++ L) lsM rest (cells + mc) (slots + ms) hw1 (by rw [e1]; exact hR') hS' hl hn g1 g2 (by rw [e1]; exact hce) hcv (by rw [hw2]; exact hcl)
    rw [hpc, Nat.add_sub_cancel] at key
    obtain ⟨t2, a1, b1⟩ := key T' rfl X'
    exact ⟨t2, hgo.trans a1, b1⟩
theorem zs_call_inv {t : Nat} (hz : zs_call y pc t ls st h = some S) : ∃ mt, zm_at t = some mt ∧ mt.2.2.2.2.2.1 ≤ st.length ∧ ((st.drop mt.2.2.2.2.2.1).map zs_cat).sum ≤ 8 ∧ S = .inr (.inl (t, (st.take mt.2.2.2.2.2.1).reverse, (y, pc + 3, ls, st.drop mt.2.2.2.2.2.1, h))) := by
  obtain ⟨mt, hm, hz1⟩ := zo_o_inv hz
  obtain ⟨h1, hz2⟩ := zo_g_inv hz1
  obtain ⟨h1, h2⟩ := Bool.and_eq_true_iff.mp h1
  exact ⟨mt, hm, Nat.le_of_ble_eq_true h1, Nat.le_of_ble_eq_true h2, (Option.some.inj hz2).symm⟩
/-- what a caller must have of a callee -/
def zx_callee (p : Program) (l : Launch) (e : Env) (R : Room) (s : State) (m : MethodId) (args : Array Value) (below : List Frame) (meth : Method) (c : Code) (b : Nat) (pre : Nat → Nat) (D : va_G) (cI cL cQ : ClassId) (Q : State → Prop) (c0 s0 : Nat) (E : List (List Int)) (t : Nat) (as : List zv_V) (g : zv_F) (h : zv_H) : Prop :=
  ∃ (mt : zm_M) (d dl mc ms : Nat) (r' : zv_R), zm_at t = some mt ∧ d + 1 ≤ R.frames ∧ dl + 40 ≤ R.locals ∧ mt.2.2.1 ≤ 20 ∧ zk_code t mt ∈ zx_TB ∧
    mc + h.length = r'.2.2.length ∧ ms + zx_sl h = zx_sl r'.2.2 ∧ r'.2.2.length ≤ R.cells + c0 ∧ zx_sl r'.2.2 ≤ R.slots + s0 ∧
    ((r'.1 ≠ 2 ∧ Met l mt.1 (zx_ws t mt) { frames := d, cells := mc, slots := ms, locals := dl } (zx_P b pre D cI cL cQ E as h) (zx_Q b pre D cI cL cQ r') mc ms (fun q => b ≤ q) ∧ ∃ g', zs_back r' g = some g' ∧ zx_W p l e R s m args below meth c b pre D cI cL cQ Q c0 s0 g') ∨
     (zm_ini t = false ∧ List.isEmpty (zk_hh t) = true ∧ vx_Met l mt.1 (zx_ws t mt) { frames := d, cells := mc, slots := ms, locals := dl } (zx_P b pre D cI cL cQ E as h) (fun _ _ _ _ => False) (zx_X b pre D cI cL cQ r') mc ms (fun q => b ≤ q) ∧ zx_T p l e R s m args below meth c b pre D cI cL cQ Q c0 s0 r' g))
theorem zk_code_n {t : Nat} {mt : zm_M} (h : List.isEmpty (zk_hh t) = true) : zk_code t mt = .code mt.1 mt.2.1 mt.2.2.1 mt.2.2.2.1 := by
  unfold zk_code
  rw [h]
  rfl
theorem zk_code_w {t : Nat} {mt : zm_M} (h : List.isEmpty (zk_hh t) = false) : zk_code t mt = .codeWith mt.1 mt.2.1 mt.2.2.1 mt.2.2.2.1 (zk_hh t) := by
  unfold zk_code
  rw [h]
  rfl
theorem zk_name_of {y : MethodName} {n : Nat} (h : zk_name y n = true) : y.cls ≠ "java/lang/invoke/MethodHandle" ∧ y.cls ≠ "java/lang/invoke/VarHandle" ∧ (parseMethodDescriptor y.desc).map (fun d => d.parameters.length) = some n := by
  unfold zk_name at h
  simp only [Bool.and_eq_true, decide_eq_true_eq] at h
  exact ⟨h.1.1, h.1.2, h.2⟩
theorem zx_good {ws : List Cond} {t : Nat} {mt : zm_M} (hcw : zk_code t mt ∈ zx_TB) (h : ∀ w ∈ ws, w ∈ zx_TB) : GoodIn zx_TB (ws ++ zx_ws t mt) := zx_TB_good (fun w hw => by
  rcases List.mem_append.mp hw with hw | hw
  · exact h w hw
  · rcases List.mem_cons.mp hw with rfl | hw
    · exact hcw
    · exact hw)
theorem zx_invokestatic (C : zx_C p s m args meth c b pre D cI cL cQ E y mm) {ix : Nat} (hd : decode mm.2.1 pc = .ok (.invokestatic ix, 3)) (hk : zk_call mm.1.cls ix a0 1 w0 = true) (hz : zs_call y pc a0 ls st h = some S)
    (kc : ∀ t as g, S = .inr (.inl (t, as, g)) → zx_callee p l e R s m args below meth c b pre D cI cL cQ Q c0 s0 E t as g g.2.2.2.2) : zx_W p l e R s m args below meth c b pre D cI cL cQ Q c0 s0 (y, pc, ls, st, h) := by
  have C' := C
  obtain ⟨hx, -, hb, -, hml, hown, hts, -, -, hK, hE, hbs, hG, -⟩ := C'
  obtain ⟨mt, hm, h1, h2, hS'⟩ := zs_call_inv hz
  obtain ⟨mt', d, dl, mc, ms, r', hm', hfr, hlo, hmax, hcw, e1, e2, e3, e4, hcases⟩ := kc _ _ _ hS'
  cases hm.symm.trans hm'
  unfold zk_call at hk
  rw [hm] at hk
  obtain ⟨yn, bytes, ml, ret, rc, n, kd, wc, wi, ws, wn⟩ := mt
  simp only [Bool.and_eq_true] at hk
  obtain ⟨⟨k1, k2⟩, k3, k4⟩ := hk
  dsimp only at h1 h2 hmax e1 e2 hS' k4
  intro H locs lsM cells slots hR hS hl hn g1 g2
  have g1' : cells + c0 = h.length := g1
  have g2' : slots + s0 = zx_sl h := g2
  have hR' : zx_Rel b pre D cI cL cQ h H := hR
  have hst : st.map (zc_v b pre) = (((st.take n).reverse).map (zc_v b pre)).reverse ++ (st.drop n).map (zc_v b pre) := by
    rw [← List.map_reverse, List.reverse_reverse, ← List.map_append, List.take_append_drop]
  have hgood : GoodIn zx_TB (va_wsS mm.1.cls ix yn (zx_ws a0 (yn, bytes, ml, ret, rc, n, kd, wc, wi, ws, wn))) := zx_good hcw (fun w hw => by
    rcases List.mem_cons.mp hw with rfl | hw
    · exact zk_w_mem k1
    · rcases List.mem_cons.mp hw with rfl | hw
      · exact zk_w_mem k3
      · rcases List.mem_cons.mp hw with rfl | hw
        · exact zk_w_mem k2
        · cases hw)
  have hlen : (((st.take n).reverse).map (zc_v b pre)).length = n := by simp; omega
  rcases hcases with ⟨hr2, hM, g', hback, kk⟩ | ⟨hini, hemp, hM, hT⟩
  · cases hh : List.isEmpty (zk_hh a0) with
    | true =>
      have hcall := va_runS (p := p) (l := l) (e := e) (R := R) (s := s) (m := m) (args := args) (below := below) (meth := meth) (c := c) (H := H) (locs := locs) (cells := cells) (slots := slots) (mc := mc) (ms := ms) (nL := lsM.size) (Ts := zx_TB) (own := mm.1.cls) (index := ix) (As := ((st.take n).reverse).map (zc_v b pre)) (rest := (st.drop n).map (zc_v b pre)) (g := F0 m pc lsM (st.map (zc_v b pre)))
        ⟨hx, hb, hl.1.symm, hown, hts⟩ hM (va_cwS n hts hgood (by rw [zx_ws, zk_code_n hh]) rfl rfl (zk_name_of k4) ⟨hfr, by show 8 + (ml + 11) + dl ≤ _; omega⟩)
        ⟨zx_P.blind _, zx_P.of hK (hE.kept hbs hS) (hG.kept hS) hR' rfl⟩ rfl hlen rfl hst (lv_room (by rw [zc_cats]; exact h2)) hd ⟨by omega, by omega⟩
      exact zx_behind (Q := Q) (c0 := c0) (s0 := s0) hcall hS hl hn (by omega) (by omega) hr2 hback kk
    | false =>
      have hcall := vx_runSW (p := p) (l := l) (e := e) (R := R) (s := s) (m := m) (args := args) (below := below) (meth := meth) (c := c) (H := H) (locs := locs) (cells := cells) (slots := slots) (mc := mc) (ms := ms) (nL := lsM.size) (Ts := zx_TB) (own := mm.1.cls) (index := ix) (As := ((st.take n).reverse).map (zc_v b pre)) (rest := (st.drop n).map (zc_v b pre)) (g := F0 m pc lsM (st.map (zc_v b pre)))
        ⟨hx, hb, hl.1.symm, hown, hts⟩ hM (vx_cwSW n hts hgood (by rw [zx_ws, zk_code_w hh]) rfl rfl (zk_name_of k4) ⟨hfr, by show 8 + (ml + 11) + dl ≤ _; omega⟩)
        ⟨zx_P.blind _, zx_P.of hK (hE.kept hbs hS) (hG.kept hS) hR' rfl⟩ rfl hlen rfl hst (lv_room (by rw [zc_cats]; exact h2)) hd ⟨by omega, by omega⟩
      exact zx_behind (Q := Q) (c0 := c0) (s0 := s0) hcall hS hl hn (by omega) (by omega) hr2 hback kk
  · have hcall := vx_runS (p := p) (l := l) (e := e) (R := R) (s := s) (m := m) (args := args) (below := below) (meth := meth) (c := c) (H := H) (locs := locs) (cells := cells) (slots := slots) (mc := mc) (ms := ms) (nL := lsM.size) (Ts := zx_TB) (own := mm.1.cls) (index := ix) (As := ((st.take n).reverse).map (zc_v b pre)) (rest := (st.drop n).map (zc_v b pre)) (g := F0 m pc lsM (st.map (zc_v b pre)))
      ⟨hx, hb, hl.1.symm, hown, hts⟩ hM (va_cwS n hts hgood (by rw [zx_ws, zk_code_n hemp]) rfl rfl (zk_name_of k4) ⟨hfr, by show 8 + (ml + 11) + dl ≤ _; omega⟩)
      ⟨zx_P.blind _, zx_P.of hK (hE.kept hbs hS) (hG.kept hS) hR' rfl⟩ rfl hlen rfl hst (lv_room (by rw [zc_cats]; exact h2)) hd ⟨by omega, by omega⟩
    exact zx_behindX (g := (y, pc + 3, ls, st.drop n, h)) (Q := Q) (c0 := c0) (s0 := s0) hcall hS hl hn (by omega) (by omega) rfl hT
theorem zs_recv_inv {k : Nat} {as : List zv_V} (hr : zs_recv h k as = true) : ∃ q as' li, as = (2, q) :: as' ∧ 0 ≤ q ∧ h[q.toNat]? = some (k, li) := by
  unfold zs_recv at hr
  cases as with
  | nil => cases hr
  | cons v as' =>
    obtain ⟨t, q⟩ := v
    simp only [Bool.and_eq_true] at hr
    obtain ⟨-, h1, h2⟩ := hr
    have h1 : t = 2 := Nat.eq_of_beq_eq_true h1
    subst h1
    cases hc : zh_at h q with
    | none => rw [hc] at h2; cases h2
    | some cc =>
      rw [hc] at h2
      obtain ⟨k', li⟩ := cc
      have h2 : k' = k := Nat.eq_of_beq_eq_true h2
      subst h2
      obtain ⟨h3, h4⟩ := zh_at_inv hc
      exact ⟨q, as', li, rfl, h3, h4⟩
theorem zs_recv_ne {k : Nat} {as : List zv_V} (hr : zs_recv h k as = true) : k ≠ 99 := by
  unfold zs_recv at hr
  cases as with
  | nil => cases hr
  | cons v as' =>
    simp only [Bool.and_eq_true, Bool.not_eq_true'] at hr
    intro q
    rw [q] at hr
    exact absurd hr.1 (by decide)
theorem zx_receiver {H : Heap} {k : Nat} {r : vw_C} {a : Nat} {li : List Int} (hK : zx_K D cI cL cQ s) (hR : zx_Rel b pre D cI cL cQ h H) (hv : zvCl[k]? = some r) (hc : h[a]? = some (k, li)) : ∃ cell : Cell, H[b + a]? = some cell ∧ cell.vm.isStatics = false ∧ s.vm.findClass r.1 = some cell.cls := by
  have he := zc_ws_get (b := b) (pre := pre) (cI := cI) (cL := cL) (cQ := cQ) hc
  rw [zc_cellO (zx_kind hv).1 (zx_kind hv).2] at he
  exact va_recv hK.1 hR.1 hv he
theorem zx_split {n : Nat} {q : Int} {as' : List zv_V} (h1 : (st.take n).reverse = (2, q) :: as') (hq : 0 ≤ q) : st.map (zc_v b pre) = (as'.map (zc_v b pre)).reverse ++ .ref (b + q.toNat) :: (st.drop n).map (zc_v b pre) := by
  have h2 : st = as'.reverse ++ (2, q) :: st.drop n := by
    have h3 : st.take n = as'.reverse ++ [(2, q)] := by rw [← List.reverse_reverse (st.take n), h1, List.reverse_cons]
    rw [show as'.reverse ++ (2, q) :: st.drop n = (as'.reverse ++ [(2, q)]) ++ st.drop n by simp, ← h3, List.take_append_drop]
  have h4 : zc_v b pre (2, q) = .ref (b + q.toNat) := zc_ref_nn hq
  rw [← h4, ← List.map_reverse, ← List.map_cons, ← List.map_append, ← h2]
theorem zk_nohand {t : Nat} (h : ∀ q ∈ zh_tabs, q.1 ≠ t) : List.isEmpty (zk_hh t) = true := by
  have : ∀ tabs : List (Nat × List (Nat × Nat × Nat × Nat × Nat × Nat)), (∀ q ∈ tabs, q.1 ≠ t) → zh_find tabs t = [] := by
    intro tabs
    induction tabs with
    | nil => intro _; rfl
    | cons q qs ih =>
      intro hq
      have h1 : Nat.beq q.1 t = false := by rw [← Bool.not_eq_true, Nat.beq_eq]; exact hq q List.mem_cons_self
      rw [zh_find, h1, cond_false]
      exact ih (fun z hz => hq z (List.mem_cons_of_mem _ hz))
  unfold zk_hh
  rw [this zh_tabs h]
  rfl
/-- what is called on an object has no handlers -/
def zk_objs (t : Nat) : Bool := match zm_at t with
  | none => true
  | some m => Nat.beq m.2.2.2.2.2.2.1 99 || List.isEmpty (zk_hh t)
theorem zk_objs_all : ∀ t, t < 272 → zk_objs t = true := by decide +kernel
theorem zs_recvS_inv {k : Nat} {as : List zv_V} (hr : zs_recvS k as = true) : ∃ as', as = (2, -3) :: as' ∧ k = 60 := by
  unfold zs_recvS at hr
  cases as with
  | nil => cases hr
  | cons v as' =>
    obtain ⟨t, q⟩ := v
    simp only [Bool.and_eq_true] at hr
    obtain ⟨h0, h1, h2⟩ := hr
    have e1 : t = 2 := Nat.eq_of_beq_eq_true h1
    have e2 : q = -3 := of_decide_eq_true h2
    exact ⟨as', by rw [e1, e2], Nat.eq_of_beq_eq_true h0⟩
theorem zx_splitR {n adr : Nat} {q : Int} {as' : List zv_V} (h1 : (st.take n).reverse = (2, q) :: as') (hq : zc_v b pre (2, q) = .ref adr) : st.map (zc_v b pre) = (as'.map (zc_v b pre)).reverse ++ .ref adr :: (st.drop n).map (zc_v b pre) := by
  have h2 : st = as'.reverse ++ (2, q) :: st.drop n := by
    have h3 : st.take n = as'.reverse ++ [(2, q)] := by rw [← List.reverse_reverse (st.take n), h1, List.reverse_cons]
    rw [show as'.reverse ++ (2, q) :: st.drop n = (as'.reverse ++ [(2, q)]) ++ st.drop n by simp, ← h3, List.take_append_drop]
  rw [← hq, ← List.map_reverse, ← List.map_cons, ← List.map_append, ← h2]
theorem zx_invokevirtual (C : zx_C p s m args meth c b pre D cI cL cQ E y mm) {ix : Nat} (hd : decode mm.2.1 pc = .ok (.invokevirtual ix, 3)) (hk : zk_call mm.1.cls ix a0 0 w0 = true) (hz : zs_call y pc a0 ls st h = some S) (hrc : ∀ mt, zm_at a0 = some mt → (Nat.blt mt.2.2.2.2.2.2.1 60 && zs_recv h mt.2.2.2.2.2.2.1 ((st.take mt.2.2.2.2.2.1).reverse) || zs_recvS mt.2.2.2.2.2.2.1 ((st.take mt.2.2.2.2.2.1).reverse)) = true) (hh : List.isEmpty (zk_hh a0) = true)
    (kc : ∀ t as g, S = .inr (.inl (t, as, g)) → zx_callee p l e R s m args below meth c b pre D cI cL cQ Q c0 s0 E t as g g.2.2.2.2) : zx_W p l e R s m args below meth c b pre D cI cL cQ Q c0 s0 (y, pc, ls, st, h) := by
  have C' := C
  obtain ⟨hx, -, hb, -, hml, hown, hts, -, -, hK, hE, hbs, hG, -⟩ := C'
  obtain ⟨mt, hm, h1, h2, hS'⟩ := zs_call_inv hz
  obtain ⟨mt', d, dl, mc, ms, r', hm', hfr, hlo, hmax, hcw, e1, e2, e3, e4, hcases⟩ := kc _ _ _ hS'
  cases hm.symm.trans hm'
  have hrv := hrc _ hm
  unfold zk_call at hk
  rw [hm] at hk
  obtain ⟨yn, bytes, ml, ret, rc, n, kd, wc, wi, ws, wn⟩ := mt
  simp only [Bool.and_eq_true] at hk
  obtain ⟨⟨k1, k2⟩, ⟨⟨⟨k3, k4⟩, k5⟩, k6⟩, k7⟩ := hk
  dsimp only at h1 h2 hmax e1 e2 hS' k5 k6 hrv
  intro H locs lsM cells slots hR hS hl hn g1 g2
  have g1' : cells + c0 = h.length := g1
  have g2' : slots + s0 = zx_sl h := g2
  have hR' : zx_Rel b pre D cI cL cQ h H := hR
  have hadr : ∃ (q : Int) (as' : List zv_V) (adr : Nat), (st.take n).reverse = (2, q) :: as' ∧ zc_v b pre (2, q) = .ref adr ∧ ∃ cell : Cell, H[adr]? = some cell ∧ cell.vm.isStatics = false ∧ s.vm.findClass yn.cls = some cell.cls := by
    rcases Bool.or_eq_true_iff.mp hrv with hrv | hrv
    · obtain ⟨hlt, hrv⟩ := Bool.and_eq_true_iff.mp hrv
      have hlt : kd + 1 ≤ 60 := Nat.le_of_ble_eq_true hlt
      obtain ⟨q, as', li, has, hq, hc⟩ := zs_recv_inv hrv
      refine ⟨q, as', b + q.toNat, has, zc_ref_nn hq, ?_⟩
      rcases Bool.or_eq_true_iff.mp k7 with k7 | k7
      · have h60 : kd = 60 := Nat.eq_of_beq_eq_true (Bool.and_eq_true_iff.mp k7).1
        omega
      · cases hv : zvCl[kd]? with
        | none => rw [hv] at k7; cases k7
        | some rr =>
          rw [hv] at k7
          have k7 : rr.1 = yn.cls := of_decide_eq_true k7
          have := zx_receiver hK hR' hv hc
          rw [k7] at this
          exact this
    · obtain ⟨as', has, h60⟩ := zs_recvS_inv hrv
      subst h60
      refine ⟨-3, as', pre 1, has, zc_ref_p (by decide), ?_⟩
      rcases Bool.or_eq_true_iff.mp k7 with k7 | k7
      · have hcls : yn.cls = "java/lang/String" := of_decide_eq_true (Bool.and_eq_true_iff.mp k7).2
        rw [hcls]
        exact vk_recv (i := 0) hG.2.1 (by decide) hS
      · have hv0 : zvCl[60]? = none := rfl
        rw [hv0] at k7
        cases k7
  obtain ⟨q, as', adr, has, hqv, hcell⟩ := hadr
  have hst := zx_splitR (b := b) (pre := pre) has hqv
  have hlen : as'.length = n - 1 := by
    have := congrArg List.length has
    simp at this
    omega
  have hlen2 : (as'.map (zc_v b pre)).length = n - 1 := by rw [List.length_map]; exact hlen
  have hgood : GoodIn zx_TB (wsV mm.1.cls ix yn.cls yn (zx_ws a0 (yn, bytes, ml, ret, rc, n, kd, wc, wi, ws, wn))) := zx_good hcw (fun w hw => by
    rcases List.mem_cons.mp hw with rfl | hw
    · exact zk_w_mem k1
    · rcases List.mem_cons.mp hw with rfl | hw
      · exact zk_w_mem k3
      · rcases List.mem_cons.mp hw with rfl | hw
        · exact zk_w_mem k4
        · rcases List.mem_cons.mp hw with rfl | hw
          · exact zk_w_mem k2
          · cases hw)
  have hpre : PreV s H yn.cls adr (zx_P b pre D cI cL cQ E ((st.take n).reverse) h) (as'.map (zc_v b pre)) := ⟨zx_P.blind _, hcell, zx_P.of hK (hE.kept hbs hS) (hG.kept hS) hR' (by rw [has, List.map_cons]; congr 2; exact hqv.symm)⟩
  rcases hcases with ⟨hr2, hM, g', hback, kk⟩ | ⟨hini, hemp, hM, hT⟩
  · have hcall := va_runV (p := p) (l := l) (e := e) (R := R) (s := s) (m := m) (args := args) (below := below) (meth := meth) (c := c) (H := H) (locs := locs) (cells := cells) (slots := slots) (mc := mc) (ms := ms) (nL := lsM.size) (Ts := zx_TB) (own := mm.1.cls) (C := yn.cls) (index := ix) (b := adr) (As := as'.map (zc_v b pre)) (rest := (st.drop n).map (zc_v b pre)) (g := F0 m pc lsM (st.map (zc_v b pre)))
      ⟨hx, hb, hl.1.symm, hown, hts⟩ hM (cwV (n - 1) hts hgood (by rw [zx_ws, zk_code_n hh]) rfl rfl ⟨rfl, zk_name_of k5⟩ ⟨hfr, by show 8 + (ml + 11) + dl ≤ _; omega⟩)
      hpre rfl hlen2 rfl hst (lv_room (by rw [zc_cats]; exact h2)) hd ⟨by omega, by omega⟩
    exact zx_behind (Q := Q) (c0 := c0) (s0 := s0) hcall hS hl hn (by omega) (by omega) hr2 hback kk
  · have hcall := vx_runV (p := p) (l := l) (e := e) (R := R) (s := s) (m := m) (args := args) (below := below) (meth := meth) (c := c) (H := H) (locs := locs) (cells := cells) (slots := slots) (mc := mc) (ms := ms) (nL := lsM.size) (Ts := zx_TB) (own := mm.1.cls) (C := yn.cls) (index := ix) (b := adr) (As := as'.map (zc_v b pre)) (rest := (st.drop n).map (zc_v b pre)) (g := F0 m pc lsM (st.map (zc_v b pre)))
      ⟨hx, hb, hl.1.symm, hown, hts⟩ hM (cwV (n - 1) hts hgood (by rw [zx_ws, zk_code_n hh]) rfl rfl ⟨rfl, zk_name_of k5⟩ ⟨hfr, by show 8 + (ml + 11) + dl ≤ _; omega⟩)
      hpre rfl hlen2 rfl hst (lv_room (by rw [zc_cats]; exact h2)) hd ⟨by omega, by omega⟩
    exact zx_behindX (g := (y, pc + 3, ls, st.drop n, h)) (Q := Q) (c0 := c0) (s0 := s0) hcall hS hl hn (by omega) (by omega) rfl hT
theorem zx_invokespecial (C : zx_C p s m args meth c b pre D cI cL cQ E y mm) {ix : Nat} (hd : decode mm.2.1 pc = .ok (.invokespecial ix, 3)) (hk : zk_call mm.1.cls ix a0 2 w0 = true) (hz : zs_call y pc a0 ls st h = some S) (hrc : ∀ mt, zm_at a0 = some mt → zs_recv h mt.2.2.2.2.2.2.1 ((st.take mt.2.2.2.2.2.1).reverse) = true) (hh : List.isEmpty (zk_hh a0) = true)
    (kc : ∀ t as g, S = .inr (.inl (t, as, g)) → zx_callee p l e R s m args below meth c b pre D cI cL cQ Q c0 s0 E t as g g.2.2.2.2) : zx_W p l e R s m args below meth c b pre D cI cL cQ Q c0 s0 (y, pc, ls, st, h) := by
  have C' := C
  obtain ⟨hx, -, hb, -, hml, hown, hts, -, -, hK, hE, hbs, hG, -⟩ := C'
  obtain ⟨mt, hm, h1, h2, hS'⟩ := zs_call_inv hz
  obtain ⟨mt', d, dl, mc, ms, r', hm', hfr, hlo, hmax, hcw, e1, e2, e3, e4, hcases⟩ := kc _ _ _ hS'
  cases hm.symm.trans hm'
  have hrv := hrc _ hm
  unfold zk_call at hk
  rw [hm] at hk
  obtain ⟨yn, bytes, ml, ret, rc, n, kd, wc, wi, ws, wn⟩ := mt
  simp only [Bool.and_eq_true, decide_eq_true_eq] at hk
  obtain ⟨⟨k1, k2⟩, ⟨⟨⟨⟨⟨k3, k4⟩, k5⟩, k6⟩, k7⟩, k8⟩, k9⟩ := hk
  dsimp only at h1 h2 hmax e1 e2 hS' k5 k6 hrv
  subst k7
  obtain ⟨q, as', li, has, hq, hc⟩ := zs_recv_inv hrv
  intro H locs lsM cells slots hR hS hl hn g1 g2
  have g1' : cells + c0 = h.length := g1
  have g2' : slots + s0 = zx_sl h := g2
  have hR' : zx_Rel b pre D cI cL cQ h H := hR
  have hst := zx_split (b := b) (pre := pre) has hq
  have hlen : as'.length = n - 1 := by
    have := congrArg List.length has
    simp at this
    omega
  rcases hcases with ⟨hr2, hM, g', hback, kk⟩ | ⟨hini, -, -, -⟩
  · have hcall := va_runI (p := p) (l := l) (e := e) (R := R) (s := s) (m := m) (args := args) (below := below) (meth := meth) (c := c) (H := H) (locs := locs) (cells := cells) (slots := slots) (mc := mc) (ms := ms) (nL := lsM.size) (Ts := zx_TB) (own := mm.1.cls) (index := ix) (b := b + q.toNat) (As := as'.map (zc_v b pre)) (rest := (st.drop n).map (zc_v b pre)) (g := F0 m pc lsM (st.map (zc_v b pre)))
      ⟨hx, hb, hl.1.symm, hown, hts⟩ hM (cwI (n - 1) hts (zx_good (ws := []) hcw (fun w hw => by cases hw)) (by rw [zx_ws, zk_code_n hh]) rfl rfl (hts _ (zk_w_mem k2)) (hts _ (zk_w_mem k1)) (hts _ (zk_w_mem k3)) k6 (zk_name_of k4) ⟨hfr, by show 8 + (ml + 11) + dl ≤ _; omega⟩)
      ⟨zx_P.blind _, zx_P.of hK (hE.kept hbs hS) (hG.kept hS) hR' (by rw [has, List.map_cons]; congr 2; exact (zc_ref_nn hq).symm)⟩ rfl (by rw [List.length_map]; exact hlen) rfl hst (lv_room (by rw [zc_cats]; exact h2)) hd ⟨by omega, by omega⟩
    exact zx_behind (Q := Q) (c0 := c0) (s0 := s0) hcall hS hl hn (by omega) (by omega) hr2 hback kk
  · unfold zm_ini at hini
    rw [hm] at hini
    exact absurd k6 (of_decide_eq_false hini)
end
