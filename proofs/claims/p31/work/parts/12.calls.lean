/-! Calls and returns. -/
section
variable {p : Program} {l : Launch} {e : Env} {R : Room} {s : State} {m : MethodId} {args : Array Value} {below : List Frame} {meth : Method} {c : Code} {b : Nat} {pre : Nat → Nat} {D : va_G} {cI cQ : ClassId} {Q : State → Prop} {c0 s0 : Nat} {E : List (List Int)} {y : Nat} {mm : zm_M}
variable {pc len a0 b0 w0 : Nat} {v0 : Int} {ls st : List zv_V} {h : zv_H} {S : zv_S}
theorem zx_K.same {u U : State} (h : u.vm = U.vm) (hK : zx_K D cI cQ u) : zx_K D cI cQ U := by
  have ha : u.vm.Alike U.vm := by rw [h]; exact Vm.Alike.refl _
  exact ⟨va_K.moved ha hK.1, va_AO.moved ha hK.2.1, fun q hq => va_Nw.same rfl h (hK.2.2 q hq)⟩
theorem zx_K.warm {U : State} (hW : s.WarmedH U.vm) (hK : zx_K D cI cQ s) : zx_K D cI cQ U := ⟨va_K.moved hW.alike hK.1, va_AO.moved hW.alike hK.2.1, fun q hq => va_Nw.warmF hW (hK.2.2 q hq)⟩
theorem zx_E.alike {u U : State} {H : Heap} (h : u.vm.Alike U.vm) (hE : zx_E b pre E u H) : zx_E b pre E U H := by
  intro i l hi
  obtain ⟨h1, cell, h2, h3, h4⟩ := hE i l hi
  exact ⟨h1, cell, h2, State.isArrayOf_alike h h3, h4⟩
/-- a method's start -/
def zx_P (b : Nat) (pre : Nat → Nat) (D : va_G) (cI cQ : ClassId) (E : List (List Int)) (as : List zv_V) (h : zv_H) : Array Value → State → Prop := va_Pc (as.map (zc_v b pre)) (fun U => zx_Rel b pre D cI cQ h U.heap ∧ zx_K D cI cQ U ∧ zx_E b pre E U U.heap ∧ b ≤ U.heap.size)
theorem zx_P.blind (as : List zv_V) : FrameBlind (zx_P b pre D cI cQ E as h) := fun a U g mk q => ⟨q.1, q.2.1, zx_K.same (u := U) (U := U.calling g mk a) rfl q.2.2.1, zx_E.alike (u := U) (U := U.calling g mk a) (Vm.Alike.refl U.vm) q.2.2.2.1, q.2.2.2.2⟩
theorem zx_P.of {as : List zv_V} {H : Heap} (hK : zx_K D cI cQ s) (hE : zx_E b pre E s H) (hR : zx_Rel b pre D cI cQ h H) {a : Array Value} (ha : a = (as.map (zc_v b pre)).toArray) : ∀ U : State, U.heap = H → s.WarmedH U.vm → zx_P b pre D cI cQ E as h a U := by
  intro U hU hW
  refine ⟨ha, by rw [hU]; exact hR, zx_K.warm hW hK, by rw [hU]; exact zx_E.alike hW.alike hE, by rw [hU, hR.2]; omega⟩
def zx_ws (mt : zm_M) : List Cond := Cond.code mt.1 mt.2.1 mt.2.2.1 mt.2.2.2.1 :: zx_TB
/-- behind a call: what came back -/
theorem zx_behind {H : Heap} {locs : List Loc} {cells slots mc ms : Nat} {lsM : Array Slot} {st0 : List Value} {r' : zv_R} {rest : List zv_V} {g' : zv_F} {a : Array Value}
    (hr : va_Run p l e R s m args below meth c H locs cells slots mc ms (F0 m pc lsM st0) (rest.map (zc_v b pre)) (zx_Q b pre D cI cQ r' a) (fun q => b ≤ q))
    (hS : va_S (fun q => b ≤ q) s.heap H locs) (hl : lv_has lsM c.maxLocals (zx_lv b pre ls)) (hn : ls.length = c.maxLocals) (g1 : cells + mc + c0 = r'.2.2.length) (g2 : slots + ms + s0 = zx_sl r'.2.2)
    (hb : zs_back r' (y, pc + 3, ls, rest, h) = some g') (kk : zx_W p l e R s m args below meth c b pre D cI cQ Q c0 s0 g') : W p l e R s m args below meth c H locs cells slots Q (F0 m pc lsM st0) := by
  intro T hT X
  obtain ⟨v, st₀, t, T', L, h0, X', hL, e1, e2, ⟨hv, hR', hF⟩, hgo⟩ := hr T hT X
  have hv : v = zx_o b pre r' := Outcome.returned.inj hv
  subst hv
  have hS' : va_S (fun q => b ≤ q) s.heap T'.heap (locs ++ L) := by
    obtain ⟨f1, f2⟩ := hF
    rw [h0] at f1 f2
    rw [e1]
    exact ⟨Nat.le_trans hS.1 f1, fun q h1 h2 => (f2 q (Nat.lt_of_lt_of_le h1 hS.1) h2).trans (hS.2.1 q h1 h2), fun q hq => by
      rcases List.mem_append.mp hq with h | h
      · exact hS.2.2 q h
      · exact hL q h⟩
  have key : W p l e R s m args below meth c T'.heap (locs ++ L) (cells + mc) (slots + ms) Q (F0 m (pc + 3) lsM ((zx_o b pre r').toList ++ rest.map (zc_v b pre))) := by
    obtain ⟨k, v, h'⟩ := r'
    match k, hb with
    | 0, hb =>
      cases hb
      exact kk T'.heap (locs ++ L) lsM (cells + mc) (slots + ms) (by rw [e1]; exact hR') hS' hl hn g1 g2
    | 1, hb =>
      cases hb
      exact kk T'.heap (locs ++ L) lsM (cells + mc) (slots + ms) (by rw [e1]; exact hR') hS' hl hn g1 g2
    | k + 2, hb => cases hb
  obtain ⟨t2, a1, b1⟩ := key T' rfl X'
  exact ⟨t2, hgo t2 a1, b1⟩
theorem zs_call_inv {t : Nat} (hz : zs_call y pc t ls st h = some S) : ∃ mt, zm_at t = some mt ∧ mt.2.2.2.2.2.1 ≤ st.length ∧ ((st.drop mt.2.2.2.2.2.1).map zs_cat).sum ≤ 8 ∧ S = .inr (.inl (t, (st.take mt.2.2.2.2.2.1).reverse, (y, pc + 3, ls, st.drop mt.2.2.2.2.2.1, h))) := by
  obtain ⟨mt, hm, hz1⟩ := zo_o_inv hz
  obtain ⟨h1, hz2⟩ := zo_g_inv hz1
  obtain ⟨h1, h2⟩ := Bool.and_eq_true_iff.mp h1
  exact ⟨mt, hm, Nat.le_of_ble_eq_true h1, Nat.le_of_ble_eq_true h2, (Option.some.inj hz2).symm⟩
/-- what a caller must have of a callee -/
def zx_callee (p : Program) (l : Launch) (e : Env) (R : Room) (s : State) (m : MethodId) (args : Array Value) (below : List Frame) (meth : Method) (c : Code) (b : Nat) (pre : Nat → Nat) (D : va_G) (cI cQ : ClassId) (Q : State → Prop) (c0 s0 : Nat) (E : List (List Int)) (t : Nat) (as : List zv_V) (g : zv_F) (h : zv_H) : Prop :=
  ∃ (mt : zm_M) (d mc ms : Nat) (r' : zv_R) (g' : zv_F), zm_at t = some mt ∧ Met l mt.1 (zx_ws mt) { frames := d, cells := mc, slots := ms, locals := d * 40 } (zx_P b pre D cI cQ E as h) (zx_Q b pre D cI cQ r') mc ms (fun q => b ≤ q) ∧ d + 1 ≤ R.frames ∧ (d + 1) * 40 ≤ R.locals ∧ mt.2.2.1 ≤ 20 ∧ Cond.code mt.1 mt.2.1 mt.2.2.1 mt.2.2.2.1 ∈ zx_TB ∧
    mc + h.length = r'.2.2.length ∧ ms + zx_sl h = zx_sl r'.2.2 ∧ r'.2.2.length ≤ R.cells + c0 ∧ zx_sl r'.2.2 ≤ R.slots + s0 ∧ zs_back r' g = some g' ∧ zx_W p l e R s m args below meth c b pre D cI cQ Q c0 s0 g'
theorem zk_name_of {y : MethodName} {n : Nat} (h : zk_name y n = true) : y.cls ≠ "java/lang/invoke/MethodHandle" ∧ y.cls ≠ "java/lang/invoke/VarHandle" ∧ (parseMethodDescriptor y.desc).map (fun d => d.parameters.length) = some n := by
  unfold zk_name at h
  simp only [Bool.and_eq_true, decide_eq_true_eq] at h
  exact ⟨h.1.1, h.1.2, h.2⟩
theorem zx_invokestatic (C : zx_C p s m args meth c b pre D cI cQ E y mm) {ix : Nat} (hd : decode mm.2.1 pc = .ok (.invokestatic ix, 3)) (hk : zk_call mm.1.cls ix a0 1 w0 = true) (hz : zs_call y pc a0 ls st h = some S)
    (kc : ∀ t as g, S = .inr (.inl (t, as, g)) → zx_callee p l e R s m args below meth c b pre D cI cQ Q c0 s0 E t as g g.2.2.2.2) : zx_W p l e R s m args below meth c b pre D cI cQ Q c0 s0 (y, pc, ls, st, h) := by
  obtain ⟨hx, -, hb, -, hml, hown, hts, -, -, hK, hE, hbs, -⟩ := C
  obtain ⟨mt, hm, h1, h2, hS'⟩ := zs_call_inv hz
  obtain ⟨mt', d, mc, ms, r', g', hm', hM, hfr, hlo, hmax, hcw, e1, e2, e3, e4, hback, kk⟩ := kc _ _ _ hS'
  cases hm.symm.trans hm'
  unfold zk_call at hk
  rw [hm] at hk
  obtain ⟨yn, bytes, ml, ret, rc, n, kd, wc, wi, ws, wn⟩ := mt
  simp only [Bool.and_eq_true] at hk
  obtain ⟨⟨k1, k2⟩, k3, k4⟩ := hk
  dsimp only at h1 h2 hM hmax hcw e1 e2 hback hS' k4
  intro H locs lsM cells slots hR hS hl hn g1 g2
  have g1' : cells + c0 = h.length := g1
  have g2' : slots + s0 = zx_sl h := g2
  have hR' : zx_Rel b pre D cI cQ h H := hR
  have hst : st.map (zc_v b pre) = (((st.take n).reverse).map (zc_v b pre)).reverse ++ (st.drop n).map (zc_v b pre) := by
    rw [← List.map_reverse, List.reverse_reverse, ← List.map_append, List.take_append_drop]
  have hcall := va_runS (p := p) (l := l) (e := e) (R := R) (s := s) (m := m) (args := args) (below := below) (meth := meth) (c := c) (H := H) (locs := locs) (cells := cells) (slots := slots) (mc := mc) (ms := ms) (nL := lsM.size) (Ts := zx_TB) (own := mm.1.cls) (index := ix) (As := ((st.take n).reverse).map (zc_v b pre)) (rest := (st.drop n).map (zc_v b pre)) (g := F0 m pc lsM (st.map (zc_v b pre)))
    ⟨hx, hb, hl.1.symm, hown, hts⟩ hM (va_cwS n hts (zx_TB_good (fun w hw => by
      rcases List.mem_append.mp hw with hw | hw
      · rcases List.mem_cons.mp hw with rfl | hw
        · exact zk_w_mem k1
        · rcases List.mem_cons.mp hw with rfl | hw
          · exact zk_w_mem k3
          · rcases List.mem_cons.mp hw with rfl | hw
            · exact zk_w_mem k2
            · cases hw
      · rcases List.mem_cons.mp hw with rfl | hw
        · exact hcw
        · exact hw)) rfl rfl rfl (zk_name_of k4) ⟨hfr, by show 8 + (ml + 11) + d * 40 ≤ _; omega⟩)
    ⟨zx_P.blind _, zx_P.of hK (hE.kept hbs hS) hR' rfl⟩ rfl (by simp; omega) rfl hst (lv_room (by rw [zc_cats]; exact h2)) hd ⟨by omega, by omega⟩
  exact zx_behind (Q := Q) (c0 := c0) (s0 := s0) hcall hS hl hn (by omega) (by omega) hback kk
theorem zs_recv_inv {k : Nat} {as : List zv_V} (hr : zs_recv h k as = true) : ∃ q as' li, as = (2, q) :: as' ∧ 0 ≤ q ∧ h[q.toNat]? = some (k, li) := by
  unfold zs_recv at hr
  cases as with
  | nil => cases hr
  | cons v as' =>
    obtain ⟨t, q⟩ := v
    simp only [Bool.and_eq_true] at hr
    obtain ⟨h1, h2⟩ := hr
    have h1 : t = 2 := Nat.eq_of_beq_eq_true h1
    subst h1
    cases hc : zh_at h q with
    | none => rw [hc] at h2; cases h2
    | some cc =>
      rw [hc] at h2
      obtain ⟨k', li⟩ := cc
      have h2 : k' = k := Nat.eq_of_beq_eq_true h2
      subst h2
      obtain ⟨h3, h4⟩ := zh_at_inv hc
      exact ⟨q, as', li, rfl, h3, h4⟩
theorem zx_receiver {H : Heap} {k : Nat} {r : vw_C} {a : Nat} {li : List Int} (hK : zx_K D cI cQ s) (hR : zx_Rel b pre D cI cQ h H) (hv : vwCl[k]? = some r) (hc : h[a]? = some (k, li)) : ∃ cell : Cell, H[b + a]? = some cell ∧ cell.vm.isStatics = false ∧ s.vm.findClass r.1 = some cell.cls := by
  have he := zc_ws_get (b := b) (pre := pre) (cI := cI) (cQ := cQ) hc
  rw [zc_cellO (zx_kind hv).1 (zx_kind hv).2] at he
  exact va_recv hK.1 hR.1 hv he
theorem zx_split {n : Nat} {q : Int} {as' : List zv_V} (h1 : (st.take n).reverse = (2, q) :: as') (hq : 0 ≤ q) : st.map (zc_v b pre) = (as'.map (zc_v b pre)).reverse ++ .ref (b + q.toNat) :: (st.drop n).map (zc_v b pre) := by
  have h2 : st = as'.reverse ++ (2, q) :: st.drop n := by
    have h3 : st.take n = as'.reverse ++ [(2, q)] := by rw [← List.reverse_reverse (st.take n), h1, List.reverse_cons]
    rw [show as'.reverse ++ (2, q) :: st.drop n = (as'.reverse ++ [(2, q)]) ++ st.drop n by simp, ← h3, List.take_append_drop]
  have h4 : zc_v b pre (2, q) = .ref (b + q.toNat) := zc_ref_nn hq
  rw [← h4, ← List.map_reverse, ← List.map_cons, ← List.map_append, ← h2]
theorem zx_invokevirtual (C : zx_C p s m args meth c b pre D cI cQ E y mm) {ix : Nat} (hd : decode mm.2.1 pc = .ok (.invokevirtual ix, 3)) (hk : zk_call mm.1.cls ix a0 0 w0 = true) (hz : zs_call y pc a0 ls st h = some S) (hrc : ∀ mt, zm_at a0 = some mt → zs_recv h mt.2.2.2.2.2.2.1 ((st.take mt.2.2.2.2.2.1).reverse) = true)
    (kc : ∀ t as g, S = .inr (.inl (t, as, g)) → zx_callee p l e R s m args below meth c b pre D cI cQ Q c0 s0 E t as g g.2.2.2.2) : zx_W p l e R s m args below meth c b pre D cI cQ Q c0 s0 (y, pc, ls, st, h) := by
  obtain ⟨hx, -, hb, -, hml, hown, hts, -, -, hK, hE, hbs, -⟩ := C
  obtain ⟨mt, hm, h1, h2, hS'⟩ := zs_call_inv hz
  obtain ⟨mt', d, mc, ms, r', g', hm', hM, hfr, hlo, hmax, hcw, e1, e2, e3, e4, hback, kk⟩ := kc _ _ _ hS'
  cases hm.symm.trans hm'
  have hrv := hrc _ hm
  unfold zk_call at hk
  rw [hm] at hk
  obtain ⟨yn, bytes, ml, ret, rc, n, kd, wc, wi, ws, wn⟩ := mt
  simp only [Bool.and_eq_true] at hk
  obtain ⟨⟨k1, k2⟩, ⟨⟨⟨k3, k4⟩, k5⟩, k6⟩, k7⟩ := hk
  dsimp only at h1 h2 hM hmax hcw e1 e2 hback hS' k5 k6 hrv
  obtain ⟨q, as', li, has, hq, hc⟩ := zs_recv_inv hrv
  cases hv : vwCl[kd]? with
  | none => rw [hv] at k7; cases k7
  | some rr =>
  rw [hv] at k7
  have k7 : rr.1 = yn.cls := of_decide_eq_true k7
  intro H locs lsM cells slots hR hS hl hn g1 g2
  have g1' : cells + c0 = h.length := g1
  have g2' : slots + s0 = zx_sl h := g2
  have hR' : zx_Rel b pre D cI cQ h H := hR
  have hst := zx_split (b := b) (pre := pre) has hq
  have hlen : as'.length = n - 1 := by
    have := congrArg List.length has
    simp at this
    omega
  have hcall := va_runV (p := p) (l := l) (e := e) (R := R) (s := s) (m := m) (args := args) (below := below) (meth := meth) (c := c) (H := H) (locs := locs) (cells := cells) (slots := slots) (mc := mc) (ms := ms) (nL := lsM.size) (Ts := zx_TB) (own := mm.1.cls) (C := yn.cls) (index := ix) (b := b + q.toNat) (As := as'.map (zc_v b pre)) (rest := (st.drop n).map (zc_v b pre)) (g := F0 m pc lsM (st.map (zc_v b pre)))
    ⟨hx, hb, hl.1.symm, hown, hts⟩ hM (cwV (n - 1) hts (zx_TB_good (fun w hw => by
      rcases List.mem_append.mp hw with hw | hw
      · rcases List.mem_cons.mp hw with rfl | hw
        · exact zk_w_mem k1
        · rcases List.mem_cons.mp hw with rfl | hw
          · exact zk_w_mem k3
          · rcases List.mem_cons.mp hw with rfl | hw
            · exact zk_w_mem k4
            · rcases List.mem_cons.mp hw with rfl | hw
              · exact zk_w_mem k2
              · cases hw
      · rcases List.mem_cons.mp hw with rfl | hw
        · exact hcw
        · exact hw)) rfl rfl rfl ⟨rfl, zk_name_of k5⟩ ⟨hfr, by show 8 + (ml + 11) + d * 40 ≤ _; omega⟩)
    ⟨zx_P.blind _, by have := zx_receiver hK hR' hv hc; rw [k7] at this; exact this, zx_P.of hK (hE.kept hbs hS) hR' (by rw [has, List.map_cons]; congr 2; exact (zc_ref_nn hq).symm)⟩ rfl (by simp; omega) rfl hst (lv_room (by rw [zc_cats]; exact h2)) hd ⟨by omega, by omega⟩
  exact zx_behind (Q := Q) (c0 := c0) (s0 := s0) hcall hS hl hn (by omega) (by omega) hback kk
theorem zx_invokespecial (C : zx_C p s m args meth c b pre D cI cQ E y mm) {ix : Nat} (hd : decode mm.2.1 pc = .ok (.invokespecial ix, 3)) (hk : zk_call mm.1.cls ix a0 2 w0 = true) (hz : zs_call y pc a0 ls st h = some S) (hrc : ∀ mt, zm_at a0 = some mt → zs_recv h mt.2.2.2.2.2.2.1 ((st.take mt.2.2.2.2.2.1).reverse) = true)
    (kc : ∀ t as g, S = .inr (.inl (t, as, g)) → zx_callee p l e R s m args below meth c b pre D cI cQ Q c0 s0 E t as g g.2.2.2.2) : zx_W p l e R s m args below meth c b pre D cI cQ Q c0 s0 (y, pc, ls, st, h) := by
  obtain ⟨hx, -, hb, -, hml, hown, hts, -, -, hK, hE, hbs, -⟩ := C
  obtain ⟨mt, hm, h1, h2, hS'⟩ := zs_call_inv hz
  obtain ⟨mt', d, mc, ms, r', g', hm', hM, hfr, hlo, hmax, hcw, e1, e2, e3, e4, hback, kk⟩ := kc _ _ _ hS'
  cases hm.symm.trans hm'
  have hrv := hrc _ hm
  unfold zk_call at hk
  rw [hm] at hk
  obtain ⟨yn, bytes, ml, ret, rc, n, kd, wc, wi, ws, wn⟩ := mt
  simp only [Bool.and_eq_true, decide_eq_true_eq] at hk
  obtain ⟨⟨k1, k2⟩, ⟨⟨⟨⟨⟨k3, k4⟩, k5⟩, k6⟩, k7⟩, k8⟩, k9⟩ := hk
  dsimp only at h1 h2 hM hmax hcw e1 e2 hback hS' k5 k6 hrv
  subst k7
  obtain ⟨q, as', li, has, hq, hc⟩ := zs_recv_inv hrv
  intro H locs lsM cells slots hR hS hl hn g1 g2
  have g1' : cells + c0 = h.length := g1
  have g2' : slots + s0 = zx_sl h := g2
  have hR' : zx_Rel b pre D cI cQ h H := hR
  have hst := zx_split (b := b) (pre := pre) has hq
  have hlen : as'.length = n - 1 := by
    have := congrArg List.length has
    simp at this
    omega
  have hcall := va_runI (p := p) (l := l) (e := e) (R := R) (s := s) (m := m) (args := args) (below := below) (meth := meth) (c := c) (H := H) (locs := locs) (cells := cells) (slots := slots) (mc := mc) (ms := ms) (nL := lsM.size) (Ts := zx_TB) (own := mm.1.cls) (index := ix) (b := b + q.toNat) (As := as'.map (zc_v b pre)) (rest := (st.drop n).map (zc_v b pre)) (g := F0 m pc lsM (st.map (zc_v b pre)))
    ⟨hx, hb, hl.1.symm, hown, hts⟩ hM (cwI (n - 1) hts (zx_TB_good (ws := zx_ws (yn, bytes, ml, none, rc, n, kd, wc, wi, ws, wn)) (fun w hw => by
      rcases List.mem_cons.mp hw with rfl | hw
      · exact hcw
      · exact hw)) rfl rfl rfl (hts _ (zk_w_mem k2)) (hts _ (zk_w_mem k1)) (hts _ (zk_w_mem k3)) k6 (zk_name_of k4) ⟨hfr, by show 8 + (ml + 11) + d * 40 ≤ _; omega⟩)
    ⟨zx_P.blind _, zx_P.of hK (hE.kept hbs hS) hR' (by rw [has, List.map_cons]; congr 2; exact (zc_ref_nn hq).symm)⟩ rfl (by simp; omega) rfl hst (lv_room (by rw [zc_cats]; exact h2)) hd ⟨by omega, by omega⟩
  exact zx_behind (Q := Q) (c0 := c0) (s0 := s0) hcall hS hl hn (by omega) (by omega) hback kk
end
