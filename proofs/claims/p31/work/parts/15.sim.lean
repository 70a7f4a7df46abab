/-! WHAT THE WALK RECKONS, THE MACHINE DOES. -/
theorem zm_lt {y : Nat} {mm : zm_M} (h : zm_at y = some mm) : y ≤ zk_law := by
  by_cases h1 : y < 112
  · have : ∀ y, y < 112 → (zm_at y).isSome = true → y ≤ zk_law := by decide +kernel
    exact this y h1 (by rw [h]; rfl)
  · have e : zm_all[y / 16]? = none := List.getElem?_eq_none (by have : zm_all.length = 7 := rfl; omega)
    unfold zm_at at h
    rw [e] at h
    cases h
theorem zm_law {y : Nat} {mm : zm_M} (h : zm_at y = some mm) (hy : y ≠ zk_law) : mm.1 ≠ x := by
  have h1 : ∀ y, y < zk_law → (match zm_at y with | none => true | some mm => decide (mm.1 ≠ x)) = true := by decide +kernel
  have h2 := zm_lt h
  have h3 := h1 y (by omega)
  rw [h] at h3
  exact of_decide_eq_true h3
theorem zt_find_inv {es : List ze_E} {pc : Nat} {e : Instr × Nat × Nat × Nat × Nat × Int} (h : zt_find es pc = some e) : (pc, e) ∈ es := by
  induction es with
  | nil => cases h
  | cons q t ih =>
    unfold zt_find at h
    by_cases h1 : Nat.beq q.1 pc = true
    · rw [h1, cond_true] at h
      have h1 := Nat.eq_of_beq_eq_true h1
      cases h
      rw [← h1]
      exact List.mem_cons_self
    · rw [Bool.not_eq_true] at h1
      rw [h1, cond_false] at h
      exact List.mem_cons_of_mem _ (ih h)
theorem zk_ats {y pc : Nat} {mm : zm_M} {ins : Instr} {len a b w : Nat} {v : Int} (hm : zm_at y = some mm) (h : zt_at y pc = some (ins, len, a, b, w, v)) : decode mm.2.1 pc = .ok (ins, len) ∧ zk_ins mm.1 pc ins len a b w v = true := by
  have hy := zm_lt hm
  have hk := (zk_every y (by have : zk_law = 97 := rfl; omega)).2 (pc / 16)
  unfold zk_chunk at hk
  rw [hm] at hk
  unfold zt_at at h
  cases he : (zt_tab y)[pc / 16]? with
  | none => rw [he] at h; cases h
  | some es =>
    rw [he] at h hk
    have h1 := List.all_eq_true.mp hk _ (zt_find_inv h)
    unfold zk_ent at h1
    obtain ⟨h2, h3⟩ := Bool.and_eq_true_iff.mp h1
    refine ⟨?_, h3⟩
    cases hd : decode mm.2.1 pc with
    | error q => rw [hd] at h2; cases h2
    | ok q =>
      obtain ⟨i, n⟩ := q
      rw [hd] at h2
      obtain ⟨h4, h5⟩ := Bool.and_eq_true_iff.mp h2
      rw [of_decide_eq_true h4, zk_len h5]
theorem zk_head_of {y : Nat} {mm : zm_M} (hm : zm_at y = some mm) : zk_rc mm.2.2.2.2.1 mm.2.2.2.1 = true ∧ mm.2.2.1 ≤ 20 ∧ plainName mm.1.cls = true ∧ (y ≠ zk_law → Cond.code mm.1 mm.2.1 mm.2.2.1 mm.2.2.2.1 ∈ zx_TB) := by
  have hy := zm_lt hm
  have hk := (zk_every y (by have : zk_law = 97 := rfl; omega)).1
  unfold zk_head at hk
  rw [hm] at hk
  simp only [Bool.and_eq_true] at hk
  obtain ⟨⟨⟨h1, h2⟩, h3⟩, h4⟩ := hk
  refine ⟨h1, Nat.le_of_ble_eq_true h2, h3, fun hne => ?_⟩
  rcases Bool.or_eq_true_iff.mp h4 with h5 | h5
  · exact absurd (zk_len h5) hne
  · exact zk_w_mem h5
theorem zx_args {b : Nat} {pre : Nat → Nat} : ∀ (as : List zv_V) (k j : Nat) (v : zv_V), (as.all (fun v => !zs_wide v)) = true → as[j]? = some v → (k + j, zc_v b pre v) ∈ lv_args k (as.map (zc_v b pre))
  | [], _, _, _, _, h => by simp at h
  | v :: as, k, 0, v', ha, h => by
    cases h
    exact List.mem_cons_self
  | v :: as, k, j + 1, v', ha, h => by
    simp only [List.all_cons, Bool.and_eq_true, Bool.not_eq_true'] at ha
    have hc : (zc_v b pre v).category = 1 := zc_v_cat ha.1
    rw [List.map_cons, lv_args, if_neg (by omega)]
    have := zx_args (b := b) (pre := pre) as (k + 1) j v' (by simpa using ha.2) (by simpa using h)
    rw [show k + (j + 1) = k + 1 + j by omega]
    exact List.mem_cons_of_mem _ this
theorem zx_sls {b : Nat} {pre : Nat → Nat} (as : List zv_V) (ha : (as.all (fun v => !zs_wide v)) = true) : (lg_sl (as.map (zc_v b pre))).length = as.length := by
  induction as with
  | nil => rfl
  | cons v as ih =>
    simp only [List.all_cons, Bool.and_eq_true, Bool.not_eq_true'] at ha
    have hc : (zc_v b pre v).category = 1 := zc_v_cat ha.1
    have := ih (by simpa using ha.2)
    unfold lg_sl at this ⊢
    rw [List.map_cons, List.flatMap_cons, if_neg (by omega), List.length_append, this]
    simp
    omega
theorem zx_entry_lv {b : Nat} {pre : Nat → Nat} {as : List zv_V} {n : Nat} {lsM : Array Slot} (ha : (as.all (fun v => !zs_wide v)) = true) (hl : lv_has lsM n (lv_args 0 (as.map (zc_v b pre)))) (k : Nat) : lv_has lsM n (zx_lv b pre (as ++ List.replicate k (9, 0))) := by
  refine ⟨hl.1, hl.2.1, fun q hq => ?_⟩
  obtain ⟨v, hv, h9, hq2⟩ := zx_lv_mem hq
  by_cases hj : q.1 < as.length
  · rw [List.getElem?_append_left hj] at hv
    have := zx_args (b := b) (pre := pre) as 0 q.1 v ha hv
    rw [Nat.zero_add, ← hq2] at this
    exact hl.2.2 _ this
  · rw [List.getElem?_append_right (by omega), List.getElem?_replicate] at hv
    by_cases h2 : q.1 - as.length < k
    · rw [if_pos h2] at hv; cases hv; exact absurd rfl h9
    · rw [if_neg h2] at hv; cases hv
section
variable {l : Launch} {b : Nat} {pre : Nat → Nat} {D : va_G} {cI cQ : ClassId} {E : List (List Int)}
/-- the walk from a frame is the machine's -/
def zx_Runs (l : Launch) (b : Nat) (pre : Nat → Nat) (D : va_G) (cI cQ : ClassId) (E : List (List Int)) (f : Nat) : Prop := ∀ (d : Nat) (fr : zv_F) (Rr : zv_R) (mm : zm_M) (p : Program) (e : Env) (R : Room) (s : State) (m : MethodId) (args : Array Value) (below : List Frame) (meth : Method) (c : Code) (c0 s0 mc ms : Nat),
  zs_exec E f d fr = some Rr → zx_C p s m args meth c b pre D cI cQ E fr.1 mm → d + 1 ≤ R.frames → (d + 1) * 40 ≤ R.locals → mc + c0 = Rr.2.2.length → ms + s0 = zx_sl Rr.2.2 → mc ≤ R.cells → ms ≤ R.slots →
  zx_W p l e R s m args below meth c b pre D cI cQ (MQ below (zx_Q b pre D cI cQ Rr) args s mc ms (fun q => b ≤ q)) c0 s0 fr
theorem zx_met {f : Nat} (hf : zx_Runs l b pre D cI cQ E f) {d t : Nat} {as : List zv_V} {h : zv_H} {fr : zv_F} {Rr : zv_R} {mt : zm_M} {mc ms : Nat} (hm : zm_at t = some mt) (he : zs_entry t as h = some fr) (hx : zs_exec E f d fr = some Rr) (h1 : mc + h.length = Rr.2.2.length) (h2 : ms + zx_sl h = zx_sl Rr.2.2) :
    Met l mt.1 (zx_ws mt) { frames := d + 1, cells := mc, slots := ms, locals := (d + 1) * 40 } (zx_P b pre D cI cQ E as h) (zx_Q b pre D cI cQ Rr) mc ms (fun q => b ≤ q) := by
  obtain ⟨mt', hm', he1⟩ := zo_o_inv he
  cases hm.symm.trans hm'
  obtain ⟨yn, bytes, ml, ret, rest⟩ := mt
  obtain ⟨he2, he3⟩ := zo_g_inv he1
  simp only [Bool.and_eq_true, Bool.not_eq_true'] at he2
  obtain ⟨⟨h3, h4⟩, h5⟩ := he2
  have h3 := Nat.le_of_ble_eq_true h3
  have h5 : t ≠ zk_law := fun q => by rw [q] at h5; exact absurd h5 (by decide)
  have h4 : as.all (fun v => !zs_wide v) = true := h4
  obtain ⟨k1, k2, k3, k4⟩ := zk_head_of hm
  refine Met.ofW (cc := bytes) (maxL := ml) (ret := ret) k3 rfl ?_
  intro p e s m args below meth c s₁ B hml hv
  obtain ⟨rfl, hR, hK, hE, hbs⟩ := hv
  have hts0 := atoms_spec (ws := zx_ws (yn, bytes, ml, ret, rest)) B.pre
  have C : zx_C p s m ((as.map (zc_v b pre)).toArray) meth c b pre D cI cQ E t (yn, bytes, ml, ret, rest) := ⟨B.exec, hm, B.bytes, B.returns, hml, findClass_of_methodNamed B.named, fun w hw => hts0 w (List.mem_cons_of_mem _ hw), B.notSynchronized, (name_of_methodNamed B.named B.method).1, hK, hE, hbs, fun q => absurd q (zm_law hm h5)⟩
  have hfr := (Option.some.inj he3).symm
  have hW := hf d fr Rr (yn, bytes, ml, ret, rest) p e (headSpec (zx_ws (yn, bytes, ml, ret, rest)) { frames := d + 1, cells := mc, slots := ms, locals := (d + 1) * 40 }).room s m ((as.map (zc_v b pre)).toArray) below meth c h.length (zx_sl h) mc ms hx (by rw [hfr]; exact C) (Nat.le_refl _) (Nat.le_refl _) h1 h2 (Nat.le_refl _) (Nat.le_refl _)
  subst hfr
  rw [lg_entry_eq]
  have hl := lv_entry (as.map (zc_v b pre)) (n := ml) (by rw [zx_sls as h4]; exact h3)
  rw [← hml] at hl ⊢
  exact hW s.heap [] _ 0 0 hR ⟨Nat.le_refl _, fun _ _ _ => rfl, fun q hq => absurd hq List.not_mem_nil⟩ (zx_entry_lv h4 hl _) (by show (as ++ List.replicate _ _).length = _; rw [List.length_append, List.length_replicate, hml]; omega) (Nat.zero_add _) (Nat.zero_add _)
theorem zx_runs : ∀ f : Nat, zx_Runs l b pre D cI cQ E f := by
  intro f
  induction f with
  | zero => intro d fr Rr mm p e R s m args below meth c c0 s0 mc ms h; cases h
  | succ f ih =>
    intro d fr Rr mm p e R s m args below meth c c0 s0 mc ms h C hF hL h1 h2 h3 h4
    have hmono := zs_mono _ _ _ _ h
    rw [zs_exec] at h
    cases hs : zs_step E fr with
    | none => rw [hs] at h; cases h
    | some S =>
      rw [hs] at h
      have hok := zs_step_ok hs
      obtain ⟨ins, len, a0, b0, w0, v0, ht, hz⟩ := zs_step_inv hs
      obtain ⟨y, pc, ls, st, hp⟩ := fr
      obtain ⟨hd, hk⟩ := zk_ats C.2.1 ht
      obtain ⟨k1, -⟩ := zk_head_of C.2.1
      refine zx_step (E := E) C (by omega) (by omega) (fun cells slots g1 g2 => ?_) hd hk hz (fun hi => ?_) (fun fr' hS => ?_) (fun fr' hS => ?_) (fun t as g hS => ?_)
      · have e1 : hp.length ≤ Rr.2.2.length := hmono.1
        have e2 : zx_sl hp ≤ zx_sl Rr.2.2 := hmono.2
        omega
      · have hlen : len = 1 := by rcases hi with rfl | rfl | rfl <;> exact zk_len hk
        subst hlen
        refine zx_rets C k1 h1 h2 hi hd hz (fun r hr => ?_)
        subst hr
        exact Option.some.inj h
      · subst hS
        have := zs_mono _ _ _ _ h
        omega
      · subst hS
        exact ih d fr' Rr mm p e R s m args below meth c c0 s0 mc ms h (by rw [show fr'.1 = y from hok.1]; exact C) hF hL h1 h2 h3 h4
      · subst hS
        have hg : g.2.2.2.2 = hp := hok.2
        have hgy : g.1 = y := hok.1
        cases d with
        | zero => cases h
        | succ d =>
          simp only at h
          cases he : zs_entry t as g.2.2.2.2 with
          | none => rw [he] at h; cases h
          | some fr' =>
            rw [he] at h
            simp only at h
            cases hc : zs_exec E f d fr' with
            | none => rw [hc] at h; cases h
            | some r' =>
              rw [hc] at h
              simp only at h
              cases hb : zs_back r' g with
              | none => rw [hb] at h; cases h
              | some g' =>
                rw [hb] at h
                simp only at h
                obtain ⟨mt, hm, he1⟩ := zo_o_inv he
                have hne : t ≠ zk_law := by
                  obtain ⟨yn, bytes, ml, ret, rest⟩ := mt
                  obtain ⟨he2, -⟩ := zo_g_inv he1
                  simp only [Bool.and_eq_true, Bool.not_eq_true'] at he2
                  intro q
                  rw [q] at he2
                  exact absurd he2.2 (by decide)
                obtain ⟨-, j2, -, j4⟩ := zk_head_of hm
                have m1 := zs_mono _ _ _ _ hc
                have m2 := zs_mono _ _ _ _ h
                rw [zs_entry_h he] at m1
                rw [zs_back_h hb] at m2
                have hg'y : g'.1 = y := by
                  obtain ⟨k, v, h'⟩ := r'
                  obtain ⟨y', pc', ls', st', hh⟩ := g
                  match k, hb with
                  | 0, hb => cases hb; exact hgy
                  | 1, hb => cases hb; exact hgy
                  | k + 2, hb => cases hb
                refine ⟨mt, d + 1, r'.2.2.length - g.2.2.2.2.length, zx_sl r'.2.2 - zx_sl g.2.2.2.2, r', g', hm, zx_met ih hm he hc (by omega) (by omega), hF, hL, j2, j4 hne, by omega, by omega, by omega, by omega, hb, ?_⟩
                exact ih (d + 1) g' Rr mm p e R s m args below meth c c0 s0 mc ms h (by rw [hg'y]; exact C) hF hL h1 h2 h3 h4
end
