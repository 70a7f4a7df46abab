/-! The steps that read or write the heap. -/
section
variable {p : Program} {l : Launch} {e : Env} {R : Room} {s : State} {m : MethodId} {args : Array Value} {below : List Frame} {meth : Method} {c : Code} {b : Nat} {pre : Nat → Nat} {D : va_G} {cI cL cQ : ClassId} {Q : State → Prop} {c0 s0 : Nat} {E : List (List Int)} {y : Nat} {mm : zm_M}
variable {pc len a0 b0 w0 : Nat} {v0 : Int} {ls st : List zv_V} {h : zv_H} {S : zv_S}
theorem zx_E.kept {U : State} {H0 H : Heap} {locs : List Loc} (hE : zx_E b pre E U H0) (hb : b ≤ H0.size) (hS : va_S (fun q => b ≤ q) H0 H locs) : zx_E b pre E U H := by
  intro i l hi
  obtain ⟨h1, cell, h2, h3⟩ := hE i l hi
  exact ⟨h1, cell, by rw [hS.2.1 (pre i) (by omega) (by omega)]; exact h2, h3⟩
theorem zc_cell50 {l : List Int} : zc_cell b pre cI cL cQ (50, l) = .inl (cI, l.length, .inl (fun j => Int32.ofInt (l.getD j 0))) := rfl
theorem zc_cell51 {l : List Int} : zc_cell b pre cI cL cQ (51, l) = .inl (cL, l.length, .inr (.inl (fun j => Int64.ofInt (l.getD j 0)))) := rfl
theorem zc_cell52 {l : List Int} : zc_cell b pre cI cL cQ (52, l) = .inl (cQ, l.length, .inr (.inr (.inr (.inr (fun j => zc_q b (l.getD j 0)))))) := rfl
theorem zc_cellO {k : Nat} {l : List Int} (h1 : k ≠ 50 ∧ k ≠ 51) (h2 : k ≠ 52) : zc_cell b pre cI cL cQ (k, l) = .inr (k, zc_fs b pre k l) := by
  unfold zc_cell
  rw [if_neg h1.1, if_neg h1.2, if_neg h2]
theorem zf_tag_lt {k j t : Nat} (h : zf_tag k j = some t) : k < zf_tags.length := by
  unfold zf_tag at h
  cases hk : zf_tags[k]? with
  | none => rw [hk] at h; cases h
  | some ts => exact (List.getElem?_eq_some_iff.mp hk).1
theorem zf_tags_len : zf_tags.length ≤ 50 := by decide +kernel
theorem zx_iaload (C : zx_C p s m args meth c b pre D cI cL cQ E y mm) (hd : decode mm.2.1 pc = .ok (.iaload, 1)) (hz : zs_ins E y pc ls st h .iaload len a0 b0 v0 = some S)
    (kn : ∀ fr, S = .inl fr → zx_W p l e R s m args below meth c b pre D cI cL cQ Q c0 s0 fr) : zx_W p l e R s m args below meth c b pre D cI cL cQ Q c0 s0 (y, pc, ls, st, h) := by
  obtain ⟨hx, -, hb, -, -, -, -, -, -, hK, hE, hbs, -⟩ := C
  simp only [zs_ins] at hz
  obtain ⟨i, r1, rfl, hz1⟩ := zo_1_inv hz
  obtain ⟨q, r, rfl, hz2⟩ := zo_1_inv hz1
  intro H locs lsM cells slots hR hS hl hn g1 g2
  by_cases hq : 0 ≤ q
  · rw [decide_eq_true hq, cond_true] at hz2
    obtain ⟨⟨k, li⟩, hc, hz3⟩ := zo_o_inv hz2
    obtain ⟨h1, hz4⟩ := zo_g_inv hz3
    have h1 : k = 50 := Nat.eq_of_beq_eq_true h1
    subst h1
    obtain ⟨j, hj, hz5⟩ := zo_o_inv hz4
    obtain ⟨hin, hj1, -⟩ := zi_ix_inv hj
    have hz := zs_nx_inv hz5
    have k := kn _ hz H locs lsM cells slots hR hS hl hn g1 g2
    show W p l e R s m args below meth c H locs cells slots Q (F0 m pc lsM (.int (Int32.ofInt i) :: zc_ref b pre q :: r.map (zc_v b pre)))
    rw [zc_ref_nn hq]
    refine va_iald hx hb hK.1 hR.1 q.toNat 0 (zc_ws_get (zh_at_inv hc).2) rfl hin hd ?_
    rw [hj1]
    exact k
  · rw [decide_eq_false hq, cond_false] at hz2
    obtain ⟨h1, hz3⟩ := zo_g_inv hz2
    have h1 : q ≤ -2 := of_decide_eq_true h1
    obtain ⟨li, hc, hz4⟩ := zo_o_inv hz3
    obtain ⟨j, hj, hz5⟩ := zo_o_inv hz4
    obtain ⟨hin, hj1, hj2⟩ := zi_ix_inv hj
    have hz := zs_nx_inv hz5
    have k := kn _ hz H locs lsM cells slots hR hS hl hn g1 g2
    show W p l e R s m args below meth c H locs cells slots Q (F0 m pc lsM (.int (Int32.ofInt i) :: zc_ref b pre q :: r.map (zc_v b pre)))
    rw [zc_ref_p h1]
    obtain ⟨-, cell, e1, e2, e3, e4, -, e6⟩ := hE.kept hbs hS _ _ hc
    exact W.iald (v := .int (Int32.ofInt (li.getD j 0))) hx hb e1 e2 e3 (fun z => hin (z.elim Or.inl (fun z => Or.inr (by omega)))) (by rw [hj1]; exact e6 j hj2) rfl rfl hd k
theorem zx_iastore (C : zx_C p s m args meth c b pre D cI cL cQ E y mm) (hd : decode mm.2.1 pc = .ok (.iastore, 1)) (hz : zs_ins E y pc ls st h .iastore len a0 b0 v0 = some S)
    (kn : ∀ fr, S = .inl fr → zx_W p l e R s m args below meth c b pre D cI cL cQ Q c0 s0 fr) : zx_W p l e R s m args below meth c b pre D cI cL cQ Q c0 s0 (y, pc, ls, st, h) := by
  obtain ⟨hx, -, hb, -, -, -, -, -, -, hK, hE, hbs, -⟩ := C
  simp only [zs_ins] at hz
  obtain ⟨x, r2, rfl, hz1⟩ := zo_1_inv hz
  obtain ⟨i, r1, rfl, hz2⟩ := zo_1_inv hz1
  obtain ⟨q, r, rfl, hz3⟩ := zo_1_inv hz2
  obtain ⟨⟨k, li⟩, hc, hz4⟩ := zo_o_inv hz3
  obtain ⟨h1, hz5⟩ := zo_g_inv hz4
  have h1 : k = 50 := Nat.eq_of_beq_eq_true h1
  subst h1
  obtain ⟨j, hj, hz6⟩ := zo_o_inv hz5
  obtain ⟨hin, hj1, hj2⟩ := zi_ix_inv hj
  have hz := zs_nx_inv hz6
  obtain ⟨hq, hc⟩ := zh_at_inv hc
  have hlt : (Int32.ofInt i).toNatClampNeg < li.length := by rw [hj1]; exact hj2
  intro H locs lsM cells slots hR hS hl hn g1 g2
  show W p l e R s m args below meth c H locs cells slots Q (F0 m pc lsM (.int (Int32.ofInt x) :: .int (Int32.ofInt i) :: zc_ref b pre q :: r.map (zc_v b pre)))
  rw [zc_ref_nn hq]
  have ha : H[b + q.toNat]? = some (vp_cell cI (li.length, .inl (fun j => Int32.ofInt (li.getD j 0)))) := hR.at hc
  have hz0 : ¬ Int32.ofInt i < 0 := fun z => hin (Or.inl z)
  refine W.iast hx hb ha ((hK.1.2 0 _ rfl).1 _ _) (fun z => by cases z) (by show ¬ (_ ∨ (arrV _ _ _).slots.size ≤ _); rw [arrV_size]; exact hin) rfl rfl hd fun H1 e1 e2 e3 => ?_
  have hc2 : va_at D zvCl (b + q.toNat, zc_cell b pre cI cL cQ (50, li.set j x)) H1 := by
    show H1[b + q.toNat]? = some (arrV cI (li.set j x).length (fun j2 => Value.int (Int32.ofInt ((li.set j x).getD j2 0))))
    rw [e1]
    show some (Cell.setSlot (arrV cI li.length (fun j => .int (Int32.ofInt (li.getD j 0)))) _ _) = _
    rw [arrV_store, hj1, List.length_set]
    congr 2
    funext j2
    simp only [updV]
    by_cases e5 : j2 = j
    · subst e5
      simp only [if_true, List.getD_eq_getElem?_getD, List.getElem?_set_self hj2, Option.getD_some]
    · rw [if_neg e5, List.getD_eq_getElem?_getD, List.getD_eq_getElem?_getD, List.getElem?_set_ne (fun z => e5 z.symm)]
  exact kn _ hz H1 _ lsM cells slots (hR.set hc e2 e3 hc2) (hS.put e2 e3 (by omega)) hl hn (by show cells + c0 = (h.set _ _).length; rw [List.length_set]; exact g1) (by show slots + s0 = zx_sl (h.set _ _); rw [zx_sl_set hc (by simp)]; exact g2)
theorem zx_alen (C : zx_C p s m args meth c b pre D cI cL cQ E y mm) (hd : decode mm.2.1 pc = .ok (.arraylength, 1)) (hz : zs_ins E y pc ls st h .arraylength len a0 b0 v0 = some S)
    (kn : ∀ fr, S = .inl fr → zx_W p l e R s m args below meth c b pre D cI cL cQ Q c0 s0 fr) : zx_W p l e R s m args below meth c b pre D cI cL cQ Q c0 s0 (y, pc, ls, st, h) := by
  obtain ⟨hx, -, hb, -, -, -, -, -, -, hK, hE, hbs, hG, -⟩ := C
  simp only [zs_ins] at hz
  obtain ⟨q, r, rfl, hz2⟩ := zo_1_inv hz
  intro H locs lsM cells slots hR hS hl hn g1 g2
  by_cases hq : 0 ≤ q
  · rw [decide_eq_true hq, cond_true] at hz2
    obtain ⟨⟨k, li⟩, hc, hz3⟩ := zo_o_inv hz2
    obtain ⟨h1, hz4⟩ := zo_g_inv hz3
    have hz := zs_nx_inv hz4
    have kk := kn _ hz H locs lsM cells slots hR hS hl hn g1 g2
    show W p l e R s m args below meth c H locs cells slots Q (F0 m pc lsM (zc_ref b pre q :: r.map (zc_v b pre)))
    rw [zc_ref_nn hq]
    rcases Bool.or_eq_true_iff.mp h1 with h1 | h1
    · have h1 : k = 50 := Nat.eq_of_beq_eq_true h1
      subst h1
      exact va_alen (x := (li.length, .inl (fun j => Int32.ofInt (li.getD j 0)))) hx hb hK.1 hR.1 q.toNat 0 (zc_ws_get (zh_at_inv hc).2) rfl (v := Int32.ofInt (li.length : Int)) Int32.ofInt_eq_ofNat.symm hd kk
    · have h1 : k = 52 := Nat.eq_of_beq_eq_true h1
      subst h1
      exact va_alen (x := (li.length, .inr (.inr (.inr (.inr (fun j => zc_q b (li.getD j 0))))))) hx hb hK.1 hR.1 q.toNat 1 (zc_ws_get (zh_at_inv hc).2) rfl (v := Int32.ofInt (li.length : Int)) Int32.ofInt_eq_ofNat.symm hd kk
  · rw [decide_eq_false hq, cond_false] at hz2
    by_cases h4 : q = -4
    · rw [decide_eq_true h4, cond_true] at hz2
      have hz := zs_nx_inv hz2
      have kk := kn _ hz H locs lsM cells slots hR hS hl hn g1 g2
      show W p l e R s m args below meth c H locs cells slots Q (F0 m pc lsM (zc_ref b pre q :: r.map (zc_v b pre)))
      rw [h4, zc_ref_p (by decide)]
      exact va_tlen hx hb (hG.2.1.1 0 (by decide)).2.2.2 hS (v := 1) rfl hd kk
    rw [decide_eq_false h4, cond_false] at hz2
    obtain ⟨h1, hz3⟩ := zo_g_inv hz2
    have h1 : q ≤ -2 := of_decide_eq_true h1
    obtain ⟨li, hc, hz4⟩ := zo_o_inv hz3
    have hz := zs_nx_inv hz4
    have kk := kn _ hz H locs lsM cells slots hR hS hl hn g1 g2
    show W p l e R s m args below meth c H locs cells slots Q (F0 m pc lsM (zc_ref b pre q :: r.map (zc_v b pre)))
    rw [zc_ref_p h1]
    obtain ⟨-, cell, e1, e2, -, -, e5, -⟩ := hE.kept hbs hS _ _ hc
    exact W.alen (n := Int32.ofInt (li.length : Int)) hx hb e1 e2 (e5.trans Int32.ofInt_eq_ofNat.symm) rfl rfl hd kk
theorem zc_rf {z : Int} (h : -1 ≤ z) : va_rf (zc_q b z) = zc_ref b pre z := by
  unfold zc_q zc_ref
  by_cases h1 : 0 ≤ z
  · rw [if_pos h1, if_pos h1]; rfl
  · rw [if_neg h1, if_neg h1, if_pos (by omega)]; rfl
theorem zx_aaload (C : zx_C p s m args meth c b pre D cI cL cQ E y mm) (hd : decode mm.2.1 pc = .ok (.aaload, 1)) (hz : zs_ins E y pc ls st h .aaload len a0 b0 v0 = some S)
    (kn : ∀ fr, S = .inl fr → zx_W p l e R s m args below meth c b pre D cI cL cQ Q c0 s0 fr) : zx_W p l e R s m args below meth c b pre D cI cL cQ Q c0 s0 (y, pc, ls, st, h) := by
  obtain ⟨hx, -, hb, -, -, -, -, -, -, hK, hE, hbs, -⟩ := C
  simp only [zs_ins] at hz
  obtain ⟨i, r1, rfl, hz1⟩ := zo_1_inv hz
  obtain ⟨q, r, rfl, hz2⟩ := zo_1_inv hz1
  obtain ⟨⟨k, li⟩, hc, hz3⟩ := zo_o_inv hz2
  obtain ⟨h1, hz4⟩ := zo_g_inv hz3
  have h1 : k = 52 := Nat.eq_of_beq_eq_true h1
  subst h1
  obtain ⟨j, hj, hz5⟩ := zo_o_inv hz4
  obtain ⟨hin, hj1, -⟩ := zi_ix_inv hj
  obtain ⟨h2, hz6⟩ := zo_g_inv hz5
  have h2 : -1 ≤ li.getD j 0 := of_decide_eq_true h2
  have hz := zs_nx_inv hz6
  obtain ⟨hq, hc⟩ := zh_at_inv hc
  intro H locs lsM cells slots hR hS hl hn g1 g2
  have kk : W p l e R s m args below meth c H locs cells slots Q (F0 m (pc + 1) lsM (zc_ref b pre (li.getD j 0) :: r.map (zc_v b pre))) := kn _ hz H locs lsM cells slots hR hS hl hn g1 g2
  show W p l e R s m args below meth c H locs cells slots Q (F0 m pc lsM (.int (Int32.ofInt i) :: zc_ref b pre q :: r.map (zc_v b pre)))
  rw [zc_ref_nn hq]
  refine va_aldq hx hb hK.1 hR.1 q.toNat 1 (zc_ws_get hc) rfl hin hd ?_
  rw [hj1, zc_rf h2]
  exact kk
theorem zx_aastore (C : zx_C p s m args meth c b pre D cI cL cQ E y mm) (hd : decode mm.2.1 pc = .ok (.aastore, 1)) (hz : zs_ins E y pc ls st h .aastore len a0 b0 v0 = some S)
    (kn : ∀ fr, S = .inl fr → zx_W p l e R s m args below meth c b pre D cI cL cQ Q c0 s0 fr) : zx_W p l e R s m args below meth c b pre D cI cL cQ Q c0 s0 (y, pc, ls, st, h) := by
  obtain ⟨hx, -, hb, -, -, -, -, -, -, hK, hE, hbs, -⟩ := C
  simp only [zs_ins] at hz
  obtain ⟨x1, r2, rfl, hz1⟩ := zo_1_inv hz
  obtain ⟨i, r1, rfl, hz2⟩ := zo_1_inv hz1
  obtain ⟨q, r, rfl, hz3⟩ := zo_1_inv hz2
  obtain ⟨⟨k, li⟩, hc, hz4⟩ := zo_o_inv hz3
  obtain ⟨h1, hz5⟩ := zo_g_inv hz4
  have h1 : k = 52 := Nat.eq_of_beq_eq_true h1
  subst h1
  obtain ⟨j, hj, hz6⟩ := zo_o_inv hz5
  obtain ⟨hin, hj1, hj2⟩ := zi_ix_inv hj
  obtain ⟨⟨k3, lx⟩, hcx, hz7⟩ := zo_o_inv hz6
  obtain ⟨h3, hz8⟩ := zo_g_inv hz7
  have h3 : k3 = 3 := Nat.eq_of_beq_eq_true h3
  subst h3
  have hz := zs_nx_inv hz8
  obtain ⟨hq, hc⟩ := zh_at_inv hc
  obtain ⟨hqx, hcx⟩ := zh_at_inv hcx
  have hlt : (Int32.ofInt i).toNatClampNeg < li.length := by rw [hj1]; exact hj2
  intro H locs lsM cells slots hR hS hl hn g1 g2
  show W p l e R s m args below meth c H locs cells slots Q (F0 m pc lsM (zc_ref b pre x1 :: .int (Int32.ofInt i) :: zc_ref b pre q :: r.map (zc_v b pre)))
  rw [zc_ref_nn hq, zc_ref_nn hqx]
  have ha : H[b + q.toNat]? = some (vp_cell cQ (li.length, .inr (.inr (.inr (.inr (fun j => zc_q b (li.getD j 0))))))) := hR.at hc
  have hz0 : ¬ Int32.ofInt i < 0 := fun z => hin (Or.inl z)
  obtain ⟨r', hr', cellV, f1, f2, f3, -⟩ := hR.at hcx
  have hcls := (hK.1.1 3 r' hr').2
  obtain ⟨kA, comp, k1, k2, k3, -⟩ := (hK.1.2 1 _ rfl).2
  have hcomp : comp = D.1 3 := by
    cases hr'
    exact Option.some.inj (k3.symm.trans hcls.1)
  subst hcomp
  obtain ⟨kC, hkC, -⟩ := id hcls.2
  refine W.aast hx hb ha (fun z h => by cases h) (fun h => by cases h) k1 k2 rfl hkC ⟨hz0, by show _ < (arrV _ _ _).slots.size; rw [arrV_size]; exact hlt⟩ f1 (fun z h => by rw [f3] at h; cases h) (by rw [f2]; exact hkC) (by rw [f2]; exact va_assign hcls) rfl rfl hd fun H1 e1 e2 e3 => ?_
  have hc2 : va_at D zvCl (b + q.toNat, zc_cell b pre cI cL cQ (52, li.set j x1)) H1 := by
    show H1[b + q.toNat]? = some (arrV cQ (li.set j x1).length (fun j2 => va_rf (zc_q b ((li.set j x1).getD j2 0))))
    rw [e1]
    show some (Cell.setSlot (arrV cQ li.length (fun j => va_rf (zc_q b (li.getD j 0)))) _ _) = _
    rw [arrV_store, hj1, List.length_set]
    congr 2
    funext j2
    simp only [updV]
    by_cases e5 : j2 = j
    · subst e5
      simp only [if_true, List.getD_eq_getElem?_getD, List.getElem?_set_self hj2, Option.getD_some]
      rw [zc_q, if_pos hqx]
      rfl
    · rw [if_neg e5, List.getD_eq_getElem?_getD, List.getD_eq_getElem?_getD, List.getElem?_set_ne (fun z => e5 z.symm)]
  exact kn _ hz H1 _ lsM cells slots (hR.set hc e2 e3 hc2) (hS.put e2 e3 (by omega)) hl hn (by show cells + c0 = (h.set _ _).length; rw [List.length_set]; exact g1) (by show slots + s0 = zx_sl (h.set _ _); rw [zx_sl_set hc (by simp)]; exact g2)
theorem zx_laload (C : zx_C p s m args meth c b pre D cI cL cQ E y mm) (hd : decode mm.2.1 pc = .ok (.laload, 1)) (hz : zs_ins E y pc ls st h .laload len a0 b0 v0 = some S)
    (kn : ∀ fr, S = .inl fr → zx_W p l e R s m args below meth c b pre D cI cL cQ Q c0 s0 fr) : zx_W p l e R s m args below meth c b pre D cI cL cQ Q c0 s0 (y, pc, ls, st, h) := by
  obtain ⟨hx, -, hb, -, -, -, -, -, -, hK, hE, hbs, -⟩ := C
  simp only [zs_ins] at hz
  obtain ⟨i, r1, rfl, hz1⟩ := zo_1_inv hz
  obtain ⟨q, r, rfl, hz2⟩ := zo_1_inv hz1
  obtain ⟨⟨k, li⟩, hc, hz3⟩ := zo_o_inv hz2
  obtain ⟨h1, hz4⟩ := zo_g_inv hz3
  have h1 : k = 51 := Nat.eq_of_beq_eq_true h1
  subst h1
  obtain ⟨j, hj, hz5⟩ := zo_o_inv hz4
  obtain ⟨hin, hj1, -⟩ := zi_ix_inv hj
  have hz := zs_nx_inv hz5
  obtain ⟨hq, hc⟩ := zh_at_inv hc
  intro H locs lsM cells slots hR hS hl hn g1 g2
  have k := kn _ hz H locs lsM cells slots hR hS hl hn g1 g2
  show W p l e R s m args below meth c H locs cells slots Q (F0 m pc lsM (.int (Int32.ofInt i) :: zc_ref b pre q :: r.map (zc_v b pre)))
  rw [zc_ref_nn hq]
  refine va_lald hx hb hK.1 hR.1 q.toNat 2 (zc_ws_get hc) rfl hin hd ?_
  rw [hj1]
  exact k
theorem zx_lastore (C : zx_C p s m args meth c b pre D cI cL cQ E y mm) (hd : decode mm.2.1 pc = .ok (.lastore, 1)) (hz : zs_ins E y pc ls st h .lastore len a0 b0 v0 = some S)
    (kn : ∀ fr, S = .inl fr → zx_W p l e R s m args below meth c b pre D cI cL cQ Q c0 s0 fr) : zx_W p l e R s m args below meth c b pre D cI cL cQ Q c0 s0 (y, pc, ls, st, h) := by
  obtain ⟨hx, -, hb, -, -, -, -, -, -, hK, hE, hbs, -⟩ := C
  simp only [zs_ins] at hz
  obtain ⟨x, r2, rfl, hz1⟩ := zo_1_inv hz
  obtain ⟨i, r1, rfl, hz2⟩ := zo_1_inv hz1
  obtain ⟨q, r, rfl, hz3⟩ := zo_1_inv hz2
  obtain ⟨⟨k, li⟩, hc, hz4⟩ := zo_o_inv hz3
  obtain ⟨h1, hz5⟩ := zo_g_inv hz4
  have h1 : k = 51 := Nat.eq_of_beq_eq_true h1
  subst h1
  obtain ⟨j, hj, hz6⟩ := zo_o_inv hz5
  obtain ⟨hin, hj1, hj2⟩ := zi_ix_inv hj
  have hz := zs_nx_inv hz6
  obtain ⟨hq, hc⟩ := zh_at_inv hc
  intro H locs lsM cells slots hR hS hl hn g1 g2
  show W p l e R s m args below meth c H locs cells slots Q (F0 m pc lsM (.long (Int64.ofInt x) :: .int (Int32.ofInt i) :: zc_ref b pre q :: r.map (zc_v b pre)))
  rw [zc_ref_nn hq]
  have ha : H[b + q.toNat]? = some (vp_cell cL (li.length, .inr (.inl (fun j => Int64.ofInt (li.getD j 0))))) := hR.at hc
  refine W.last hx hb ha ((hK.1.2 2 _ rfl).1 _ _) (fun z => by cases z) (by show ¬ (_ ∨ (arrV _ _ _).slots.size ≤ _); rw [arrV_size]; exact hin) rfl rfl hd fun H1 e1 e2 e3 => ?_
  have hc2 : va_at D zvCl (b + q.toNat, zc_cell b pre cI cL cQ (51, li.set j x)) H1 := by
    show H1[b + q.toNat]? = some (arrV cL (li.set j x).length (fun j2 => Value.long (Int64.ofInt ((li.set j x).getD j2 0))))
    rw [e1]
    show some (Cell.setSlot (arrV cL li.length (fun j => .long (Int64.ofInt (li.getD j 0)))) _ _) = _
    rw [arrV_store, hj1, List.length_set]
    congr 2
    funext j2
    simp only [updV]
    by_cases e5 : j2 = j
    · subst e5
      simp only [if_true, List.getD_eq_getElem?_getD, List.getElem?_set_self hj2, Option.getD_some]
    · rw [if_neg e5, List.getD_eq_getElem?_getD, List.getD_eq_getElem?_getD, List.getElem?_set_ne (fun z => e5 z.symm)]
  exact kn _ hz H1 _ lsM cells slots (hR.set hc e2 e3 hc2) (hS.put e2 e3 (by omega)) hl hn (by show cells + c0 = (h.set _ _).length; rw [List.length_set]; exact g1) (by show slots + s0 = zx_sl (h.set _ _); rw [zx_sl_set hc (by simp)]; exact g2)
end
