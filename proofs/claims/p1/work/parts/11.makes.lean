section
variable {p : Program} {l : Launch} {e : Env} {R : Room} {s : State} {m : MethodId} {args : Array Value} {below : List Frame} {meth : Method} {c : Code} {b : Nat} {pre : Nat → Nat} {D : va_G} {cI cL cQ : ClassId} {Q : State → Prop} {c0 s0 : Nat} {E : List (List Int)} {y : Nat} {mm : zm_M}
variable {pc len a0 b0 w0 : Nat} {v0 : Int} {ls st : List zv_V} {h : zv_H} {S : zv_S}
theorem zk_fieldP_of {own : String} {ix : Nat} (h : zk_fieldP own ix a0 b0 w0 = true) : ∃ C T N, zvCl[a0]? = some (C, T, N) ∧ b0 < N ∧ Cond.fieldLink own ix (T b0).1 (T b0).2.1 (T b0).2.2.1 ∈ zx_TB := by
  unfold zk_fieldP at h
  cases hv : zvCl[a0]? with
  | none => rw [hv] at h; cases h
  | some r =>
    obtain ⟨C, T, N⟩ := r
    rw [hv] at h
    simp only [Bool.and_eq_true] at h
    exact ⟨C, T, N, rfl, Nat.le_of_ble_eq_true h.1, zk_w_mem h.2⟩
theorem zx_putfield (C : zx_C p s m args meth c b pre D cI cL cQ E y mm) {ix : Nat} (hd : decode mm.2.1 pc = .ok (.putfield ix, 3)) (hk : zk_fieldP mm.1.cls ix a0 b0 w0 = true) (hf : zk_final mm.1 a0 b0 = true) (hz : zs_ins E y pc ls st h (.putfield ix) len a0 b0 v0 = some S)
    (kn : ∀ fr, S = .inl fr → zx_W p l e R s m args below meth c b pre D cI cL cQ Q c0 s0 fr) : zx_W p l e R s m args below meth c b pre D cI cL cQ Q c0 s0 (y, pc, ls, st, h) := by
  obtain ⟨hx, -, hb, -, -, hown, hts, -, hnm, hK, -⟩ := C
  simp only [zs_ins] at hz
  obtain ⟨⟨t0, z⟩, hst, hz0⟩ := zo_o_inv hz
  obtain ⟨q, r, hst2, hz1⟩ := zo_1_inv hz0
  have hst3 : st = (t0, z) :: (2, q) :: r := by
    cases st with
    | nil => cases hst
    | cons v st =>
      cases hst
      rw [show st = (2, q) :: r from hst2]
  subst hst3
  obtain ⟨⟨k, li⟩, hc, hz2⟩ := zo_o_inv hz1
  obtain ⟨h1, hz3⟩ := zo_g_inv hz2
  obtain ⟨h1, h2⟩ := Bool.and_eq_true_iff.mp h1
  have h1 : k = a0 := Nat.eq_of_beq_eq_true h1
  subst h1
  have h2 : b0 < li.length := Nat.le_of_ble_eq_true h2
  obtain ⟨t, ht, hz4⟩ := zo_o_inv hz3
  obtain ⟨h3, hz5⟩ := zo_g_inv hz4
  obtain ⟨h3, h4⟩ := Bool.and_eq_true_iff.mp h3
  have h3 : t0 = zf_vt t := Nat.eq_of_beq_eq_true h3
  subst h3
  have h4 : t = 5 → z = 0 ∨ z = 1 := by
    intro e
    subst e
    rcases Bool.or_eq_true_iff.mp h4 with h | h
    · exact absurd h (by decide)
    · rcases Bool.or_eq_true_iff.mp h with h | h
      · exact Or.inl (of_decide_eq_true h)
      · exact Or.inr (of_decide_eq_true h)
  have hz := zs_nx_inv hz5
  obtain ⟨hq, hc⟩ := zh_at_inv hc
  obtain ⟨C, T, N, hv, hb0, hlink⟩ := zk_fieldP_of hk
  have hlink := hts _ hlink
  obtain ⟨hnames, htys⟩ := zc_all _ _ hv
  obtain ⟨ts, hts1, hts2, hok⟩ := zf_one hv
  obtain ⟨hn1, hfit⟩ := zf_fit (b := b) (pre := pre) (hok b0 hb0) ht h4
  intro H locs lsM cells slots hR hS hl hn g1 g2
  show W p l e R s m args below meth c H locs cells slots Q (F0 m pc lsM (zc_v b pre (zf_vt t, z) :: zc_ref b pre q :: r.map (zc_v b pre)))
  rw [zc_ref_nn hq]
  have he := hR.at hc
  rw [zc_cellO (zx_kind hv).1 (zx_kind hv).2] at he
  have hap := va_apart (own := mm.1.cls) hts (zx_in _ _ hv) (zc_ty k) htys hnames hK.1 hv
  obtain ⟨r', f1, cell, q1, q2, q3, q4⟩ := he
  have hr : r' = (C, T, N) := Option.some.inj (f1.symm.trans hv)
  subst hr
  obtain ⟨hSl, hfc, kC, hkC, hkind⟩ := hK.1.1 k _ hv
  obtain ⟨cf, kf, fi, f, hi, hsl⟩ := hSl b0 hb0
  have hw := zx_in _ _ hv
  have hlay := hts _ (hw _ (u_in_lay hb0))
  have hst := (u_facts hfc hkC (u_lays hts hw hb0) hi).1
  have fin : ∀ H1 : Heap, H1[b + q.toNat]? = some (cell.setSlot (D.2 k b0) (zc_v b pre (zf_vt t, z))) → H1.size = H.size → (∀ z, z ≠ b + q.toNat → H1[z]? = H[z]?) → W p l e R s m args below meth c H1 (locs ++ [⟨b + q.toNat, D.2 k b0⟩]) cells slots Q (F0 m (pc + 3) lsM (r.map (zc_v b pre))) := by
    intro H1 e1 e2 e3
    have hc2 : va_at D zvCl (b + q.toNat, zc_cell b pre cI cL cQ (k, li.set b0 z)) H1 := by
      rw [zc_cellO (zx_kind hv).1 (zx_kind hv).2, ← zc_fs_set h2 ht]
      exact ⟨_, hv, t_OB.to (V := updV (vp_V (zc_fs b pre k li)) b0 (zc_v b pre (zf_vt t, z))) ⟨_, e1, q2, q3, t_set q4 hap hb0 _⟩ (fun j _ => vp_updV_set (by simp [zc_fs]; exact h2) _ j)⟩
    exact kn _ hz H1 _ lsM cells slots (hR.set hc e2 e3 hc2) (hS.put e2 e3 (by omega)) hl hn (by show cells + c0 = (h.set _ _).length; rw [List.length_set]; exact g1) (by show slots + s0 = zx_sl (h.set _ _); rw [zx_sl_set hc (by simp)]; exact g2)
  by_cases hfin : (T b0).2.2.2 = true
  · unfold u_lay at hlay
    rw [if_pos hfin] at hlay
    unfold zk_final at hf
    rw [hv] at hf
    simp only [hfin, Bool.not_true, Bool.false_or, Bool.and_eq_true, decide_eq_true_eq] at hf
    have hcf : m.cls = cf := by
      obtain ⟨_, _, c', _, _, _, -, -, hf', -, -, -, hown2, -⟩ := Cond.laysFinal_spec hlay
      have e1 : c' = cf := by have := hi.symm.trans hf'; simp at this; exact this.1.symm
      rw [hf.2] at hown2
      rw [← e1]; exact Option.some.inj (hown.symm.trans hown2)
    have h6 := u_fits hfc hkC hkind (Or.inr hlay) hi (htys b0 hb0) hn1 hfit
    refine W.putFinK hx hb hown hlink hi hst hcf (hnm.trans hf.1) (by rw [q2]; exact h6) q1 q3 (by rw [hsl]; exact k2_hasslot (q4 b0 hb0)) rfl rfl hd fun H1 e1 e2 e3 => ?_
    rw [hsl] at e1 ⊢
    exact fin H1 e1 e2 e3
  · unfold u_lay at hlay
    rw [if_neg hfin] at hlay
    have h6 := u_store hfc hkC hkind hlay hi (htys b0 hb0) hn1 hfit
    refine W.putK hx hb (f := f) ⟨hown, hlink, ⟨_, _, _, hi⟩, hst⟩ (by rw [q2]; exact h6) q1 q3 (by rw [hsl]; exact k2_hasslot (q4 b0 hb0)) rfl rfl hd fun H1 e1 e2 e3 => ?_
    rw [hsl] at e1 ⊢
    exact fin H1 e1 e2 e3
/-- a new cell -/
theorem zx_S_push {H0 H H1 : Heap} {locs : List Loc} (hS : va_S (fun q => b ≤ q) H0 H locs) (hz : H1.size = H.size + 1) (ho : ∀ q, q < H.size → H1[q]? = H[q]?) : va_S (fun q => b ≤ q) H0 H1 locs :=
  ⟨Nat.le_trans hS.1 (by omega), fun q h1 h2 => (ho q (Nat.lt_of_lt_of_le h1 hS.1)).trans (hS.2.1 q h1 h2), hS.2.2⟩
theorem zx_newarray (C : zx_C p s m args meth c b pre D cI cL cQ E y mm) (hd : decode mm.2.1 pc = .ok (.newarray .int, 2)) (hk : zk_w w0 (.arrayClass .int) = true) (hz : zs_ins E y pc ls st h (.newarray .int) len a0 b0 v0 = some S)
    (hroom : ∀ fr, S = .inl fr → fr.2.2.2.2.length ≤ R.cells + c0 ∧ zx_sl fr.2.2.2.2 ≤ R.slots + s0)
    (kn : ∀ fr, S = .inl fr → zx_W p l e R s m args below meth c b pre D cI cL cQ Q c0 s0 fr) : zx_W p l e R s m args below meth c b pre D cI cL cQ Q c0 s0 (y, pc, ls, st, h) := by
  obtain ⟨hx, -, hb, -, -, hown, hts, -, -, hK, -⟩ := C
  simp only [zs_ins] at hz
  obtain ⟨n, r, rfl, hz1⟩ := zo_1_inv hz
  obtain ⟨h1, hz2⟩ := zo_g_inv hz1
  obtain ⟨h1, h2⟩ := Bool.and_eq_true_iff.mp h1
  have h1 : ¬ Int32.ofInt n < 0 := by simpa using h1
  have h2 := Nat.le_of_ble_eq_true h2
  have hz := zs_nx_inv hz2
  obtain ⟨r1, r2⟩ := hroom _ hz
  simp only [List.length_append, List.length_singleton, zx_sl_push, List.length_replicate] at r1 r2
  intro H locs lsM cells slots hR hS hl hn g1 g2
  have g1' : cells + c0 = h.length := g1
  have g2' : slots + s0 = zx_sl h := g2
  show W p l e R s m args below meth c H locs cells slots Q (F0 m pc lsM (.int (Int32.ofInt n) :: r.map (zc_v b pre)))
  refine va_newaK hx hb (hts _ (zk_w_mem hk)) rfl hd rfl h1 rfl (by exact h2) (by omega) (by omega) rfl fun H1 cA e1 z1 o1 hAr hNm => ?_
  have hcA : cA = cI := by
    have := (hK.1.2 0 _ rfl).2
    exact Option.some.inj (hNm.symm.trans this)
  subst hcA
  have hc2 : va_at D zvCl (b + h.length, zc_cell b pre cA cL cQ (50, List.replicate (Int32.ofInt n).toNatClampNeg 0)) H1 := by
    show H1[b + h.length]? = some (arrV cA (List.replicate (Int32.ofInt n).toNatClampNeg (0 : Int)).length (fun j2 => Value.int (Int32.ofInt ((List.replicate (Int32.ofInt n).toNatClampNeg (0 : Int)).getD j2 0))))
    rw [← hR.2, e1, List.length_replicate]
    congr 2
    funext j
    rw [List.getD_eq_getElem?_getD, List.getElem?_replicate]
    by_cases hj : j < (Int32.ofInt n).toNatClampNeg
    · rw [if_pos hj]; rfl
    · rw [if_neg hj]; rfl
  have kk := kn _ hz H1 locs lsM (cells + 1) (slots + (Int32.ofInt n).toNatClampNeg) (hR.push z1 o1 hc2) (zx_S_push hS z1 o1) hl hn (by show _ = (h ++ _).length; rw [List.length_append, ← g1']; simp; omega) (by show _ = zx_sl (h ++ _); rw [zx_sl_push, ← g2', List.length_replicate]; omega)
  have e5 : zc_v b pre (2, (h.length : Int)) = .ref H.size := by
    show zc_ref b pre (h.length : Int) = _
    rw [zc_ref_nn (by omega), hR.2]
    simp
  have kk : W p l e R s m args below meth c H1 locs (cells + 1) (slots + (Int32.ofInt n).toNatClampNeg) Q (F0 m (pc + 2) lsM (zc_v b pre (2, (h.length : Int)) :: r.map (zc_v b pre))) := kk
  rw [e5] at kk
  exact kk
theorem zx_newarrayL (C : zx_C p s m args meth c b pre D cI cL cQ E y mm) (hd : decode mm.2.1 pc = .ok (.newarray .long, 2)) (hk : zk_w w0 (.arrayClass .long) = true) (hz : zs_ins E y pc ls st h (.newarray .long) len a0 b0 v0 = some S)
    (hroom : ∀ fr, S = .inl fr → fr.2.2.2.2.length ≤ R.cells + c0 ∧ zx_sl fr.2.2.2.2 ≤ R.slots + s0)
    (kn : ∀ fr, S = .inl fr → zx_W p l e R s m args below meth c b pre D cI cL cQ Q c0 s0 fr) : zx_W p l e R s m args below meth c b pre D cI cL cQ Q c0 s0 (y, pc, ls, st, h) := by
  obtain ⟨hx, -, hb, -, -, hown, hts, -, -, hK, -⟩ := C
  simp only [zs_ins] at hz
  obtain ⟨n, r, rfl, hz1⟩ := zo_1_inv hz
  obtain ⟨h1, hz2⟩ := zo_g_inv hz1
  obtain ⟨h1, h2⟩ := Bool.and_eq_true_iff.mp h1
  have h1 : ¬ Int32.ofInt n < 0 := by simpa using h1
  have h2 := Nat.le_of_ble_eq_true h2
  have hz := zs_nx_inv hz2
  obtain ⟨r1, r2⟩ := hroom _ hz
  simp only [List.length_append, List.length_singleton, zx_sl_push, List.length_replicate] at r1 r2
  intro H locs lsM cells slots hR hS hl hn g1 g2
  have g1' : cells + c0 = h.length := g1
  have g2' : slots + s0 = zx_sl h := g2
  show W p l e R s m args below meth c H locs cells slots Q (F0 m pc lsM (.int (Int32.ofInt n) :: r.map (zc_v b pre)))
  refine va_newaK hx hb (hts _ (zk_w_mem hk)) rfl hd rfl h1 rfl (by exact h2) (by omega) (by omega) rfl fun H1 cA e1 z1 o1 hAr hNm => ?_
  have hcA : cA = cL := by
    have := (hK.1.2 2 _ rfl).2
    exact Option.some.inj (hNm.symm.trans this)
  subst hcA
  have hc2 : va_at D zvCl (b + h.length, zc_cell b pre cI cA cQ (51, List.replicate (Int32.ofInt n).toNatClampNeg 0)) H1 := by
    show H1[b + h.length]? = some (arrV cA (List.replicate (Int32.ofInt n).toNatClampNeg (0 : Int)).length (fun j2 => Value.long (Int64.ofInt ((List.replicate (Int32.ofInt n).toNatClampNeg (0 : Int)).getD j2 0))))
    rw [← hR.2, e1, List.length_replicate]
    congr 2
    funext j
    rw [List.getD_eq_getElem?_getD, List.getElem?_replicate]
    by_cases hj : j < (Int32.ofInt n).toNatClampNeg
    · rw [if_pos hj]; rfl
    · rw [if_neg hj]; rfl
  have kk := kn _ hz H1 locs lsM (cells + 1) (slots + (Int32.ofInt n).toNatClampNeg) (hR.push z1 o1 hc2) (zx_S_push hS z1 o1) hl hn (by show _ = (h ++ _).length; rw [List.length_append, ← g1']; simp; omega) (by show _ = zx_sl (h ++ _); rw [zx_sl_push, ← g2', List.length_replicate]; omega)
  have e5 : zc_v b pre (2, (h.length : Int)) = .ref H.size := by
    show zc_ref b pre (h.length : Int) = _
    rw [zc_ref_nn (by omega), hR.2]
    simp
  have kk : W p l e R s m args below meth c H1 locs (cells + 1) (slots + (Int32.ofInt n).toNatClampNeg) Q (F0 m (pc + 2) lsM (zc_v b pre (2, (h.length : Int)) :: r.map (zc_v b pre))) := kk
  rw [e5] at kk
  exact kk
theorem zx_anewarray (C : zx_C p s m args meth c b pre D cI cL cQ E y mm) {ix : Nat} (hd : decode mm.2.1 pc = .ok (.anewarray ix, 3)) (hk : zk_w w0 (.classLink mm.1.cls ix "PolyLathe$Poly") = true) (hz : zs_ins E y pc ls st h (.anewarray ix) len a0 b0 v0 = some S)
    (hroom : ∀ fr, S = .inl fr → fr.2.2.2.2.length ≤ R.cells + c0 ∧ zx_sl fr.2.2.2.2 ≤ R.slots + s0)
    (kn : ∀ fr, S = .inl fr → zx_W p l e R s m args below meth c b pre D cI cL cQ Q c0 s0 fr) : zx_W p l e R s m args below meth c b pre D cI cL cQ Q c0 s0 (y, pc, ls, st, h) := by
  obtain ⟨hx, -, hb, -, -, hown, hts, -, -, hK, -⟩ := C
  simp only [zs_ins] at hz
  obtain ⟨n, r, rfl, hz1⟩ := zo_1_inv hz
  obtain ⟨h1, hz2⟩ := zo_g_inv hz1
  obtain ⟨h1, h2⟩ := Bool.and_eq_true_iff.mp h1
  have h1 : ¬ Int32.ofInt n < 0 := by simpa using h1
  have h2 := Nat.le_of_ble_eq_true h2
  have hz := zs_nx_inv hz2
  obtain ⟨r1, r2⟩ := hroom _ hz
  simp only [List.length_append, List.length_singleton, zx_sl_push, List.length_replicate] at r1 r2
  intro H locs lsM cells slots hR hS hl hn g1 g2
  have g1' : cells + c0 = h.length := g1
  have g2' : slots + s0 = zx_sl h := g2
  show W p l e R s m args below meth c H locs cells slots Q (F0 m pc lsM (.int (Int32.ofInt n) :: r.map (zc_v b pre)))
  refine W.anew hx hb hown (hts _ (zk_w_mem hk)) (va_AO.use hK.2.1) rfl hd rfl h1 h2 (by omega) (by omega) fun cA kA comp f1 f2 f3 f4 => ?_
  have hcA : cA = cQ := by
    obtain ⟨_, _, -, -, -, k4⟩ := (hK.1.2 1 _ rfl).2
    exact Option.some.inj (f1.symm.trans k4)
  subst hcA
  generalize hH1 : H.push ({ cls := cA, slots := Array.replicate (Int32.ofInt n).toNatClampNeg .null, vm := .none } : Cell) = H1
  have z1 : H1.size = H.size + 1 := by rw [← hH1, Array.size_push]
  have e1 : H1[H.size]? = some (arrV cA (Int32.ofInt n).toNatClampNeg (fun _ => .null)) := by rw [← hH1, Array.getElem?_push_size, ← arrV_new]
  have o1 : ∀ q : Nat, q < H.size → H1[q]? = H[q]? := fun q hq => by rw [← hH1, Array.getElem?_push, if_neg (Nat.ne_of_lt hq)]
  have hc2 : va_at D zvCl (b + h.length, zc_cell b pre cI cL cA (52, List.replicate (Int32.ofInt n).toNatClampNeg (-1))) H1 := by
    show H1[b + h.length]? = some (arrV cA (List.replicate (Int32.ofInt n).toNatClampNeg (-1 : Int)).length (fun j2 => va_rf (zc_q b ((List.replicate (Int32.ofInt n).toNatClampNeg (-1 : Int)).getD j2 0))))
    rw [← hR.2, e1, List.length_replicate]
    congr 1
    unfold arrV
    congr 1
    apply Array.ext
    · simp
    · intro i h1 h2
      simp only [Array.getElem_ofFn]
      have hi : i < (Int32.ofInt n).toNatClampNeg := by simpa using h1
      rw [List.getD_eq_getElem?_getD, List.getElem?_replicate, if_pos hi]
      rfl
  have kk : W p l e R s m args below meth c H1 locs (cells + 1) (slots + (Int32.ofInt n).toNatClampNeg) Q (F0 m (pc + 3) lsM (zc_v b pre (2, (h.length : Int)) :: r.map (zc_v b pre))) := kn _ hz H1 locs lsM (cells + 1) (slots + (Int32.ofInt n).toNatClampNeg) (hR.push z1 o1 hc2) (zx_S_push hS z1 o1) hl hn (by show _ = (h ++ _).length; rw [List.length_append, ← g1']; simp; omega) (by show _ = zx_sl (h ++ _); rw [zx_sl_push, ← g2', List.length_replicate]; omega)
  have e5 : zc_v b pre (2, (h.length : Int)) = .ref H.size := by
    show zc_ref b pre (h.length : Int) = _
    rw [zc_ref_nn (by omega), hR.2]
    simp
  rw [e5] at kk
  exact kk
theorem zk_new_of {own : String} {ix : Nat} (h : zk_new own ix a0 w0 = true) : ∃ C T N, zvCl[a0]? = some (C, T, N) ∧ Cond.classLink own ix C ∈ zx_TB ∧ Cond.instantiable C N ∈ zx_TB ∧ Cond.initialized C ∈ zx_TB := by
  unfold zk_new at h
  cases h1 : zvCl[a0]? with
  | none => rw [h1] at h; simp at h
  | some r =>
    obtain ⟨C, T, N⟩ := r
    rw [h1] at h
    cases h2 : zk_cls[a0]? with
    | none => rw [h2] at h; simp at h
    | some w =>
      obtain ⟨wi, wn⟩ := w
      rw [h2] at h
      simp only [Bool.and_eq_true] at h
      exact ⟨C, T, N, rfl, zk_w_mem h.1.1, zk_w_mem h.1.2, zk_w_mem h.2⟩
theorem zf_new_inv {k : Nat} {li : List Int} (h : zf_new k = some li) : ∃ ts, zf_tags[k]? = some ts ∧ li = ts.map (fun t => cond (Nat.beq t 2) (-1) 0) := by
  unfold zf_new at h
  cases hk : zf_tags[k]? with
  | none => rw [hk] at h; cases h
  | some ts => rw [hk] at h; cases h; exact ⟨ts, rfl, rfl⟩
theorem zf_default {k j t : Nat} (h : zf_ok k j = true) (ht : zf_tag k j = some t) : defaultValue (zc_ty k j) = zc_v b pre (zf_vt t, cond (Nat.beq t 2) (-1) 0) := by
  unfold zf_ok at h
  rw [ht] at h
  cases hty : zc_ty k j with
  | int => rw [hty] at h; have h : t = 0 := Nat.eq_of_beq_eq_true h; subst h; rfl
  | boolean => rw [hty] at h; have h : t = 5 := Nat.eq_of_beq_eq_true h; subst h; rfl
  | object n => rw [hty] at h; have h : t = 2 := Nat.eq_of_beq_eq_true h; subst h; rfl
  | array n => rw [hty] at h; have h : t = 2 := Nat.eq_of_beq_eq_true h; subst h; rfl
  | _ => rw [hty] at h; cases h
theorem zx_new (C : zx_C p s m args meth c b pre D cI cL cQ E y mm) {ix : Nat} (hd : decode mm.2.1 pc = .ok (.new ix, 3)) (hk : zk_new mm.1.cls ix a0 w0 = true) (hz : (zo_o (zf_new a0) fun l => zs_nx y (pc + 3) ls ((2, (h.length : Int)) :: st) (h ++ [(a0, l)])) = some S)
    (hroom : ∀ fr, S = .inl fr → fr.2.2.2.2.length ≤ R.cells + c0 ∧ zx_sl fr.2.2.2.2 ≤ R.slots + s0)
    (kn : ∀ fr, S = .inl fr → zx_W p l e R s m args below meth c b pre D cI cL cQ Q c0 s0 fr) : zx_W p l e R s m args below meth c b pre D cI cL cQ Q c0 s0 (y, pc, ls, st, h) := by
  obtain ⟨hx, -, hb, -, -, hown, hts, -, -, hK, -⟩ := C
  obtain ⟨li, hli, hz2⟩ := zo_o_inv hz
  have hz := zs_nx_inv hz2
  obtain ⟨r1, r2⟩ := hroom _ hz
  obtain ⟨ts, hts1, hli2⟩ := zf_new_inv hli
  obtain ⟨C, T, N, hv, k1, k2, k3⟩ := zk_new_of hk
  obtain ⟨ts', hts1', hts2, hok⟩ := zf_one hv
  cases hts1.symm.trans hts1'
  have hlen : li.length = N := by rw [hli2, List.length_map]; exact hts2
  obtain ⟨hnames, htys⟩ := zc_all _ _ hv
  have hw := zx_in _ _ hv
  simp only [List.length_append, List.length_singleton, zx_sl_push] at r1 r2
  intro H locs lsM cells slots hR hS hl hn g1 g2
  have g1' : cells + c0 = h.length := g1
  have g2' : slots + s0 = zx_sl h := g2
  have hKn := hK.1.1 a0 _ hv
  refine W.newcK hx hb hown (hts _ k1) (hts _ k2) (hts _ k3) rfl hd (by omega) (by omega) hKn.2.1 rfl fun H1 kC hkC e1 z1 o1 => ?_
  have hfs : ∀ j, j < N → defaultValue (zc_ty a0 j) = vp_V (zc_fs b pre a0 li) j := by
    intro j hj
    have hjt : j < ts.length := by rw [hts2]; exact hj
    have ht : zf_tag a0 j = some ts[j] := by unfold zf_tag; rw [hts1]; exact List.getElem?_eq_getElem hjt
    rw [zf_default (b := b) (pre := pre) (hok j hj) ht]
    show _ = (zc_fs b pre a0 li).getD j .null
    rw [List.getD_eq_getElem?_getD, zc_fs_get (z := cond (Nat.beq ts[j] 2) (-1) 0) (by rw [hli2, List.getElem?_map, List.getElem?_eq_getElem hjt]; rfl) ht]
    rfl
  have hc2 : va_at D zvCl (b + h.length, zc_cell b pre cI cL cQ (a0, li)) H1 := by
    rw [zc_cellO (zx_kind hv).1 (zx_kind hv).2, ← hR.2]
    exact ⟨_, hv, (u_born (zc_ty a0) hts hw hKn hkC e1 htys).to hfs⟩
  have kk : W p l e R s m args below meth c H1 locs (cells + 1) (slots + N) Q (F0 m (pc + 3) lsM (zc_v b pre (2, (h.length : Int)) :: st.map (zc_v b pre))) := kn _ hz H1 locs lsM (cells + 1) (slots + N) (hR.push z1 o1 hc2) (zx_S_push hS z1 o1) hl hn (by show _ = (h ++ _).length; rw [List.length_append, ← g1']; simp; omega) (by show _ = zx_sl (h ++ _); rw [zx_sl_push, ← g2']; simp only; omega)
  have e5 : zc_v b pre (2, (h.length : Int)) = .ref H.size := by
    show zc_ref b pre (h.length : Int) = _
    rw [zc_ref_nn (by omega), hR.2]
    simp
  rw [e5] at kk
  exact kk
end
