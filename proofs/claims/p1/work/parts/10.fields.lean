/-! The steps that read or write fields, and that make cells. -/
theorem zx_in (C : Nat) (r : vw_C) (h : zvCl[C]? = some r) : ∀ w ∈ u_ws r.1 r.2.1 r.2.2, w ∈ zx_TB := by
  match C, h with
  | 0, h => cases h; decide +kernel
  | 1, h => cases h; decide +kernel
  | 2, h => cases h; decide +kernel
  | 3, h => cases h; decide +kernel
  | 4, h => cases h; decide +kernel
  | 5, h => cases h; decide +kernel
  | 6, h => cases h; decide +kernel
  | 7, h => cases h; decide +kernel
  | 8, h => cases h; decide +kernel
  | 9, h => cases h; decide +kernel
  | 10, h => cases h; decide +kernel
  | 11, h => cases h; decide +kernel
  | k + 12, h => simp [zvCl] at h
/-- the number of a field's kind is its type's -/
def zf_ok (k j : Nat) : Bool := match zf_tag k j with
  | none => false
  | some t => match zc_ty k j with
    | .int => Nat.beq t 0
    | .boolean => Nat.beq t 5
    | .object _ => Nat.beq t 2
    | .array _ => Nat.beq t 2
    | _ => false
def zf_lenok (k : Nat) : Bool := match zvCl[k]?, zf_tags[k]? with
  | some r, some ts => Nat.beq r.2.2 ts.length && (List.range r.2.2).all (zf_ok k)
  | none, none => true
  | _, _ => false
theorem zf_all : ∀ k, zf_lenok k = true := by
  intro k
  by_cases h : k < 12
  · have : ∀ k, k < 12 → zf_lenok k = true := by decide +kernel
    exact this k h
  · unfold zf_lenok
    have e1 : zvCl[k]? = none := List.getElem?_eq_none (show zvCl.length ≤ k by have : zvCl.length = 12 := rfl; omega)
    have e2 : zf_tags[k]? = none := List.getElem?_eq_none (show zf_tags.length ≤ k by have : zf_tags.length = 12 := rfl; omega)
    rw [e1, e2]
theorem zf_one {k : Nat} {r : vw_C} (h : zvCl[k]? = some r) : ∃ ts, zf_tags[k]? = some ts ∧ ts.length = r.2.2 ∧ ∀ j, j < r.2.2 → zf_ok k j = true := by
  have h1 := zf_all k
  unfold zf_lenok at h1
  rw [h] at h1
  cases h2 : zf_tags[k]? with
  | none => rw [h2] at h1; cases h1
  | some ts =>
    rw [h2] at h1
    obtain ⟨h3, h4⟩ := Bool.and_eq_true_iff.mp h1
    exact ⟨ts, rfl, (Nat.eq_of_beq_eq_true h3).symm, fun j hj => List.all_eq_true.mp h4 j (List.mem_range.mpr hj)⟩
/-- a value of a field's kind fits it -/
theorem zf_fit {b : Nat} {pre : Nat → Nat} {k j t : Nat} {z : Int} (h : zf_ok k j = true) (ht : zf_tag k j = some t) (hz : t = 5 → z = 0 ∨ z = 1) : narrow (zc_ty k j) (zc_v b pre (zf_vt t, z)) = zc_v b pre (zf_vt t, z) ∧ fits (zc_ty k j) (zc_v b pre (zf_vt t, z)) = true := by
  unfold zf_ok at h
  rw [ht] at h
  cases hty : zc_ty k j with
  | int =>
    rw [hty] at h
    have h : t = 0 := Nat.eq_of_beq_eq_true h
    subst h
    exact ⟨rfl, rfl⟩
  | boolean =>
    rw [hty] at h
    have h : t = 5 := Nat.eq_of_beq_eq_true h
    subst h
    rcases hz rfl with rfl | rfl
    · exact ⟨rfl, rfl⟩
    · exact ⟨rfl, rfl⟩
  | object n =>
    rw [hty] at h
    have h : t = 2 := Nat.eq_of_beq_eq_true h
    subst h
    show narrow _ (zc_ref b pre z) = zc_ref b pre z ∧ fits _ (zc_ref b pre z) = true
    rcases zc_ref_or (b := b) (pre := pre) z with h | ⟨a, h⟩ <;> rw [h] <;> exact ⟨rfl, rfl⟩
  | array n =>
    rw [hty] at h
    have h : t = 2 := Nat.eq_of_beq_eq_true h
    subst h
    show narrow _ (zc_ref b pre z) = zc_ref b pre z ∧ fits _ (zc_ref b pre z) = true
    rcases zc_ref_or (b := b) (pre := pre) z with h | ⟨a, h⟩ <;> rw [h] <;> exact ⟨rfl, rfl⟩
  | _ => rw [hty] at h; cases h
section
variable {p : Program} {l : Launch} {e : Env} {R : Room} {s : State} {m : MethodId} {args : Array Value} {below : List Frame} {meth : Method} {c : Code} {b : Nat} {pre : Nat → Nat} {D : va_G} {cI cL cQ : ClassId} {Q : State → Prop} {c0 s0 : Nat} {E : List (List Int)} {y : Nat} {mm : zm_M}
variable {pc len a0 b0 w0 : Nat} {v0 : Int} {ls st : List zv_V} {h : zv_H} {S : zv_S}
theorem zk_field_of {own : String} {ix : Nat} (h : zk_field own ix a0 b0 w0 = true) : ∃ C T N, zvCl[a0]? = some (C, T, N) ∧ b0 < N ∧ (Cond.fieldLink own ix (T b0).1 (T b0).2.1 (T b0).2.2.1 ∈ zx_TB ∨ ∃ host, (own, ix, (T b0).1, (T b0).2.1, (T b0).2.2.1, host) ∈ zx_nest) := by
  unfold zk_field at h
  cases hv : zvCl[a0]? with
  | none => rw [hv] at h; cases h
  | some r =>
    obtain ⟨C, T, N⟩ := r
    rw [hv] at h
    simp only [Bool.and_eq_true] at h
    refine ⟨C, T, N, rfl, Nat.le_of_ble_eq_true h.1, ?_⟩
    rcases Bool.or_eq_true_iff.mp h.2 with h2 | h2
    · exact Or.inl (zk_w_mem h2)
    · obtain ⟨q, h3, h4⟩ := List.any_eq_true.mp h2
      refine Or.inr ⟨q.2.2.2.2.2, ?_⟩
      have h4 := of_decide_eq_true h4
      rw [← h4]
      exact h3
theorem zx_kind {k : Nat} {r : vw_C} (h : zvCl[k]? = some r) : (k ≠ 50 ∧ k ≠ 51) ∧ k ≠ 52 := by
  have h1 : k < 12 := (List.getElem?_eq_some_iff.mp h).1
  exact ⟨⟨by omega, by omega⟩, by omega⟩
theorem zc_fs_get {k : Nat} {li : List Int} {j t : Nat} {z : Int} (hz : li[j]? = some z) (ht : zf_tag k j = some t) : (zc_fs b pre k li)[j]? = some (zc_v b pre (zf_vt t, z)) := by
  have hl : j < li.length := (List.getElem?_eq_some_iff.mp hz).1
  unfold zc_fs
  rw [List.getElem?_map, List.getElem?_range hl, Option.map_some]
  unfold zc_fv
  rw [ht, List.getD_eq_getElem?_getD, hz]
  rfl
theorem zc_fs_set {k : Nat} {li : List Int} {j t : Nat} {z : Int} (hl : j < li.length) (ht : zf_tag k j = some t) : (zc_fs b pre k li).set j (zc_v b pre (zf_vt t, z)) = zc_fs b pre k (li.set j z) := by
  apply List.ext_getElem?
  intro i
  by_cases hi : i < li.length
  · by_cases e : j = i
    · subst e
      rw [List.getElem?_set_self (by simp [zc_fs]; exact hl), zc_fs_get (List.getElem?_set_self hl) ht]
    · rw [List.getElem?_set_ne e]
      unfold zc_fs
      rw [List.getElem?_map, List.getElem?_map, List.getElem?_range hi, List.getElem?_range (by rw [List.length_set]; exact hi)]
      simp only [Option.map_some, zc_fv, List.getD_eq_getElem?_getD, List.getElem?_set_ne e]
  · rw [List.getElem?_eq_none (by simp [zc_fs]; omega), List.getElem?_eq_none (by simp [zc_fs]; omega)]
theorem zx_getfield (C : zx_C p s m args meth c b pre D cI cL cQ E y mm) {ix : Nat} (h60 : Nat.beq a0 60 = false) (hd : decode mm.2.1 pc = .ok (.getfield ix, 3)) (hk : zk_field mm.1.cls ix a0 b0 w0 = true) (hz : zs_ins E y pc ls st h (.getfield ix) len a0 b0 v0 = some S)
    (kn : ∀ fr, S = .inl fr → zx_W p l e R s m args below meth c b pre D cI cL cQ Q c0 s0 fr) : zx_W p l e R s m args below meth c b pre D cI cL cQ Q c0 s0 (y, pc, ls, st, h) := by
  obtain ⟨hx, -, hb, -, -, hown, hts, -, -, hK, -⟩ := C
  simp only [zs_ins] at hz
  rw [h60, cond_false] at hz
  obtain ⟨q, r, rfl, hz1⟩ := zo_1_inv hz
  obtain ⟨⟨k, li⟩, hc, hz2⟩ := zo_o_inv hz1
  obtain ⟨h1, hz3⟩ := zo_g_inv hz2
  have h1 : k = a0 := Nat.eq_of_beq_eq_true h1
  subst h1
  obtain ⟨t, ht, hz4⟩ := zo_o_inv hz3
  obtain ⟨z, hzz, hz5⟩ := zo_o_inv hz4
  have hz := zs_nx_inv hz5
  obtain ⟨hq, hc⟩ := zh_at_inv hc
  obtain ⟨C, T, N, hv, hb0, hlink⟩ := zk_field_of hk
  intro H locs lsM cells slots hR hS hl hn g1 g2
  have kk := kn _ hz H locs lsM cells slots hR hS hl hn g1 g2
  show W p l e R s m args below meth c H locs cells slots Q (F0 m pc lsM (zc_ref b pre q :: r.map (zc_v b pre)))
  rw [zc_ref_nn hq]
  have he := zc_ws_get (b := b) (pre := pre) (cI := cI) (cL := cL) (cQ := cQ) hc
  rw [zc_cellO (zx_kind hv).1 (zx_kind hv).2] at he
  rcases hlink with h2 | ⟨host, h2⟩
  · exact va_get hx hb hts (zx_in _ _ hv) hown hK.1 hR.1 q.toNat he hv b0 hb0 (hts _ h2) (fun _ h => h) (zc_fs_get hzz ht) hd kk
  · exact va_getN hx hb hts (zx_in _ _ hv) hown hK.1 hR.1 q.toNat he hv b0 hb0 (va_Nw.use rfl (hK.2.2.2.2.2.2 _ h2)) (fun _ h => h) (zc_fs_get hzz ht) hd kk
/-- a text's own fields -/
theorem zx_getfieldS (C : zx_C p s m args meth c b pre D cI cL cQ E y mm) {ix : Nat} (h60 : Nat.beq a0 60 = true) (hd : decode mm.2.1 pc = .ok (.getfield ix, 3)) (hk : zk_strf mm.1.cls ix b0 w0 = true) (hz : zs_ins E y pc ls st h (.getfield ix) len a0 b0 v0 = some S)
    (kn : ∀ fr, S = .inl fr → zx_W p l e R s m args below meth c b pre D cI cL cQ Q c0 s0 fr) : zx_W p l e R s m args below meth c b pre D cI cL cQ Q c0 s0 (y, pc, ls, st, h) := by
  obtain ⟨hx, -, hb, -, -, hown, hts, -, -, hK, hE, hbs, hG, -⟩ := C
  simp only [zs_ins] at hz
  rw [h60, cond_true] at hz
  obtain ⟨q, r, rfl, hz1⟩ := zo_1_inv hz
  obtain ⟨hq, hz2⟩ := zo_g_inv hz1
  have hq : q = -3 := of_decide_eq_true hq
  subst hq
  intro H locs lsM cells slots hR hS hl hn g1 g2
  show W p l e R s m args below meth c H locs cells slots Q (F0 m pc lsM (zc_ref b pre (-3) :: r.map (zc_v b pre)))
  rw [zc_ref_p (by decide)]
  unfold zk_strf at hk
  cases hb0 : Nat.beq b0 0 with
  | true =>
    rw [hb0, cond_true] at hz2 hk
    have kk := kn _ (zs_nx_inv hz2) H locs lsM cells slots hR hS hl hn g1 g2
    exact vk_getf hx hb (hG.2.1.1 0 (by decide)).2.2.1 hS hown (hts _ (zk_w_mem hk)) (fun _ h => h) hd kk
  | false =>
    rw [hb0, cond_false] at hz2 hk
    obtain ⟨-, hk⟩ := Bool.and_eq_true_iff.mp hk
    obtain ⟨-, hz3⟩ := zo_g_inv hz2
    have kk := kn _ (zs_nx_inv hz3) H locs lsM cells slots hR hS hl hn g1 g2
    exact vk_getf hx hb (hG.2.1.1 0 (by decide)).2.1 hS hown (hts _ (zk_w_mem hk)) (fun _ h => h) hd kk
theorem zx_getstatic (C : zx_C p s m args meth c b pre D cI cL cQ E y mm) {ix : Nat} (hd : decode mm.2.1 pc = .ok (.getstatic ix, 3)) (hk : zk_stat mm.1.cls ix a0 w0 = true) (hz : zs_ins E y pc ls st h (.getstatic ix) len a0 b0 v0 = some S)
    (kn : ∀ fr, S = .inl fr → zx_W p l e R s m args below meth c b pre D cI cL cQ Q c0 s0 fr) : zx_W p l e R s m args below meth c b pre D cI cL cQ Q c0 s0 (y, pc, ls, st, h) := by
  obtain ⟨hx, -, hb, -, -, hown, hts, -, -, hK, hE, hbs, hG, -⟩ := C
  simp only [zs_ins] at hz
  intro H locs lsM cells slots hR hS hl hn g1 g2
  unfold zk_stat at hk
  cases ha0 : Nat.beq a0 0 with
  | true =>
    rw [ha0, cond_true] at hz hk
    have kk := kn _ (zs_nx_inv hz) H locs lsM cells slots hR hS hl hn g1 g2
    exact va_gets hx hb hG.2.2.1 hS hown (hts _ (zk_w_mem hk)) (fun _ h => h) hd kk
  | false =>
    rw [ha0, cond_false] at hz hk
    obtain ⟨-, hk⟩ := Bool.and_eq_true_iff.mp hk
    obtain ⟨-, hz3⟩ := zo_g_inv hz
    have kk := kn _ (zs_nx_inv hz3) H locs lsM cells slots hR hS hl hn g1 g2
    exact va_gets hx hb hG.2.2.2.1 hS hown (hts _ (zk_w_mem hk)) (fun _ h => h) hd kk
theorem zx_baload (C : zx_C p s m args meth c b pre D cI cL cQ E y mm) (hd : decode mm.2.1 pc = .ok (.baload, 1)) (hz : zs_ins E y pc ls st h .baload len a0 b0 v0 = some S)
    (kn : ∀ fr, S = .inl fr → zx_W p l e R s m args below meth c b pre D cI cL cQ Q c0 s0 fr) : zx_W p l e R s m args below meth c b pre D cI cL cQ Q c0 s0 (y, pc, ls, st, h) := by
  obtain ⟨hx, -, hb, -, -, hown, hts, -, -, hK, hE, hbs, hG, -⟩ := C
  simp only [zs_ins] at hz
  obtain ⟨i, r, rfl, hz1⟩ := zo_1_inv hz
  obtain ⟨q, r, rfl, hz2⟩ := zo_1_inv hz1
  obtain ⟨hq, hz3⟩ := zo_g_inv hz2
  obtain ⟨hq, hi⟩ := Bool.and_eq_true_iff.mp hq
  have hq : q = -4 := of_decide_eq_true hq
  have hi : i = 0 := of_decide_eq_true hi
  subst hq; subst hi
  intro H locs lsM cells slots hR hS hl hn g1 g2
  have kk := kn _ (zs_nx_inv hz3) H locs lsM cells slots hR hS hl hn g1 g2
  show W p l e R s m args below meth c H locs cells slots Q (F0 m pc lsM (.int (Int32.ofInt 0) :: zc_ref b pre (-4) :: r.map (zc_v b pre)))
  rw [zc_ref_p (by decide)]
  exact va_tb hx hb (hG.2.1.1 0 (by decide)).2.2.2 hS (i := Int32.ofInt 0) (show ¬ (Int32.ofInt 0 < 0 ∨ 1 ≤ (Int32.ofInt 0).toNatClampNeg) from by decide) (v := .int (Int32.ofInt 48)) rfl hd kk
end
