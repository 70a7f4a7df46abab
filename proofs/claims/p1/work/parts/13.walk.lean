/-! Every step; then every run of the walk. -/
theorem zi_narrow {z : Int} (h : z = 0 ∨ z = 1) : narrow .boolean (.int (Int32.ofInt z)) = .int (Int32.ofInt z) := by
  rcases h with rfl | rfl
  · exact congrArg Value.int (by decide : Int32.ofInt 0 &&& 1 = Int32.ofInt 0)
  · exact congrArg Value.int (by decide : Int32.ofInt 1 &&& 1 = Int32.ofInt 1)
section
variable {p : Program} {l : Launch} {e : Env} {R : Room} {s : State} {m : MethodId} {args : Array Value} {below : List Frame} {meth : Method} {c : Code} {b : Nat} {pre : Nat → Nat} {D : va_G} {cI cL cQ : ClassId} {c0 s0 : Nat} {E : List (List Int)} {y : Nat} {mm : zm_M}
variable {pc len a0 b0 w0 : Nat} {v0 : Int} {ls st : List zv_V} {h : zv_H} {S : zv_S} {Q : State → Prop}
theorem zs_ret_inv {t : Nat} {f : Nat → Int → Bool} (hz : zs_ret y st t f h = some S) : ∃ mm x, zm_at y = some mm ∧ st = [(t, x)] ∧ f mm.2.2.2.2.1 x = true ∧ S = .inr (.inr (1, (t, x), h)) := by
  obtain ⟨mt, hm, hz1⟩ := zo_o_inv hz
  obtain ⟨x, r, hst, hz2⟩ := zo_1_inv hz1
  obtain ⟨h0, hz3⟩ := zo_g_inv hz2
  obtain ⟨h1, h2⟩ := Bool.and_eq_true_iff.mp h0
  have h3 : r = [] := List.isEmpty_iff.mp h2
  exact ⟨mt, x, hm, by rw [hst, h3], h1, (Option.some.inj hz3).symm⟩
theorem zx_fin {H : Heap} {locs : List Loc} {r : zv_R} (hR : zx_Rel b pre D cI cL cQ r.2.2 H) (hS : va_S (fun q => b ≤ q) s.heap H locs) : ∀ t : State, t.heap = H → s.WarmedH t.vm → zx_Q b pre D cI cL cQ r args s (.returned (zx_o b pre r)) t := by
  intro t ht hW
  exact ⟨rfl, by rw [ht]; exact hR, by rw [ht]; exact hS.1, fun q h1 h2 => by rw [ht]; exact hS.2.1 q h1 h2⟩
theorem zx_rets {mc ms : Nat} {Rr : zv_R} (C : zx_C p s m args meth c b pre D cI cL cQ E y mm) (hrc : zk_rc mm.2.2.2.2.1 mm.2.2.2.1 = true) (hmc : mc + c0 = Rr.2.2.length) (hms : ms + s0 = zx_sl Rr.2.2) {ins : Instr}
    (hi : (ins = .ireturn ∨ ins = .areturn ∨ ins = .return_ ∨ ins = .lreturn ∨ ins = .dreturn)) (hd : decode mm.2.1 pc = .ok (ins, 1)) (hz : zs_ins E y pc ls st h ins len a0 b0 v0 = some S) (kr : ∀ r, S = .inr (.inr r) → r = Rr) :
    zx_W p l e R s m args below meth c b pre D cI cL cQ (zx_M below b pre D cI cL cQ Rr args s mc ms) c0 s0 (y, pc, ls, st, h) := by
  obtain ⟨hx, hm, hb, hr, hml, hown, hts, hlocks, hnm, hK, hE, hbs, hG, htab⟩ := C
  have cnt : ∀ (v : zv_V) (k : Nat), Rr = (k, v, h) → ∀ cells slots : Nat, cells + c0 = h.length → slots + s0 = zx_sl h → mc = cells ∧ ms = slots := by
    intro v k e1 cells slots g1 g2
    subst e1
    exact ⟨by simp only at hmc; omega, by simp only at hms; omega⟩
  have mq : ∀ (v : zv_V) (k : Nat), Rr = (k, v, h) → k ≠ 2 → zx_M below b pre D cI cL cQ Rr args s mc ms = MQ below (zx_Q b pre D cI cL cQ Rr) args s mc ms (fun q => b ≤ q) := by
    intro v k e1 h2
    subst e1
    exact if_neg h2
  rw [← hr] at hrc
  have two : ∀ k : Nat, k < 2 → k ≠ 2 := fun k h => by omega
  rcases hi with rfl | rfl | rfl | rfl | rfl
  · simp only [zs_ins] at hz
    obtain ⟨mt, x, hm', rfl, hf, hS'⟩ := zs_ret_inv hz
    cases hm.symm.trans hm'
    have hRr := (kr _ hS').symm
    intro H locs lsM cells slots hR hS hl hn g1 g2
    obtain ⟨h1, h2⟩ := cnt _ _ hRr cells slots g1 g2
    rw [mq _ _ hRr (by decide)]
    subst h1; subst h2; subst hRr
    cases hty : meth.sig.returnType with
    | none =>
      rw [hty] at hrc
      have hrc : mm.2.2.2.2.1 = 0 := Nat.eq_of_beq_eq_true hrc
      simp only [hrc] at hf
      exact absurd hf (by simp)
    | some ty =>
      rw [hty] at hrc
      cases ty with
      | int => exact W.zret (ty := .int) hx hb hty rfl (zx_fin (r := (1, (0, x), h)) hR hS) hS.2.2 hd hlocks
      | boolean =>
        have hrc : mm.2.2.2.2.1 = 2 := Nat.eq_of_beq_eq_true hrc
        simp only [hrc] at hf
        have hx01 : x = 0 ∨ x = 1 := by simpa using hf
        exact W.zret (ty := .boolean) hx hb hty (zi_narrow hx01) (zx_fin (r := (1, (0, x), h)) hR hS) hS.2.2 hd hlocks
      | char =>
        have hrc : mm.2.2.2.2.1 = 6 := Nat.eq_of_beq_eq_true hrc
        simp only [hrc] at hf
        have hx48 : x = 48 := by simpa using hf
        subst hx48
        exact W.zret (ty := .char) hx hb hty (show narrow .char (.int (Int32.ofInt 48)) = .int (Int32.ofInt 48) from by decide) (zx_fin (r := (1, (0, 48), h)) hR hS) hS.2.2 hd hlocks
      | byte =>
        have hrc : mm.2.2.2.2.1 = 7 := Nat.eq_of_beq_eq_true hrc
        simp only [hrc] at hf
        have hx0 : x = 0 := by simpa using hf
        subst hx0
        exact W.zret (ty := .byte) hx hb hty (show narrow .byte (.int (Int32.ofInt 0)) = .int (Int32.ofInt 0) from by decide) (zx_fin (r := (1, (0, 0), h)) hR hS) hS.2.2 hd hlocks
      | object n =>
        have hrc : mm.2.2.2.2.1 = 3 := Nat.eq_of_beq_eq_true hrc
        simp only [hrc] at hf
        exact absurd hf (by simp)
      | array n =>
        have hrc : mm.2.2.2.2.1 = 3 := Nat.eq_of_beq_eq_true hrc
        simp only [hrc] at hf
        exact absurd hf (by simp)
      | long =>
        have hrc : mm.2.2.2.2.1 = 4 := Nat.eq_of_beq_eq_true hrc
        simp only [hrc] at hf
        exact absurd hf (by simp)
      | double =>
        have hrc : mm.2.2.2.2.1 = 5 := Nat.eq_of_beq_eq_true hrc
        simp only [hrc] at hf
        exact absurd hf (by simp)
      | _ => cases hrc
  · simp only [zs_ins] at hz
    obtain ⟨mt, x, hm', rfl, hf, hS'⟩ := zs_ret_inv hz
    cases hm.symm.trans hm'
    have hRr := (kr _ hS').symm
    intro H locs lsM cells slots hR hS hl hn g1 g2
    obtain ⟨h1, h2⟩ := cnt _ _ hRr cells slots g1 g2
    rw [mq _ _ hRr (by decide)]
    subst h1; subst h2; subst hRr
    have hf : mm.2.2.2.2.1 = 3 := by
      obtain ⟨h1, -⟩ := Bool.and_eq_true_iff.mp hf
      exact Nat.eq_of_beq_eq_true h1
    cases hty : meth.sig.returnType with
    | none => rw [hty, hf] at hrc; cases hrc
    | some ty =>
      rw [hty, hf] at hrc
      have hrt : (∃ n, ty = .object n) ∨ ∃ t, ty = .array t := by
        cases ty with
        | object n => exact Or.inl ⟨n, rfl⟩
        | array n => exact Or.inr ⟨n, rfl⟩
        | _ => cases hrc
      exact W.aret hx hb hty hrt (zc_ref_or x) (zx_fin (r := (1, (2, x), h)) hR hS) hS.2.2 hd hlocks
  · simp only [zs_ins] at hz
    obtain ⟨mt, hm', hz1⟩ := zo_o_inv hz
    cases hm.symm.trans hm'
    obtain ⟨h0, hz3⟩ := zo_g_inv hz1
    obtain ⟨h01, h02⟩ := Bool.and_eq_true_iff.mp h0
    have hr0 : mm.2.2.2.2.1 = 0 := Nat.eq_of_beq_eq_true h01
    have hst : st = [] := List.isEmpty_iff.mp h02
    subst hst
    have hRr := (kr _ (Option.some.inj hz3).symm).symm
    intro H locs lsM cells slots hR hS hl hn g1 g2
    obtain ⟨h1, h2⟩ := cnt _ _ hRr cells slots g1 g2
    rw [mq _ _ hRr (by decide)]
    subst h1; subst h2; subst hRr
    have hty : meth.sig.returnType = none := by
      cases hq : meth.sig.returnType with
      | none => rfl
      | some ty => rw [hq, hr0] at hrc; cases ty <;> cases hrc
    exact W.vret hx hb hty (zx_fin (r := (0, (0, 0), h)) hR hS) hS.2.2 hd hlocks
  · simp only [zs_ins] at hz
    obtain ⟨mt, x, hm', rfl, hf, hS'⟩ := zs_ret_inv hz
    cases hm.symm.trans hm'
    have hRr := (kr _ hS').symm
    intro H locs lsM cells slots hR hS hl hn g1 g2
    obtain ⟨h1, h2⟩ := cnt _ _ hRr cells slots g1 g2
    rw [mq _ _ hRr (by decide)]
    subst h1; subst h2; subst hRr
    have hf : mm.2.2.2.2.1 = 4 := Nat.eq_of_beq_eq_true hf
    have hty : meth.sig.returnType = some .long := by
      cases hq : meth.sig.returnType with
      | none => rw [hq, hf] at hrc; cases hrc
      | some ty =>
        rw [hq, hf] at hrc
        cases ty with
        | long => rfl
        | _ => cases hrc
    exact W.lret hx hb hty (zx_fin (r := (1, (1, x), h)) hR hS) hS.2.2 hd hlocks
  · simp only [zs_ins] at hz
    obtain ⟨mt, x, hm', rfl, hf, hS'⟩ := zs_ret_inv hz
    cases hm.symm.trans hm'
    have hRr := (kr _ hS').symm
    intro H locs lsM cells slots hR hS hl hn g1 g2
    obtain ⟨h1, h2⟩ := cnt _ _ hRr cells slots g1 g2
    rw [mq _ _ hRr (by decide)]
    subst h1; subst h2; subst hRr
    have hf : mm.2.2.2.2.1 = 5 := Nat.eq_of_beq_eq_true hf
    have hty : meth.sig.returnType = some .double := by
      cases hq : meth.sig.returnType with
      | none => rw [hq, hf] at hrc; cases hrc
      | some ty =>
        rw [hq, hf] at hrc
        cases ty with
        | double => rfl
        | _ => cases hrc
    exact W.dret hx hb hty (zx_fin (r := (1, (3, x), h)) hR hS) hS.2.2 hd hlocks
theorem zx_if {q : Bool} {H : Heap} {locs : List Loc} {lsM : Array Slot} {cells slots t f : Nat} {stM stG : List Value} {P : Prop} (hq : q = true ↔ P)
    (hi : (P → W p l e R s m args below meth c H locs cells slots Q (F0 m t lsM stM)) → (¬ P → W p l e R s m args below meth c H locs cells slots Q (F0 m f lsM stM)) → W p l e R s m args below meth c H locs cells slots Q (F0 m pc lsM stG))
    (kk : W p l e R s m args below meth c H locs cells slots Q (F0 m (if q = true then t else f) lsM stM)) : W p l e R s m args below meth c H locs cells slots Q (F0 m pc lsM stG) := by
  refine hi (fun hp => ?_) (fun hp => ?_)
  · rw [if_pos (hq.mpr hp)] at kk; exact kk
  · rw [if_neg (fun z => hp (hq.mp z))] at kk; exact kk
theorem zx_ifcond (C : zx_C p s m args meth c b pre D cI cL cQ E y mm) {cd : ClassFile.Cond} {o : Int} (hd : decode mm.2.1 pc = .ok (.ifCond cd o, 3)) (hj : zk_jump pc o a0 = true) (hz : zs_ins E y pc ls st h (.ifCond cd o) len a0 b0 v0 = some S)
    (kn : ∀ fr, S = .inl fr → zx_W p l e R s m args below meth c b pre D cI cL cQ Q c0 s0 fr) : zx_W p l e R s m args below meth c b pre D cI cL cQ Q c0 s0 (y, pc, ls, st, h) := by
  obtain ⟨hx, -, hb, -⟩ := C
  simp only [zs_ins] at hz
  obtain ⟨x, r, rfl, hz1⟩ := zo_1_inv hz
  have hz := zs_goto_inv hz1
  intro H locs lsM cells slots hR hS hl hn g1 g2
  have kk := kn _ hz H locs lsM cells slots hR hS hl hn g1 g2
  have hj := zk_jump_of hj
  cases cd with
  | eq => exact zx_if (P := Int32.ofInt x = 0) (by simp [zi_cmp]) (fun k1 k2 => lv_if_eq hx hb hd hj k1 k2) kk
  | ne => exact zx_if (P := Int32.ofInt x ≠ 0) (by simp [zi_cmp]) (fun k1 k2 => lv_if_ne hx hb hd hj k1 (fun z => k2 (fun z2 => z2 z))) kk
  | lt => exact zx_if (P := Int32.ofInt x < 0) (by simp [zi_cmp]) (fun k1 k2 => lv_if_lt hx hb hd hj k1 k2) kk
  | ge => exact zx_if (P := Int32.ofInt x ≥ 0) (by simp [zi_cmp]) (fun k1 k2 => lv_if_ge hx hb hd hj k1 k2) kk
  | gt => exact zx_if (P := Int32.ofInt x > 0) (by simp [zi_cmp]) (fun k1 k2 => lv_if_gt hx hb hd hj k1 k2) kk
  | le => exact zx_if (P := Int32.ofInt x ≤ 0) (by simp [zi_cmp]) (fun k1 k2 => lv_if_le hx hb hd hj k1 k2) kk
theorem zx_icmp (C : zx_C p s m args meth c b pre D cI cL cQ E y mm) {cd : ClassFile.Cond} {o : Int} (hd : decode mm.2.1 pc = .ok (.if_icmp cd o, 3)) (hj : zk_jump pc o a0 = true) (hz : zs_ins E y pc ls st h (.if_icmp cd o) len a0 b0 v0 = some S)
    (kn : ∀ fr, S = .inl fr → zx_W p l e R s m args below meth c b pre D cI cL cQ Q c0 s0 fr) : zx_W p l e R s m args below meth c b pre D cI cL cQ Q c0 s0 (y, pc, ls, st, h) := by
  obtain ⟨hx, -, hb, -⟩ := C
  simp only [zs_ins] at hz
  obtain ⟨x2, r2, rfl, hz2⟩ := zo_1_inv hz
  obtain ⟨x1, r1, rfl, hz1⟩ := zo_1_inv hz2
  have hz := zs_goto_inv hz1
  intro H locs lsM cells slots hR hS hl hn g1 g2
  have kk := kn _ hz H locs lsM cells slots hR hS hl hn g1 g2
  have hj := zk_jump_of hj
  cases cd with
  | eq => exact zx_if (P := Int32.ofInt x1 = Int32.ofInt x2) (by simp [zi_cmp]) (fun k1 k2 => lv_icmp_eq hx hb hd hj k1 k2) kk
  | ne => exact zx_if (P := Int32.ofInt x1 ≠ Int32.ofInt x2) (by simp [zi_cmp]) (fun k1 k2 => lv_icmp_ne hx hb hd hj k1 (fun z => k2 (fun z2 => z2 z))) kk
  | lt => exact zx_if (P := Int32.ofInt x1 < Int32.ofInt x2) (by simp [zi_cmp]) (fun k1 k2 => lv_icmp_lt hx hb hd hj k1 k2) kk
  | ge => exact zx_if (P := Int32.ofInt x1 ≥ Int32.ofInt x2) (by simp [zi_cmp]) (fun k1 k2 => lv_icmp_ge hx hb hd hj k1 k2) kk
  | gt => exact zx_if (P := Int32.ofInt x1 > Int32.ofInt x2) (by simp [zi_cmp]) (fun k1 k2 => lv_icmp_gt hx hb hd hj k1 k2) kk
  | le => exact zx_if (P := Int32.ofInt x1 ≤ Int32.ofInt x2) (by simp [zi_cmp]) (fun k1 k2 => lv_icmp_le hx hb hd hj k1 k2) kk
theorem zx_ifnull (C : zx_C p s m args meth c b pre D cI cL cQ E y mm) {o : Int} (hd : decode mm.2.1 pc = .ok (.ifnull o, 3)) (hj : zk_jump pc o a0 = true) (hz : zs_ins E y pc ls st h (.ifnull o) len a0 b0 v0 = some S)
    (kn : ∀ fr, S = .inl fr → zx_W p l e R s m args below meth c b pre D cI cL cQ Q c0 s0 fr) : zx_W p l e R s m args below meth c b pre D cI cL cQ Q c0 s0 (y, pc, ls, st, h) := by
  obtain ⟨hx, -, hb, -⟩ := C
  simp only [zs_ins] at hz
  obtain ⟨x, r, rfl, hz1⟩ := zo_1_inv hz
  have hz := zs_goto_inv hz1
  intro H locs lsM cells slots hR hS hl hn g1 g2
  have kk := kn _ hz H locs lsM cells slots hR hS hl hn g1 g2
  have hj := zk_jump_of hj
  show W p l e R s m args below meth c H locs cells slots Q (F0 m pc lsM (zc_ref b pre x :: r.map (zc_v b pre)))
  by_cases hn1 : x = -1
  · subst hn1
    exact lv_ifnullN hx hb hd hj kk
  · rw [if_neg (by simpa using hn1)] at kk
    rcases zc_ref_or (b := b) (pre := pre) x with h0 | ⟨a, h0⟩
    · unfold zc_ref at h0
      by_cases h1 : 0 ≤ x
      · rw [if_pos h1] at h0; cases h0
      · rw [if_neg h1, if_neg hn1] at h0; cases h0
    · rw [h0]
      exact lv_ifnull hx hb hd kk
theorem zx_ifnonnull (C : zx_C p s m args meth c b pre D cI cL cQ E y mm) {o : Int} (hd : decode mm.2.1 pc = .ok (.ifnonnull o, 3)) (hj : zk_jump pc o a0 = true) (hz : zs_ins E y pc ls st h (.ifnonnull o) len a0 b0 v0 = some S)
    (kn : ∀ fr, S = .inl fr → zx_W p l e R s m args below meth c b pre D cI cL cQ Q c0 s0 fr) : zx_W p l e R s m args below meth c b pre D cI cL cQ Q c0 s0 (y, pc, ls, st, h) := by
  obtain ⟨hx, -, hb, -⟩ := C
  simp only [zs_ins] at hz
  obtain ⟨x, r, rfl, hz1⟩ := zo_1_inv hz
  have hz := zs_goto_inv hz1
  intro H locs lsM cells slots hR hS hl hn g1 g2
  have kk := kn _ hz H locs lsM cells slots hR hS hl hn g1 g2
  have hj := zk_jump_of hj
  show W p l e R s m args below meth c H locs cells slots Q (F0 m pc lsM (zc_ref b pre x :: r.map (zc_v b pre)))
  by_cases hn1 : x = -1
  · subst hn1
    exact lv_ifnonnullN hx hb hd kk
  · rw [if_pos (by simpa using hn1)] at kk
    rcases zc_ref_or (b := b) (pre := pre) x with h0 | ⟨a, h0⟩
    · unfold zc_ref at h0
      by_cases h1 : 0 ≤ x
      · rw [if_pos h1] at h0; cases h0
      · rw [if_neg h1, if_neg hn1] at h0; cases h0
    · rw [h0]
      exact lv_ifnonnull hx hb hd hj kk
theorem zx_tsw (C : zx_C p s m args meth c b pre D cI cL cQ E y mm) {d lo hi : Int} {offs : Array Int} (hd : decode mm.2.1 pc = .ok (.tableswitch d lo hi offs, len)) (hz : zs_ins E y pc ls st h (.tableswitch d lo hi offs) len a0 b0 v0 = some S)
    (kn : ∀ fr, S = .inl fr → zx_W p l e R s m args below meth c b pre D cI cL cQ Q c0 s0 fr) : zx_W p l e R s m args below meth c b pre D cI cL cQ Q c0 s0 (y, pc, ls, st, h) := by
  obtain ⟨hx, -, hb, -⟩ := C
  simp only [zs_ins] at hz
  obtain ⟨x, r, rfl, hz1⟩ := zo_1_inv hz
  intro H locs lsM cells slots hR hS hl hn g1 g2
  by_cases h1 : (decide ((Int32.ofInt x).toInt < lo) || decide (hi < (Int32.ofInt x).toInt)) = true
  · rw [h1, cond_true] at hz1
    obtain ⟨h2, hz2⟩ := zo_g_inv hz1
    have h2 : 0 ≤ (pc : Int) + d := of_decide_eq_true h2
    have hz := zs_nx_inv hz2
    have kk := kn _ hz H locs lsM cells slots hR hS hl hn g1 g2
    refine lv_tableOut hx hb hd ?_ (Int.toNat_of_nonneg h2).symm kk
    simpa using h1
  · have h1' := h1
    rw [Bool.not_eq_true] at h1
    rw [h1, cond_false] at hz1
    obtain ⟨o, ho, hz3⟩ := zo_o_inv hz1
    obtain ⟨h2, hz2⟩ := zo_g_inv hz3
    have h2 : 0 ≤ (pc : Int) + o := of_decide_eq_true h2
    have hz := zs_nx_inv hz2
    have kk := kn _ hz H locs lsM cells slots hR hS hl hn g1 g2
    simp only [Bool.or_eq_true, decide_eq_true_eq, not_or] at h1'
    exact lv_tableIn hx hb hd h1'.1 h1'.2 ho (Int.toNat_of_nonneg h2).symm kk
theorem zi_i2l_eq (x : Int) : (Int32.ofInt x).toInt64 = Int64.ofInt (zi_i2l x) := by
  unfold zi_i2l
  rw [← Int64.toInt_inj, Int32.toInt_toInt64, Int64.toInt_ofInt_of_le (by have := Int32.le_toInt (Int32.ofInt x); omega) (by have := Int32.toInt_lt (Int32.ofInt x); omega)]
theorem zk_len {n k : Nat} (h : Nat.beq n k = true) : n = k := Nat.eq_of_beq_eq_true h
theorem zk_wr_cls : ∃ mm, zm_at zk_wr0 = some mm ∧ mm.1.cls = "PolyLatheModel" := ⟨_, rfl, rfl⟩
theorem zm_256 {t : Nat} {mt : zm_M} (h : zm_at t = some mt) : t < 272 := by
  by_cases h1 : t < 272
  · exact h1
  · have e : zm_all[t / 16]? = none := List.getElem?_eq_none (by have : zm_all.length = 17 := rfl; omega)
    unfold zm_at at h
    rw [e] at h
    cases h
theorem zk_noh0 {t : Nat} {mt : zm_M} (hm : zm_at t = some mt) (hr : mt.2.2.2.2.2.2.1 ≠ 99) : List.isEmpty (zk_hh t) = true := by
  have h1 := zk_objs_all t (zm_256 hm)
  unfold zk_objs at h1
  rw [hm] at h1
  rcases Bool.or_eq_true_iff.mp h1 with h2 | h2
  · exact absurd (zk_len h2) hr
  · exact h2
theorem zk_noh {t : Nat} {mt : zm_M} {as : List zv_V} (hm : zm_at t = some mt) (hr : zs_recv h mt.2.2.2.2.2.2.1 as = true) : List.isEmpty (zk_hh t) = true := zk_noh0 hm (zs_recv_ne hr)
theorem zk_nohv {t : Nat} {mt : zm_M} {as : List zv_V} (hm : zm_at t = some mt) (hr : (Nat.blt mt.2.2.2.2.2.2.1 60 && zs_recv h mt.2.2.2.2.2.2.1 as || zs_recvS mt.2.2.2.2.2.2.1 as) = true) : List.isEmpty (zk_hh t) = true := by
  rcases Bool.or_eq_true_iff.mp hr with h1 | h1
  · exact zk_noh hm (Bool.and_eq_true_iff.mp h1).2
  · obtain ⟨as', -, h60⟩ := zs_recvS_inv h1
    exact zk_noh0 hm (by omega)
theorem zx_step (C : zx_C p s m args meth c b pre D cI cL cQ E y mm) (hF : 1 ≤ R.frames) (hL : 40 ≤ R.locals) (hcs : ∀ cells slots : Nat, cells + c0 = h.length → slots + s0 = zx_sl h → cells ≤ R.cells ∧ slots ≤ R.slots) {ins : Instr} (hd : decode mm.2.1 pc = .ok (ins, len)) (hk : zk_ins mm mm.1 pc ins len a0 b0 w0 v0 = true) (hz : zs_ins E y pc ls st h ins len a0 b0 v0 = some S)
    (hret : (ins = .ireturn ∨ ins = .areturn ∨ ins = .return_ ∨ ins = .lreturn ∨ ins = .dreturn) → zx_W p l e R s m args below meth c b pre D cI cL cQ Q c0 s0 (y, pc, ls, st, h))
    (hroom : ∀ fr, S = .inl fr → fr.2.2.2.2.length ≤ R.cells + c0 ∧ zx_sl fr.2.2.2.2 ≤ R.slots + s0)
    (hthr : ∀ ix, ins = .new ix → 100 ≤ a0 → zk_throw mm pc ix a0 w0 = true → zx_W p l e R s m args below meth c b pre D cI cL cQ Q c0 s0 (y, pc, ls, st, h))
    (kn : ∀ fr, S = .inl fr → zx_W p l e R s m args below meth c b pre D cI cL cQ Q c0 s0 fr)
    (kc : ∀ t as g, S = .inr (.inl (t, as, g)) → zx_callee p l e R s m args below meth c b pre D cI cL cQ Q c0 s0 E t as g g.2.2.2.2) : zx_W p l e R s m args below meth c b pre D cI cL cQ Q c0 s0 (y, pc, ls, st, h) := by
  have C' := C
  obtain ⟨hx, hm, hb, hr, hml, hown, hts, hlocks, hnm, hK, hE, hbs, hG, htab⟩ := C'
  cases ins with
  | ireturn => exact hret (Or.inl rfl)
  | areturn => exact hret (Or.inr (Or.inl rfl))
  | return_ => exact hret (Or.inr (Or.inr (Or.inl rfl)))
  | lreturn => exact hret (Or.inr (Or.inr (Or.inr (Or.inl rfl))))
  | dreturn => exact hret (Or.inr (Or.inr (Or.inr (Or.inr rfl))))
  | iconst n =>
    simp only [zk_ins, Bool.and_eq_true, decide_eq_true_eq] at hk
    obtain ⟨rfl, h2⟩ := hk
    have h2 := zk_len h2
    subst h2
    simp only [zs_ins] at hz
    have hz := zs_nx_inv hz
    intro H locs lsM cells slots hR hS hl hn g1 g2
    exact lv_iconst hx hb hd rfl (kn _ hz H locs lsM cells slots hR hS hl hn g1 g2)
  | bipush n =>
    simp only [zk_ins, Bool.and_eq_true, decide_eq_true_eq] at hk
    obtain ⟨h1, h2⟩ := hk
    have h2 := zk_len h2
    subst h2
    simp only [zs_ins] at hz
    have hz := zs_nx_inv hz
    intro H locs lsM cells slots hR hS hl hn g1 g2
    exact lv_bipush hx hb hd h1 (kn _ hz H locs lsM cells slots hR hS hl hn g1 g2)
  | sipush n =>
    simp only [zk_ins, Bool.and_eq_true, decide_eq_true_eq] at hk
    obtain ⟨h1, h2⟩ := hk
    have h2 := zk_len h2
    subst h2
    simp only [zs_ins] at hz
    have hz := zs_nx_inv hz
    intro H locs lsM cells slots hR hS hl hn g1 g2
    exact lv_sipush hx hb hd h1 (kn _ hz H locs lsM cells slots hR hS hl hn g1 g2)
  | ldc n =>
    simp only [zk_ins, Bool.and_eq_true] at hk
    obtain ⟨h2, h1⟩ := hk
    have h2 := zk_len h2
    subst h2
    simp only [zs_ins] at hz
    cases h3 : Nat.beq a0 0 with
    | true =>
      rw [h3, cond_true] at hz
      have h3 := zk_len h3
      subst h3
      have hz := zs_nx_inv hz
      intro H locs lsM cells slots hR hS hl hn g1 g2
      exact lv_ldc hx hb hown (hts _ (zk_w_mem (by simpa using h1))) hd (kn _ hz H locs lsM cells slots hR hS hl hn g1 g2)
    | false =>
      rw [h3, cond_false] at hz
      obtain ⟨h4, hz2⟩ := zo_g_inv hz
      obtain ⟨h4, h5⟩ := Bool.and_eq_true_iff.mp h4
      have h4 := zk_len h4
      have h5 := zk_len h5
      subst h4; subst h5
      have hz := zs_nx_inv hz2
      obtain ⟨mm', hm', hcls⟩ := zk_wr_cls
      cases hm.symm.trans hm'
      rw [hcls] at hown
      intro H locs lsM cells slots hR hS hl hn g1 g2
      have kk := kn _ hz H locs lsM cells slots hR hS hl hn g1 g2
      exact va_ldcS hx hb hown hG.2.2.2.2 hd kk
  | ldc_w n =>
    simp only [zk_ins, Bool.and_eq_true] at hk
    obtain ⟨h2, h1⟩ := hk
    have h2 := zk_len h2
    subst h2
    simp only [zs_ins] at hz
    obtain ⟨h3, hz2⟩ := zo_g_inv hz
    have h3 := zk_len h3
    subst h3
    have hz := zs_nx_inv hz2
    intro H locs lsM cells slots hR hS hl hn g1 g2
    exact lv_ldcw hx hb hown (hts _ (zk_w_mem (by simpa using h1))) hd (kn _ hz H locs lsM cells slots hR hS hl hn g1 g2)
  | iload_n n =>
    simp only [zk_ins, Bool.and_eq_true, decide_eq_true_eq] at hk
    obtain ⟨h1, h2⟩ := hk
    have h2 := zk_len h2
    subst h2
    simp only [zs_ins] at hz
    exact zx_load1 C hz (by decide) (fun lsM H locs cells slots x rest hv k => lv_iload_n hx hb hd h1 hv k) kn
  | iload n =>
    simp only [zk_ins, Bool.and_eq_true] at hk
    obtain ⟨h1, h2⟩ := hk
    have h1 := zk_len h1
    have h2 := zk_len h2
    subst h1; subst h2
    simp only [zs_ins] at hz
    exact zx_load1 C hz (by decide) (fun lsM H locs cells slots x rest hv k => lv_iload hx hb hd hv k) kn
  | aload_n n =>
    simp only [zk_ins, Bool.and_eq_true, decide_eq_true_eq] at hk
    obtain ⟨h1, h2⟩ := hk
    have h2 := zk_len h2
    subst h2
    simp only [zs_ins] at hz
    refine zx_load1 C hz (by decide) (fun lsM H locs cells slots x rest hv k => ?_) kn
    rcases (show zc_v b pre (2, x) = .null ∨ ∃ a, zc_v b pre (2, x) = .ref a from zc_ref_or x) with h0 | ⟨a, h0⟩
    · rw [h0] at hv k; exact lv_aload_nN hx hb hd h1 hv k
    · rw [h0] at hv k; exact lv_aload_n hx hb hd h1 hv k
  | aload n =>
    simp only [zk_ins, Bool.and_eq_true] at hk
    obtain ⟨h1, h2⟩ := hk
    have h1 := zk_len h1
    have h2 := zk_len h2
    subst h1; subst h2
    simp only [zs_ins] at hz
    refine zx_load1 C hz (by decide) (fun lsM H locs cells slots x rest hv k => ?_) kn
    rcases (show zc_v b pre (2, x) = .null ∨ ∃ a, zc_v b pre (2, x) = .ref a from zc_ref_or x) with h0 | ⟨a, h0⟩
    · rw [h0] at hv k; exact lv_aloadN hx hb hd hv k
    · rw [h0] at hv k; exact lv_aload hx hb hd hv k
  | istore_n n =>
    simp only [zk_ins, Bool.and_eq_true, decide_eq_true_eq] at hk
    obtain ⟨h1, h2⟩ := hk
    have h2 := zk_len h2
    subst h2
    simp only [zs_ins] at hz
    exact zx_store1 C hz (fun lsM H locs cells slots x rest lv hv hn k => lv_istore_n hx hb hd h1 hv hn rfl k) kn
  | istore n =>
    simp only [zk_ins, Bool.and_eq_true] at hk
    obtain ⟨h1, h2⟩ := hk
    have h1 := zk_len h1
    have h2 := zk_len h2
    subst h1; subst h2
    simp only [zs_ins] at hz
    exact zx_store1 C hz (fun lsM H locs cells slots x rest lv hv hn k => lv_istore hx hb hd hv hn rfl k) kn
  | astore_n n =>
    simp only [zk_ins, Bool.and_eq_true, decide_eq_true_eq] at hk
    obtain ⟨h1, h2⟩ := hk
    have h2 := zk_len h2
    subst h2
    simp only [zs_ins] at hz
    refine zx_store1 C hz (fun lsM H locs cells slots x rest lv hv hn k => ?_) kn
    rcases (show zc_v b pre (2, x) = .null ∨ ∃ a, zc_v b pre (2, x) = .ref a from zc_ref_or x) with h0 | ⟨a, h0⟩
    · rw [h0] at k ⊢; exact lv_astore_nN hx hb hd h1 hv hn rfl k
    · rw [h0] at k ⊢; exact lv_astore_n hx hb hd h1 hv hn rfl k
  | astore n =>
    simp only [zk_ins, Bool.and_eq_true] at hk
    obtain ⟨h1, h2⟩ := hk
    have h1 := zk_len h1
    have h2 := zk_len h2
    subst h1; subst h2
    simp only [zs_ins] at hz
    refine zx_store1 C hz (fun lsM H locs cells slots x rest lv hv hn k => ?_) kn
    rcases (show zc_v b pre (2, x) = .null ∨ ∃ a, zc_v b pre (2, x) = .ref a from zc_ref_or x) with h0 | ⟨a, h0⟩
    · rw [h0] at k ⊢; exact lv_astoreN hx hb hd hv hn rfl k
    · rw [h0] at k ⊢; exact lv_astore hx hb hd hv hn rfl k
  | iinc n k =>
    simp only [zk_ins, Bool.and_eq_true, decide_eq_true_eq] at hk
    obtain ⟨⟨h1, rfl⟩, h2⟩ := hk
    have h1 := zk_len h1
    have h2 := zk_len h2
    subst h1; subst h2
    simp only [zs_ins] at hz
    obtain ⟨⟨t, x⟩, hv, hz1⟩ := zo_o_inv hz
    obtain ⟨h3, hz2⟩ := zo_g_inv hz1
    obtain ⟨h3, h4⟩ := Bool.and_eq_true_iff.mp h3
    have h3 : t = 0 := zk_len h3
    subst h3
    have hz := zs_nx_inv hz2
    intro H locs lsM cells slots hR hS hl hn g1 g2
    have hn2 : ls.length = c.maxLocals := hn
    have hi : n < ls.length := (List.getElem?_eq_some_iff.mp hv).1
    obtain ⟨k0, hk0⟩ := List.getElem?_of_mem (zx_lv_at (b := b) (pre := pre) hv (by simp))
    refine lv_iinc hx hb hd hl hk0 rfl (by omega) rfl (fun ls' h' => kn _ hz H locs ls' cells slots hR hS (zx_stored h4 ls' _ (by rw [← Int32.ofInt_add] at h'; exact h')) (by rw [List.length_set]; exact hn) g1 g2)
  | iadd =>
    have h2 : len = 1 := zk_len hk
    subst h2
    exact zx_int2 (g := (· + ·)) (fun u v => Int32.ofInt_add u v) (show zs_int2 _ y pc ls st h = some S from hz) (fun lsM H locs cells slots u v rest k => lv_iadd hx hb hd k) kn
  | isub =>
    have h2 : len = 1 := zk_len hk
    subst h2
    exact zx_int2 (g := (· - ·)) (fun u v => Int32.ofInt_sub u v) (show zs_int2 _ y pc ls st h = some S from hz) (fun lsM H locs cells slots u v rest k => lv_isub hx hb hd k) kn
  | imul =>
    have h2 : len = 1 := zk_len hk
    subst h2
    exact zx_int2 (g := (· * ·)) (fun u v => Int32.ofInt_mul u v) (show zs_int2 _ y pc ls st h = some S from hz) (fun lsM H locs cells slots u v rest k => lv_imul hx hb hd k) kn
  | iand =>
    have h2 : len = 1 := zk_len hk
    subst h2
    exact zx_int2 (g := (· &&& ·)) (fun u v => Int32.ofInt_toInt _) (show zs_int2 zi_and y pc ls st h = some S from hz) (fun lsM H locs cells slots u v rest k => lv_iand hx hb hd k) kn
  | ixor =>
    have h2 : len = 1 := zk_len hk
    subst h2
    exact zx_int2 (g := (· ^^^ ·)) (fun u v => Int32.ofInt_toInt _) (show zs_int2 zi_xor y pc ls st h = some S from hz) (fun lsM H locs cells slots u v rest k => lv_ixor hx hb hd k) kn
  | ishr =>
    have h2 : len = 1 := zk_len hk
    subst h2
    exact zx_int2 (g := fun u v => u >>> (v &&& 31)) (fun u v => Int32.ofInt_toInt _) (show zs_int2 zi_shr y pc ls st h = some S from hz) (fun lsM H locs cells slots u v rest k => lv_ishr hx hb hd k) kn
  | irem =>
    have h2 : len = 1 := zk_len hk
    subst h2
    simp only [zs_ins] at hz
    obtain ⟨x2, r2, rfl, hz2⟩ := zo_1_inv hz
    obtain ⟨x1, r1, rfl, hz1⟩ := zo_1_inv hz2
    obtain ⟨h3, hz3⟩ := zo_g_inv hz1
    have h3 : ¬ Int32.ofInt x2 = 0 := by simpa using h3
    have hz := zs_nx_inv hz3
    intro H locs lsM cells slots hR hS hl hn g1 g2
    have kk := kn _ hz H locs lsM cells slots hR hS hl hn g1 g2
    refine lv_irem hx hb hd h3 ?_
    have kk : W p l e R s m args below meth c H locs cells slots Q (F0 m (pc + 1) lsM (.int (Int32.ofInt (zi_rem x1 x2)) :: r1.map (zc_v b pre))) := kk
    unfold zi_rem at kk
    rw [Int32.ofInt_toInt] at kk
    exact kk
  | idiv =>
    have h2 : len = 1 := zk_len hk
    subst h2
    simp only [zs_ins] at hz
    obtain ⟨x2, r2, rfl, hz2⟩ := zo_1_inv hz
    obtain ⟨x1, r1, rfl, hz1⟩ := zo_1_inv hz2
    obtain ⟨h3, hz3⟩ := zo_g_inv hz1
    have h3 : ¬ Int32.ofInt x2 = 0 := by simpa using h3
    have hz := zs_nx_inv hz3
    intro H locs lsM cells slots hR hS hl hn g1 g2
    have kk := kn _ hz H locs lsM cells slots hR hS hl hn g1 g2
    refine lv_idiv hx hb hd h3 ?_
    have kk : W p l e R s m args below meth c H locs cells slots Q (F0 m (pc + 1) lsM (.int (Int32.ofInt (zi_div x1 x2)) :: r1.map (zc_v b pre))) := kk
    unfold zi_div at kk
    rw [Int32.ofInt_toInt] at kk
    exact kk
  | ineg =>
    have h2 : len = 1 := zk_len hk
    subst h2
    simp only [zs_ins] at hz
    obtain ⟨x1, r1, rfl, hz1⟩ := zo_1_inv hz
    have hz := zs_nx_inv hz1
    intro H locs lsM cells slots hR hS hl hn g1 g2
    have kk : W p l e R s m args below meth c H locs cells slots Q (F0 m (pc + 1) lsM (.int (Int32.ofInt (-x1)) :: r1.map (zc_v b pre))) := kn _ hz H locs lsM cells slots hR hS hl hn g1 g2
    rw [Int32.ofInt_neg] at kk
    exact lv_ineg hx hb hd kk
  | dup =>
    have h2 : len = 1 := zk_len hk
    subst h2
    simp only [zs_ins] at hz
    obtain ⟨v, hv, hz1⟩ := zo_o_inv hz
    obtain ⟨h3, hz2⟩ := zo_g_inv hz1
    have hz := zs_nx_inv hz2
    cases st with
    | nil => cases hv
    | cons v' r =>
      cases hv
      intro H locs lsM cells slots hR hS hl hn g1 g2
      exact lv_dup hx hb hd (zc_v_cat (by simpa using h3)) (kn _ hz H locs lsM cells slots hR hS hl hn g1 g2)
  | pop =>
    have h2 : len = 1 := zk_len hk
    subst h2
    simp only [zs_ins] at hz
    obtain ⟨v, hv, hz1⟩ := zo_o_inv hz
    obtain ⟨h3, hz2⟩ := zo_g_inv hz1
    have hz := zs_nx_inv hz2
    cases st with
    | nil => cases hv
    | cons v' r =>
      cases hv
      intro H locs lsM cells slots hR hS hl hn g1 g2
      exact lv_pop hx hb hd (zc_v_cat (by simpa using h3)) (kn _ hz H locs lsM cells slots hR hS hl hn g1 g2)
  | goto o =>
    simp only [zk_ins, Bool.and_eq_true] at hk
    obtain ⟨h1, h2⟩ := hk
    have h2 := zk_len h2
    subst h2
    simp only [zs_ins] at hz
    have hz := zs_nx_inv hz
    intro H locs lsM cells slots hR hS hl hn g1 g2
    exact lv_goto hx hb hd (zk_jump_of h1) (kn _ hz H locs lsM cells slots hR hS hl hn g1 g2)
  | ifCond cd o =>
    simp only [zk_ins, Bool.and_eq_true] at hk
    obtain ⟨h1, h2⟩ := hk
    have h2 := zk_len h2
    subst h2
    exact zx_ifcond C hd h1 hz kn
  | if_icmp cd o =>
    simp only [zk_ins, Bool.and_eq_true] at hk
    obtain ⟨h1, h2⟩ := hk
    have h2 := zk_len h2
    subst h2
    exact zx_icmp C hd h1 hz kn
  | ifnull o =>
    simp only [zk_ins, Bool.and_eq_true] at hk
    obtain ⟨h1, h2⟩ := hk
    have h2 := zk_len h2
    subst h2
    exact zx_ifnull C hd h1 hz kn
  | ifnonnull o =>
    simp only [zk_ins, Bool.and_eq_true] at hk
    obtain ⟨h1, h2⟩ := hk
    have h2 := zk_len h2
    subst h2
    exact zx_ifnonnull C hd h1 hz kn
  | aconst_null =>
    have h2 : len = 1 := zk_len hk
    subst h2
    simp only [zs_ins] at hz
    have hz := zs_nx_inv hz
    intro H locs lsM cells slots hR hS hl hn g1 g2
    exact lv_null hx hb hd (kn _ hz H locs lsM cells slots hR hS hl hn g1 g2)
  | tableswitch d lo hi offs => exact zx_tsw C hd hz kn
  | iaload =>
    have h2 : len = 1 := zk_len hk
    subst h2
    exact zx_iaload C hd hz kn
  | iastore =>
    have h2 : len = 1 := zk_len hk
    subst h2
    exact zx_iastore C hd hz kn
  | arraylength =>
    have h2 : len = 1 := zk_len hk
    subst h2
    exact zx_alen C hd hz kn
  | aaload =>
    have h2 : len = 1 := zk_len hk
    subst h2
    exact zx_aaload C hd hz kn
  | aastore =>
    have h2 : len = 1 := zk_len hk
    subst h2
    exact zx_aastore C hd hz kn
  | getfield ix =>
    simp only [zk_ins, Bool.and_eq_true] at hk
    obtain ⟨h2, h1⟩ := hk
    have h2 := zk_len h2
    subst h2
    cases h60 : Nat.beq a0 60 with
    | true =>
      rw [h60, cond_true] at h1
      exact zx_getfieldS C h60 hd h1 hz kn
    | false =>
      rw [h60, cond_false] at h1
      exact zx_getfield C h60 hd h1 hz kn
  | getstatic ix =>
    simp only [zk_ins, Bool.and_eq_true] at hk
    obtain ⟨h2, h1⟩ := hk
    have h2 := zk_len h2
    subst h2
    exact zx_getstatic C hd h1 hz kn
  | baload =>
    have h2 : len = 1 := zk_len hk
    subst h2
    exact zx_baload C hd hz kn
  | i2c =>
    have h2 : len = 1 := zk_len hk
    subst h2
    simp only [zs_ins] at hz
    obtain ⟨x1, r1, rfl, hz1⟩ := zo_1_inv hz
    obtain ⟨hx48, hz2⟩ := zo_g_inv hz1
    have hx48 : x1 = 48 := of_decide_eq_true hx48
    subst hx48
    have hz := zs_nx_inv hz2
    intro H locs lsM cells slots hR hS hl hn g1 g2
    exact lv_i2c hx hb hd (x := Int32.ofInt 48) (v := Int32.ofInt 48) (by decide) (kn _ hz H locs lsM cells slots hR hS hl hn g1 g2)
  | putfield ix =>
    simp only [zk_ins, Bool.and_eq_true] at hk
    obtain ⟨⟨h2, h1⟩, h3⟩ := hk
    have h2 := zk_len h2
    subst h2
    exact zx_putfield C hd h1 h3 hz kn
  | new ix =>
    simp only [zk_ins, Bool.and_eq_true] at hk
    obtain ⟨h2, h1⟩ := hk
    have h2 := zk_len h2
    subst h2
    simp only [zs_ins] at hz
    by_cases hq : Nat.ble 100 a0 = true
    · rw [hq, cond_true] at h1
      exact hthr ix rfl (Nat.le_of_ble_eq_true hq) h1
    · rw [Bool.not_eq_true] at hq
      rw [hq, cond_false] at h1 hz
      exact zx_new C hd h1 hz hroom kn
  | newarray t =>
    simp only [zk_ins, Bool.and_eq_true, Bool.or_eq_true, decide_eq_true_eq] at hk
    obtain ⟨h2, h1⟩ := hk
    have h2 := zk_len h2
    subst h2
    rcases h1 with ⟨rfl, h3⟩ | ⟨rfl, h3⟩
    · exact zx_newarray C hd h3 hz hroom kn
    · exact zx_newarrayL C hd h3 hz hroom kn
  | lconst n =>
    simp only [zk_ins, Bool.and_eq_true, decide_eq_true_eq] at hk
    obtain ⟨h1, h2⟩ := hk
    have h2 := zk_len h2
    subst h2
    simp only [zs_ins] at hz
    have hz := zs_nx_inv hz
    intro H locs lsM cells slots hR hS hl hn g1 g2
    exact lv_lconst hx hb hd (by rw [← h1]; exact Int64.ofInt_eq_ofNat.symm) (kn _ hz H locs lsM cells slots hR hS hl hn g1 g2)
  | dconst n =>
    have h2 : len = 1 := zk_len hk
    subst h2
    simp only [zs_ins] at hz
    obtain ⟨h3, hz2⟩ := zo_g_inv hz
    have h3 : n = 0 := of_decide_eq_true h3
    subst h3
    have hz := zs_nx_inv hz2
    intro H locs lsM cells slots hR hS hl hn g1 g2
    exact lv_dconst0 hx hb hd (kn _ hz H locs lsM cells slots hR hS hl hn g1 g2)
  | ldc2_w n =>
    simp only [zk_ins, Bool.and_eq_true] at hk
    obtain ⟨h2, h1⟩ := hk
    have h2 := zk_len h2
    subst h2
    simp only [zs_ins] at hz
    have hz := zs_nx_inv hz
    intro H locs lsM cells slots hR hS hl hn g1 g2
    exact lv_ldc2 hx hb hown (hts _ (zk_w_mem h1)) hd (kn _ hz H locs lsM cells slots hR hS hl hn g1 g2)
  | lload_n n =>
    simp only [zk_ins, Bool.and_eq_true, decide_eq_true_eq] at hk
    obtain ⟨h1, h2⟩ := hk
    have h2 := zk_len h2
    subst h2
    simp only [zs_ins] at hz
    exact zx_load1 C hz (by decide) (fun lsM H locs cells slots x rest hv k => lv_lload_n hx hb hd h1 hv k) kn
  | dload_n n =>
    simp only [zk_ins, Bool.and_eq_true, decide_eq_true_eq] at hk
    obtain ⟨h1, h2⟩ := hk
    have h2 := zk_len h2
    subst h2
    simp only [zs_ins] at hz
    exact zx_load1 C hz (by decide) (fun lsM H locs cells slots x rest hv k => lv_dload_n hx hb hd h1 hv k) kn
  | lload n =>
    simp only [zk_ins, Bool.and_eq_true] at hk
    obtain ⟨h1, h2⟩ := hk
    have h1 := zk_len h1
    have h2 := zk_len h2
    subst h1; subst h2
    simp only [zs_ins] at hz
    exact zx_load1 C hz (by decide) (fun lsM H locs cells slots x rest hv k => lv_lload hx hb hd hv k) kn
  | dload n =>
    simp only [zk_ins, Bool.and_eq_true] at hk
    obtain ⟨h1, h2⟩ := hk
    have h1 := zk_len h1
    have h2 := zk_len h2
    subst h1; subst h2
    simp only [zs_ins] at hz
    exact zx_load1 C hz (by decide) (fun lsM H locs cells slots x rest hv k => lv_dload hx hb hd hv k) kn
  | lstore_n n =>
    simp only [zk_ins, Bool.and_eq_true, decide_eq_true_eq] at hk
    obtain ⟨h1, h2⟩ := hk
    have h2 := zk_len h2
    subst h2
    simp only [zs_ins] at hz
    exact zx_store2 C hz (fun lsM H locs cells slots x rest lv hv hn k => lv_lstore_n hx hb hd h1 hv hn rfl k) kn
  | dstore_n n =>
    simp only [zk_ins, Bool.and_eq_true, decide_eq_true_eq] at hk
    obtain ⟨h1, h2⟩ := hk
    have h2 := zk_len h2
    subst h2
    simp only [zs_ins] at hz
    exact zx_store2 C hz (fun lsM H locs cells slots x rest lv hv hn k => lv_dstore_n hx hb hd h1 hv hn rfl k) kn
  | lstore n =>
    simp only [zk_ins, Bool.and_eq_true] at hk
    obtain ⟨h1, h2⟩ := hk
    have h1 := zk_len h1
    have h2 := zk_len h2
    subst h1; subst h2
    simp only [zs_ins] at hz
    exact zx_store2 C hz (fun lsM H locs cells slots x rest lv hv hn k => lv_lstore hx hb hd hv hn rfl k) kn
  | dstore n =>
    simp only [zk_ins, Bool.and_eq_true] at hk
    obtain ⟨h1, h2⟩ := hk
    have h1 := zk_len h1
    have h2 := zk_len h2
    subst h1; subst h2
    simp only [zs_ins] at hz
    exact zx_store2 C hz (fun lsM H locs cells slots x rest lv hv hn k => lv_dstore hx hb hd hv hn rfl k) kn
  | ladd =>
    have h2 : len = 1 := zk_len hk
    subst h2
    exact zx_long2 (g := (· + ·)) (fun u v => Int64.ofInt_add u v) (show zs_long2 _ y pc ls st h = some S from hz) (fun lsM H locs cells slots u v rest k => lv_ladd hx hb hd k) kn
  | lmul =>
    have h2 : len = 1 := zk_len hk
    subst h2
    exact zx_long2 (g := (· * ·)) (fun u v => Int64.ofInt_mul u v) (show zs_long2 _ y pc ls st h = some S from hz) (fun lsM H locs cells slots u v rest k => lv_lmul hx hb hd k) kn
  | i2l =>
    have h2 : len = 1 := zk_len hk
    subst h2
    simp only [zs_ins] at hz
    obtain ⟨x1, r1, rfl, hz1⟩ := zo_1_inv hz
    have hz := zs_nx_inv hz1
    intro H locs lsM cells slots hR hS hl hn g1 g2
    exact lv_i2l hx hb hd (zi_i2l_eq x1) (kn _ hz H locs lsM cells slots hR hS hl hn g1 g2)
  | lcmp =>
    have h2 : len = 1 := zk_len hk
    subst h2
    simp only [zs_ins] at hz
    obtain ⟨x2, r2, rfl, hz2⟩ := zo_1_inv hz
    obtain ⟨x1, r1, rfl, hz1⟩ := zo_1_inv hz2
    have hz := zs_nx_inv hz1
    intro H locs lsM cells slots hR hS hl hn g1 g2
    have kk : W p l e R s m args below meth c H locs cells slots Q (F0 m (pc + 1) lsM (.int (Int32.ofInt (zi_lcmp x1 x2)) :: r1.map (zc_v b pre))) := kn _ hz H locs lsM cells slots hR hS hl hn g1 g2
    unfold zi_lcmp at kk
    rw [Int32.ofInt_toInt] at kk
    exact W.lcmp hx hb hd kk
  | dcmp op =>
    have h2 : len = 1 := zk_len hk
    subst h2
    simp only [zs_ins] at hz
    obtain ⟨x2, r2, rfl, hz2⟩ := zo_1_inv hz
    obtain ⟨x1, r1, rfl, hz1⟩ := zo_1_inv hz2
    obtain ⟨h3, hz3⟩ := zo_g_inv hz1
    simp only [Bool.and_eq_true, decide_eq_true_eq] at h3
    obtain ⟨rfl, rfl⟩ := h3
    have hz := zs_nx_inv hz3
    intro H locs lsM cells slots hR hS hl hn g1 g2
    refine lv_dcmp hx hb hd ?_
    have e0 : Op.cmpValue (FP.dcmp (UInt64.ofNat (0 : Int).toNat) (UInt64.ofNat (0 : Int).toNat)) op = 0 := by cases op <;> decide +kernel
    show W p l e R s m args below meth c H locs cells slots Q (F0 m (pc + 1) lsM (.int (Op.cmpValue (FP.dcmp (UInt64.ofNat (0 : Int).toNat) (UInt64.ofNat (0 : Int).toNat)) op) :: r1.map (zc_v b pre)))
    rw [e0]
    exact kn _ hz H locs lsM cells slots hR hS hl hn g1 g2
  | iushr =>
    have h2 : len = 1 := zk_len hk
    subst h2
    exact zx_int2 (g := fun u v => (u.toUInt32 >>> (v.toUInt32 &&& Int32.toUInt32 31)).toInt32) (fun u v => Int32.ofInt_toInt _) (show zs_int2 zi_ushr y pc ls st h = some S from hz) (fun lsM H locs cells slots u v rest k => lv_iushr hx hb hd rfl k) kn
  | laload =>
    have h2 : len = 1 := zk_len hk
    subst h2
    exact zx_laload C hd hz kn
  | lastore =>
    have h2 : len = 1 := zk_len hk
    subst h2
    exact zx_lastore C hd hz kn
  | anewarray ix =>
    simp only [zk_ins, Bool.and_eq_true] at hk
    obtain ⟨⟨h2, h1⟩, h3⟩ := hk
    have h2 := zk_len h2
    subst h2
    exact zx_anewarray C hd h1 hz hroom kn
  | invokevirtual ix =>
    simp only [zk_ins, Bool.and_eq_true] at hk
    obtain ⟨h2, h1⟩ := hk
    have h2 := zk_len h2
    subst h2
    simp only [zs_ins] at hz
    obtain ⟨mt, hmt, hz1⟩ := zo_o_inv hz
    obtain ⟨h40, hz2⟩ := zo_g_inv hz1
    obtain ⟨h4, h50⟩ := Bool.and_eq_true_iff.mp h40
    have h5 := zk_len h50
    subst h5
    have hlt : a0 < 272 := zm_256 hmt
    rcases Bool.or_eq_true_iff.mp h1 with h6 | h6
    · have := Nat.le_of_ble_eq_true h6
      omega
    · obtain ⟨h6, -⟩ := Bool.and_eq_true_iff.mp h6
      exact zx_invokevirtual C hd h6 hz2 (fun mt' hm' => by cases hmt.symm.trans hm'; exact h4) (zk_nohv hmt h4) kc
  | invokestatic ix =>
    simp only [zk_ins, Bool.and_eq_true] at hk
    obtain ⟨h2, h1⟩ := hk
    have h2 := zk_len h2
    subst h2
    simp only [zs_ins] at hz
    by_cases h93 : Nat.beq a0 9003 = true
    · rw [h93, cond_true] at h1 hz
      exact zx_copy C hF hL hd h1 hz kn
    rw [Bool.not_eq_true] at h93
    rw [h93, cond_false] at h1 hz
    by_cases hq : Nat.ble 9000 a0 = true
    · rw [hq, cond_true] at h1 hz
      obtain ⟨hle, hz⟩ := zo_g_inv hz
      have hle := Nat.le_of_ble_eq_true hle
      have h1 : zk_max mm.1.cls ix a0 w0 = true := by
        rcases Bool.or_eq_true_iff.mp h1 with h | h
        · have := zk_len h
          omega
        · exact h
      obtain ⟨x2, r2, rfl, hz2⟩ := zo_1_inv hz
      obtain ⟨x1, r1, rfl, hz1⟩ := zo_1_inv hz2
      obtain ⟨h3, hz3⟩ := zo_g_inv hz1
      have h3 := Nat.le_of_ble_eq_true h3
      have hz := zs_nx_inv hz3
      unfold zk_max at h1
      obtain ⟨k1, k2⟩ := Bool.and_eq_true_iff.mp h1
      intro H locs lsM cells slots hR hS hl hn g1 g2
      obtain ⟨hc1, hc2⟩ := hcs cells slots g1 g2
      have kk := kn _ hz H locs lsM cells slots hR hS hl hn g1 g2
      by_cases h5 : Nat.beq a0 9001 = true
      · rw [h5, cond_true] at k2
        simp only [Bool.and_eq_true] at k2
        refine va_mmax hx hb hl.1.symm hown (hts _ (zk_w_mem k2.1.1)) (hts _ (zk_w_mem k2.1.2)) (hts _ (zk_w_mem k1)) (hts _ (zk_w_mem k2.2)) hF (by rw [zc_cats]; omega) hc1 hc2 hd ?_
        have kk : W p l e R s m args below meth c H locs cells slots Q (F0 m (pc + 3) lsM (.int (Int32.ofInt (cond (Nat.beq a0 9001) (zi_max x1 x2) (zi_min x1 x2))) :: r1.map (zc_v b pre))) := kk
        rw [h5, cond_true] at kk
        unfold zi_max at kk
        by_cases hlt : Int32.ofInt x1 < Int32.ofInt x2
        · rw [decide_eq_true hlt, cond_true] at kk; rw [if_pos hlt]; exact kk
        · rw [decide_eq_false hlt, cond_false] at kk; rw [if_neg hlt]; exact kk
      · rw [Bool.not_eq_true] at h5
        rw [h5, cond_false] at k2
        simp only [Bool.and_eq_true] at k2
        refine va_mmin hx hb hl.1.symm hown (hts _ (zk_w_mem k2.1.1.2)) (hts _ (zk_w_mem k2.1.2)) (hts _ (zk_w_mem k1)) (hts _ (zk_w_mem k2.2)) hF (by rw [zc_cats]; omega) hc1 hc2 hd ?_
        have kk : W p l e R s m args below meth c H locs cells slots Q (F0 m (pc + 3) lsM (.int (Int32.ofInt (cond (Nat.beq a0 9001) (zi_max x1 x2) (zi_min x1 x2))) :: r1.map (zc_v b pre))) := kk
        rw [h5, cond_false] at kk
        unfold zi_min at kk
        by_cases hlt : Int32.ofInt x2 < Int32.ofInt x1
        · rw [decide_eq_true hlt, cond_true] at kk; rw [if_pos hlt]; exact kk
        · rw [decide_eq_false hlt, cond_false] at kk; rw [if_neg hlt]; exact kk
    · rw [Bool.not_eq_true] at hq
      rw [hq, cond_false] at h1 hz
      obtain ⟨h3, hz2⟩ := zo_g_inv hz
      have h3 := zk_len h3
      subst h3
      rcases Bool.or_eq_true_iff.mp h1 with h6 | h6
      · exact absurd h6 (by decide)
      · obtain ⟨h6, -⟩ := Bool.and_eq_true_iff.mp h6
        exact zx_invokestatic C hd h6 hz2 kc
  | invokespecial ix =>
    simp only [zk_ins, Bool.and_eq_true] at hk
    obtain ⟨h2, h1⟩ := hk
    have h2 := zk_len h2
    subst h2
    simp only [zs_ins] at hz
    by_cases hq : Nat.beq a0 9999 = true
    · rw [hq, cond_true] at h1 hz
      have hq' : a0 = 9999 := zk_len hq
      subst hq'
      obtain ⟨q, r, rfl, hz1⟩ := zo_1_inv hz
      obtain ⟨h3, hz2⟩ := zo_g_inv hz1
      obtain ⟨h3, h4⟩ := Bool.and_eq_true_iff.mp h3
      have h3 : 0 ≤ q := of_decide_eq_true h3
      have h4 := Nat.le_of_ble_eq_true h4
      have hz := zs_nx_inv hz2
      have h1 : (zk_w w0 (.methodLink mm.1.cls ix objectInit) && zk_w zk_obj.1 (.instanceMethod objectInit) && zk_w zk_obj.2 (.code objectInit ⟨#[0xb1]⟩ 1 none)) = true := h1
      simp only [Bool.and_eq_true] at h1
      intro H locs lsM cells slots hR hS hl hn g1 g2
      have kk := kn _ hz H locs lsM cells slots hR hS hl hn g1 g2
      show W p l e R s m args below meth c H locs cells slots Q (F0 m pc lsM (zc_ref b pre q :: r.map (zc_v b pre)))
      rw [zc_ref_nn h3]
      exact W.objInit hx hb hown (hts _ (zk_w_mem h1.1.1)) (hts _ (zk_w_mem h1.1.2)) (hts _ (zk_w_mem h1.2)) rfl (by exact hl.1) rfl hd hF (by rw [zc_cats]; show 2 * 0 + _ + 12 ≤ _; omega) kk
    · rw [Bool.not_eq_true] at hq
      rw [hq, cond_false] at h1 hz
      obtain ⟨mt, hmt, hz1⟩ := zo_o_inv hz
      obtain ⟨h40, hz2⟩ := zo_g_inv hz1
      obtain ⟨h4, h50⟩ := Bool.and_eq_true_iff.mp h40
      have h5 := zk_len h50
      subst h5
      rcases Bool.or_eq_true_iff.mp h1 with h6 | h6
      · have h6 := zk_len h6
        subst h6
        have hno : zm_at 9998 = none := rfl
        rw [hno] at hmt
        cases hmt
      · obtain ⟨h6, -⟩ := Bool.and_eq_true_iff.mp h6
        exact zx_invokespecial C hd h6 hz2 (fun mt' hm' => by cases hmt.symm.trans hm'; exact h4) (zk_noh hmt h4) kc
  | _ => exact nomatch (show (none : Option zv_S) = some S from hz)
end
