/-! System.arraycopy between rows of ints. -/
section
variable {p : Program} {l : Launch} {e : Env} {R : Room} {s : State} {m : MethodId} {args : Array Value} {below : List Frame} {meth : Method} {c : Code} {b : Nat} {pre : Nat → Nat} {D : va_G} {cI cL cQ : ClassId} {Q : State → Prop} {c0 s0 : Nat} {E : List (List Int)} {y : Nat} {mm : zm_M}
variable {pc len a0 b0 w0 : Nat} {v0 : Int} {ls st : List zv_V} {h : zv_H} {S : zv_S}
theorem zi_pos_inv {z : Int} {n : Nat} (e : zi_pos z = some n) : ¬ Int32.ofInt z < 0 ∧ (Int32.ofInt z).toNatClampNeg = n := by
  unfold zi_pos at e
  by_cases hz : Int32.ofInt z < 0
  · rw [decide_eq_true hz] at e; cases e
  · rw [decide_eq_false hz] at e; cases e; exact ⟨hz, rfl⟩
theorem zi_clamp {z : Int32} (hz : ¬ z < 0) : z.toInt = (z.toNatClampNeg : Int) := by
  have hz0 : (0 : Int) ≤ z.toInt := by
    have := Int32.not_lt.mp hz
    simpa using Int32.le_iff_toInt_le.mp this
  show z.toInt = ((z.toInt.toNat : Nat) : Int)
  omega
theorem zx_copy (C : zx_C p s m args meth c b pre D cI cL cQ E y mm) (hF : 1 ≤ R.frames) (hL : 40 ≤ R.locals) {ix : Nat} (hd : decode mm.2.1 pc = .ok (.invokestatic ix, 3)) (hk : zk_copy mm.1.cls ix w0 = true) (hz : zs_copy y pc ls st h = some S)
    (kn : ∀ fr, S = .inl fr → zx_W p l e R s m args below meth c b pre D cI cL cQ Q c0 s0 fr) : zx_W p l e R s m args below meth c b pre D cI cL cQ Q c0 s0 (y, pc, ls, st, h) := by
  obtain ⟨hx, -, hb, -, hml, hown, hts, -, -, hK, hE, hbs, -⟩ := C
  obtain ⟨n, r4, rfl, hz1⟩ := zo_1_inv hz
  obtain ⟨dp, r3, rfl, hz2⟩ := zo_1_inv hz1
  obtain ⟨q1, r2, rfl, hz3⟩ := zo_1_inv hz2
  obtain ⟨sp, r1, rfl, hz4⟩ := zo_1_inv hz3
  obtain ⟨q0, r, rfl, hz5⟩ := zo_1_inv hz4
  obtain ⟨⟨k0, f⟩, hc0, hz6⟩ := zo_o_inv hz5
  obtain ⟨⟨k1, g⟩, hc1, hz7⟩ := zo_o_inv hz6
  obtain ⟨n', hn', hz8⟩ := zo_o_inv hz7
  obtain ⟨sp', hsp', hz9⟩ := zo_o_inv hz8
  obtain ⟨dp', hdp', hz10⟩ := zo_o_inv hz9
  obtain ⟨g0, hz11⟩ := zo_g_inv hz10
  simp only [Bool.and_eq_true] at g0
  obtain ⟨⟨⟨⟨j1, j2⟩, j3⟩, j4⟩, j5⟩ := g0
  have j1 : k0 = 50 := Nat.eq_of_beq_eq_true j1
  have j2 : k1 = 50 := Nat.eq_of_beq_eq_true j2
  subst j1; subst j2
  have j3 := Nat.le_of_ble_eq_true j3
  have j4 := Nat.le_of_ble_eq_true j4
  have j5 := Nat.le_of_ble_eq_true j5
  have hz := zs_nx_inv hz11
  obtain ⟨hq0, hc0⟩ := zh_at_inv hc0
  obtain ⟨hq1, hc1⟩ := zh_at_inv hc1
  obtain ⟨n1, n2⟩ := zi_pos_inv hn'
  obtain ⟨sp1, sp2⟩ := zi_pos_inv hsp'
  obtain ⟨dp1, dp2⟩ := zi_pos_inv hdp'
  have kw : ∃ wn ws wv, zk_sys = [wn, ws, wv] ∧ zk_w w0 (.methodLink mm.1.cls ix arraycopyName) = true ∧ zk_w wn (.initialized "java/lang/System") = true ∧ zk_w ws (.static arraycopyName) = true ∧ zk_w wv (.native arraycopyName) = true := by
    unfold zk_copy at hk
    split at hk
    · next wn ws wv he =>
      simp only [Bool.and_eq_true] at hk
      exact ⟨wn, ws, wv, he, hk.1.1.1, hk.1.1.2, hk.1.2, hk.2⟩
    · cases hk
  obtain ⟨wn, ws, wv, -, k1, k2, k3, k4⟩ := kw
  intro H locs lsM cells slots hR hS hl hn g1 g2
  show W p l e R s m args below meth c H locs cells slots Q (F0 m pc lsM (.int (Int32.ofInt n) :: .int (Int32.ofInt dp) :: zc_ref b pre q1 :: .int (Int32.ofInt sp) :: zc_ref b pre q0 :: r.map (zc_v b pre)))
  rw [zc_ref_nn hq0, zc_ref_nn hq1]
  have ha0 : H[b + q0.toNat]? = some (vp_cell cI (f.length, .inl (fun j => Int32.ofInt (f.getD j 0)))) := hR.at hc0
  have ha1 : H[b + q1.toNat]? = some (vp_cell cI (g.length, .inl (fun j => Int32.ofInt (g.getD j 0)))) := hR.at hc1
  intro T hT X
  obtain ⟨-, kA, hkA, cmA, hkkA⟩ := (hK.1.2 0 _ rfl).1 f.length (fun j => .int (Int32.ofInt (f.getD j 0)))
  have hcat : ((r.map (zc_v b pre)).map fun v => v.category).sum ≤ 8 := by rw [zc_cats]; exact j5
  obtain ⟨vm', X', step⟩ := X.arraycopy hx hown (hts _ (zk_w_mem k1)) (hts _ (zk_w_mem k4)) (hts _ (zk_w_mem k3)) (hts _ (zk_w_mem k2)) (src := b + q0.toNat) (dst := b + q1.toNat) (cs := vp_cell cI (f.length, .inl (fun j => Int32.ofInt (f.getD j 0)))) (cd := vp_cell cI (g.length, .inl (fun j => Int32.ofInt (g.getD j 0)))) (srcPos := Int32.ofInt sp) (destPos := Int32.ofInt dp) (n := Int32.ofInt n) (by rw [hT]; exact ha0) (by rw [hT]; exact ha1)
    (fun _ h => by cases h) (fun _ h => by cases h) (fun h => by cases h) (fun h => by cases h) hkA hkA hkkA hkkA (by simp [refKind]) sp1 dp1 n1
    (by rw [zi_clamp sp1, zi_clamp n1, sp2, n2]; show ¬ _ > ((arrV cI f.length (fun j => .int (Int32.ofInt (f.getD j 0)))).slots.size : Int); rw [arrV_size]; omega)
    (by rw [zi_clamp dp1, zi_clamp n1, dp2, n2]; show ¬ _ > ((arrV cI g.length (fun j => .int (Int32.ofInt (g.getD j 0)))).slots.size : Int); rw [arrV_size]; omega)
    (fun vm₁ _ i hi => by
      have e : (vp_cell cI (f.length, .inl (fun j => Int32.ofInt (f.getD j 0)))).slots.getD ((Int32.ofInt sp).toNatClampNeg + i) .null = .int (Int32.ofInt (f.getD ((Int32.ofInt sp).toNatClampNeg + i) 0)) := by
        show (arrV cI f.length (fun j => .int (Int32.ofInt (f.getD j 0)))).slots.getD _ _ = _
        rw [Array.getD_eq_getD_getElem?, arrV_read _ _ (by omega)]
        rfl
      refine ⟨?_, ?_⟩
      · rw [e]
        rfl
      · rw [e]
        exact trivial)
    (g := F0 m pc lsM (.int (Int32.ofInt n) :: .int (Int32.ofInt dp) :: .ref (b + q1.toNat) :: .int (Int32.ofInt sp) :: .ref (b + q0.toNat) :: r.map (zc_v b pre))) rfl hl.1 (rest := r.map (zc_v b pre)) rfl (by rw [hb]; exact hd) hF (by
      have h1 : nativeFrameWords "java/lang/System" "arraycopy" 5 + 11 ≤ 30 := by decide +kernel
      show 2 * 0 + _ + _ ≤ _
      omega)
  have e1 : copied (vp_cell cI (f.length, .inl (fun j => Int32.ofInt (f.getD j 0)))) (vp_cell cI (g.length, .inl (fun j => Int32.ofInt (g.getD j 0)))) (Int32.ofInt sp) (Int32.ofInt dp) (Int32.ofInt n) = vp_cell cI (g.length, .inl (va_cpy (fun j => Int32.ofInt (f.getD j 0)) (fun j => Int32.ofInt (g.getD j 0)) (Int32.ofInt sp).toNatClampNeg (Int32.ofInt dp).toNatClampNeg (Int32.ofInt n).toNatClampNeg)) := va_copied (n0 := f.length) (n1 := g.length) (fun z => .int z) cI cI (fun j => Int32.ofInt (f.getD j 0)) (fun j => Int32.ofInt (g.getD j 0)) (by omega)
  rw [e1] at X' step
  have hlt : b + q1.toNat < H.size := (Array.getElem?_eq_some_iff.mp ha1).1
  generalize hcell : vp_cell cI (g.length, .inl (va_cpy (fun j => Int32.ofInt (f.getD j 0)) (fun j => Int32.ofInt (g.getD j 0)) (Int32.ofInt sp).toNatClampNeg (Int32.ofInt dp).toNatClampNeg (Int32.ofInt n).toNatClampNeg)) = nc at X' step
  have hheap : ((T.setVm vm').setCell (b + q1.toNat) nc).heap = H.setIfInBounds (b + q1.toNat) nc := by rw [← hT]; rfl
  have oq : ∀ q : Nat, q ≠ b + q1.toNat → (H.setIfInBounds (b + q1.toNat) nc)[q]? = H[q]? := fun q hq => by simp [Array.getElem?_setIfInBounds, Ne.symm hq]
  have hc2 : va_at D zvCl (b + q1.toNat, zc_cell b pre cI cL cQ (50, zi_cpy f g sp' dp' n')) (H.setIfInBounds (b + q1.toNat) nc) := by
    have hgl : (zi_cpy f g sp' dp' n').length = g.length := by simp [zi_cpy]
    show (H.setIfInBounds (b + q1.toNat) nc)[b + q1.toNat]? = some (arrV cI (zi_cpy f g sp' dp' n').length (fun j2 => Value.int (Int32.ofInt ((zi_cpy f g sp' dp' n').getD j2 0))))
    rw [Array.getElem?_setIfInBounds_self_of_lt hlt, ← hcell, hgl]
    show some (arrV cI g.length (fun j => .int (va_cpy (fun j => Int32.ofInt (f.getD j 0)) (fun j => Int32.ofInt (g.getD j 0)) (Int32.ofInt sp).toNatClampNeg (Int32.ofInt dp).toNatClampNeg (Int32.ofInt n).toNatClampNeg j))) = _
    congr 1
    unfold arrV
    congr 1
    apply Array.ext
    · simp
    · intro i h1 h2
      simp only [Array.getElem_ofFn]
      have hi : i < g.length := by simpa using h1
      rw [sp2, dp2, n2]
      unfold va_cpy zi_cpy
      rw [List.getD_eq_getElem?_getD (l := (List.range g.length).map _), List.getElem?_map, List.getElem?_range hi]
      simp only [Option.map_some, Option.getD_some]
      by_cases hin : dp' ≤ i ∧ i < dp' + n'
      · rw [if_pos hin, show (Nat.ble dp' i && Nat.blt i (dp' + n')) = true by
          rw [Bool.and_eq_true]; exact ⟨Nat.ble_eq_true_of_le hin.1, Nat.ble_eq_true_of_le hin.2⟩, cond_true]
      · rw [if_neg hin, show (Nat.ble dp' i && Nat.blt i (dp' + n')) = false by
          rw [← Bool.not_eq_true, Bool.and_eq_true]; exact fun z => hin ⟨Nat.le_of_ble_eq_true z.1, Nat.le_of_ble_eq_true z.2⟩, cond_false]
  have hs : (H.setIfInBounds (b + q1.toNat) nc).size = H.size := by simp
  have fin : ∀ locs1 : List Loc, va_S (fun q => b ≤ q) s.heap (H.setIfInBounds (b + q1.toNat) nc) locs1 → W p l e R s m args below meth c (H.setIfInBounds (b + q1.toNat) nc) locs1 cells slots Q (F0 m (pc + 3) lsM (r.map (zc_v b pre))) := fun locs1 hS1 => kn _ hz (H.setIfInBounds (b + q1.toNat) nc) locs1 lsM cells slots (hR.set hc1 hs oq hc2) hS1 hl hn (by show cells + c0 = (h.set _ _).length; rw [List.length_set]; exact g1) (by show slots + s0 = zx_sl (h.set _ _); rw [zx_sl_set hc1 (by simp [zi_cpy])]; exact g2)
  obtain ⟨t, a1, b1⟩ := fin _ ⟨by rw [hs]; exact hS.1, fun q f1 f2 => by
      rw [oq q (fun e => f2 (by rw [e]; omega))]
      exact hS.2.1 q f1 f2, fun q hq => by
      rcases List.mem_append.mp hq with h | h
      · exact hS.2.2 q h
      · obtain ⟨z, -, hz⟩ := List.mem_map.mp h
        rw [← hz]
        exact Nat.le_add_right b q1.toNat⟩ _ hheap X'
  exact ⟨t, step t a1, b1⟩
end
