/-! What looks at a token: the instructions. -/
section
variable {s : Nat → Int} {e : zy_E} {y pc len a b : Nat} {v : Int} {ls st : List zv_V} {h : zv_H} {E' : List (List Int)} {l : List (zy_E × zv_S)}
theorem zy_onei {S : zv_S} {X : Option zv_S} (h : zy_one e S = some l) (hm : zy_mod s e) (hz : X = some (zy_S s S)) : ∃ p ∈ l, zy_mod s p.1 ∧ X = some (zy_S s p.2) := by
  cases h
  exact ⟨_, .head _, hm, hz⟩
theorem zh_atn (h : zv_H) (m : Nat) : zh_at h (m : Int) = h[m]? := by
  unfold zh_at
  rw [decide_eq_true (Int.natCast_nonneg m)]
  rfl
theorem zy_set_same {α : Type} {l : List α} {k : Nat} {c : α} (h : l[k]? = some c) : l.set k c = l := by
  apply List.ext_getElem?
  intro j
  by_cases hj : k = j
  · subst hj
    rw [List.getElem?_set_self (List.getElem?_eq_some_iff.mp h).1, h]
  · rw [List.getElem?_set_ne hj]
theorem zy_goto_S {q : Bool} {r : List zv_V} : zs_goto q y a pc (ls.map (zy_v s)) (r.map (zy_v s)) (zy_h s h) = some (zy_S s (.inl (y, cond q a (pc + 3), ls, r, h))) := by
  cases q <;> rfl
theorem zy_saidi {k : Nat} {x w r : Int} (hs : zy_said e k x w = some r) (hm : zy_mod s e) : ∃ i, zy_f s x = s i ∧ zy_fact s (k, i, w, r) := by
  unfold zy_said at hs
  split at hs
  · rename_i i heq
    cases hf : e.2.find? (fun q => Nat.beq q.1 k && Nat.beq q.2.1 i && decide (q.2.2.1 = w)) with
    | none => rw [hf] at hs; cases hs
    | some q =>
      rw [hf] at hs
      cases hs
      have h2 := List.find?_some hf
      simp only [Bool.and_eq_true, Nat.beq_eq, decide_eq_true_eq] at h2
      have h3 := hm.2 q (List.mem_of_find?_eq_some hf)
      obtain ⟨q1, q2, q3, q4⟩ := q
      obtain ⟨⟨rfl, rfl⟩, rfl⟩ := h2
      exact ⟨_, zy_raw heq, h3⟩
  · cases hs
theorem zy_nati {w : Int} {n : Nat} (hn : zy_nat w = some n) : w = (n : Int) ∧ n < 1048576 ∧ zy_f s w = w := by
  unfold zy_nat at hn
  split at hn
  · rename_i m
    rcases zy_ci hn with ⟨g, h1⟩ | ⟨-, h1⟩
    · cases h1
      have g2 : n < 1048576 := Nat.le_of_ble_eq_true g
      refine ⟨rfl, g2, zy_ntf ?_⟩
      show (!Nat.ble zy_T n) = true
      cases hb : Nat.ble zy_T n with
      | false => rfl
      | true =>
        have h3 := Nat.le_of_ble_eq_true hb
        exact absurd (Nat.lt_of_le_of_lt h3 g2) (by decide)
    · cases h1
  · cases hn
theorem zy_twoi {c : ClassFile.Cond} {x z : Int} {q : Bool} (ht : zy_two e c x z = some q) (hm : zy_mod s e) (h32 : ∀ i, -2147483648 ≤ s i ∧ s i ≤ 2147483647) : zi_cmp c (Int32.ofInt (zy_f s x)) (Int32.ofInt (zy_f s z)) = q := by
  unfold zy_two at ht
  split at ht
  · rename_i i j hi hj
    rw [zy_raw hi, zy_raw hj, zy_icmp (h32 i) (h32 j)]
    have hne : (e.2.any (fun q => decide (q = (2, i, (j : Int), 0)))) = true → s i ≠ s j := by
      intro hh
      obtain ⟨q, h1, h2⟩ := List.any_eq_true.mp hh
      have h3 := hm.2 q h1
      rw [of_decide_eq_true h2] at h3
      exact h3
    have heq : (e.2.any (fun q => decide (q = (4, i, (j : Int), 0)))) = true → s i = s j := by
      intro hh
      obtain ⟨q, h1, h2⟩ := List.any_eq_true.mp hh
      have h3 := hm.2 q h1
      rw [of_decide_eq_true h2] at h3
      exact h3
    split at ht
    · rcases zy_ci ht with ⟨g, h1⟩ | ⟨-, h1⟩
      · cases h1
        exact decide_eq_true (heq g)
      · rcases zy_ci h1 with ⟨g, h1⟩ | ⟨-, h1⟩
        · cases h1
          exact decide_eq_false (hne g)
        · cases h1
    · rcases zy_ci ht with ⟨g, h1⟩ | ⟨-, h1⟩
      · cases h1
        show (!decide (s i = s j)) = false
        rw [decide_eq_true (heq g)]; rfl
      · rcases zy_ci h1 with ⟨g, h1⟩ | ⟨-, h1⟩
        · cases h1
          show (!decide (s i = s j)) = true
          rw [decide_eq_false (hne g)]; rfl
        · cases h1
    · cases ht
  · cases ht
theorem zy_allz {l : List Int} {z : Int} {k : Nat} (hl : (l.all (fun x => decide (x = z))) = true) (hk : k < l.length) : l.getD k 0 = z := by
  rw [List.getD_eq_getElem?_getD, List.getElem?_eq_getElem hk]
  exact of_decide_eq_true (List.all_eq_true.mp hl _ (List.getElem_mem hk))
theorem zi_posn {w : Nat} (hw : (w : Int) ≤ 2147483647) : zi_pos (w : Int) = some w := by
  have h1 : (Int32.ofInt (w : Int)).toInt = (w : Int) := zy_toInt ⟨by omega, hw⟩
  have h2 : ¬ Int32.ofInt (w : Int) < 0 := by
    rw [Int32.lt_iff_toInt_lt, h1]
    show ¬ (w : Int) < 0
    omega
  unfold zi_pos
  rw [decide_eq_false h2]
  show some ((Int32.ofInt (w : Int)).toInt.toNat) = some w
  rw [h1]
  rfl
theorem zi_cpy_len (f g : List Int) (sp dp n : Nat) : (zi_cpy f g sp dp n).length = g.length := by simp [zi_cpy]
theorem zy_map_range {g : List Int} {F : Nat → Int} (hF : ∀ k, k < g.length → F k = g.getD k 0) : (List.range g.length).map F = g := by
  apply List.ext_getElem?
  intro k
  rw [List.getElem?_map]
  by_cases hk : k < g.length
  · rw [List.getElem?_range hk, List.getElem?_eq_getElem hk]
    show some (F k) = _
    rw [hF k hk, List.getD_eq_getElem?_getD, List.getElem?_eq_getElem hk]
    rfl
  · rw [List.getElem?_eq_none (by simpa using hk), List.getElem?_eq_none (by omega)]
    rfl
theorem zs_copy_inv {n dp q1 sp q0 : Int} {r : List zv_V} {S : zv_S} (hz : zs_copy y pc ls ((0, n) :: (0, dp) :: (2, q1) :: (0, sp) :: (2, q0) :: r) h = some S) : ∃ c0 c1 n' sp' dp', zh_at h q0 = some c0 ∧ zh_at h q1 = some c1 ∧ zi_pos n = some n' ∧ zi_pos sp = some sp' ∧ zi_pos dp = some dp' ∧ c0.1 = 50 ∧ c1.1 = 50 ∧ sp' + n' ≤ c0.2.length ∧ dp' + n' ≤ c1.2.length ∧ Nat.ble (r.map zs_cat).sum 8 = true ∧ S = .inl (y, pc + 3, ls, r, h.set q1.toNat (50, zi_cpy c0.2 c1.2 sp' dp' n')) := by
  have hz' : (zo_o (zh_at h q0) fun c0 => zo_o (zh_at h q1) fun c1 => zo_o (zi_pos n) fun n => zo_o (zi_pos sp) fun sp => zo_o (zi_pos dp) fun dp =>
    zo_g (Nat.beq c0.1 50 && Nat.beq c1.1 50 && Nat.ble (sp + n) c0.2.length && Nat.ble (dp + n) c1.2.length && Nat.ble (r.map zs_cat).sum 8) (zs_nx y (pc + 3) ls r (h.set q1.toNat (50, zi_cpy c0.2 c1.2 sp dp n)))) = some S := hz
  obtain ⟨c0, h0, hz1⟩ := zo_o_inv hz'
  obtain ⟨c1, h1, hz2⟩ := zo_o_inv hz1
  obtain ⟨n', hn, hz3⟩ := zo_o_inv hz2
  obtain ⟨sp', hs, hz4⟩ := zo_o_inv hz3
  obtain ⟨dp', hd, hz5⟩ := zo_o_inv hz4
  obtain ⟨g, hz6⟩ := zo_g_inv hz5
  simp only [Bool.and_eq_true] at g
  exact ⟨c0, c1, n', sp', dp', h0, h1, hn, hs, hd, Nat.eq_of_beq_eq_true g.1.1.1.1, Nat.eq_of_beq_eq_true g.1.1.1.2, Nat.le_of_ble_eq_true g.1.1.2, Nat.le_of_ble_eq_true g.1.2, g.2, zs_nx_inv hz6⟩
theorem zs_copy_fw {n dp q1 sp q0 : Int} {r : List zv_V} {c0 c1 : zv_C} {n' sp' dp' : Nat} (h0 : zh_at h q0 = some c0) (h1 : zh_at h q1 = some c1) (hn : zi_pos n = some n') (hs : zi_pos sp = some sp') (hd : zi_pos dp = some dp') (e0 : c0.1 = 50) (e1 : c1.1 = 50) (g0 : sp' + n' ≤ c0.2.length) (g1 : dp' + n' ≤ c1.2.length) (gr : Nat.ble (r.map zs_cat).sum 8 = true) : zs_copy y pc ls ((0, n) :: (0, dp) :: (2, q1) :: (0, sp) :: (2, q0) :: r) h = some (.inl (y, pc + 3, ls, r, h.set q1.toNat (50, zi_cpy c0.2 c1.2 sp' dp' n'))) := by
  show (zo_o (zh_at h q0) fun c0 => zo_o (zh_at h q1) fun c1 => zo_o (zi_pos n) fun n => zo_o (zi_pos sp) fun sp => zo_o (zi_pos dp) fun dp =>
    zo_g (Nat.beq c0.1 50 && Nat.beq c1.1 50 && Nat.ble (sp + n) c0.2.length && Nat.ble (dp + n) c1.2.length && Nat.ble (r.map zs_cat).sum 8) (zs_nx y (pc + 3) ls r (h.set q1.toNat (50, zi_cpy c0.2 c1.2 sp dp n)))) = _
  rw [h0, h1, hn, hs, hd]
  show zo_g (Nat.beq c0.1 50 && Nat.beq c1.1 50 && Nat.ble (sp' + n') c0.2.length && Nat.ble (dp' + n') c1.2.length && Nat.ble (r.map zs_cat).sum 8) _ = _
  rw [e0, e1, Nat.ble_eq_true_of_le g0, Nat.ble_eq_true_of_le g1, gr]
  rfl
theorem zy_cpi (hc : zy_cp e y pc ls st h = some l) (hm : zy_mod s e) : ∃ p ∈ l, zy_mod s p.1 ∧ zs_copy y pc (ls.map (zy_v s)) (st.map (zy_v s)) (zy_h s h) = some (zy_S s p.2) := by
  unfold zy_cp at hc
  split at hc
  · rename_i n dp q1 sp q0 r
    obtain ⟨c0, h0, hc1⟩ := zo_o_inv hc
    obtain ⟨c1, h1, hc2⟩ := zo_o_inv hc1
    obtain ⟨n', hn, hc3⟩ := zo_o_inv hc2
    obtain ⟨g, hc4⟩ := zo_g_inv hc3
    simp only [Bool.and_eq_true] at g
    obtain ⟨⟨⟨⟨gn, gq1⟩, gq0⟩, gz⟩, gall⟩ := g
    generalize hz : c0.2.getD 0 0 = z at gz gall hc4
    have fz : zy_f s z = z := zy_ntf gz
    have a0 : zh_at (zy_h s h) (zy_f s q0) = some (zy_c s c0) := by rw [zy_ntf gq0, zy_hat, h0]; rfl
    have a1 : zh_at (zy_h s h) (zy_f s q1) = some (zy_c s c1) := by rw [zy_ntf gq1, zy_hat, h1]; rfl
    have an : zi_pos (zy_f s n) = some n' := by rw [zy_ntf gn]; exact hn
    have l0 : (zy_c s c0).2.length = c0.2.length := List.length_map _
    have l1 : (zy_c s c1).2.length = c1.2.length := List.length_map _
    have zc0 : ∀ k, k < c0.2.length → (zy_c s c0).2.getD k 0 = z := fun k hk => by
      show (c0.2.map (zy_f s)).getD k 0 = z
      rw [zy_getD, zy_allz gall hk, fz]
    split at hc4
    · rename_i i l' u d1 d0 hr
      obtain ⟨m, hm1, hm2, hm3, hm4⟩ := zy_refi hr hm
      obtain ⟨g, hc5⟩ := zo_g_inv hc4
      simp only [Bool.and_eq_true] at g
      obtain ⟨⟨⟨gdp, gl⟩, g32⟩, gle⟩ := g
      obtain ⟨S, hS, hc6⟩ := zo_o_inv hc5
      have hle := Nat.le_of_ble_eq_true gle
      have hmu : d1 * m ≤ d1 * u := Nat.mul_le_mul_left _ hm2
      have h32 := (zy_in g32).2
      obtain ⟨c0', c1', n'', sp', dp', k0, k1, kn, ks, kd, e0, e1, g0, g1, gr, hS2⟩ := zs_copy_inv hS
      cases h0.symm.trans k0
      cases h1.symm.trans k1
      cases hn.symm.trans kn
      refine zy_onei hc6 hm ?_
      have hw : zi_pos (zy_f s sp) = some (d1 * m + d0) := by rw [hm4]; exact zi_posn (by omega)
      have hfw := zs_copy_fw (y := y) (pc := pc) (ls := ls.map (zy_v s)) (r := r.map (zy_v s)) a0 a1 an hw (show zi_pos (zy_f s dp) = some dp' by rw [zy_ntf gdp]; exact kd) e0 e1 (by rw [l0]; omega) (by rw [l1]; exact g1) (by rw [zy_cat]; exact gr)
      refine hfw.trans ?_
      rw [hS2]
      show some (Sum.inl (y, pc + 3, ls.map (zy_v s), r.map (zy_v s), _)) = some (Sum.inl (y, pc + 3, ls.map (zy_v s), r.map (zy_v s), zy_h s _))
      rw [zy_hset, zy_ntf gq1]
      suffices hL : zi_cpy (zy_c s c0).2 (zy_c s c1).2 (d1 * m + d0) dp' n' = (zi_cpy c0.2 c1.2 sp' dp' n').map (zy_f s) by
        rw [hL]
        rfl
      unfold zi_cpy
      rw [l1, List.map_map]
      refine List.map_congr_left (fun k hk => ?_)
      show _ = zy_f s (cond _ _ _)
      cases hb : (Nat.ble dp' k && Nat.blt k (dp' + n')) with
      | false =>
        show (c1.2.map (zy_f s)).getD k 0 = _
        rw [zy_getD]
        rfl
      | true =>
        simp only [Bool.and_eq_true] at hb
        have b1 := Nat.le_of_ble_eq_true hb.1
        have b2 := Nat.le_of_ble_eq_true hb.2
        show (zy_c s c0).2.getD (d1 * m + d0 + (k - dp')) 0 = zy_f s (c0.2.getD (sp' + (k - dp')) 0)
        rw [zc0 _ (by omega), zy_allz gall (by omega), fz]
    · split at hc4
      · cases hc4
      · rename_i i l' u d1 d0 hr
        obtain ⟨m, hm1, hm2, hm3, hm4⟩ := zy_refi hr hm
        obtain ⟨g, hc5⟩ := zo_g_inv hc4
        simp only [Bool.and_eq_true] at g
        obtain ⟨⟨⟨gsp, g32⟩, gle⟩, gal1⟩ := g
        obtain ⟨S, hS, hc6⟩ := zo_o_inv hc5
        have hle := Nat.le_of_ble_eq_true gle
        have hmu : d1 * m ≤ d1 * u := Nat.mul_le_mul_left _ hm2
        have h32 := (zy_in g32).2
        obtain ⟨c0', c1', n'', sp', dp', k0, k1, kn, ks, kd, e0, e1, g0, g1, gr, hS2⟩ := zs_copy_inv hS
        cases h0.symm.trans k0
        cases h1.symm.trans k1
        cases hn.symm.trans kn
        refine zy_onei hc6 hm ?_
        have hw : zi_pos (zy_f s dp) = some (d1 * m + d0) := by rw [hm4]; exact zi_posn (by omega)
        have hfw := zs_copy_fw (y := y) (pc := pc) (ls := ls.map (zy_v s)) (r := r.map (zy_v s)) a0 a1 an (show zi_pos (zy_f s sp) = some sp' by rw [zy_ntf gsp]; exact ks) hw e0 e1 (by rw [l0]; exact g0) (by rw [l1]; omega) (by rw [zy_cat]; exact gr)
        refine hfw.trans ?_
        show some (Sum.inl (y, pc + 3, ls.map (zy_v s), r.map (zy_v s), _)) = some (Sum.inl (y, pc + 3, ls.map (zy_v s), r.map (zy_v s), zy_h s h))
        suffices hL : (zy_h s h).set (zy_f s q1).toNat (50, zi_cpy (zy_c s c0).2 (zy_c s c1).2 sp' (d1 * m + d0) n') = zy_h s h by rw [hL]
        refine zy_set_same ?_
        have hlist : zi_cpy (zy_c s c0).2 (zy_c s c1).2 sp' (d1 * m + d0) n' = (zy_c s c1).2 := by
          have hz1 : ∀ k, k < c1.2.length → (zy_c s c1).2.getD k 0 = z := fun k hk => by
            show (c1.2.map (zy_f s)).getD k 0 = z
            rw [zy_getD, zy_allz gal1 hk, fz]
          refine zy_map_range (fun k hk2 => ?_)
          have hk3 : k < c1.2.length := by rw [← l1]; exact hk2
          cases hb : (Nat.ble (d1 * m + d0) k && Nat.blt k (d1 * m + d0 + n')) with
          | false => rfl
          | true =>
            simp only [Bool.and_eq_true] at hb
            have b1 := Nat.le_of_ble_eq_true hb.1
            have b2 := Nat.le_of_ble_eq_true hb.2
            rw [hz1 k hk3]
            exact zc0 _ (by omega)
        rw [hlist, show (50, (zy_c s c1).2) = zy_c s c1 from by rw [← e1]; rfl]
        exact (zh_at_inv a1).2
  · cases hc
end
