/-! What looks at a token: each instruction. -/
section
variable {s : Nat → Int} {e : zy_E} {y pc len a b : Nat} {v : Int} {ls st : List zv_V} {h : zv_H} {E' : List (List Int)} {l : List (zy_E × zv_S)}
theorem zy_arith {pc' : Nat} {X w : Int} {r : List zv_V} (hz : zy_one e (.inl (y, pc', ls, (0, X) :: r, h)) = some l) (hm : zy_mod s e) (hX : zy_f s X = w) : ∃ p ∈ l, zy_mod s p.1 ∧ zs_nx y pc' (ls.map (zy_v s)) ((0, w) :: r.map (zy_v s)) (zy_h s h) = some (zy_S s p.2) :=
  zy_onei hz hm (by rw [← hX]; rfl)
/-- what stands where a reference by a place can point -/
theorem zy_cellg {β : Type} {m : Nat} {k : zv_C → Option β} {x : β} (hg : (zo_o h[m]? k) = some x) : ∃ c, h[m]? = some c ∧ k c = some x := zo_o_inv hg
theorem zy_hatn {c : zv_C} {m : Nat} (hc : h[m]? = some c) : zh_at (zy_h s h) (m : Int) = some (zy_c s c) := by
  rw [zy_hat, zh_atn, hc]; rfl
theorem zy_cl (c : zv_C) : (zy_c s c).2.length = c.2.length := List.length_map _
theorem zy_speci (hm : zy_mod s e) (h32 : ∀ i, -2147483648 ≤ s i ∧ s i ≤ 2147483647) {ins : Instr} (hz : zy_spec e y pc ls st h ins a b = some l) : ∃ p ∈ l, zy_mod s p.1 ∧ zs_ins E' y pc (ls.map (zy_v s)) (st.map (zy_v s)) (zy_h s h) ins len a b v = some (zy_S s p.2) := by
  cases ins with
  | ifCond c o =>
    simp only [zy_spec] at hz
    split at hz
    · rename_i x r
      obtain ⟨e', q, h1, h2, h3, -⟩ := zy_cmpi hz hm
      refine ⟨_, h1, h2, ?_⟩
      show zs_goto (zi_cmp c (Int32.ofInt (zy_f s x)) (Int32.ofInt 0)) y a pc (ls.map (zy_v s)) (r.map (zy_v s)) (zy_h s h) = _
      rw [h3]
      exact zy_goto_S
    · cases hz
  | if_icmp c o =>
    simp only [zy_spec] at hz
    split at hz
    · rename_i x2 x1 r
      have key : ∀ q : Bool, zi_cmp c (Int32.ofInt (zy_f s x1)) (Int32.ofInt (zy_f s x2)) = q → zs_ins E' y pc (ls.map (zy_v s)) (((0, x2) :: (0, x1) :: r).map (zy_v s)) (zy_h s h) (.if_icmp c o) len a b v = some (zy_S s (.inl (y, cond q a (pc + 3), ls, r, h))) := by
        intro q hq
        show zs_goto (zi_cmp c (Int32.ofInt (zy_f s x1)) (Int32.ofInt (zy_f s x2))) y a pc (ls.map (zy_v s)) (r.map (zy_v s)) (zy_h s h) = _
        rw [hq]
        exact zy_goto_S
      rcases zy_ci hz with ⟨g, hz⟩ | ⟨-, hz⟩
      · obtain ⟨e', q, h1, h2, h3, -⟩ := zy_cmpi hz hm
        exact ⟨_, h1, h2, key q (by rw [zy_ntf g]; exact h3)⟩
      · rcases zy_ci hz with ⟨g, hz⟩ | ⟨-, hz⟩
        · obtain ⟨e', q, h1, h2, h3, -⟩ := zy_cmpi hz hm
          rw [zy_swapi] at h3
          exact ⟨_, h1, h2, key q (by rw [zy_ntf g]; exact h3)⟩
        · obtain ⟨q, hq, hz⟩ := zo_o_inv hz
          exact zy_onei hz hm (key q (zy_twoi hq hm h32))
    · cases hz
  | imul =>
    simp only [zy_spec] at hz
    split at hz
    · rename_i x2 x1 r
      split at hz
      · rename_i i heq
        obtain ⟨w, hw, hz⟩ := zo_o_inv hz
        obtain ⟨g, hz⟩ := zo_g_inv hz
        obtain ⟨w1, w2, w3⟩ := zy_nati (s := s) hw
        refine zy_arith hz hm ?_
        show zy_f s _ = zy_f s x1 * zy_f s x2
        rw [zy_fmk (Nat.le_of_ble_eq_true g) (by decide) w2, zy_raw heq, w3, w1]
        show s i * (w : Int) + ((0 : Nat) : Int) = (w : Int) * s i
        rw [Int.mul_comm]
        simp
      · cases hz
    · cases hz
  | iadd =>
    simp only [zy_spec] at hz
    split at hz
    · rename_i x2 x1 r
      split at hz
      · rename_i i heq
        obtain ⟨w, hw, hz⟩ := zo_o_inv hz
        obtain ⟨g, hz⟩ := zo_g_inv hz
        obtain ⟨w1, w2, w3⟩ := zy_nati (s := s) hw
        refine zy_arith hz hm ?_
        show zy_f s _ = zy_f s x1 + zy_f s x2
        rw [zy_fmk (Nat.le_of_ble_eq_true g) (by decide) (by decide), zy_raw heq, w3, w1]
        show s i * ((1 : Nat) : Int) + (w : Int) = s i + (w : Int)
        simp
      · cases hz
    · cases hz
  | ixor =>
    simp only [zy_spec] at hz
    split at hz
    · rename_i x2 x1 r
      obtain ⟨g, hz⟩ := zo_g_inv hz
      obtain ⟨w, hw, hz⟩ := zo_o_inv hz
      obtain ⟨i', h1, h2⟩ := zy_saidi hw hm
      refine zy_arith hz hm ?_
      show zy_f s _ = zi_xor (zy_f s x1) (zy_f s x2)
      rw [zy_ntf g, h1]
      exact Eq.symm h2
    · cases hz
  | iushr =>
    simp only [zy_spec] at hz
    split at hz
    · rename_i x2 x1 r
      split at hz
      · rename_i i heq
        obtain ⟨w, hw, hz⟩ := zo_o_inv hz
        obtain ⟨g, hz⟩ := zo_g_inv hz
        obtain ⟨w1, w2, w3⟩ := zy_nati (s := s) hw
        refine zy_arith hz hm ?_
        show zy_f s _ = zi_ushr (zy_f s x1) (zy_f s x2)
        rw [zy_fmk (Nat.le_of_ble_eq_true g) (by decide) (by decide), zy_raw heq, w3, w1]
        rfl
      · cases hz
    · cases hz
  | ishr =>
    simp only [zy_spec] at hz
    split at hz
    · rename_i x2 x1 r
      split at hz
      · rename_i i heq
        obtain ⟨w, hw, hz⟩ := zo_o_inv hz
        obtain ⟨g, hz⟩ := zo_g_inv hz
        obtain ⟨w1, w2, w3⟩ := zy_nati (s := s) hw
        refine zy_arith hz hm ?_
        show zy_f s _ = zi_shr (zy_f s x1) (zy_f s x2)
        rw [zy_fmk (Nat.le_of_ble_eq_true g) (by decide) (by decide), zy_raw heq, w3, w1]
        rfl
      · cases hz
    · cases hz
  | iand =>
    simp only [zy_spec] at hz
    split at hz
    · rename_i x2 x1 r
      split at hz
      · rename_i i heq
        obtain ⟨g, hz⟩ := zo_g_inv hz
        obtain ⟨w, hw, hz⟩ := zo_o_inv hz
        obtain ⟨i', h1, h2⟩ := zy_saidi hw hm
        refine zy_arith hz hm ?_
        show zy_f s _ = zi_and (zy_f s x1) (zy_f s x2)
        rw [zy_ntf g, h1]
        exact Eq.symm h2
      · rename_i i q heq
        obtain ⟨w, hw, hz⟩ := zo_o_inv hz
        obtain ⟨g, hz⟩ := zo_g_inv hz
        obtain ⟨w1, w2, w3⟩ := zy_nati (s := s) hw
        refine zy_arith hz hm ?_
        show zy_f s _ = zi_and (zy_f s x1) (zy_f s x2)
        rw [zy_fmk (Nat.le_of_ble_eq_true g) (by decide) w2, w3, w1]
        have h4 : zy_f s x1 = zy_val s (i, 1, 0, q) := by unfold zy_f; rw [heq]
        rw [h4]
        rfl
      · rename_i i q heq
        obtain ⟨w, hw, hz⟩ := zo_o_inv hz
        obtain ⟨g, hz⟩ := zo_g_inv hz
        obtain ⟨w1, w2, w3⟩ := zy_nati (s := s) hw
        refine zy_arith hz hm ?_
        show zy_f s _ = zi_and (zy_f s x1) (zy_f s x2)
        rw [zy_fmk (Nat.le_of_ble_eq_true g) (by decide) w2, w3, w1]
        have h4 : zy_f s x1 = zy_val s (i, 2, 0, q) := by unfold zy_f; rw [heq]
        rw [h4]
        rfl
      · cases hz
    · cases hz
  | irem =>
    simp only [zy_spec] at hz
    split at hz
    · rename_i x2 x1 r
      obtain ⟨g, hz⟩ := zo_g_inv hz
      obtain ⟨w, hw, hz⟩ := zo_o_inv hz
      have g2 := Bool.and_eq_true_iff.mp g
      obtain ⟨i', h1, h2⟩ := zy_saidi hw hm
      obtain ⟨p, p1, p2, p3⟩ := zy_arith (w := zi_rem (zy_f s x1) (zy_f s x2)) hz hm (by
        rw [zy_ntf g2.1, h1]
        exact Eq.symm h2)
      refine ⟨p, p1, p2, ?_⟩
      show zo_g (!decide (Int32.ofInt (zy_f s x2) = 0)) (zs_nx y (pc + 1) (ls.map (zy_v s)) ((0, zi_rem (zy_f s x1) (zy_f s x2)) :: r.map (zy_v s)) (zy_h s h)) = _
      rw [zy_ntf g2.1] at p3 ⊢
      rw [g2.2]
      exact p3
    · cases hz
  | aaload =>
    simp only [zy_spec] at hz
    split at hz
    · rename_i x q r
      obtain ⟨gq, hz⟩ := zo_g_inv hz
      obtain ⟨c, hc, hz⟩ := zo_o_inv hz
      obtain ⟨g5, hz⟩ := zo_g_inv hz
      split at hz
      · rename_i i lo u hr
        obtain ⟨X, hX, hz⟩ := zo_o_inv hz
        obtain ⟨n, n1, n2, n3, n4⟩ := zy_refi hr hm
        obtain ⟨w, w1, w2, w3⟩ := zy_fiti hX n1 n2 n3
        obtain ⟨k, k1, w1⟩ := zo_o_inv w1
        obtain ⟨k2, w1⟩ := zo_g_inv w1
        cases w1
        refine zy_onei hz hm ?_
        show (zo_o (zh_at (zy_h s h) (zy_f s q)) fun c => zo_g (Nat.beq c.1 52) (zo_o (zi_ix (zy_f s x) c.2.length) fun j => zo_g (decide (-1 ≤ c.2.getD j 0)) (zs_nx y (pc + 1) (ls.map (zy_v s)) ((2, c.2.getD j 0) :: r.map (zy_v s)) (zy_h s h)))) = _
        rw [zy_ntf gq, zy_hat, hc, n4]
        show zo_g (Nat.beq c.1 52) (zo_o (zi_ix ((1 * n + 0 : Nat) : Int) (zy_c s c).2.length) fun j => zo_g (decide (-1 ≤ (zy_c s c).2.getD j 0)) (zs_nx y (pc + 1) (ls.map (zy_v s)) ((2, (zy_c s c).2.getD j 0) :: r.map (zy_v s)) (zy_h s h))) = _
        rw [show (1 * n + 0 : Nat) = n by omega, zy_cl, k1, g5]
        show zo_g (decide (-1 ≤ (c.2.map (zy_f s)).getD k 0)) (zs_nx y (pc + 1) (ls.map (zy_v s)) ((2, (c.2.map (zy_f s)).getD k 0) :: r.map (zy_v s)) (zy_h s h)) = _
        rw [zy_getD, w3, k2]
        show some (Sum.inl (y, pc + 1, ls.map (zy_v s), (2, c.2.getD k 0) :: r.map (zy_v s), zy_h s h)) = some (Sum.inl (y, pc + 1, ls.map (zy_v s), (2, zy_f s X) :: r.map (zy_v s), zy_h s h))
        rw [w2]
      · cases hz
    · cases hz
  | getfield ix =>
    simp only [zy_spec] at hz
    split at hz
    · rename_i q r
      obtain ⟨h60, hz⟩ := zo_g_inv hz
      have h60 : Nat.beq a 60 = false := by simpa using h60
      obtain ⟨⟨i, lo, u, d1, d0⟩, hr, hz⟩ := zo_o_inv hz
      obtain ⟨t, ht, hz⟩ := zo_o_inv hz
      obtain ⟨X, hX, hz⟩ := zo_o_inv hz
      obtain ⟨n, n1, n2, n3, n4⟩ := zy_refi hr hm
      obtain ⟨w, w1, w2, w3⟩ := zy_fiti hX n1 n2 n3
      obtain ⟨c, hc, w1⟩ := zo_o_inv w1
      obtain ⟨g, w1⟩ := zo_g_inv w1
      refine zy_onei hz hm ?_
      show cond (Nat.beq a 60) _ (zo_o (zh_at (zy_h s h) (zy_f s q)) fun c => zo_g (Nat.beq c.1 a) (zo_o (zf_tag a b) fun t => zo_o c.2[b]? fun x => zs_nx y (pc + 3) (ls.map (zy_v s)) ((zf_vt t, x) :: r.map (zy_v s)) (zy_h s h))) = _
      rw [h60, cond_false, n4, zy_hatn hc]
      show zo_g (Nat.beq c.1 a) (zo_o (zf_tag a b) fun t => zo_o (c.2.map (zy_f s))[b]? fun x => zs_nx y (pc + 3) (ls.map (zy_v s)) ((zf_vt t, x) :: r.map (zy_v s)) (zy_h s h)) = _
      rw [g, ht, List.getElem?_map, w1]
      show some (Sum.inl (y, pc + 3, ls.map (zy_v s), (zf_vt t, zy_f s w) :: r.map (zy_v s), zy_h s h)) = some (Sum.inl (y, pc + 3, ls.map (zy_v s), (zf_vt t, zy_f s X) :: r.map (zy_v s), zy_h s h))
      rw [w2, w3]
    · cases hz
  | iaload =>
    simp only [zy_spec] at hz
    split at hz
    · rename_i x q r
      obtain ⟨gx, hz⟩ := zo_g_inv hz
      obtain ⟨⟨i, lo, u, d1, d0⟩, hr, hz⟩ := zo_o_inv hz
      obtain ⟨X, hX, hz⟩ := zo_o_inv hz
      obtain ⟨n, n1, n2, n3, n4⟩ := zy_refi hr hm
      obtain ⟨w, w1, w2, w3⟩ := zy_fiti hX n1 n2 n3
      obtain ⟨c, hc, w1⟩ := zo_o_inv w1
      obtain ⟨g, w1⟩ := zo_g_inv w1
      obtain ⟨k, k1, w1⟩ := zo_o_inv w1
      cases w1
      refine zy_onei hz hm ?_
      show (cond (decide (0 ≤ zy_f s q)) (zo_o (zh_at (zy_h s h) (zy_f s q)) fun c => zo_g (Nat.beq c.1 50) (zo_o (zi_ix (zy_f s x) c.2.length) fun j => zs_nx y (pc + 1) (ls.map (zy_v s)) ((0, c.2.getD j 0) :: r.map (zy_v s)) (zy_h s h))) _) = _
      rw [n4, decide_eq_true (Int.natCast_nonneg _), cond_true, zy_hatn hc, zy_ntf gx]
      show zo_g (Nat.beq c.1 50) (zo_o (zi_ix x (zy_c s c).2.length) fun j => zs_nx y (pc + 1) (ls.map (zy_v s)) ((0, (c.2.map (zy_f s)).getD j 0) :: r.map (zy_v s)) (zy_h s h)) = _
      rw [g, zy_cl, k1]
      show some (Sum.inl (y, pc + 1, ls.map (zy_v s), (0, (c.2.map (zy_f s)).getD k 0) :: r.map (zy_v s), zy_h s h)) = some (Sum.inl (y, pc + 1, ls.map (zy_v s), (0, zy_f s X) :: r.map (zy_v s), zy_h s h))
      rw [zy_getD, w2, w3]
    · cases hz
  | arraylength =>
    simp only [zy_spec] at hz
    split at hz
    · rename_i q r
      obtain ⟨⟨i, lo, u, d1, d0⟩, hr, hz⟩ := zo_o_inv hz
      obtain ⟨X, hX, hz⟩ := zo_o_inv hz
      obtain ⟨n, n1, n2, n3, n4⟩ := zy_refi hr hm
      obtain ⟨w, w1, w2, w3⟩ := zy_fiti hX n1 n2 n3
      obtain ⟨c, hc, w1⟩ := zo_o_inv w1
      obtain ⟨g, w1⟩ := zo_g_inv w1
      cases w1
      refine zy_onei hz hm ?_
      show (cond (decide (0 ≤ zy_f s q)) (zo_o (zh_at (zy_h s h) (zy_f s q)) fun c => zo_g (Nat.beq c.1 50 || Nat.beq c.1 52) (zs_nx y (pc + 1) (ls.map (zy_v s)) ((0, (c.2.length : Int)) :: r.map (zy_v s)) (zy_h s h))) _) = _
      rw [n4, decide_eq_true (Int.natCast_nonneg _), cond_true, zy_hatn hc]
      show zo_g (Nat.beq c.1 50 || Nat.beq c.1 52) (zs_nx y (pc + 1) (ls.map (zy_v s)) ((0, ((zy_c s c).2.length : Int)) :: r.map (zy_v s)) (zy_h s h)) = _
      rw [g, zy_cl]
      show some (Sum.inl (y, pc + 1, ls.map (zy_v s), (0, (c.2.length : Int)) :: r.map (zy_v s), zy_h s h)) = some (Sum.inl (y, pc + 1, ls.map (zy_v s), (0, zy_f s X) :: r.map (zy_v s), zy_h s h))
      rw [w2]
    · cases hz
  | iastore =>
    simp only [zy_spec] at hz
    split at hz
    · rename_i vv x q r
      obtain ⟨gx, hz⟩ := zo_g_inv hz
      have gx := Bool.and_eq_true_iff.mp gx
      obtain ⟨⟨i, lo, u, d1, d0⟩, hr, hz⟩ := zo_o_inv hz
      obtain ⟨hX, hz⟩ := zo_g_inv hz
      obtain ⟨n, n1, n2, n3, n4⟩ := zy_refi hr hm
      have w1 := (zy_isi (zy_eachi hX n1 n2)).1
      obtain ⟨c, hc, w1⟩ := zo_o_inv w1
      obtain ⟨g, w1⟩ := zo_g_inv w1
      obtain ⟨k, k1, w1⟩ := zo_o_inv w1
      have w2 : c.2.getD k 0 = vv := Option.some.inj w1
      have hk := (zi_ix_inv k1).2.2
      refine zy_onei hz hm ?_
      show (zo_o (zh_at (zy_h s h) (zy_f s q)) fun c => zo_g (Nat.beq c.1 50) (zo_o (zi_ix (zy_f s x) c.2.length) fun j => zs_nx y (pc + 1) (ls.map (zy_v s)) (r.map (zy_v s)) ((zy_h s h).set (zy_f s q).toNat (50, c.2.set j (zy_f s vv))))) = _
      rw [n4, zy_hatn hc, zy_ntf gx.1]
      show zo_g (Nat.beq c.1 50) (zo_o (zi_ix x (zy_c s c).2.length) fun j => zs_nx y (pc + 1) (ls.map (zy_v s)) (r.map (zy_v s)) ((zy_h s h).set (d1 * n + d0) (50, (c.2.map (zy_f s)).set j (zy_f s vv)))) = _
      rw [g, zy_cl, k1]
      show some (Sum.inl (y, pc + 1, ls.map (zy_v s), r.map (zy_v s), (zy_h s h).set (d1 * n + d0) (50, (c.2.map (zy_f s)).set k (zy_f s vv)))) = some (Sum.inl (y, pc + 1, ls.map (zy_v s), r.map (zy_v s), zy_h s h))
      have e50 : c.1 = 50 := Nat.eq_of_beq_eq_true g
      have hs1 : (c.2.map (zy_f s)).set k (zy_f s vv) = c.2.map (zy_f s) := by
        refine zy_set_same ?_
        rw [List.getElem?_map, ← w2, List.getD_eq_getElem?_getD, List.getElem?_eq_getElem hk]
        rfl
      rw [hs1, zy_set_same]
      rw [zy_hget, hc, ← e50]
      rfl
    · cases hz
  | putfield ix =>
    simp only [zy_spec] at hz
    split at hz
    · rename_i kk vv q r
      obtain ⟨gx, hz⟩ := zo_g_inv hz
      obtain ⟨⟨i, lo, u, d1, d0⟩, hr, hz⟩ := zo_o_inv hz
      obtain ⟨t, ht, hz⟩ := zo_o_inv hz
      obtain ⟨hX, hz⟩ := zo_g_inv hz
      simp only [Bool.and_eq_true] at hX
      obtain ⟨n, n1, n2, n3, n4⟩ := zy_refi hr hm
      have w1 := (zy_isi (zy_eachi hX.2 n1 n2)).1
      obtain ⟨c, hc, w1⟩ := zo_o_inv w1
      obtain ⟨g, w1⟩ := zo_g_inv w1
      refine zy_onei hz hm ?_
      show (zo_o (zh_at (zy_h s h) (zy_f s q)) fun c => zo_g (Nat.beq c.1 a && Nat.blt b c.2.length) (zo_o (zf_tag a b) fun t =>
        zo_g (Nat.beq kk (zf_vt t) && (!Nat.beq t 5 || (decide (zy_f s vv = 0) || decide (zy_f s vv = 1)))) (zs_nx y (pc + 3) (ls.map (zy_v s)) (r.map (zy_v s)) ((zy_h s h).set (zy_f s q).toNat (a, c.2.set b (zy_f s vv)))))) = _
      rw [n4, zy_hatn hc, ht]
      have hb : b < c.2.length := (List.getElem?_eq_some_iff.mp w1).1
      show zo_g (Nat.beq c.1 a && Nat.blt b (zy_c s c).2.length) (zo_g (Nat.beq kk (zf_vt t) && (!Nat.beq t 5 || (decide (zy_f s vv = 0) || decide (zy_f s vv = 1)))) (zs_nx y (pc + 3) (ls.map (zy_v s)) (r.map (zy_v s)) ((zy_h s h).set (d1 * n + d0) (a, (c.2.map (zy_f s)).set b (zy_f s vv))))) = _
      rw [g, zy_cl, show Nat.blt b c.2.length = true from Nat.ble_eq_true_of_le hb, hX.1.1, hX.1.2]
      show some (Sum.inl (y, pc + 3, ls.map (zy_v s), r.map (zy_v s), (zy_h s h).set (d1 * n + d0) (a, (c.2.map (zy_f s)).set b (zy_f s vv)))) = some (Sum.inl (y, pc + 3, ls.map (zy_v s), r.map (zy_v s), zy_h s h))
      have ea : c.1 = a := Nat.eq_of_beq_eq_true g
      have hs1 : (c.2.map (zy_f s)).set b (zy_f s vv) = c.2.map (zy_f s) := by
        refine zy_set_same ?_
        rw [List.getElem?_map, w1]
        rfl
      rw [hs1, zy_set_same]
      rw [zy_hget, hc, ← ea]
      rfl
    · cases hz
  | invokevirtual ix =>
    simp only [zy_spec] at hz
    obtain ⟨m, hm1, hz⟩ := zo_o_inv hz
    split at hz
    · cases hz
    · rename_i n hn
      obtain ⟨w, hw, hz⟩ := zo_o_inv hz
      obtain ⟨⟨i, lo, u, d1, d0⟩, hr, hz⟩ := zo_o_inv hz
      obtain ⟨hX, hz⟩ := zo_g_inv hz
      simp only [Bool.and_eq_true] at hX
      obtain ⟨S, hS, hz⟩ := zo_o_inv hz
      obtain ⟨q, n1, n2, n3, n4⟩ := zy_refi hr hm
      have w1 := zy_eachi hX.2 n1 n2
      refine zy_onei hz hm ?_
      have hcall := zc_call (s := s) (P := fun _ => True) (y := y) (pc := pc) (t := a) (ls := ls) (st := st) (h := h) S hS trivial
      show (zo_o (zm_at a) fun m => zo_g ((Nat.blt m.2.2.2.2.2.2.1 60 && zs_recv (zy_h s h) m.2.2.2.2.2.2.1 (((st.map (zy_v s)).take m.2.2.2.2.2.1).reverse) || zs_recvS m.2.2.2.2.2.2.1 (((st.map (zy_v s)).take m.2.2.2.2.2.1).reverse)) && Nat.beq b 0) (zs_call y pc a (ls.map (zy_v s)) (st.map (zy_v s)) (zy_h s h))) = _
      rw [hm1]
      show zo_g ((Nat.blt m.2.2.2.2.2.2.1 60 && zs_recv (zy_h s h) m.2.2.2.2.2.2.1 (((st.map (zy_v s)).take m.2.2.2.2.2.1).reverse) || zs_recvS m.2.2.2.2.2.2.1 (((st.map (zy_v s)).take m.2.2.2.2.2.1).reverse)) && Nat.beq b 0) _ = _
      have hrecv : zs_recv (zy_h s h) m.2.2.2.2.2.2.1 (((st.map (zy_v s)).take m.2.2.2.2.2.1).reverse) = true := by
        rw [hn]
        have hs : n < st.length := (List.getElem?_eq_some_iff.mp hw).1
        have h0 : (st.map (zy_v s)).take (n + 1) = (st.map (zy_v s)).take n ++ [zy_v s w] := by
          rw [List.take_add_one, List.getElem?_map, hw]
          rfl
        rw [h0, List.reverse_append]
        show zs_recv (zy_h s h) m.2.2.2.2.2.2.1 ((w.1, zy_f s w.2) :: _) = true
        rw [n4, show w.1 = 2 from Nat.eq_of_beq_eq_true hX.1.1.1]
        cases hc : h[d1 * q + d0]? with
        | none => rw [hc] at w1; cases w1
        | some c =>
          rw [hc] at w1
          show (!Nat.beq m.2.2.2.2.2.2.1 99 && (Nat.beq 2 2 && (match zh_at (zy_h s h) ((d1 * q + d0 : Nat) : Int) with
            | none => false
            | some c => Nat.beq c.1 m.2.2.2.2.2.2.1))) = true
          have hlt : m.2.2.2.2.2.2.1 + 1 ≤ 60 := Nat.le_of_ble_eq_true hX.1.2
          have h99 : Nat.beq m.2.2.2.2.2.2.1 99 = false := by
            cases hq : Nat.beq m.2.2.2.2.2.2.1 99 with
            | false => rfl
            | true =>
              have := Nat.eq_of_beq_eq_true hq
              omega
          rw [zy_hatn hc, h99]
          exact w1
      rw [hrecv, hX.1.1.2, hX.1.2]
      exact hcall
  | invokestatic ix =>
    simp only [zy_spec] at hz
    rcases zy_ci hz with ⟨g, hz⟩ | ⟨-, hz⟩
    · obtain ⟨p, p1, p2, p3⟩ := zy_cpi hz hm
      refine ⟨p, p1, p2, ?_⟩
      show cond (Nat.beq a 9003) _ _ = _
      rw [g]
      exact p3
    · cases hz
  | ireturn =>
    simp only [zy_spec] at hz
    split at hz
    · rename_i q
      obtain ⟨m, hm1, hz⟩ := zo_o_inv hz
      obtain ⟨g, hz⟩ := zo_g_inv hz
      refine zy_onei hz hm ?_
      obtain ⟨m1, m2, m3, m4, rc, m7⟩ := m
      show zs_ret y [(0, zy_f s q)] 0 (fun rc x => Nat.beq rc 1 || (Nat.beq rc 2 && (decide (x = 0) || decide (x = 1)) || (Nat.beq rc 6 && decide (x = 48) || Nat.beq rc 7 && decide (x = 0)))) (zy_h s h) = _
      unfold zs_ret
      rw [hm1]
      show zo_g ((Nat.beq rc 1 || _) && true) (some (Sum.inr (Sum.inr (1, (0, zy_f s q), zy_h s h)))) = _
      rw [show Nat.beq rc 1 = true from g]
      rfl
    · cases hz
  | areturn =>
    simp only [zy_spec] at hz
    split at hz
    · rename_i q
      obtain ⟨⟨i, lo, u, d1, d0⟩, hr, hz⟩ := zo_o_inv hz
      obtain ⟨m, hm1, hz⟩ := zo_o_inv hz
      obtain ⟨g, hz⟩ := zo_g_inv hz
      obtain ⟨n, n1, n2, n3, n4⟩ := zy_refi hr hm
      refine zy_onei hz hm ?_
      obtain ⟨m1, m2, m3, m4, rc, m7⟩ := m
      show zs_ret y [(2, zy_f s q)] 2 (fun rc x => Nat.beq rc 3 && decide (-1 ≤ x)) (zy_h s h) = _
      unfold zs_ret
      rw [hm1]
      show zo_g ((Nat.beq rc 3 && decide (-1 ≤ zy_f s q)) && true) (some (Sum.inr (Sum.inr (1, (2, zy_f s q), zy_h s h)))) = _
      rw [show Nat.beq rc 3 = true from g, n4, decide_eq_true (by omega)]
      show some (Sum.inr (Sum.inr (1, (2, _), zy_h s h))) = some (Sum.inr (Sum.inr (1, (2, zy_f s q), zy_h s h)))
      rw [n4]
    · cases hz
  | _ => exact nomatch (show (none : Option (List (zy_E × zv_S))) = some l from hz)
end
