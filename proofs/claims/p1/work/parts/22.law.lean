/-! Every script of at most six numbers. -/
/-- what a script's places say; behind them two numbers more -/
def zl_s (xs : Nat → Int32) (a b : Int) (i : Nat) : Int := if i < 6 then (xs i).toInt else if i = 6 then a else b
theorem zl_32 (x : Int32) : -2147483648 ≤ x.toInt ∧ x.toInt ≤ 2147483647 := by
  have h1 := Int32.le_toInt x
  have h2 := Int32.toInt_lt x
  omega
theorem zl_s32 {xs : Nat → Int32} {a b : Int} (ha : -2147483648 ≤ a ∧ a ≤ 2147483647) (hb : -2147483648 ≤ b ∧ b ≤ 2147483647) (i : Nat) : -2147483648 ≤ zl_s xs a b i ∧ zl_s xs a b i ≤ 2147483647 := by
  unfold zl_s
  by_cases h : i < 6
  · rw [if_pos h]; exact zl_32 _
  · rw [if_neg h]
    by_cases h6 : i = 6
    · rw [if_pos h6]; exact ha
    · rw [if_neg h6]; exact hb
theorem zl_sl {s : Nat → Int} (h : zv_H) : zx_sl (zy_h s h) = zx_sl h := by
  unfold zx_sl zy_h
  rw [List.map_map]
  congr 1
  exact List.map_congr_left (fun c _ => List.length_map _)
theorem zl_tok {s : Nat → Int} {i : Nat} (hi : i < 8) : zy_f s (zy_mkt i 0 1 0) = s i := by
  rw [zy_fmk hi (by decide) (by decide)]
  show s i * ((1 : Nat) : Int) + ((0 : Nat) : Int) = s i
  simp
theorem zl_six (xs : Nat → Int32) (a b : Int) : zy_six.map (fun l => List.map (zy_f (zl_s xs a b)) l) = [zx_script 6 xs] := by
  show [[zy_f (zl_s xs a b) (zy_mkt 0 0 1 0), zy_f (zl_s xs a b) (zy_mkt 1 0 1 0), zy_f (zl_s xs a b) (zy_mkt 2 0 1 0), zy_f (zl_s xs a b) (zy_mkt 3 0 1 0), zy_f (zl_s xs a b) (zy_mkt 4 0 1 0), zy_f (zl_s xs a b) (zy_mkt 5 0 1 0)]] = _
  rw [zl_tok (by decide), zl_tok (by decide), zl_tok (by decide), zl_tok (by decide), zl_tok (by decide), zl_tok (by decide)]
  rfl
def zl_W (L : Nat) (xs : Nat → Int32) : Prop := ∃ f h, zs_exec [zx_script L xs] f 100 zx_law0 = some (1, (0, 1), h) ∧ h.length ≤ 600002 ∧ zx_sl h ≤ 7302232
theorem zl_fin {s : Nat → Int} {e : zy_E} {r : zv_R} (h : zy_fin e r = true) : ∃ hh, zy_r s r = (1, (0, 1), hh) ∧ hh.length ≤ 600002 ∧ zx_sl hh ≤ 7302232 := by
  unfold zy_fin at h
  split at h
  · rename_i x hh
    simp only [Bool.and_eq_true, decide_eq_true_eq] at h
    obtain ⟨⟨h1, h2⟩, h3⟩ := h
    subst h1
    refine ⟨zy_h s hh, ?_, ?_, ?_⟩
    · show (1, (0, zy_f s 1), zy_h s hh) = _
      rw [zy_ntf rfl]
    · rw [zy_hlen]; exact Nat.le_of_ble_eq_true h2
    · rw [zl_sl]; exact Nat.le_of_ble_eq_true h3
  · cases h
theorem zl_mod0 {s : Nat → Int} (h32 : ∀ i, -2147483648 ≤ s i ∧ s i ≤ 2147483647) : zy_mod s ([], []) := ⟨fun i => h32 i, fun q hq => absurd hq List.not_mem_nil⟩
theorem zl_law0 (s : Nat → Int) : zy_fr s zx_law0 = zx_law0 := by
  show (zk_law, 0, ([(2, -2)] ++ List.replicate 8 (9, 0)).map (zy_v s), ([] : List zv_V), ([] : zv_H)) = (zk_law, 0, [(2, -2)] ++ List.replicate 8 (9, 0), [], [])
  rw [List.map_append, List.map_replicate, zy_v9]
  show (zk_law, 0, [(2, zy_f s (-2))] ++ _, _) = _
  rw [zy_ntf rfl]
theorem zl_run {xs : Nat → Int32} {a b : Int} {hs : List zy_E} (hr : zq_go hs = true) (ha : -2147483648 ≤ a ∧ a ≤ 2147483647) (hb : -2147483648 ≤ b ∧ b ≤ 2147483647) (hc : ∃ e ∈ hs, zy_mod (zl_s xs a b) e) : zl_W 6 xs := by
  obtain ⟨f, r, e', -, h2, h3⟩ := zq_sound (E := zy_six) (zl_s32 ha hb) hc 100000000 100 ([], []) zk_law 0 _ [] [] zy_fin (zl_mod0 (zl_s32 ha hb)) hr
  obtain ⟨hh, e1, e2, e3⟩ := zl_fin (s := zl_s xs a b) h2
  refine ⟨f, hh, ?_, e2, e3⟩
  rw [zl_six, e1] at h3
  rw [← zl_law0 (zl_s xs a b)]
  exact h3
/-- the spans hold what the places say, from place j on -/
def zl_in (s : Nat → Int) (j : Nat) (l : List (Int × Int)) : Prop := match l with
  | [] => True
  | q :: l => (q.1 ≤ s j ∧ s j ≤ q.2) ∧ zl_in s (j + 1) l
theorem zl_ini {s : Nat → Int} : ∀ {l : List (Int × Int)} {j : Nat}, zl_in s j l → ∀ i q, l[i]? = some q → q.1 ≤ s (j + i) ∧ s (j + i) ≤ q.2 := by
  intro l
  induction l with
  | nil => intro j _ i q h; cases h
  | cons w l ih =>
    intro j h i q hq
    cases i with
    | zero => cases hq; exact h.1
    | succ i =>
      have := ih h.2 i q hq
      have e : j + 1 + i = j + (i + 1) := by omega
      rw [e] at this
      exact this
theorem zl_op {s : Nat → Int} (h32 : ∀ i, -2147483648 ≤ s i ∧ s i ≤ 2147483647) {k : Int} {l : List (Int × Int)} {q : List (Nat × Nat × Int × Int)} (hk : zi_and (s 0) 31 = k) (hn : zy_nt k = true) (hl : zl_in s 1 l) (hq : ∀ w ∈ q, zy_fact s w) : zy_mod s (zy_op k l q) := by
  refine ⟨fun i => ?_, fun w hw => ?_⟩
  · unfold zy_iv zy_op
    cases i with
    | zero => exact h32 0
    | succ i =>
      show (match l[i]? with
        | some q => q
        | none => (-2147483648, 2147483647)).1 ≤ s (i + 1) ∧ s (i + 1) ≤ (match l[i]? with
        | some q => q
        | none => (-2147483648, 2147483647)).2
      cases hi : l[i]? with
      | none => exact h32 (i + 1)
      | some q =>
        have := zl_ini hl i q hi
        rw [Nat.add_comm] at this
        exact this
  · cases hw with
    | head =>
      show zi_and (s 0) 31 = zy_f s k
      rw [zy_ntf hn]
      exact hk
    | tail _ hw => exact hq w hw
