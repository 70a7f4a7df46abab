/-! What looks at a token. -/
def zy_fact (s : Nat → Int) (q : Nat × Nat × Int × Int) : Prop := match q with
  | (0, i, w, r) => zi_and (s i) w = zy_f s r
  | (1, i, w, r) => zi_rem (s i) w = zy_f s r
  | (3, i, w, r) => zi_xor (s i) w = zy_f s r
  | (2, i, j, _) => s i ≠ s j.toNat
  | (4, i, j, _) => s i = s j.toNat
  | _ => True
/-- a script that a span speaks of -/
def zy_mod (s : Nat → Int) (e : zy_E) : Prop := (∀ i, (zy_iv e i).1 ≤ s i ∧ s i ≤ (zy_iv e i).2) ∧ ∀ q ∈ e.2, zy_fact s q
section
variable {s : Nat → Int}
theorem zy_raw {x : Int} {i : Nat} (h : zy_dec x = some (i, 0, 1, 0)) : zy_f s x = s i := by
  unfold zy_f
  rw [h]
  show s i * ((1 : Nat) : Int) + ((0 : Nat) : Int) = s i
  simp
theorem zy_decmk {i k c1 c0 : Nat} (hi : i < 8) (hk : k < 8) (hc : c1 < 1048576) : zy_dec (zy_mkt i k c1 c0) = some (i, k, c1, c0) := by
  unfold zy_mkt
  generalize hm : i + 8 * (k + 8 * (c1 + 1048576 * c0)) = m
  show cond (Nat.ble zy_T (zy_T + m)) (some ((zy_T + m - zy_T) % 8, (zy_T + m - zy_T) / 8 % 8, (zy_T + m - zy_T) / 64 % 1048576, (zy_T + m - zy_T) / 67108864)) none = _
  rw [Nat.ble_eq_true_of_le (Nat.le_add_right _ _), cond_true, Nat.add_sub_cancel_left]
  have h1 : m % 8 = i := by omega
  have h2 : m / 8 % 8 = k := by omega
  have h3 : m / 64 % 1048576 = c1 := by omega
  have h4 : m / 67108864 = c0 := by omega
  rw [h1, h2, h3, h4]
theorem zy_fmk {i k c1 c0 : Nat} (hi : i < 8) (hk : k < 8) (hc : c1 < 1048576) : zy_f s (zy_mkt i k c1 c0) = zy_val s (i, k, c1, c0) := by
  unfold zy_f
  rw [zy_decmk hi hk hc]
theorem zy_rngi {e : zy_E} {i l u : Nat} (h : zy_rng e i = some (l, u)) (hm : zy_mod s e) : ∃ n : Nat, l ≤ n ∧ n ≤ u ∧ s i = (n : Int) := by
  have h1 := hm.1 i
  unfold zy_rng at h
  split at h
  · rename_i l' u' heq
    cases h
    rw [heq] at h1
    have h2 : (l : Int) ≤ s i := h1.1
    have h3 : s i ≤ (u : Int) := h1.2
    exact ⟨(s i).toNat, by omega, by omega, by omega⟩
  · cases h
theorem zy_refi {e : zy_E} {x : Int} {i l u c1 c0 : Nat} (h : zy_ref e x = some (i, l, u, c1, c0)) (hm : zy_mod s e) : ∃ n : Nat, l ≤ n ∧ n ≤ u ∧ s i = (n : Int) ∧ zy_f s x = ((c1 * n + c0 : Nat) : Int) := by
  unfold zy_ref at h
  split at h
  · rename_i i' c1' c0' heq
    cases hr : zy_rng e i' with
    | none => rw [hr] at h; cases h
    | some lu =>
      obtain ⟨l', u'⟩ := lu
      rw [hr] at h
      cases h
      obtain ⟨n, h1, h2, h3⟩ := zy_rngi hr hm
      refine ⟨n, h1, h2, h3, ?_⟩
      unfold zy_f
      rw [heq]
      show s i * (c1 : Int) + (c0 : Int) = _
      rw [h3, Int.mul_comm]
      rfl
  · cases h
theorem zy_eachi {l u n : Nat} {P : Nat → Bool} (h : zy_each l u P = true) (h1 : l ≤ n) (h2 : n ≤ u) : P n = true := by
  have := List.all_eq_true.mp h (n - l) (List.mem_range.mpr (by omega))
  have e : l + (n - l) = n := by omega
  rw [e] at this
  exact this
theorem zy_isi {o : Option Int} {x : Int} (h : zy_is o x = true) : o = some x ∧ zy_nt x = true := by
  cases o with
  | none => cases h
  | some z =>
    have h1 := Bool.and_eq_true_iff.mp (show (decide (z = x) && zy_nt z) = true from h)
    have h2 := of_decide_eq_true h1.1
    subst h2
    exact ⟨rfl, h1.2⟩
theorem zy_ci {α : Type} {b : Bool} {A B : Option α} {q : α} (h : cond b A B = some q) : (b = true ∧ A = some q) ∨ (b = false ∧ B = some q) := by
  cases b with
  | true => exact .inl ⟨rfl, h⟩
  | false => exact .inr ⟨rfl, h⟩
theorem zy_fiti {i l u n : Nat} {g : Nat → Option Int} {X : Int} (h : zy_fit i l u g = some X) (h1 : l ≤ n) (h2 : n ≤ u) (h3 : s i = (n : Int)) : ∃ x, g n = some x ∧ zy_f s X = x ∧ zy_f s x = x := by
  unfold zy_fit at h
  cases hx : g l with
  | none => rw [hx] at h; cases h
  | some x =>
    rw [hx] at h
    simp only at h
    cases hz : g (cond (Nat.blt l u) (l + 1) l) with
    | none => rw [hz] at h; cases h
    | some z =>
      rw [hz] at h
      simp only at h
      rcases zy_ci h with ⟨-, h⟩ | ⟨-, h⟩
      · rcases zy_ci h with ⟨e1, h⟩ | ⟨-, h⟩
        · cases h
          have := zy_isi (zy_eachi e1 h1 h2)
          exact ⟨_, this.1, zy_ntf this.2, zy_ntf this.2⟩
        · cases h
      · rcases zy_ci h with ⟨e1, h⟩ | ⟨-, h⟩
        · cases h
          generalize hA : (z - x).toNat = A at e1 ⊢
          generalize hB : (x - ((A * l : Nat) : Int)).toNat = B at e1 ⊢
          simp only [Bool.and_eq_true] at e1
          have := zy_isi (zy_eachi e1.2 h1 h2)
          refine ⟨_, this.1, ?_, zy_ntf this.2⟩
          rw [zy_fmk (Nat.le_of_ble_eq_true e1.1.2) (by decide) (Nat.le_of_ble_eq_true e1.1.1)]
          show s i * (A : Int) + (B : Int) = _
          rw [h3, Int.mul_comm]
          rfl
        · cases h
/-! comparisons -/
def zy_ic (c : ClassFile.Cond) (x w : Int) : Bool := match c with
  | .eq => decide (x = w)
  | .ne => !decide (x = w)
  | .lt => decide (x < w)
  | .ge => decide (x ≥ w)
  | .gt => decide (x > w)
  | .le => decide (x ≤ w)
theorem zy_in {x : Int} (h : zy_in32 x = true) : -2147483648 ≤ x ∧ x ≤ 2147483647 := by
  have := Bool.and_eq_true_iff.mp h
  exact ⟨of_decide_eq_true this.1, of_decide_eq_true this.2⟩
theorem zy_toInt {x : Int} (h : -2147483648 ≤ x ∧ x ≤ 2147483647) : (Int32.ofInt x).toInt = x := Int32.toInt_ofInt_of_le (by omega) (by omega)
theorem zy_icmp {c : ClassFile.Cond} {x w : Int} (hx : -2147483648 ≤ x ∧ x ≤ 2147483647) (hw : -2147483648 ≤ w ∧ w ≤ 2147483647) : zi_cmp c (Int32.ofInt x) (Int32.ofInt w) = zy_ic c x w := by
  have ex := zy_toInt hx
  have ew := zy_toInt hw
  have he : (Int32.ofInt x = Int32.ofInt w) ↔ x = w := by rw [← Int32.toInt_inj, ex, ew]
  have hl : (Int32.ofInt x < Int32.ofInt w) ↔ x < w := by rw [Int32.lt_iff_toInt_lt, ex, ew]
  have hg : (Int32.ofInt w < Int32.ofInt x) ↔ w < x := by rw [Int32.lt_iff_toInt_lt, ex, ew]
  have hle : (Int32.ofInt x ≤ Int32.ofInt w) ↔ x ≤ w := by rw [Int32.le_iff_toInt_le, ex, ew]
  have hge : (Int32.ofInt w ≤ Int32.ofInt x) ↔ w ≤ x := by rw [Int32.le_iff_toInt_le, ex, ew]
  cases c with
  | eq => exact decide_eq_decide.mpr he
  | ne => exact congrArg not (decide_eq_decide.mpr he)
  | lt => exact decide_eq_decide.mpr hl
  | ge => exact decide_eq_decide.mpr hge
  | gt => exact decide_eq_decide.mpr hg
  | le => exact decide_eq_decide.mpr hle
theorem zy_minl {x u w : Int} (h1 : x ≤ u) (h2 : x ≤ w) : x ≤ zy_min u w := by
  unfold zy_min
  cases decide (u ≤ w) <;> assumption
theorem zy_maxl {x u w : Int} (h1 : u ≤ x) (h2 : w ≤ x) : zy_max u w ≤ x := by
  unfold zy_max
  cases decide (u ≤ w) <;> assumption
theorem zy_pcsi {c : ClassFile.Cond} {w l u x : Int} (h1 : l ≤ x) (h2 : x ≤ u) : ∃ q ∈ zy_pcs c w l u, q.1 ≤ x ∧ x ≤ q.2.1 ∧ zy_ic c x w = q.2.2 := by
  rcases Int.lt_trichotomy x w with h | h | h
  · have k1 : x ≤ zy_min u (w - 1) := zy_minl h2 (by omega)
    have k2 : x ≤ zy_min u w := zy_minl h2 (by omega)
    cases c with
    | eq => exact ⟨_, .tail _ (.head _), h1, k1, decide_eq_false (by omega)⟩
    | ne => exact ⟨_, .tail _ (.head _), h1, k1, by show (!decide (x = w)) = true; rw [decide_eq_false (by omega)]; rfl⟩
    | lt => exact ⟨_, .head _, h1, k1, decide_eq_true (by omega)⟩
    | ge => exact ⟨_, .head _, h1, k1, decide_eq_false (by omega)⟩
    | gt => exact ⟨_, .head _, h1, k2, decide_eq_false (by omega)⟩
    | le => exact ⟨_, .head _, h1, k2, decide_eq_true (by omega)⟩
  · have k1 : x ≤ zy_min u w := zy_minl h2 (by omega)
    have k2 : zy_max l w ≤ x := zy_maxl h1 (by omega)
    cases c with
    | eq => exact ⟨_, .head _, k2, k1, decide_eq_true h⟩
    | ne => exact ⟨_, .head _, k2, k1, by show (!decide (x = w)) = false; rw [decide_eq_true h]; rfl⟩
    | lt => exact ⟨_, .tail _ (.head _), k2, h2, decide_eq_false (by omega)⟩
    | ge => exact ⟨_, .tail _ (.head _), k2, h2, decide_eq_true (by omega)⟩
    | gt => exact ⟨_, .head _, h1, k1, decide_eq_false (by omega)⟩
    | le => exact ⟨_, .head _, h1, k1, decide_eq_true (by omega)⟩
  · have k1 : zy_max l (w + 1) ≤ x := zy_maxl h1 (by omega)
    have k2 : zy_max l w ≤ x := zy_maxl h1 (by omega)
    cases c with
    | eq => exact ⟨_, .tail _ (.tail _ (.head _)), k1, h2, decide_eq_false (by omega)⟩
    | ne => exact ⟨_, .tail _ (.tail _ (.head _)), k1, h2, by show (!decide (x = w)) = true; rw [decide_eq_false (by omega)]; rfl⟩
    | lt => exact ⟨_, .tail _ (.head _), k2, h2, decide_eq_false (by omega)⟩
    | ge => exact ⟨_, .tail _ (.head _), k2, h2, decide_eq_true (by omega)⟩
    | gt => exact ⟨_, .tail _ (.head _), k1, h2, decide_eq_true (by omega)⟩
    | le => exact ⟨_, .tail _ (.head _), k1, h2, decide_eq_false (by omega)⟩
theorem zy_modset {e : zy_E} {i : Nat} {l u : Int} (hm : zy_mod s e) (hi : i < e.1.length) (h1 : l ≤ s i) (h2 : s i ≤ u) : zy_mod s (e.1.set i (l, u), e.2) := by
  refine ⟨fun j => ?_, hm.2⟩
  unfold zy_iv
  by_cases hj : i = j
  · subst hj
    rw [List.getElem?_set_self hi]
    exact ⟨h1, h2⟩
  · rw [List.getElem?_set_ne hj]
    exact hm.1 j
theorem zy_rawc {x : Int} {i c0 : Nat} (h : zy_dec x = some (i, 0, 1, c0)) : zy_f s x = s i + (c0 : Int) := by
  unfold zy_f
  rw [h]
  show s i * ((1 : Nat) : Int) + (c0 : Int) = s i + (c0 : Int)
  simp
theorem zy_icc {c : ClassFile.Cond} {x w d : Int} : zy_ic c x (w - d) = zy_ic c (x + d) w := by
  cases c with
  | eq => exact decide_eq_decide.mpr (by omega)
  | ne => exact congrArg not (decide_eq_decide.mpr (by omega))
  | lt => exact decide_eq_decide.mpr (by omega)
  | ge => exact decide_eq_decide.mpr (by omega)
  | gt => exact decide_eq_decide.mpr (by omega)
  | le => exact decide_eq_decide.mpr (by omega)
theorem zy_cmpi {e : zy_E} {c : ClassFile.Cond} {x w : Int} {k : zy_E → Bool → zy_E × zv_S} {l : List (zy_E × zv_S)} (h : zy_cmpc e c x w k = some l) (hm : zy_mod s e) : ∃ e' q, k e' q ∈ l ∧ zy_mod s e' ∧ zi_cmp c (Int32.ofInt (zy_f s x)) (Int32.ofInt w) = q ∧ zy_nt w = true := by
  unfold zy_cmpc at h
  split at h
  · rename_i i c0 heq
    have hb := hm.1 i
    rcases zy_ci (show cond (zy_in32 w && zy_in32 ((zy_iv e i).1 + c0) && zy_in32 ((zy_iv e i).2 + c0) && Nat.blt i e.1.length && zy_nt w) (some (((zy_pcs c (w - c0) (zy_iv e i).1 (zy_iv e i).2).filter (fun q => decide (q.1 ≤ q.2.1))).map (fun q => k (e.1.set i (q.1, q.2.1), e.2) q.2.2))) none = some l from h) with ⟨g, h⟩ | ⟨-, h⟩
    · cases h
      simp only [Bool.and_eq_true] at g
      obtain ⟨q, h1, h2, h3, h4⟩ := zy_pcsi (c := c) (w := w - c0) hb.1 hb.2
      refine ⟨_, _, List.mem_map.mpr ⟨q, List.mem_filter.mpr ⟨h1, decide_eq_true (by omega)⟩, rfl⟩, zy_modset hm (Nat.le_of_ble_eq_true g.1.2) h2 h3, ?_, g.2⟩
      have k1 := zy_in g.1.1.1.2
      have k2 := zy_in g.1.1.2
      rw [zy_rawc heq, zy_icmp ⟨by omega, by omega⟩ (zy_in g.1.1.1.1), ← zy_icc, h4]
    · cases h
  · cases h
theorem zy_swapi {c : ClassFile.Cond} {x w : Int32} : zi_cmp (zy_swap c) x w = zi_cmp c w x := by
  cases c with
  | eq => exact decide_eq_decide.mpr ⟨Eq.symm, Eq.symm⟩
  | ne => exact congrArg not (decide_eq_decide.mpr ⟨Eq.symm, Eq.symm⟩)
  | lt => rfl
  | ge => rfl
  | gt => rfl
  | le => rfl
end
