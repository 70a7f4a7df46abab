/-! Contracts: by x and a remainder; products by a remainder; values. -/
theorem zL_Xe {R : Type} [Lean.Grind.CommRing R] {p : Int} {inv : Int → Int} {co : R → Nat → Int} {X : R} {C : Int → R} (I : zIf R p inv co X C) {a : R} (h : a ≠ 0) : zlen co (X * a) = zlen co a + 1 := by
  obtain ⟨n, hn⟩ := zL_pos I h
  have h1 := zL_X I (a := a) (n := n + 1) (by omega)
  have h2 := zL_gt I (a := X * a) (k := n + 1) (by rw [zR_XS I]; exact zL_top I hn)
  omega
theorem c54 {R : Type} [Lean.Grind.CommRing R] {p : Int} {inv : Int → Int} {co : R → Nat → Int} {X : R} {C : Int → R} (I : zIf R p inv co X C) {E : List (List Int)} {d : Nat} {T : zT} {S : Int → R} {U : zD} {Q : Int → zT → zD → Prop} (hT : zTT T) (hS : ∀ a, zlen co (S a) ≤ 25) {q m : Int} (hd : 1 ≤ d) (hq : zPq q = true) (hm : zPq m = true) (hne : m ≠ q) (hl : zlen co (S q) < zlen co (S m)) (hQ : ∀ t a, X * S q = t * S m + a → zlen co a < zlen co (S m) → Q 0 T (zS p inv co (zup S q a) U)) : zc E d 0 54 [(2, q), (2, m)] T (zS p inv co S U) Q := by
  have hp := zR_p I
  have hlq := hS q
  have hlm := hS m
  obtain ⟨l, hm1⟩ : ∃ l, zlen co (S m) = l + 1 := ⟨zlen co (S m) - 1, by omega⟩
  have hB := zR_rng I (S m) l
  have tB := zL_top I hm1
  have hinv := zR_inv I (c := co (S m) l) (by omega) hB.2
  have hX := zL_X I (a := S q) (n := l) (by omega)
  have hS1 := zup_l hS (q := q) (v := X * S q) (by omega)
  have em : zup S q (X * S q) m = S m := zup_o _ _ hne
  have part2 : ∀ l2 : Int, zj E d 0 54 79 [(2, q), (2, m), (0, l2)] [] T (zS p inv co (zup S q (X * S q)) U) Q := by
    intro l2
    obtain ⟨r1, r2⟩ := zred1 I (m := S m) (cur := X * S q) (t := 0) hm1 (by omega)
    rw [Nat.zero_add] at r1 r2
    refine z54_79 _ _ _ ⟨zP_ob hT hq, zP_ob hT hm, by omega, zP_k hT hq, ?_⟩
    rw [zS_f2 hm, em, hm1, show (((l + 1 : Nat) : Int) - 1) = (l : Int) by omega]
    refine c19 I hT hS1 hq (by omega) (by omega) ⟨zP_ob hT hq, zP_k hT hm, ?_⟩
    rw [zup_s, zat_n]
    refine c36 I hT hS1 hm ⟨?_, ?_⟩
    · rw [zS_f0 hq]; exact zF_k hT
    · rw [zS_f0 hq, em, hm1, Nat.add_sub_cancel]
      have hr := zR_rng I (X * S q) l
      refine c37 I hT hS1 hB.1 hB.2 ⟨zF_k hT, ?_⟩
      refine c38 I hT hS1 hr.1 (by omega) (by omega) (by omega) ⟨zP_ob hT hq, ?_, ?_⟩
      · rw [zS_f0 hq]; exact zF_k hT
      · rw [zS_f0 hq]
        have hr2 := zmodr I (co (X * S q) l * inv (co (S m) l))
        refine c28 I hT hS1 hr2.1 hr2.2 ⟨zP_k hT hq, ?_⟩
        refine c26 I hT hS1 (s := 0) hq hm hne (by split <;> omega) (by split <;> omega) (by omega) (fun _ => by rw [em]; omega) ?_
        rw [em, zup_s, zup_up]
        refine hQ (C ((co (X * S q) l * inv (co (S m) l)) % p)) _ ?_ (by omega)
        rw [r2]
        grind
  have part1 : ∀ (k : Nat) (f : Int → Int), k ≤ zlen co (S q) → (∀ j : Nat, j < 25 → f j = if j > k then co (S q) (j - 1) else co (S q) j) → zj E d 0 54 17 [(2, q), (2, m), (0, (k : Int))] [] T (zW (zS p inv co S U) q f ((zlen co (S q) : Int) - 1)) Q := by
    intro k
    induction k with
    | zero =>
      intro f hk hf
      have hf0 : ∀ j : Nat, j < 25 → (fun i : Int => if i = 0 then 0 else f i) (j : Int) = co (X * S q) j := by
        intro j hj
        show (if (j : Int) = 0 then 0 else f j) = _
        cases j with
        | zero => rw [zR_X0 I]; rfl
        | succ j =>
          rw [if_neg (by omega), hf (j + 1) hj, if_pos (by omega), zR_XS I, Nat.add_sub_cancel]
      refine z54_17 _ _ _ ⟨by unfold zin; omega, fun _ => ⟨zP_ob hT hq, ?_, ?_, fun h => ⟨?_, ?_, ?_, ?_⟩, fun h => ?_⟩, fun h => by omega⟩
      · rw [zW1 hq, zP_ar hT hq]; omega
      · rw [zW1 hq, zW_u, zW_f2]; exact zin_h hlq
      · rw [zW1 hq, zW_u, zW1 hq]; exact zP_rk hT hq
      · rw [zW1 hq, zW_u, zW_f2]; unfold zin; omega
      · rw [zW1 hq, zW_u, zW1 hq, zP_rn hT hq]; unfold zin; omega
      · rw [zW1 hq, zW_u, zW_f2] at h
        rw [zW1 hq, zW_u, zW1 hq, zW_f2, zP_rn hT hq, if_neg (by omega), zW_u2]
        have hn0 : S q ≠ 0 := by intro e; rw [e, zL_0 I] at h; omega
        exact zj_eq (zW_out hT hq hf0 (by rw [zL_Xe I hn0]; omega)) (part2 _)
      · rw [zW1 hq, zW_u, zW_f2] at h
        rw [zW1 hq, zW_u, zW_u2]
        have hn0 : S q = 0 := zL_eq0 I (by omega)
        refine zj_eq (zW_out hT hq hf0 ?_) (part2 _)
        have : X * S q = 0 := by rw [hn0]; grind
        rw [this, zL_0 I]; rfl
    | succ k ih =>
      intro f hk hf
      refine z54_17 _ _ _ ⟨by unfold zin; omega, fun h => by omega, fun _ => ⟨zP_ob hT hq, ?_, ?_, ?_⟩⟩
      · rw [zW1 hq, zP_ar hT hq]; omega
      · rw [zW1 hq, zP_ar hT hq]; omega
      · rw [zW1 hq, zW_row, zW_u, show (((k + 1 : Nat) : Int) + -1) = (k : Int) by omega, show (((k + 1 : Nat) : Int) - 1) = (k : Int) by omega]
        refine ih _ (by omega) (fun j hj => ?_)
        show (if (j : Int) = ((k + 1 : Nat) : Int) then f (k : Int) else f j) = _
        by_cases e : j = k + 1
        · subst e
          rw [if_pos rfl, if_pos (by omega), hf k (by omega), if_neg (by omega), Nat.add_sub_cancel]
        · rw [if_neg (by omega), hf j hj]
          by_cases e2 : j > k + 1
          · rw [if_pos e2, if_pos (by omega)]
          · rw [if_neg e2, if_neg (by omega)]
  refine e54 _ _ ⟨zP_ob hT hq, ?_, ?_, ?_, ?_⟩
  · rw [zS_f1 hq]; exact zP_rk hT hq
  · rw [zS_f2 hq]; unfold zin; omega
  · rw [zS_f1 hq, zP_rn hT hq]; unfold zin; omega
  · rw [zS_f1 hq, zS_f2 hq, zP_rn hT hq, if_neg (by omega), show ((zlen co (S q) : Int) - 1 + 1) = (zlen co (S q) : Int) by omega]
    have h := part1 (zlen co (S q)) (fun i => co (S q) i.toNat) (by omega) (fun j hj => by
      show co (S q) ((j : Int)).toNat = _
      rw [Int.toNat_natCast]
      by_cases e : j > zlen co (S q)
      · rw [if_pos e, zL_hi I (by omega), zL_hi I (by omega)]
      · rw [if_neg e])
    rwa [← zW_in hq] at h
theorem c53 {R : Type} [Lean.Grind.CommRing R] {p : Int} {inv : Int → Int} {co : R → Nat → Int} {X : R} {C : Int → R} (I : zIf R p inv co X C) {E : List (List Int)} {d : Nat} {T : zT} {S : Int → R} {U : zD} {Q : Int → zT → zD → Prop} (hT : zTT T) (hS : ∀ a, zlen co (S a) ≤ 25) {q a b m : Int} (hd : 2 ≤ d) (hq : zPq q = true) (ha : zPq a = true) (hb : zPq b = true) (hm : zPq m = true) (hqa : a ≠ q) (hqb : b ≠ q) (hqm : m ≠ q) (hla : zlen co (S a) < zlen co (S m)) (hQ : ∀ t r, S a * S b = t * S m + r → zlen co r < zlen co (S m) → Q 0 T (zS p inv co (zup S q r) U)) : zc E d 0 53 [(2, q), (2, a), (2, b), (2, m)] T (zS p inv co S U) Q := by
  have hp := zR_p I
  have hlm := hS m
  have hlb := hS b
  have key : ∀ (n : Nat) (lo t z v : R), n ≤ 25 → zlen co lo ≤ n → S b = lo + X ^ n * t → S a * t = z * S m + v → zlen co v < zlen co (S m) → zj E d 0 53 10 [(2, q), (2, a), (2, b), (2, m), (0, (n : Int) - 1)] [] T (zS p inv co (zup S q v) U) Q := by
    intro n
    induction n with
    | zero =>
      intro lo t z v hn hlo e1 e2 hv
      refine z53_10 _ _ _ _ _ ⟨by unfold zin; omega, fun _ => ?_, fun h => by omega⟩
      refine hQ z v ?_ hv
      have : lo = 0 := zL_eq0 I (by omega)
      subst this
      grind
    | succ n ih =>
      intro lo t z v hn hlo e1 e2 hv
      have hS1 := zup_l hS (q := q) (v := v) (by omega)
      have em : zup S q v m = S m := zup_o _ _ hqm
      refine z53_10 _ _ _ _ _ ⟨by unfold zin; omega, fun h => by omega, fun _ => ⟨by omega, zP_k hT hq, ?_⟩⟩
      refine c54 I hT hS1 (by omega) hq hm hqm (by rw [zup_s, em]; exact hv) (fun t1 v1 e3 hv1 => ⟨zP_k hT hb, ?_⟩)
      rw [zup_s, em] at e3
      rw [em] at hv1
      rw [zup_up]
      have hS2 := zup_l hS (q := q) (v := v1) (by omega)
      have e0 : ((n + 1 : Nat) : Int) - 1 = (n : Int) := by omega
      rw [e0]
      refine c19 I hT hS2 hb (by omega) (by omega) ⟨zP_k hT hq, ?_⟩
      rw [zup_o _ _ hqb, zat_n]
      have hr := zR_rng I (S b) n
      refine c26 I hT hS2 (s := 0) hq ha hqa hr.1 hr.2 (by omega) (fun _ => by rw [zup_o _ _ hqa]; omega) ?_
      rw [zup_o _ _ hqa, zup_s, zup_up]
      have hcn : co (S b) n = co lo n := by
        rw [e1, zR_add I, zR_pow I, if_pos (by omega), Int.add_zero, zR_mod I]
      have hX : ∀ j, co (C (co lo n) * X ^ n) j = if j = n then co lo n else 0 := by
        intro j
        have : X ^ n = X ^ n * 1 := by grind
        rw [zR_smul I, this, zR_pow I, zR_one I]
        by_cases h1 : j < n
        · rw [if_pos h1, if_neg (by omega)]; simp
        · by_cases h2 : j = n
          · subst h2; simp [zR_mod I]
          · rw [if_neg h1, if_neg (by omega), if_neg h2]; simp
      have h := ih (lo - C (co lo n) * X ^ n) (C (co lo n) + X * t) (X * z + t1) (v1 + C (co (S b) n) * (X ^ 0 * S a)) (by omega) (zL_lt I (zL_sub I hlo (zL_le I (fun j hj => by rw [hX, if_neg (by omega)]))) (by
        rw [zR_sub I, hX, if_pos rfl]; simp)) (by rw [e1]; grind) (by rw [hcn]; grind) (by
        have := zL_add I (a := v1) (b := C (co (S b) n) * (X ^ 0 * S a)) (n := zlen co (S m) - 1) (by omega) (by
          have e4 : X ^ 0 * S a = S a := by grind
          rw [e4]
          exact zL_smul I _ (by omega))
        omega)
      rw [show ((n : Int) + -1) = (n : Int) - 1 by omega]
      exact h
  refine e53 _ _ _ _ ⟨by omega, zP_k hT hq, ?_⟩
  refine c13 I hT hS hq ⟨zP_ob hT hb, ?_⟩
  rw [zS_f2 hb, zup_o _ _ hqb]
  exact key (zlen co (S b)) (S b) 0 0 0 hlb (Nat.le_refl _) (by grind) (by grind) (by rw [zL_0 I]; omega)
/-- the value at x: the remainder by X - x -/
def zval {R : Type} [Lean.Grind.CommRing R] (X : R) (C : Int → R) (a : R) (x v : Int) : Prop := ∃ z, a = (X - C x) * z + C v
theorem c56 {R : Type} [Lean.Grind.CommRing R] {p : Int} {inv : Int → Int} {co : R → Nat → Int} {X : R} {C : Int → R} (I : zIf R p inv co X C) {E : List (List Int)} {d : Nat} {T : zT} {S : Int → R} {U : zD} {Q : Int → zT → zD → Prop} (hT : zTT T) (hS : ∀ a, zlen co (S a) ≤ 25) {q x : Int} (hq : zPq q = true) (h0 : 0 ≤ x) (h1 : x < p) (hQ : ∀ v, 0 ≤ v → v < p → zval X C (S q) x v → Q v T (zS p inv co S U)) : zc E d 1 56 [(2, q), (0, x)] T (zS p inv co S U) Q := by
  have hp := zR_p I
  have hlq := hS q
  have key : ∀ (n : Nat) (lo t z : R) (v : Int), n ≤ 25 → zlen co lo ≤ n → S q = lo + X ^ n * t → t = (X - C x) * z + C v → 0 ≤ v → v < p → zj E d 1 56 16 [(2, q), (0, x), (0, p), (0, v), (0, (n : Int) - 1)] [] T (zS p inv co S U) Q := by
    intro n
    induction n with
    | zero =>
      intro lo t z v hn hlo e1 e2 v0 v1
      refine z56_16 _ _ _ _ _ ⟨by unfold zin; omega, fun _ => ?_, fun h => by omega⟩
      refine hQ v v0 v1 ⟨z, ?_⟩
      have : lo = 0 := zL_eq0 I (by omega)
      subst this
      grind
    | succ n ih =>
      intro lo t z v hn hlo e1 e2 v0 v1
      have hr := zR_rng I (S q) n
      have hm := zmulb v0 (by omega : v ≤ 100) h0 (by omega)
      have e0 : ((n + 1 : Nat) : Int) - 1 = (n : Int) := by omega
      have e3 : zS p inv co S U (q + 1) (n : Int) = co (S q) n := by rw [zS_row hq, Int.toNat_natCast]
      rw [e0]
      refine z56_16 _ _ _ _ _ ⟨by unfold zin; omega, fun h => by omega, fun _ => ⟨zP_ob hT hq, ?_, ?_, fun h => ?_, fun _ => ⟨by unfold zin; omega, fun h => by omega, fun _ => ⟨?_, ?_, by omega, by omega, ?_⟩⟩⟩⟩
      · rw [zS_f1 hq]; exact zP_rk hT hq
      · rw [zS_f1 hq, zP_rn hT hq]; exact zin25
      · rw [zS_f1 hq, zP_rn hT hq] at h
        omega
      · rw [zS_f1 hq, zP_ar hT hq]; omega
      · rw [zS_f1 hq, e3]; unfold zin; omega
      · rw [zS_f1 hq, e3, Int.tmod_eq_emod_of_nonneg (by omega), show ((n : Int) + -1) = (n : Int) - 1 by omega]
        have hr2 := zmodr I (v * x + co (S q) n)
        have hcn : co (S q) n = co lo n := by
          rw [e1, zR_add I, zR_pow I, if_pos (by omega), Int.add_zero, zR_mod I]
        have hX : ∀ j, co (C (co lo n) * X ^ n) j = if j = n then co lo n else 0 := by
          intro j
          have : X ^ n = X ^ n * 1 := by grind
          rw [zR_smul I, this, zR_pow I, zR_one I]
          by_cases h1 : j < n
          · rw [if_pos h1, if_neg (by omega)]; simp
          · by_cases h2 : j = n
            · subst h2; simp [zR_mod I]
            · rw [if_neg h1, if_neg (by omega), if_neg h2]; simp
        refine ih (lo - C (co lo n) * X ^ n) (C (co lo n) + X * t) (t + C x * z) _ (by omega) (zL_lt I (zL_sub I hlo (zL_le I (fun j hj => by rw [hX, if_neg (by omega)]))) (by
          rw [zR_sub I, hX, if_pos rfl]; simp)) (by rw [e1]; grind) ?_ hr2.1 hr2.2
        rw [zR_Cmod I, zR_Cadd I, zR_Cmul I, hcn]
        grind
  refine e56 _ _ ⟨zP_ob hT hq, ?_, ?_⟩
  · rw [zS_f0 hq]; exact zF_ob hT
  · rw [zS_f0 hq, zS_p, zS_f2 hq]
    exact key (zlen co (S q)) (S q) 0 0 0 hlq (Nat.le_refl _) (by grind) (by rw [zR_C0 I]; grind) (by omega) (by omega)
