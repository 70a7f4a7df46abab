/-! Bringing lines into their reduced form, and what that tells of the kernel. -/
def zsol {R : Type} [Lean.Grind.CommRing R] (n : Nat) (A : Nat → Nat → R) (v : Nat → R) : Prop := ∀ l, l < n → zsum n (fun k => A l k * v k) = 0
theorem zsol_swap {R : Type} [Lean.Grind.CommRing R] {n a b : Nat} {A A' : Nat → Nat → R} {v : Nat → R} (ha : a < n) (hb : b < n) (h : ∀ l k, l < n → k < n → A' l k = if l = a then A b k else if l = b then A a k else A l k) : zsol n A' v ↔ zsol n A v := by
  constructor
  · intro hs l hl
    by_cases h1 : l = b
    · subst h1
      rw [← hs a ha]
      exact zsum_c (fun k hk => by rw [h a k ha hk, if_pos rfl])
    · by_cases h2 : l = a
      · subst h2
        rw [← hs b hb]
        refine zsum_c (fun k hk => ?_)
        rw [h b k hb hk]
        by_cases h3 : b = l
        · rw [if_pos h3, h3]
        · rw [if_neg h3, if_pos rfl]
      · rw [← hs l hl]
        exact zsum_c (fun k hk => by rw [h l k hl hk, if_neg h2, if_neg h1])
  · intro hs l hl
    by_cases h1 : l = a
    · subst h1
      rw [← hs b hb]
      exact zsum_c (fun k hk => by rw [h l k hl hk, if_pos rfl])
    · by_cases h2 : l = b
      · subst h2
        rw [← hs a ha]
        exact zsum_c (fun k hk => by rw [h l k hl hk, if_neg h1, if_pos rfl])
      · rw [← hs l hl]
        exact zsum_c (fun k hk => by rw [h l k hl hk, if_neg h1, if_neg h2])
theorem zsol_scale {R : Type} [Lean.Grind.CommRing R] {n a : Nat} {A A' : Nat → Nat → R} {v : Nat → R} {c d : R} (ha : a < n) (hc : d * c = 1) (h : ∀ l k, l < n → k < n → A' l k = if l = a then c * A l k else A l k) : zsol n A' v ↔ zsol n A v := by
  have e1 : zsum n (fun k => A' a k * v k) = c * zsum n (fun k => A a k * v k) := by
    rw [← zsum_mul]
    exact zsum_c (fun k hk => by rw [h a k ha hk, if_pos rfl]; grind)
  have e2 : ∀ l, l < n → l ≠ a → zsum n (fun k => A' l k * v k) = zsum n (fun k => A l k * v k) := fun l hl hne => zsum_c (fun k hk => by rw [h l k hl hk, if_neg hne])
  constructor
  · intro hs l hl
    by_cases h1 : l = a
    · subst h1
      have := hs l hl
      rw [e1] at this
      grind
    · rw [← e2 l hl h1]; exact hs l hl
  · intro hs l hl
    by_cases h1 : l = a
    · subst h1
      rw [e1, hs l hl]
      grind
    · rw [e2 l hl h1]; exact hs l hl
theorem zsol_clear {R : Type} [Lean.Grind.CommRing R] {n a : Nat} {A A' : Nat → Nat → R} {v : Nat → R} {m : Nat → R} (ha : a < n) (h : ∀ l k, l < n → k < n → A' l k = if l = a then A l k else A l k - m l * A a k) : zsol n A' v ↔ zsol n A v := by
  have e1 : zsum n (fun k => A' a k * v k) = zsum n (fun k => A a k * v k) := zsum_c (fun k hk => by rw [h a k ha hk, if_pos rfl])
  have e2 : ∀ l, l < n → l ≠ a → zsum n (fun k => A' l k * v k) = zsum n (fun k => A l k * v k) - m l * zsum n (fun k => A a k * v k) := by
    intro l hl hne
    rw [← zsum_mul, ← zsum_sub]
    exact zsum_c (fun k hk => by rw [h l k hl hk, if_neg hne]; grind)
  constructor
  · intro hs l hl
    have h0 := hs a ha
    rw [e1] at h0
    by_cases h1 : l = a
    · subst h1; exact h0
    · have := hs l hl
      rw [e2 l hl h1, h0] at this
      grind
  · intro hs l hl
    by_cases h1 : l = a
    · subst h1; rw [e1]; exact hs l hl
    · rw [e2 l hl h1, hs l hl, hs a ha]
      grind
/-- the form behind c columns: ρ lines with a pivot; pv tells each column's line, or -1 -/
def zRR {R : Type} [Lean.Grind.CommRing R] (n c ρ : Nat) (A : Nat → Nat → R) (pv : Nat → Int) : Prop :=
  ρ ≤ n ∧ (∀ k, k < c → pv k = -1 ∨ (0 ≤ pv k ∧ pv k < ρ)) ∧
  (∀ k, k < c → 0 ≤ pv k → A (pv k).toNat k = 1 ∧ ∀ l, l < n → l ≠ (pv k).toNat → A l k = 0) ∧
  (∀ k, k < c → pv k = -1 → ∀ l, l < n → ρ ≤ l → A l k = 0) ∧
  (∀ k k', k < c → k' < c → 0 ≤ pv k → pv k = pv k' → k = k') ∧
  (ρ + zfc (fun k => decide (pv k = -1)) c = c) ∧
  (∀ r, r < ρ → ∃ k, k < c ∧ pv k = r)
theorem zfc_c {f g : Nat → Bool} : ∀ {n : Nat}, (∀ k, k < n → f k = g k) → zfc f n = zfc g n := by
  intro n
  induction n with
  | zero => intro _; rfl
  | succ n ih => intro h; show zfc f n + _ = zfc g n + _; rw [ih (fun k hk => h k (by omega)), h n (by omega)]
theorem zRR_0 {R : Type} [Lean.Grind.CommRing R] (n : Nat) (A : Nat → Nat → R) (pv : Nat → Int) : zRR n 0 0 A pv :=
  ⟨by omega, fun k hk => by omega, fun k hk => by omega, fun k hk => by omega, fun k _ hk => by omega, rfl, fun r hr => by omega⟩
theorem zRR_none {R : Type} [Lean.Grind.CommRing R] {n c ρ : Nat} {A : Nat → Nat → R} {pv pv' : Nat → Int} (h : zRR n c ρ A pv) (hp : ∀ k, k < c → pv' k = pv k) (hc : pv' c = -1) (hz : ∀ l, l < n → ρ ≤ l → A l c = 0) : zRR n (c + 1) ρ A pv' := by
  obtain ⟨h1, h2, h3, h4, h5, h6, h7⟩ := h
  refine ⟨h1, fun k hk => ?_, fun k hk h0 => ?_, fun k hk h0 l hl hr => ?_, fun k k' hk hk' h0 he => ?_, ?_, fun r hr => ?_⟩
  · by_cases e : k = c
    · subst e; exact Or.inl hc
    · rw [hp k (by omega)]; exact h2 k (by omega)
  · by_cases e : k = c
    · subst e; omega
    · rw [hp k (by omega)] at h0 ⊢; exact h3 k (by omega) h0
  · by_cases e : k = c
    · subst e; exact hz l hl hr
    · rw [hp k (by omega)] at h0; exact h4 k (by omega) h0 l hl hr
  · by_cases e : k = c
    · subst e; omega
    · by_cases e' : k' = c
      · subst e'; omega
      · rw [hp k (by omega)] at h0 he
        rw [hp k' (by omega)] at he
        exact h5 k k' (by omega) (by omega) h0 he
  · show ρ + (zfc _ c + (if decide (pv' c = -1) then 1 else 0)) = c + 1
    rw [zfc_c (g := fun k => decide (pv k = -1)) (fun k hk => by rw [hp k hk]), hc]
    simp
    omega
  · obtain ⟨k, hk, e⟩ := h7 r hr
    exact ⟨k, by omega, by rw [hp k hk]; exact e⟩
theorem zRR_piv {R : Type} [Lean.Grind.CommRing R] {n c ρ a : Nat} {A B D E : Nat → Nat → R} {pv pv' : Nat → Int} {x : R} (h : zRR n c ρ A pv) (hρ : ρ < n) (ha : a < n) (hra : ρ ≤ a) (hcn : c < n) (hp : ∀ k, k < c → pv' k = pv k) (hc : pv' c = (ρ : Int))
    (hB : ∀ l k, l < n → k < n → B l k = if l = a then A ρ k else if l = ρ then A a k else A l k)
    (hD : ∀ l k, l < n → k < n → D l k = if l = ρ then x * B l k else B l k) (hx : x * B ρ c = 1)
    (hE : ∀ l k, l < n → k < n → E l k = if l = ρ then D l k else D l k - D l c * D ρ k) : zRR n (c + 1) (ρ + 1) E pv' := by
  obtain ⟨h1, h2, h3, h4, h5, h6, h7⟩ := h
  -- a line from ρ on is 0 in the columns ahead
  have z1 : ∀ k, k < c → ∀ l, l < n → ρ ≤ l → A l k = 0 := by
    intro k hk l hl hr
    rcases h2 k hk with e | e
    · exact h4 k hk e l hl hr
    · exact (h3 k hk e.1).2 l hl (by omega)
  have z2 : ∀ k, k < c → ∀ l, l < n → ρ ≤ l → B l k = 0 := by
    intro k hk l hl hr
    rw [hB l k hl (by omega)]
    split
    · exact z1 k hk ρ hρ (by omega)
    · split
      · exact z1 k hk a ha hra
      · exact z1 k hk l hl hr
  have z3 : ∀ k, k < c → ∀ l, l < n → ρ ≤ l → D l k = 0 := by
    intro k hk l hl hr
    rw [hD l k hl (by omega), z2 k hk l hl hr]
    split <;> grind
  have z4 : ∀ k, k < c → ∀ l, l < n → E l k = A l k := by
    intro k hk l hl
    have e1 : D ρ k = 0 := z3 k hk ρ hρ (by omega)
    have e2 : D l k = A l k := by
      by_cases hr : ρ ≤ l
      · rw [z3 k hk l hl hr, z1 k hk l hl hr]
      · rw [hD l k hl (by omega), if_neg (by omega), hB l k hl (by omega), if_neg (by omega), if_neg (by omega)]
    rw [hE l k hl (by omega), e1, e2]
    split <;> grind
  have d1 : D ρ c = 1 := by rw [hD ρ c hρ hcn, if_pos rfl]; exact hx
  have e1 : E ρ c = 1 := by rw [hE ρ c hρ hcn, if_pos rfl]; exact d1
  have e0 : ∀ l, l < n → l ≠ ρ → E l c = 0 := by
    intro l hl hne
    rw [hE l c hl hcn, if_neg hne, d1]
    grind
  refine ⟨by omega, fun k hk => ?_, fun k hk h0 => ?_, fun k hk h0 l hl hr => ?_, fun k k' hk hk' h0 he => ?_, ?_, fun r hr => ?_⟩
  · by_cases e : k = c
    · subst e; rw [hc]; exact Or.inr ⟨by omega, by omega⟩
    · rw [hp k (by omega)]
      rcases h2 k (by omega) with e2 | e2
      · exact Or.inl e2
      · exact Or.inr ⟨e2.1, by omega⟩
  · by_cases e : k = c
    · subst e
      rw [hc, Int.toNat_natCast]
      exact ⟨e1, e0⟩
    · have hk' : k < c := by omega
      rw [hp k hk'] at h0 ⊢
      have := h2 k hk'
      obtain ⟨a1, a2⟩ := h3 k hk' h0
      refine ⟨?_, fun l hl hne => ?_⟩
      · rw [z4 k hk' _ (by omega)]; exact a1
      · rw [z4 k hk' l hl]; exact a2 l hl hne
  · by_cases e : k = c
    · subst e; omega
    · have hk' : k < c := by omega
      rw [hp k hk'] at h0
      rw [z4 k hk' l hl]
      exact h4 k hk' h0 l hl (by omega)
  · by_cases e : k = c
    · by_cases e' : k' = c
      · omega
      · subst e
        rw [hc, hp k' (by omega)] at he
        have := h2 k' (by omega)
        omega
    · by_cases e' : k' = c
      · subst e'
        rw [hc, hp k (by omega)] at he
        have := h2 k (by omega)
        omega
      · rw [hp k (by omega)] at h0 he
        rw [hp k' (by omega)] at he
        exact h5 k k' (by omega) (by omega) h0 he
  · show ρ + 1 + (zfc _ c + (if decide (pv' c = -1) then 1 else 0)) = c + 1
    rw [zfc_c (g := fun k => decide (pv k = -1)) (fun k hk => by rw [hp k hk]), hc, decide_eq_false (show ¬ ((ρ : Int) = -1) by omega)]
    simp
    omega
  · by_cases e : r = ρ
    · subst e; exact ⟨c, by omega, hc⟩
    · obtain ⟨k, hk, e2⟩ := h7 r (by omega)
      exact ⟨k, by omega, by rw [hp k hk]; exact e2⟩
theorem zsum_one {R : Type} [Lean.Grind.CommRing R] {f : Nat → R} {n j : Nat} (hj : j < n) (h : ∀ k, k < n → k ≠ j → f k = 0) : zsum n f = f j := by
  induction n with
  | zero => omega
  | succ n ih =>
    show zsum n f + f n = f j
    by_cases e : j = n
    · subst e
      rw [zsum_0 (fun k hk => h k (by omega) (by omega))]
      grind
    · rw [ih (by omega) (fun k hk hk2 => h k (by omega) hk2), h n (by omega) (by omega)]
      grind
theorem zsum_two {R : Type} [Lean.Grind.CommRing R] {f : Nat → R} {n i j : Nat} (hi : i < n) (hj : j < n) (hij : i ≠ j) (h : ∀ k, k < n → k ≠ i → k ≠ j → f k = 0) : zsum n f = f i + f j := by
  have e : zsum n f = zsum n (fun k => (if k = i then f i else 0) + (if k = i then 0 else f k)) := zsum_c (fun k _ => by
    by_cases e : k = i
    · subst e; rw [if_pos rfl, if_pos rfl]; grind
    · rw [if_neg e, if_neg e]; grind)
  rw [e, zsum_add, zsum_one (j := i) hi (fun k _ hk => if_neg hk), zsum_one (j := j) hj (fun k hk hkj => by
    by_cases e : k = i
    · rw [if_pos e]
    · rw [if_neg e]; exact h k hk e hkj), if_pos rfl, if_neg (Ne.symm hij)]
/-- a solution that is 0 where there is no pivot is 0 -/
theorem zRR_free {R : Type} [Lean.Grind.CommRing R] {n ρ : Nat} {A : Nat → Nat → R} {pv : Nat → Int} {v : Nat → R} (h : zRR n n ρ A pv) (hs : zsol n A v) (hv : ∀ k, k < n → pv k = -1 → v k = 0) : ∀ k, k < n → v k = 0 := by
  intro k hk
  obtain ⟨h1, h2, h3, h4, h5, h6, h7⟩ := h
  rcases h2 k hk with e | e
  · exact hv k hk e
  · have hr : (pv k).toNat < n := by omega
    have h8 := hs _ hr
    rw [zsum_one (j := k) hk (fun j hj hne => by
      rcases h2 j hj with e2 | e2
      · rw [hv j hj e2]; grind
      · have : (pv k).toNat ≠ (pv j).toNat := by
          intro he
          exact hne (h5 j k hj hk e2.1 (by omega))
        rw [(h3 j hj e2.1).2 _ hr this]; grind), (h3 k hk e.1).1] at h8
    grind
/-- the solution that belongs to a column without a pivot -/
theorem zRR_vec {R : Type} [Lean.Grind.CommRing R] {n ρ c : Nat} {A : Nat → Nat → R} {pv : Nat → Int} {v : Nat → R} (h : zRR n n ρ A pv) (hc : c < n) (hpc : pv c = -1) (hvc : v c = 1) (hvf : ∀ k, k < n → k ≠ c → pv k = -1 → v k = 0) (hvp : ∀ k, k < n → 0 ≤ pv k → v k = - A (pv k).toNat c) : zsol n A v := by
  obtain ⟨h1, h2, h3, h4, h5, h6, h7⟩ := h
  intro l hl
  by_cases hr : l < ρ
  · obtain ⟨k, hk, e⟩ := h7 l hr
    have hkc : k ≠ c := by rintro rfl; omega
    have hpk : (pv k).toNat = l := by omega
    rw [zsum_two (i := k) (j := c) hk hc hkc (fun j hj n1 n2 => by
      rcases h2 j hj with e2 | e2
      · rw [hvf j hj n2 e2]; grind
      · have : l ≠ (pv j).toNat := by
          intro he
          exact n1 (h5 j k hj hk e2.1 (by omega))
        rw [(h3 j hj e2.1).2 l hl this]; grind), hvc, hvp k hk (by omega)]
    have := (h3 k hk (by omega)).1
    rw [hpk] at this ⊢
    rw [this]
    grind
  · refine zsum_0 (fun k hk => ?_)
    rcases h2 k hk with e | e
    · rw [h4 k hk e l hl (by omega)]; grind
    · rw [(h3 k hk e.1).2 l hl (by omega)]; grind
/-- the grid of a polynomial, and its kernel -/
theorem zgrid_ker {R : Type} [Lean.Grind.CommRing R] {p : Int} {inv : Int → Int} {co : R → Nat → Int} {X : R} {C : Int → R} (I : zIf R p inv co X C) {f : R} {n : Nat} (hf : zlen co f = n + 1) {rk : Nat → R} (hR : ∀ k, k < n → zdv f (X ^ (k * p.toNat) - rk k) ∧ zlen co (rk k) ≤ n) {A : Nat → Nat → R} (hA : ∀ l k, l < n → k < n → A l k = C (co (rk k) l - if l = k then 1 else 0)) (V : R) (hV : zlen co V ≤ n) : zdv f (V ^ p.toNat - V) ↔ zsol n A (fun k => C (co V k)) := by
  have hx : ∀ k j, co (X ^ k) j = if j = k then 1 else 0 := by
    intro k j
    have : X ^ k = X ^ k * 1 := by grind
    rw [this, zR_pow I, zR_one I]
    by_cases h1 : j < k
    · rw [if_pos h1, if_neg (by omega)]
    · by_cases h2 : j = k
      · subst h2; simp
      · rw [if_neg h1, if_neg (by omega), if_neg h2]
  have hZ : zlen co (zsum n (fun k => C (co V k) * (rk k - X ^ k))) ≤ n := zsum_len I (fun k hk => zL_smul I _ (zL_sub I (hR k hk).2 (zL_le I (fun j hj => by rw [hx, if_neg (by omega)]))))
  have hd : zdv f (V ^ p.toNat - V - zsum n (fun k => C (co V k) * (rk k - X ^ k))) := by
    have e1 := zfrob I n V hV
    have e2 := zsum_rep I n V hV
    have e3 : V ^ p.toNat - V - zsum n (fun k => C (co V k) * (rk k - X ^ k)) = zsum n (fun k => C (co V k) * (X ^ (k * p.toNat) - rk k)) := by
      have e4 : zsum n (fun k => C (co V k) * (X ^ (k * p.toNat) - rk k)) = zsum n (fun k => C (co V k) * X ^ (k * p.toNat)) - zsum n (fun k => C (co V k) * X ^ k) - zsum n (fun k => C (co V k) * (rk k - X ^ k)) := by
        rw [← zsum_sub, ← zsum_sub]
        exact zsum_c (fun k _ => by grind)
      rw [e4, ← e1, ← e2]
    rw [e3]
    exact zsum_dv (fun k hk => zdv_mul _ (hR k hk).1)
  have hrow : ∀ l, l < n → zsum n (fun k => A l k * C (co V k)) = C (co (zsum n (fun k => C (co V k) * (rk k - X ^ k))) l) := by
    intro l hl
    rw [zsum_co I _ n l (fun k => co V k * (co (rk k) l - if l = k then 1 else 0)) (fun k hk => by
      rw [zR_smul I, zR_sub I, hx, zme2]), zR_Cmod I, zsum_C I]
    exact zsum_c (fun k hk => by rw [hA l k hl hk, zR_Cmul I]; grind)
  constructor
  · intro h l hl
    have h1 : zdv f (zsum n (fun k => C (co V k) * (rk k - X ^ k))) := by
      have := zdv_sub h hd
      have e : V ^ p.toNat - V - (V ^ p.toNat - V - zsum n (fun k => C (co V k) * (rk k - X ^ k))) = zsum n (fun k => C (co V k) * (rk k - X ^ k)) := by grind
      rwa [e] at this
    have h2 := zdv_small I h1 (by omega)
    show zsum n (fun k => A l k * C (co V k)) = 0
    rw [hrow l hl, h2, zR_zero I, zR_C0 I]
  · intro h
    have h2 : zsum n (fun k => C (co V k) * (rk k - X ^ k)) = 0 := zR_ext I (fun l => by
      rw [zR_zero I]
      by_cases hl : l < n
      · have h3 : C (co (zsum n (fun k => C (co V k) * (rk k - X ^ k))) l) = C 0 := by
          rw [← hrow l hl, zR_C0 I]
          exact h l hl
        have := zR_Cinj I h3
        rw [zR_mod I] at this
        simpa using this
      · exact zL_hi I (by omega))
    rw [h2] at hd
    have e : V ^ p.toNat - V - 0 = V ^ p.toNat - V := by grind
    rwa [e] at hd
