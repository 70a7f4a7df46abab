/-! Sums; derivatives; powers of p; the numbers as roots. -/
def zsum {R : Type} [Lean.Grind.CommRing R] : Nat → (Nat → R) → R
  | 0, _ => 0
  | n + 1, f => zsum n f + f n
theorem zsum_c {R : Type} [Lean.Grind.CommRing R] {f g : Nat → R} : ∀ {n : Nat}, (∀ k, k < n → f k = g k) → zsum n f = zsum n g := by
  intro n
  induction n with
  | zero => intro _; rfl
  | succ n ih => intro h; show zsum n f + f n = zsum n g + g n; rw [ih (fun k hk => h k (by omega)), h n (by omega)]
theorem zsum_add {R : Type} [Lean.Grind.CommRing R] (f g : Nat → R) (n : Nat) : zsum n (fun k => f k + g k) = zsum n f + zsum n g := by
  induction n with
  | zero => show (0 : R) = 0 + 0; grind
  | succ n ih => show zsum n _ + (f n + g n) = (zsum n f + f n) + (zsum n g + g n); rw [ih]; grind
theorem zsum_mul {R : Type} [Lean.Grind.CommRing R] (c : R) (f : Nat → R) (n : Nat) : zsum n (fun k => c * f k) = c * zsum n f := by
  induction n with
  | zero => show (0 : R) = c * 0; grind
  | succ n ih => show zsum n _ + c * f n = c * (zsum n f + f n); rw [ih]; grind
theorem zsum_0 {R : Type} [Lean.Grind.CommRing R] {f : Nat → R} {n : Nat} (h : ∀ k, k < n → f k = 0) : zsum n f = 0 := by
  induction n with
  | zero => rfl
  | succ n ih => show zsum n f + f n = 0; rw [ih (fun k hk => h k (by omega)), h n (by omega)]; grind
theorem zsum_hd {R : Type} [Lean.Grind.CommRing R] (f : Nat → R) (n : Nat) : zsum (n + 1) f = f 0 + zsum n (fun k => f (k + 1)) := by
  induction n with
  | zero => show (0 : R) + f 0 = f 0 + 0; grind
  | succ n ih => show zsum (n + 1) f + f (n + 1) = f 0 + (zsum n (fun k => f (k + 1)) + f (n + 1)); rw [ih]; grind
theorem zsum_dv {R : Type} [Lean.Grind.CommRing R] {a : R} {f : Nat → R} {n : Nat} (h : ∀ k, k < n → zdv a (f k)) : zdv a (zsum n f) := by
  induction n with
  | zero => exact zdv_0 a
  | succ n ih => exact zdv_add (ih (fun k hk => h k (by omega))) (h n (by omega))
theorem zsum_sub {R : Type} [Lean.Grind.CommRing R] (f g : Nat → R) (n : Nat) : zsum n (fun k => f k - g k) = zsum n f - zsum n g := by
  induction n with
  | zero => show (0 : R) = 0 - 0; grind
  | succ n ih => show zsum n _ + (f n - g n) = (zsum n f + f n) - (zsum n g + g n); rw [ih]; grind
/-- all but one are divided -/
theorem zsum_dv1 {R : Type} [Lean.Grind.CommRing R] {a : R} {f : Nat → R} {n j : Nat} (hj : j < n) (h : ∀ k, k < n → k ≠ j → zdv a (f k)) : zdv a (zsum n f - f j) := by
  induction n with
  | zero => omega
  | succ n ih =>
    show zdv a (zsum n f + f n - f j)
    by_cases e : j = n
    · subst e
      have h2 := zsum_dv (a := a) (f := f) (n := j) (fun k hk => h k (by omega) (by omega))
      have : zsum j f + f j - f j = zsum j f := by grind
      rw [this]
      exact h2
    · have h2 := ih (by omega) (fun k hk hk2 => h k (by omega) hk2)
      have : zsum n f + f n - f j = (zsum n f - f j) + f n := by grind
      rw [this]
      exact zdv_add h2 (h n (by omega) (by omega))
theorem zsum_co {R : Type} [Lean.Grind.CommRing R] {p : Int} {inv : Int → Int} {co : R → Nat → Int} {X : R} {C : Int → R} (I : zIf R p inv co X C) (f : Nat → R) (n k : Nat) (g : Nat → Int) (h : ∀ j, j < n → co (f j) k = g j % p) : co (zsum n f) k = (zsum n g) % p := by
  induction n with
  | zero => show co (0 : R) k = 0 % p; rw [zR_zero I]; simp
  | succ n ih =>
    show co (zsum n f + f n) k = (zsum n g + g n) % p
    rw [zR_add I, ih (fun j hj => h j (by omega)), h n (by omega), Int.emod_add_emod, Int.add_emod_emod]
theorem zsum_len {R : Type} [Lean.Grind.CommRing R] {p : Int} {inv : Int → Int} {co : R → Nat → Int} {X : R} {C : Int → R} (I : zIf R p inv co X C) {f : Nat → R} {n m : Nat} (h : ∀ k, k < n → zlen co (f k) ≤ m) : zlen co (zsum n f) ≤ m := by
  induction n with
  | zero => show zlen co (0 : R) ≤ m; rw [zL_0 I]; omega
  | succ n ih => exact zL_add I (ih (fun k hk => h k (by omega))) (h n (by omega))
/-- a polynomial out of its coefficients -/
theorem zsum_rep {R : Type} [Lean.Grind.CommRing R] {p : Int} {inv : Int → Int} {co : R → Nat → Int} {X : R} {C : Int → R} (I : zIf R p inv co X C) : ∀ (n : Nat) (a : R), zlen co a ≤ n → a = zsum n (fun k => C (co a k) * X ^ k) := by
  intro n
  induction n with
  | zero => intro a ha; rw [zL_eq0 I (by omega : zlen co a = 0)]; rfl
  | succ n ih =>
    intro a ha
    have e : a = (a - C (co a n) * X ^ n) + C (co a n) * X ^ n := by grind
    have hx : ∀ k, co (C (co a n) * X ^ n) k = if k = n then co a n else 0 := by
      intro k
      have : C (co a n) * X ^ n = C (co a n) * (X ^ n * 1) := by grind
      rw [this, zR_smul I, zR_pow I, zR_one I]
      by_cases h1 : k < n
      · rw [if_pos h1, if_neg (by omega)]; simp
      · by_cases h2 : k = n
        · subst h2; simp [zR_mod I]
        · rw [if_neg h1, if_neg (by omega), if_neg h2]; simp
    have h1 : ∀ k, co (a - C (co a n) * X ^ n) k = if k = n then 0 else co a k := by
      intro k
      rw [zR_sub I, hx]
      by_cases h2 : k = n
      · subst h2; simp
      · rw [if_neg h2, if_neg h2, Int.sub_zero, zR_mod I]
    have h3 := ih (a - C (co a n) * X ^ n) (zL_le I (fun k hk => by
      rw [h1]
      split
      · rfl
      · exact zL_hi I (by omega)))
    show a = zsum n (fun k => C (co a k) * X ^ k) + C (co a n) * X ^ n
    rw [zsum_c (f := fun k => C (co a k) * X ^ k) (g := fun k => C (co (a - C (co a n) * X ^ n) k) * X ^ k) (fun k hk => by rw [h1, if_neg (by omega)]), ← h3]
    exact e
/-! derivatives -/
def zde {R : Type} (p : Int) (co : R → Nat → Int) (a a' : R) : Prop := ∀ k : Nat, co a' k = (((k : Int) + 1) * co a (k + 1)) % p
theorem zde_ex {R : Type} [Lean.Grind.CommRing R] {p : Int} {inv : Int → Int} {co : R → Nat → Int} {X : R} {C : Int → R} (I : zIf R p inv co X C) (a : R) : ∃ a', zde p co a a' := by
  obtain ⟨n, hn⟩ := zR_fin I a
  have hp := zR_p I
  exact zbuild I n (fun k => (((k : Int) + 1) * co a (k + 1)) % p) (fun k => ⟨Int.emod_nonneg _ (by omega), Int.emod_lt_of_pos _ (by omega)⟩) (fun k hk => by
    show (((k : Int) + 1) * co a (k + 1)) % p = 0
    rw [hn (k + 1) (by omega)]; simp)
theorem zde_u {R : Type} [Lean.Grind.CommRing R] {p : Int} {inv : Int → Int} {co : R → Nat → Int} {X : R} {C : Int → R} (I : zIf R p inv co X C) {a b c : R} (h1 : zde p co a b) (h2 : zde p co a c) : b = c := zR_ext I (fun k => by rw [h1 k, h2 k])
theorem zde_add {R : Type} [Lean.Grind.CommRing R] {p : Int} {inv : Int → Int} {co : R → Nat → Int} {X : R} {C : Int → R} (I : zIf R p inv co X C) {a b a' b' : R} (h1 : zde p co a a') (h2 : zde p co b b') : zde p co (a + b) (a' + b') := by
  intro k
  rw [zR_add I, zR_add I, h1 k, h2 k, zme2, Int.mul_add, Int.emod_add_emod, Int.add_emod_emod]
theorem zde_smul {R : Type} [Lean.Grind.CommRing R] {p : Int} {inv : Int → Int} {co : R → Nat → Int} {X : R} {C : Int → R} (I : zIf R p inv co X C) {a a' : R} (c : Int) (h1 : zde p co a a') : zde p co (C c * a) (C c * a') := by
  intro k
  rw [zR_smul I, zR_smul I, h1 k, zme2, zme2]
  congr 1
  rw [← Int.mul_assoc, ← Int.mul_assoc, Int.mul_comm c]
theorem zde_X {R : Type} [Lean.Grind.CommRing R] {p : Int} {inv : Int → Int} {co : R → Nat → Int} {X : R} {C : Int → R} (I : zIf R p inv co X C) {a a' : R} (h1 : zde p co a a') : zde p co (X * a) (a + X * a') := by
  intro k
  rw [zR_XS I, zR_add I]
  cases k with
  | zero => rw [zR_X0 I]; simp
  | succ k =>
    rw [zR_XS I, h1 k, Int.add_emod_emod]
    congr 1
    have : ((k + 1 : Nat) : Int) = (k : Int) + 1 := by omega
    rw [this, Int.add_mul ((k : Int) + 1), Int.one_mul, Int.add_comm]
theorem zde_0 {R : Type} [Lean.Grind.CommRing R] {p : Int} {inv : Int → Int} {co : R → Nat → Int} {X : R} {C : Int → R} (I : zIf R p inv co X C) : zde p co (0 : R) 0 := by
  intro k
  rw [zR_zero I, zR_zero I]; simp
theorem zde_mul {R : Type} [Lean.Grind.CommRing R] {p : Int} {inv : Int → Int} {co : R → Nat → Int} {X : R} {C : Int → R} (I : zIf R p inv co X C) {b b' : R} (hb : zde p co b b') (a : R) : ∀ a', zde p co a a' → zde p co (a * b) (a' * b + a * b') := by
  refine zind I (P := fun a => ∀ a', zde p co a a' → zde p co (a * b) (a' * b + a * b')) ?_ ?_ a
  · intro a' h
    have : a' = 0 := zde_u I h (zde_0 I)
    subst this
    have e1 : (0 : R) * b = 0 := by grind
    have e2 : (0 : R) * b + 0 * b' = 0 := by grind
    rw [e2, e1]
    exact zde_0 I
  · intro c a1 _ _ ih a' h
    obtain ⟨d1, hd1⟩ := zde_ex I a1
    have hc : zde p co (C c) 0 := fun k => by
      rw [zR_C I, if_neg (by omega), zR_zero I]; simp
    have e0 : zde p co (C c + X * a1) (0 + (a1 + X * d1)) := zde_add I hc (zde_X I hd1)
    have e1 := zde_u I h e0
    subst e1
    have e2 := zde_add I (zde_smul I c hb) (zde_X I (ih d1 hd1))
    have e3 : (C c + X * a1) * b = C c * b + X * (a1 * b) := by grind
    have e4 : (0 + (a1 + X * d1)) * b + (C c + X * a1) * b' = C c * b' + (a1 * b + X * (d1 * b + a1 * b')) := by grind
    rw [e3, e4]
    exact e2
theorem zde_len {R : Type} [Lean.Grind.CommRing R] {p : Int} {inv : Int → Int} {co : R → Nat → Int} {X : R} {C : Int → R} (I : zIf R p inv co X C) {a a' : R} {n : Nat} (h : zde p co a a') (ha : zlen co a ≤ n + 1) : zlen co a' ≤ n := zL_le I (fun k hk => by
  rw [h k, zL_hi I (by omega : zlen co a ≤ k + 1)]; simp)
/-! powers of p -/
def zch : Nat → Nat → Nat
  | _, 0 => 1
  | 0, _ + 1 => 0
  | n + 1, k + 1 => zch n k + zch n (k + 1)
theorem zch_big : ∀ (n k : Nat), n < k → zch n k = 0 := by
  intro n
  induction n with
  | zero => intro k hk; obtain ⟨k, rfl⟩ : ∃ j, k = j + 1 := ⟨k - 1, by omega⟩; rfl
  | succ n ih => intro k hk; obtain ⟨k, rfl⟩ : ∃ j, k = j + 1 := ⟨k - 1, by omega⟩; show zch n k + zch n (k + 1) = 0; rw [ih k (by omega), ih (k + 1) (by omega)]
theorem zch_0 (n : Nat) : zch n 0 = 1 := by cases n <;> rfl
theorem zch_mul : ∀ (n k : Nat), (k + 1) * zch (n + 1) (k + 1) = (n + 1) * zch n k := by
  intro n
  induction n with
  | zero =>
    intro k
    cases k with
    | zero => rfl
    | succ k => show (k + 1 + 1) * (0 + 0) = 1 * 0; simp
  | succ n ih =>
    intro k
    cases k with
    | zero =>
      have h := ih 0
      have e : zch (n + 1 + 1) 1 = zch (n + 1) 0 + zch (n + 1) 1 := rfl
      rw [zch_0] at h
      simp only [Nat.zero_add] at h ⊢
      rw [e, zch_0]
      omega
    | succ k =>
      have h1 := ih k
      have h2 := ih (k + 1)
      have e1 : zch (n + 1 + 1) (k + 1 + 1) = zch (n + 1) (k + 1) + zch (n + 1) (k + 1 + 1) := rfl
      have e2 : zch (n + 1) (k + 1) = zch n k + zch n (k + 1) := rfl
      rw [e1]
      grind
theorem zbinom {R : Type} [Lean.Grind.CommRing R] {p : Int} {inv : Int → Int} {co : R → Nat → Int} {X : R} {C : Int → R} (I : zIf R p inv co X C) (a b : R) (n : Nat) : (a + b) ^ n = zsum (n + 1) (fun k => C (zch n k : Int) * (a ^ k * b ^ (n - k))) := by
  induction n with
  | zero =>
    show (a + b) ^ 0 = 0 + C ((zch 0 0 : Nat) : Int) * (a ^ 0 * b ^ (0 - 0))
    have : C ((zch 0 0 : Nat) : Int) = 1 := zR_C1 I
    rw [this]
    grind
  | succ n ih =>
    have e : (a + b) ^ (n + 1) = a * (a + b) ^ n + b * (a + b) ^ n := by grind
    rw [e, zsum_hd]
    have h1 : a * (a + b) ^ n = zsum (n + 1) (fun k => C (zch n k : Int) * (a ^ (k + 1) * b ^ (n - k))) := by
      rw [ih, ← zsum_mul]
      exact zsum_c (fun k _ => by grind)
    have h2 : b * (a + b) ^ n = C (zch (n + 1) 0 : Int) * (a ^ 0 * b ^ (n + 1 - 0)) + zsum (n + 1) (fun k => C (zch n (k + 1) : Int) * (a ^ (k + 1) * b ^ (n - k))) := by
      rw [ih, zsum_hd]
      show b * (_ + _) = _ + (zsum n _ + C (zch n (n + 1) : Int) * (a ^ (n + 1) * b ^ (n - n)))
      rw [zch_big n (n + 1) (by omega)]
      have e3 : b * zsum n (fun k => C (zch n (k + 1) : Int) * (a ^ (k + 1) * b ^ (n - (k + 1)))) = zsum n (fun k => C (zch n (k + 1) : Int) * (a ^ (k + 1) * b ^ (n - k))) := by
        rw [← zsum_mul]
        refine zsum_c (fun k hk => ?_)
        have : n - k = (n - (k + 1)) + 1 := by omega
        rw [this]
        grind
      have e4 : C ((0 : Nat) : Int) = 0 := zR_C0 I
      have e5 : b ^ (n + 1 - 0) = b * b ^ (n - 0) := by
        have : n + 1 - 0 = (n - 0) + 1 := by omega
        rw [this]
        grind
      rw [e4, zch_0, zch_0, e5]
      grind
    rw [h1, h2]
    have h3 : zsum (n + 1) (fun k => C (zch (n + 1) (k + 1) : Int) * (a ^ (k + 1) * b ^ (n + 1 - (k + 1)))) = zsum (n + 1) (fun k => C (zch n k : Int) * (a ^ (k + 1) * b ^ (n - k))) + zsum (n + 1) (fun k => C (zch n (k + 1) : Int) * (a ^ (k + 1) * b ^ (n - k))) := by
      rw [← zsum_add]
      refine zsum_c (fun k hk => ?_)
      have e1 : ((zch (n + 1) (k + 1) : Nat) : Int) = (zch n k : Int) + (zch n (k + 1) : Int) := by
        show ((zch n k + zch n (k + 1) : Nat) : Int) = _
        omega
      rw [e1, zR_Cadd I, Nat.add_sub_add_right]
      grind
    rw [h3]
    grind
theorem zch_p {R : Type} [Lean.Grind.CommRing R] {p : Int} {inv : Int → Int} {co : R → Nat → Int} {X : R} {C : Int → R} (I : zIf R p inv co X C) {k : Nat} (h0 : 0 < k) (h1 : (k : Int) < p) : C (zch p.toNat k : Int) = 0 := by
  have hp := zR_p I
  obtain ⟨j, rfl⟩ : ∃ j, k = j + 1 := ⟨k - 1, by omega⟩
  obtain ⟨n, hn⟩ : ∃ n, p.toNat = n + 1 := ⟨p.toNat - 1, by omega⟩
  have h := zch_mul n j
  rw [hn]
  have hc : ((j + 1 : Nat) : Int) * (zch (n + 1) (j + 1) : Int) = ((n + 1 : Nat) : Int) * (zch n j : Int) := by
    rw [← Int.natCast_mul, ← Int.natCast_mul, h]
  have e1 := congrArg C hc
  rw [zR_Cmul I, zR_Cmul I, show ((n + 1 : Nat) : Int) = p by omega, zR_Cp I] at e1
  have e2 := zC_unit I (c := ((j + 1 : Nat) : Int)) (by omega) h1
  grind
/-- (a + b)^p = a^p + b^p -/
theorem zfrob_add {R : Type} [Lean.Grind.CommRing R] {p : Int} {inv : Int → Int} {co : R → Nat → Int} {X : R} {C : Int → R} (I : zIf R p inv co X C) (a b : R) : (a + b) ^ p.toNat = a ^ p.toNat + b ^ p.toNat := by
  have hp := zR_p I
  obtain ⟨n, hn⟩ : ∃ n, p.toNat = n + 1 := ⟨p.toNat - 1, by omega⟩
  rw [zbinom I, zsum_hd, hn]
  show _ + (zsum n _ + C (zch (n + 1) (n + 1) : Int) * (a ^ (n + 1) * b ^ (n + 1 - (n + 1)))) = _
  rw [zsum_0 (fun k hk => by
    have := zch_p I (k := k + 1) (by omega) (by omega)
    rw [hn] at this
    rw [this]
    grind)]
  have e1 : zch (n + 1) (n + 1) = 1 := by
    have : ∀ m, zch m m = 1 := by
      intro m
      induction m with
      | zero => rfl
      | succ m ih => show zch m m + zch m (m + 1) = 1; rw [ih, zch_big m (m + 1) (by omega)]
    exact this _
  rw [zch_0, e1, Nat.sub_self]
  have e2 : C ((1 : Nat) : Int) = 1 := zR_C1 I
  rw [e2]
  have e3 : n + 1 - 0 = n + 1 := by omega
  rw [e3]
  grind
theorem zfrob_C {R : Type} [Lean.Grind.CommRing R] {p : Int} {inv : Int → Int} {co : R → Nat → Int} {X : R} {C : Int → R} (I : zIf R p inv co X C) {c : Int} (h0 : 0 ≤ c) : C c ^ p.toNat = C c := by
  have hp := zR_p I
  obtain ⟨n, hn⟩ : ∃ n, p.toNat = n + 1 := ⟨p.toNat - 1, by omega⟩
  obtain ⟨m, rfl⟩ : ∃ m : Nat, c = m := ⟨c.toNat, by omega⟩
  induction m with
  | zero =>
    have : C ((0 : Nat) : Int) = 0 := zR_C0 I
    rw [this, hn]
    grind
  | succ m ih =>
    have e : C ((m + 1 : Nat) : Int) = C (m : Int) + 1 := by
      rw [show ((m + 1 : Nat) : Int) = (m : Int) + 1 by omega, zR_Cadd I, zR_C1 I]
    rw [e, zfrob_add I, ih (by omega)]
    have e1 : ∀ m : Nat, (1 : R) ^ m = 1 := by
      intro m
      induction m with
      | zero => grind
      | succ m ih => have : (1 : R) ^ (m + 1) = 1 ^ m * 1 := by grind
                     rw [this, ih]; grind
    rw [e1]
theorem zpow_mul {R : Type} [Lean.Grind.CommRing R] (a b : R) (n : Nat) : (a * b) ^ n = a ^ n * b ^ n := by
  induction n with
  | zero => grind
  | succ n ih =>
    have e1 : (a * b) ^ (n + 1) = (a * b) ^ n * (a * b) := by grind
    have e2 : a ^ (n + 1) = a ^ n * a := by grind
    have e3 : b ^ (n + 1) = b ^ n * b := by grind
    rw [e1, e2, e3, ih]
    grind
theorem zpow_pow {R : Type} [Lean.Grind.CommRing R] (a : R) (m n : Nat) : (a ^ m) ^ n = a ^ (m * n) := by
  induction n with
  | zero => rw [Nat.mul_zero]; grind
  | succ n ih =>
    have e1 : (a ^ m) ^ (n + 1) = (a ^ m) ^ n * a ^ m := by grind
    rw [e1, ih, Nat.mul_succ]
    grind
/-- the pth power of a polynomial -/
theorem zfrob {R : Type} [Lean.Grind.CommRing R] {p : Int} {inv : Int → Int} {co : R → Nat → Int} {X : R} {C : Int → R} (I : zIf R p inv co X C) : ∀ (n : Nat) (a : R), zlen co a ≤ n → a ^ p.toNat = zsum n (fun k => C (co a k) * X ^ (k * p.toNat)) := by
  have hp := zR_p I
  intro n a ha
  have h := zsum_rep I n a ha
  have key : ∀ m, (zsum m (fun k => C (co a k) * X ^ k)) ^ p.toNat = zsum m (fun k => C (co a k) * X ^ (k * p.toNat)) := by
    intro m
    induction m with
    | zero =>
      obtain ⟨n, hn⟩ : ∃ n, p.toNat = n + 1 := ⟨p.toNat - 1, by omega⟩
      show (0 : R) ^ p.toNat = 0
      rw [hn]
      grind
    | succ m ih =>
      show (zsum m _ + C (co a m) * X ^ m) ^ p.toNat = zsum m _ + C (co a m) * X ^ (m * p.toNat)
      rw [zfrob_add I, ih, zpow_mul, zfrob_C I (zR_rng I a m).1, zpow_pow]
  rw [← key n, ← h]
theorem zfrob_sub {R : Type} [Lean.Grind.CommRing R] {p : Int} {inv : Int → Int} {co : R → Nat → Int} {X : R} {C : Int → R} (I : zIf R p inv co X C) (a b : R) : (a - b) ^ p.toNat = a ^ p.toNat - b ^ p.toNat := by
  have := zfrob_add I (a - b) b
  have e : a - b + b = a := by grind
  rw [e] at this
  grind
/-! y^p - y is the product of all y - c -/
def zplm (p c : Int) : Int → List Int → List Int
  | prev, [] => [prev % p]
  | prev, x :: r => ((prev - c * x) % p) :: zplm p c x r
def zplv {R : Type} [Lean.Grind.CommRing R] (C : Int → R) (y : R) : List Int → R
  | [] => 0
  | x :: r => C x + y * zplv C y r
theorem zplv_lm {R : Type} [Lean.Grind.CommRing R] {p : Int} {inv : Int → Int} {co : R → Nat → Int} {X : R} {C : Int → R} (I : zIf R p inv co X C) (y : R) (c : Int) : ∀ (l : List Int) (prev : Int), zplv C y (zplm p c prev l) = C prev + (y - C c) * zplv C y l := by
  intro l
  induction l with
  | nil => intro prev; show C (prev % p) + y * 0 = C prev + (y - C c) * 0; rw [zR_Cmod I]; grind
  | cons x r ih =>
    intro prev
    show C ((prev - c * x) % p) + y * zplv C y (zplm p c x r) = C prev + (y - C c) * (C x + y * zplv C y r)
    rw [zR_Cmod I, ih, zR_Csub I, zR_Cmul I]
    grind
def zpll (p : Int) : Nat → List Int
  | 0 => [1]
  | n + 1 => zplm p (n : Int) 0 (zpll p n)
def zpi {R : Type} [Lean.Grind.CommRing R] (C : Int → R) (y : R) : Nat → R
  | 0 => 1
  | n + 1 => (y - C (n : Int)) * zpi C y n
theorem zplv_pi {R : Type} [Lean.Grind.CommRing R] {p : Int} {inv : Int → Int} {co : R → Nat → Int} {X : R} {C : Int → R} (I : zIf R p inv co X C) (y : R) (n : Nat) : zplv C y (zpll p n) = zpi C y n := by
  induction n with
  | zero => show C 1 + y * 0 = 1; rw [zR_C1 I]; grind
  | succ n ih => show zplv C y (zplm p (n : Int) 0 (zpll p n)) = (y - C (n : Int)) * zpi C y n; rw [zplv_lm I, ih, zR_C0 I]; grind
theorem zplv_rep {R : Type} [Lean.Grind.CommRing R] {p : Int} {inv : Int → Int} {co : R → Nat → Int} {X : R} {C : Int → R} (I : zIf R p inv co X C) (y : R) (n : Nat) : zplv C y (List.replicate n 0 ++ [1]) = y ^ n := by
  induction n with
  | zero => show C 1 + y * 0 = y ^ 0; rw [zR_C1 I]; grind
  | succ n ih => show C 0 + y * zplv C y (List.replicate n 0 ++ [1]) = y ^ (n + 1); rw [ih, zR_C0 I]; grind
theorem zpll_p : ∀ p ∈ ([2, 3, 5, 7, 11, 13, 31, 97] : List Int), zpll p p.toNat = 0 :: (p - 1) :: (List.replicate (p.toNat - 2) 0 ++ [1]) := by decide +kernel
theorem zroots {R : Type} [Lean.Grind.CommRing R] {p : Int} {inv : Int → Int} {co : R → Nat → Int} {X : R} {C : Int → R} (I : zIf R p inv co X C) (y : R) : zpi C y p.toNat = y ^ p.toNat - y := by
  have hp := zR_p I
  rw [← zplv_pi I, zpll_p p I.1]
  show C 0 + y * (C (p - 1) + y * zplv C y (List.replicate (p.toNat - 2) 0 ++ [1])) = _
  rw [zplv_rep I, zR_Csub I, zR_Cp I, zR_C0 I, zR_C1 I]
  obtain ⟨n, hn⟩ : ∃ n, p.toNat = n + 2 := ⟨p.toNat - 2, by omega⟩
  rw [hn, Nat.add_sub_cancel]
  grind
/-- what divides y^p - y and is nothing but a number has a part in common with a y - c -/
theorem zroot_ex {R : Type} [Lean.Grind.CommRing R] {p : Int} {inv : Int → Int} {co : R → Nat → Int} {X : R} {C : Int → R} (I : zIf R p inv co X C) {f y : R} (hf : 2 ≤ zlen co f) (h : zdv f (y ^ p.toNat - y)) : ∃ c : Nat, (c : Int) < p ∧ ¬ zcp f (y - C (c : Int)) := by
  by_cases hx : ∃ c : Nat, (c : Int) < p ∧ ¬ zcp f (y - C (c : Int))
  · exact hx
  · have key : ∀ n : Nat, (n : Int) ≤ p → zcp f (zpi C y n) := by
      intro n
      induction n with
      | zero => intro _; exact ⟨0, 1, by show 0 * f + 1 * (1 : R) = 1; grind⟩
      | succ n ih =>
        intro hn
        refine zcp_mul ?_ (ih (by omega))
        by_cases hc : zcp f (y - C (n : Int))
        · exact hc
        · exact absurd ⟨n, by omega, hc⟩ hx
    have hp := zR_p I
    have h2 := key p.toNat (by omega)
    rw [zroots I] at h2
    obtain ⟨u, v, h2⟩ := h2
    obtain ⟨q, hq⟩ := h
    have h1 : zdv f 1 := ⟨u + v * q, by grind⟩
    have := zdv_len I h1 (zR_1ne0 I)
    rw [zL_1 I] at this
    omega
