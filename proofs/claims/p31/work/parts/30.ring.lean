/-! Polynomials over the field with p elements, by what they do: a ring R, its elements' coefficients co, the indeterminate X, the constants C. -/
def zIf (R : Type) [Lean.Grind.CommRing R] (p : Int) (inv : Int → Int) (co : R → Nat → Int) (X : R) (C : Int → R) : Prop :=
  (p ∈ ([2, 3, 5, 7, 11, 13, 31, 97] : List Int)) ∧
  (inv 0 = 0 ∧ ∀ c : Int, 0 < c → c < p → 0 < inv c ∧ inv c < p ∧ (c * inv c) % p = 1) ∧
  (∀ (a : R) (k : Nat), 0 ≤ co a k ∧ co a k < p) ∧
  (∀ a b : R, (∀ k, co a k = co b k) → a = b) ∧
  (∀ a : R, ∃ n, ∀ k, n ≤ k → co a k = 0) ∧
  (∀ (a b : R) (k : Nat), co (a + b) k = (co a k + co b k) % p) ∧
  (∀ (c : Int) (a : R) (k : Nat), co (C c * a) k = (c * co a k) % p) ∧
  (∀ a : R, co (X * a) 0 = 0) ∧ (∀ (a : R) (k : Nat), co (X * a) (k + 1) = co a k) ∧
  (∀ k : Nat, co (1 : R) k = if k = 0 then 1 else 0)
theorem zme1 (a b p : Int) : (a % p * b) % p = (a * b) % p := by rw [Int.mul_emod, Int.emod_emod, ← Int.mul_emod]
theorem zme2 (a b p : Int) : (a * (b % p)) % p = (a * b) % p := by rw [Int.mul_emod, Int.emod_emod, ← Int.mul_emod]
theorem zleast (P : Nat → Prop) (h : ∃ n, P n) : ∃ n, P n ∧ ∀ m, m < n → ¬ P m := by
  obtain ⟨n, hn⟩ := h
  induction n using Nat.strongRecOn with
  | _ n ih =>
    by_cases hm : ∃ m, m < n ∧ P m
    · obtain ⟨m, h1, h2⟩ := hm
      exact ih m h1 h2
    · exact ⟨n, hn, fun m h1 h2 => hm ⟨m, h1, h2⟩⟩
noncomputable def zlen {R : Type} (co : R → Nat → Int) (a : R) : Nat := Classical.epsilon (fun n => (∀ k, n ≤ k → co a k = 0) ∧ ∀ m, m < n → ¬ ∀ k, m ≤ k → co a k = 0)
def zdv {R : Type} [Lean.Grind.CommRing R] (a b : R) : Prop := ∃ q, b = a * q
theorem zR_p {R : Type} [Lean.Grind.CommRing R] {p : Int} {inv : Int → Int} {co : R → Nat → Int} {X : R} {C : Int → R} (I : zIf R p inv co X C) : 2 ≤ p ∧ p ≤ 97 := by
  have h := I.1
  simp only [List.mem_cons, List.not_mem_nil, or_false] at h
  omega
theorem zR_inv {R : Type} [Lean.Grind.CommRing R] {p : Int} {inv : Int → Int} {co : R → Nat → Int} {X : R} {C : Int → R} (I : zIf R p inv co X C) {c : Int} (h0 : 0 < c) (h1 : c < p) : 0 < inv c ∧ inv c < p ∧ (c * inv c) % p = 1 := I.2.1.2 c h0 h1
theorem zR_rng {R : Type} [Lean.Grind.CommRing R] {p : Int} {inv : Int → Int} {co : R → Nat → Int} {X : R} {C : Int → R} (I : zIf R p inv co X C) (a : R) (k : Nat) : 0 ≤ co a k ∧ co a k < p := I.2.2.1 a k
theorem zR_ext {R : Type} [Lean.Grind.CommRing R] {p : Int} {inv : Int → Int} {co : R → Nat → Int} {X : R} {C : Int → R} (I : zIf R p inv co X C) {a b : R} (h : ∀ k, co a k = co b k) : a = b := I.2.2.2.1 a b h
theorem zR_fin {R : Type} [Lean.Grind.CommRing R] {p : Int} {inv : Int → Int} {co : R → Nat → Int} {X : R} {C : Int → R} (I : zIf R p inv co X C) (a : R) : ∃ n, ∀ k, n ≤ k → co a k = 0 := I.2.2.2.2.1 a
theorem zR_add {R : Type} [Lean.Grind.CommRing R] {p : Int} {inv : Int → Int} {co : R → Nat → Int} {X : R} {C : Int → R} (I : zIf R p inv co X C) (a b : R) (k : Nat) : co (a + b) k = (co a k + co b k) % p := I.2.2.2.2.2.1 a b k
theorem zR_smul {R : Type} [Lean.Grind.CommRing R] {p : Int} {inv : Int → Int} {co : R → Nat → Int} {X : R} {C : Int → R} (I : zIf R p inv co X C) (c : Int) (a : R) (k : Nat) : co (C c * a) k = (c * co a k) % p := I.2.2.2.2.2.2.1 c a k
theorem zR_X0 {R : Type} [Lean.Grind.CommRing R] {p : Int} {inv : Int → Int} {co : R → Nat → Int} {X : R} {C : Int → R} (I : zIf R p inv co X C) (a : R) : co (X * a) 0 = 0 := I.2.2.2.2.2.2.2.1 a
theorem zR_XS {R : Type} [Lean.Grind.CommRing R] {p : Int} {inv : Int → Int} {co : R → Nat → Int} {X : R} {C : Int → R} (I : zIf R p inv co X C) (a : R) (k : Nat) : co (X * a) (k + 1) = co a k := I.2.2.2.2.2.2.2.2.1 a k
theorem zR_one {R : Type} [Lean.Grind.CommRing R] {p : Int} {inv : Int → Int} {co : R → Nat → Int} {X : R} {C : Int → R} (I : zIf R p inv co X C) (k : Nat) : co (1 : R) k = if k = 0 then 1 else 0 := I.2.2.2.2.2.2.2.2.2 k
theorem zR_mod {R : Type} [Lean.Grind.CommRing R] {p : Int} {inv : Int → Int} {co : R → Nat → Int} {X : R} {C : Int → R} (I : zIf R p inv co X C) (a : R) (k : Nat) : co a k % p = co a k := Int.emod_eq_of_lt (zR_rng I a k).1 (zR_rng I a k).2
theorem zR_C {R : Type} [Lean.Grind.CommRing R] {p : Int} {inv : Int → Int} {co : R → Nat → Int} {X : R} {C : Int → R} (I : zIf R p inv co X C) (c : Int) (k : Nat) : co (C c) k = if k = 0 then c % p else 0 := by
  have h : C c = C c * 1 := by grind
  rw [h, zR_smul I, zR_one I]
  split
  · rw [Int.mul_one]
  · rw [Int.mul_zero, Int.zero_emod]
theorem zR_zero {R : Type} [Lean.Grind.CommRing R] {p : Int} {inv : Int → Int} {co : R → Nat → Int} {X : R} {C : Int → R} (I : zIf R p inv co X C) (k : Nat) : co (0 : R) k = 0 := by
  have h : (0 : R) = C 0 * 0 := by grind
  rw [h, zR_smul I, Int.zero_mul, Int.zero_emod]
theorem zR_Cmod {R : Type} [Lean.Grind.CommRing R] {p : Int} {inv : Int → Int} {co : R → Nat → Int} {X : R} {C : Int → R} (I : zIf R p inv co X C) (c : Int) : C (c % p) = C c := zR_ext I (fun k => by rw [zR_C I, zR_C I, Int.emod_emod])
theorem zR_Ceq {R : Type} [Lean.Grind.CommRing R] {p : Int} {inv : Int → Int} {co : R → Nat → Int} {X : R} {C : Int → R} (I : zIf R p inv co X C) {c d : Int} (h : c % p = d % p) : C c = C d := by rw [← zR_Cmod I c, h, zR_Cmod I]
theorem zR_Cinj {R : Type} [Lean.Grind.CommRing R] {p : Int} {inv : Int → Int} {co : R → Nat → Int} {X : R} {C : Int → R} (I : zIf R p inv co X C) {c d : Int} (h : C c = C d) : c % p = d % p := by
  have := congrArg (fun a => co a 0) h
  simpa [zR_C I] using this
theorem zR_C0 {R : Type} [Lean.Grind.CommRing R] {p : Int} {inv : Int → Int} {co : R → Nat → Int} {X : R} {C : Int → R} (I : zIf R p inv co X C) : C 0 = 0 := zR_ext I (fun k => by rw [zR_C I, zR_zero I]; simp)
theorem zR_C1 {R : Type} [Lean.Grind.CommRing R] {p : Int} {inv : Int → Int} {co : R → Nat → Int} {X : R} {C : Int → R} (I : zIf R p inv co X C) : C 1 = 1 := zR_ext I (fun k => by
  rw [zR_C I, zR_one I, Int.emod_eq_of_lt (by omega) (by have := zR_p I; omega)])
theorem zR_Cadd {R : Type} [Lean.Grind.CommRing R] {p : Int} {inv : Int → Int} {co : R → Nat → Int} {X : R} {C : Int → R} (I : zIf R p inv co X C) (c d : Int) : C (c + d) = C c + C d := zR_ext I (fun k => by
  rw [zR_add I, zR_C I, zR_C I, zR_C I]
  split
  · rw [Int.emod_add_emod, Int.add_emod_emod]
  · simp)
theorem zR_Cmul {R : Type} [Lean.Grind.CommRing R] {p : Int} {inv : Int → Int} {co : R → Nat → Int} {X : R} {C : Int → R} (I : zIf R p inv co X C) (c d : Int) : C (c * d) = C c * C d := zR_ext I (fun k => by
  rw [zR_smul I, zR_C I, zR_C I]
  split
  · rw [zme2]
  · simp)
theorem zR_Cp {R : Type} [Lean.Grind.CommRing R] {p : Int} {inv : Int → Int} {co : R → Nat → Int} {X : R} {C : Int → R} (I : zIf R p inv co X C) : C p = 0 := by rw [← zR_C0 I]; exact zR_Ceq I (by simp)
theorem zR_Cneg {R : Type} [Lean.Grind.CommRing R] {p : Int} {inv : Int → Int} {co : R → Nat → Int} {X : R} {C : Int → R} (I : zIf R p inv co X C) (c : Int) : C (-c) = - C c := by
  have h := zR_Cadd I (-c) c
  rw [Int.add_left_neg, zR_C0 I] at h
  grind
theorem zR_Csub {R : Type} [Lean.Grind.CommRing R] {p : Int} {inv : Int → Int} {co : R → Nat → Int} {X : R} {C : Int → R} (I : zIf R p inv co X C) (c d : Int) : C (c - d) = C c - C d := by
  rw [Int.sub_eq_add_neg, zR_Cadd I, zR_Cneg I]
  grind
theorem zR_neg {R : Type} [Lean.Grind.CommRing R] {p : Int} {inv : Int → Int} {co : R → Nat → Int} {X : R} {C : Int → R} (I : zIf R p inv co X C) (a : R) (k : Nat) : co (-a) k = (- co a k) % p := by
  have h : -a = C (-1) * a := by rw [zR_Cneg I, zR_C1 I]; grind
  rw [h, zR_smul I, Int.neg_one_mul]
theorem zR_sub {R : Type} [Lean.Grind.CommRing R] {p : Int} {inv : Int → Int} {co : R → Nat → Int} {X : R} {C : Int → R} (I : zIf R p inv co X C) (a b : R) (k : Nat) : co (a - b) k = (co a k - co b k) % p := by
  have h : a - b = a + -b := by grind
  rw [h, zR_add I, zR_neg I, Int.add_emod_emod, Int.sub_eq_add_neg]
theorem zR_1ne0 {R : Type} [Lean.Grind.CommRing R] {p : Int} {inv : Int → Int} {co : R → Nat → Int} {X : R} {C : Int → R} (I : zIf R p inv co X C) : (1 : R) ≠ 0 := by
  intro h
  have := congrArg (fun a => co a 0) h
  simp [zR_one I, zR_zero I] at this
/-! the length: one more than the degree; 0 of 0 -/
theorem zL_spec {R : Type} [Lean.Grind.CommRing R] {p : Int} {inv : Int → Int} {co : R → Nat → Int} {X : R} {C : Int → R} (I : zIf R p inv co X C) (a : R) : (∀ k, zlen co a ≤ k → co a k = 0) ∧ ∀ m, m < zlen co a → ¬ ∀ k, m ≤ k → co a k = 0 :=
  Classical.epsilon_spec (zleast (fun n => ∀ k, n ≤ k → co a k = 0) (zR_fin I a))
theorem zL_hi {R : Type} [Lean.Grind.CommRing R] {p : Int} {inv : Int → Int} {co : R → Nat → Int} {X : R} {C : Int → R} (I : zIf R p inv co X C) {a : R} {k : Nat} (h : zlen co a ≤ k) : co a k = 0 := (zL_spec I a).1 k h
theorem zL_le {R : Type} [Lean.Grind.CommRing R] {p : Int} {inv : Int → Int} {co : R → Nat → Int} {X : R} {C : Int → R} (I : zIf R p inv co X C) {a : R} {n : Nat} (h : ∀ k, n ≤ k → co a k = 0) : zlen co a ≤ n := by
  by_cases hn : zlen co a ≤ n
  · exact hn
  · exact absurd h ((zL_spec I a).2 n (by omega))
theorem zL_top {R : Type} [Lean.Grind.CommRing R] {p : Int} {inv : Int → Int} {co : R → Nat → Int} {X : R} {C : Int → R} (I : zIf R p inv co X C) {a : R} {n : Nat} (h : zlen co a = n + 1) : co a n ≠ 0 := by
  intro h0
  refine (zL_spec I a).2 n (by omega) (fun k hk => ?_)
  by_cases e : k = n
  · rw [e, h0]
  · exact zL_hi I (by omega)
theorem zL_0 {R : Type} [Lean.Grind.CommRing R] {p : Int} {inv : Int → Int} {co : R → Nat → Int} {X : R} {C : Int → R} (I : zIf R p inv co X C) : zlen co (0 : R) = 0 := Nat.le_zero.mp (zL_le I (fun k _ => zR_zero I k))
theorem zL_eq0 {R : Type} [Lean.Grind.CommRing R] {p : Int} {inv : Int → Int} {co : R → Nat → Int} {X : R} {C : Int → R} (I : zIf R p inv co X C) {a : R} (h : zlen co a = 0) : a = 0 := zR_ext I (fun k => by rw [zL_hi I (by omega), zR_zero I])
theorem zL_pos {R : Type} [Lean.Grind.CommRing R] {p : Int} {inv : Int → Int} {co : R → Nat → Int} {X : R} {C : Int → R} (I : zIf R p inv co X C) {a : R} (h : a ≠ 0) : ∃ n, zlen co a = n + 1 := by
  cases e : zlen co a with
  | zero => exact absurd (zL_eq0 I e) h
  | succ n => exact ⟨n, rfl⟩
theorem zL_gt {R : Type} [Lean.Grind.CommRing R] {p : Int} {inv : Int → Int} {co : R → Nat → Int} {X : R} {C : Int → R} (I : zIf R p inv co X C) {a : R} {k : Nat} (h : co a k ≠ 0) : k < zlen co a := by
  by_cases hk : zlen co a ≤ k
  · exact absurd (zL_hi I hk) h
  · omega
theorem zL_ne {R : Type} [Lean.Grind.CommRing R] {p : Int} {inv : Int → Int} {co : R → Nat → Int} {X : R} {C : Int → R} (I : zIf R p inv co X C) {a : R} {k : Nat} (h : co a k ≠ 0) : a ≠ 0 := by
  rintro rfl
  exact h (zR_zero I k)
theorem zL_lt {R : Type} [Lean.Grind.CommRing R] {p : Int} {inv : Int → Int} {co : R → Nat → Int} {X : R} {C : Int → R} (I : zIf R p inv co X C) {a : R} {n : Nat} (h : zlen co a ≤ n + 1) (h0 : co a n = 0) : zlen co a ≤ n := by
  by_cases e : zlen co a = n + 1
  · exact absurd h0 (zL_top I e)
  · omega
theorem zL_C {R : Type} [Lean.Grind.CommRing R] {p : Int} {inv : Int → Int} {co : R → Nat → Int} {X : R} {C : Int → R} (I : zIf R p inv co X C) (c : Int) : zlen co (C c) ≤ 1 := zL_le I (fun k hk => by rw [zR_C I, if_neg (by omega)])
theorem zL_1 {R : Type} [Lean.Grind.CommRing R] {p : Int} {inv : Int → Int} {co : R → Nat → Int} {X : R} {C : Int → R} (I : zIf R p inv co X C) : zlen co (1 : R) = 1 := by
  have h1 := zL_C I 1
  rw [zR_C1 I] at h1
  have := zL_gt I (a := (1 : R)) (k := 0) (by rw [zR_one I]; simp)
  omega
theorem zL_const {R : Type} [Lean.Grind.CommRing R] {p : Int} {inv : Int → Int} {co : R → Nat → Int} {X : R} {C : Int → R} (I : zIf R p inv co X C) {a : R} (h : zlen co a ≤ 1) : a = C (co a 0) := zR_ext I (fun k => by
  rw [zR_C I]
  split
  · next e => rw [e, zR_mod I]
  · exact zL_hi I (by omega))
theorem zL_add {R : Type} [Lean.Grind.CommRing R] {p : Int} {inv : Int → Int} {co : R → Nat → Int} {X : R} {C : Int → R} (I : zIf R p inv co X C) {a b : R} {n : Nat} (h1 : zlen co a ≤ n) (h2 : zlen co b ≤ n) : zlen co (a + b) ≤ n := zL_le I (fun k hk => by
  rw [zR_add I, zL_hi I (by omega : zlen co a ≤ k), zL_hi I (by omega : zlen co b ≤ k)]; simp)
theorem zL_sub {R : Type} [Lean.Grind.CommRing R] {p : Int} {inv : Int → Int} {co : R → Nat → Int} {X : R} {C : Int → R} (I : zIf R p inv co X C) {a b : R} {n : Nat} (h1 : zlen co a ≤ n) (h2 : zlen co b ≤ n) : zlen co (a - b) ≤ n := zL_le I (fun k hk => by
  rw [zR_sub I, zL_hi I (by omega : zlen co a ≤ k), zL_hi I (by omega : zlen co b ≤ k)]; simp)
theorem zL_neg {R : Type} [Lean.Grind.CommRing R] {p : Int} {inv : Int → Int} {co : R → Nat → Int} {X : R} {C : Int → R} (I : zIf R p inv co X C) {a : R} {n : Nat} (h1 : zlen co a ≤ n) : zlen co (-a) ≤ n := zL_le I (fun k hk => by
  rw [zR_neg I, zL_hi I (by omega : zlen co a ≤ k)]; simp)
theorem zL_smul {R : Type} [Lean.Grind.CommRing R] {p : Int} {inv : Int → Int} {co : R → Nat → Int} {X : R} {C : Int → R} (I : zIf R p inv co X C) {a : R} {n : Nat} (c : Int) (h1 : zlen co a ≤ n) : zlen co (C c * a) ≤ n := zL_le I (fun k hk => by
  rw [zR_smul I, zL_hi I (by omega : zlen co a ≤ k)]; simp)
theorem zL_X {R : Type} [Lean.Grind.CommRing R] {p : Int} {inv : Int → Int} {co : R → Nat → Int} {X : R} {C : Int → R} (I : zIf R p inv co X C) {a : R} {n : Nat} (h1 : zlen co a ≤ n) : zlen co (X * a) ≤ n + 1 := zL_le I (fun k hk => by
  obtain ⟨k, rfl⟩ : ∃ j, k = j + 1 := ⟨k - 1, by omega⟩
  rw [zR_XS I, zL_hi I (by omega)])
/-- what is made of coefficients -/
theorem zbuild {R : Type} [Lean.Grind.CommRing R] {p : Int} {inv : Int → Int} {co : R → Nat → Int} {X : R} {C : Int → R} (I : zIf R p inv co X C) : ∀ (n : Nat) (f : Nat → Int), (∀ k, 0 ≤ f k ∧ f k < p) → (∀ k, n ≤ k → f k = 0) → ∃ a : R, ∀ k, co a k = f k := by
  intro n
  induction n with
  | zero => intro f _ h; exact ⟨0, fun k => by rw [zR_zero I, h k (Nat.zero_le _)]⟩
  | succ n ih =>
    intro f hf h
    obtain ⟨a, ha⟩ := ih (fun k => f (k + 1)) (fun k => hf _) (fun k hk => h _ (by omega))
    refine ⟨C (f 0) + X * a, fun k => ?_⟩
    rw [zR_add I, zR_C I]
    cases k with
    | zero =>
      rw [zR_X0 I, if_pos rfl, Int.add_zero, Int.emod_emod, Int.emod_eq_of_lt (hf 0).1 (hf 0).2]
    | succ k => rw [zR_XS I, if_neg (by omega), ha k, Int.zero_add, Int.emod_eq_of_lt (hf _).1 (hf _).2]
theorem ztail {R : Type} [Lean.Grind.CommRing R] {p : Int} {inv : Int → Int} {co : R → Nat → Int} {X : R} {C : Int → R} (I : zIf R p inv co X C) (a : R) : ∃ a' : R, a = C (co a 0) + X * a' ∧ ∀ k, co a' k = co a (k + 1) := by
  obtain ⟨n, hn⟩ := zR_fin I a
  obtain ⟨a', h⟩ := zbuild I n (fun k => co a (k + 1)) (fun k => zR_rng I a _) (fun k hk => hn _ (by omega))
  refine ⟨a', zR_ext I (fun k => ?_), h⟩
  rw [zR_add I, zR_C I]
  cases k with
  | zero => rw [zR_X0 I, if_pos rfl, Int.add_zero, Int.emod_emod, zR_mod I]
  | succ k => rw [zR_XS I, if_neg (by omega), h k, Int.zero_add, zR_mod I]
theorem zind {R : Type} [Lean.Grind.CommRing R] {p : Int} {inv : Int → Int} {co : R → Nat → Int} {X : R} {C : Int → R} (I : zIf R p inv co X C) {P : R → Prop} (h0 : P 0) (h1 : ∀ (c : Int) (a : R), 0 ≤ c → c < p → P a → P (C c + X * a)) (a : R) : P a := by
  have key : ∀ (n : Nat) (a : R), zlen co a ≤ n → P a := by
    intro n
    induction n with
    | zero => intro a ha; rw [zL_eq0 I (a := a) (by omega)]; exact h0
    | succ n ih =>
      intro a ha
      obtain ⟨a', e, h⟩ := ztail I a
      rw [e]
      refine h1 _ _ (zR_rng I a 0).1 (zR_rng I a 0).2 (ih a' (zL_le I (fun k hk => ?_)))
      rw [h]
      exact zL_hi I (by omega)
  exact key _ a (Nat.le_refl _)
theorem zR_pow {R : Type} [Lean.Grind.CommRing R] {p : Int} {inv : Int → Int} {co : R → Nat → Int} {X : R} {C : Int → R} (I : zIf R p inv co X C) (s : Nat) (a : R) (j : Nat) : co (X ^ s * a) j = if j < s then 0 else co a (j - s) := by
  induction s generalizing j with
  | zero =>
    have : X ^ 0 * a = a := by grind
    rw [this]; simp
  | succ s ih =>
    have : X ^ (s + 1) * a = X * (X ^ s * a) := by grind
    rw [this]
    cases j with
    | zero => rw [zR_X0 I]; simp
    | succ j =>
      rw [zR_XS I, ih]
      by_cases h : j < s
      · rw [if_pos h, if_pos (by omega)]
      · rw [if_neg h, if_neg (by omega), Nat.add_sub_add_right]
/-- no divisors of 0 among the numbers -/
theorem zR_nz {R : Type} [Lean.Grind.CommRing R] {p : Int} {inv : Int → Int} {co : R → Nat → Int} {X : R} {C : Int → R} (I : zIf R p inv co X C) {c d : Int} (hc0 : 0 < c) (hc : c < p) (hd0 : 0 < d) (hd : d < p) : (c * d) % p ≠ 0 := by
  intro h
  obtain ⟨h1, h2, h3⟩ := zR_inv I hc0 hc
  have e1 : C (c * d) = 0 := by rw [← zR_C0 I]; exact zR_Ceq I (by simpa using h)
  have e2 : C (c * inv c) = 1 := by rw [← zR_C1 I]; exact zR_Ceq I (by rw [h3, Int.emod_eq_of_lt (by omega) (by have := zR_p I; omega)])
  rw [zR_Cmul I] at e1 e2
  have e3 : C d = C 0 := by rw [zR_C0 I]; grind
  have := zR_Cinj I e3
  rw [Int.emod_eq_of_lt (by omega) hd] at this
  simp at this
  omega
theorem zM_hi {R : Type} [Lean.Grind.CommRing R] {p : Int} {inv : Int → Int} {co : R → Nat → Int} {X : R} {C : Int → R} (I : zIf R p inv co X C) (b : R) (n : Nat) (hb : zlen co b ≤ n + 1) : ∀ (m : Nat) (a : R), zlen co a ≤ m + 1 → (∀ k, m + n < k → co (a * b) k = 0) ∧ co (a * b) (m + n) = (co a m * co b n) % p := by
  intro m
  induction m with
  | zero =>
    intro a ha
    rw [zL_const I ha]
    refine ⟨fun k hk => ?_, ?_⟩
    · rw [zR_smul I, zL_hi I (by omega : zlen co b ≤ k)]; simp
    · rw [zR_smul I, Nat.zero_add, zR_C I, if_pos rfl, zR_mod I]
  | succ m ih =>
    intro a ha
    obtain ⟨a', e, h⟩ := ztail I a
    have ha' : zlen co a' ≤ m + 1 := zL_le I (fun k hk => by rw [h]; exact zL_hi I (by omega))
    obtain ⟨h1, h2⟩ := ih a' ha'
    have e2 : a * b = C (co a 0) * b + X * (a' * b) := by grind
    rw [e2]
    refine ⟨fun k hk => ?_, ?_⟩
    · obtain ⟨k, rfl⟩ : ∃ j, k = j + 1 := ⟨k - 1, by omega⟩
      rw [zR_add I, zR_smul I, zR_XS I, h1 k (by omega), zL_hi I (by omega : zlen co b ≤ k + 1)]; simp
    · have e3 : m + 1 + n = (m + n) + 1 := by omega
      rw [e3, zR_add I, zR_smul I, zR_XS I, h2, zL_hi I (by omega : zlen co b ≤ m + n + 1), h m]; simp
theorem zM_len {R : Type} [Lean.Grind.CommRing R] {p : Int} {inv : Int → Int} {co : R → Nat → Int} {X : R} {C : Int → R} (I : zIf R p inv co X C) {a b : R} (ha : a ≠ 0) (hb : b ≠ 0) : zlen co (a * b) + 1 = zlen co a + zlen co b := by
  obtain ⟨m, hm⟩ := zL_pos I ha
  obtain ⟨n, hn⟩ := zL_pos I hb
  obtain ⟨h1, h2⟩ := zM_hi I b n (by omega) m a (by omega)
  have hA := zR_rng I a m
  have hB := zR_rng I b n
  have tA := zL_top I hm
  have tB := zL_top I hn
  have := zR_nz I (c := co a m) (d := co b n) (by omega) hA.2 (by omega) hB.2
  rw [← h2] at this
  have g1 := zL_gt I this
  have g2 : zlen co (a * b) ≤ m + n + 1 := zL_le I (fun k hk => h1 k (by omega))
  omega
theorem zM_le {R : Type} [Lean.Grind.CommRing R] {p : Int} {inv : Int → Int} {co : R → Nat → Int} {X : R} {C : Int → R} (I : zIf R p inv co X C) {a b : R} {m n : Nat} (ha : zlen co a ≤ m + 1) (hb : zlen co b ≤ n + 1) : zlen co (a * b) ≤ m + n + 1 := zL_le I (fun k hk => (zM_hi I b n hb m a ha).1 k (by omega))
theorem zM_nz {R : Type} [Lean.Grind.CommRing R] {p : Int} {inv : Int → Int} {co : R → Nat → Int} {X : R} {C : Int → R} (I : zIf R p inv co X C) {a b : R} (ha : a ≠ 0) (hb : b ≠ 0) : a * b ≠ 0 := by
  intro h
  have := zM_len I ha hb
  rw [h, zL_0 I] at this
  obtain ⟨m, hm⟩ := zL_pos I ha
  obtain ⟨n, hn⟩ := zL_pos I hb
  omega
theorem zM_0 {R : Type} [Lean.Grind.CommRing R] {p : Int} {inv : Int → Int} {co : R → Nat → Int} {X : R} {C : Int → R} (I : zIf R p inv co X C) {a b : R} (h : a * b = 0) : a = 0 ∨ b = 0 := by
  by_cases ha : a = 0
  · exact Or.inl ha
  · by_cases hb : b = 0
    · exact Or.inr hb
    · exact absurd h (zM_nz I ha hb)
theorem zM_can {R : Type} [Lean.Grind.CommRing R] {p : Int} {inv : Int → Int} {co : R → Nat → Int} {X : R} {C : Int → R} (I : zIf R p inv co X C) {a b c : R} (ha : a ≠ 0) (h : a * b = a * c) : b = c := by
  have : a * (b - c) = 0 := by grind
  rcases zM_0 I this with h | h
  · exact absurd h ha
  · grind
theorem zC_unit {R : Type} [Lean.Grind.CommRing R] {p : Int} {inv : Int → Int} {co : R → Nat → Int} {X : R} {C : Int → R} (I : zIf R p inv co X C) {c : Int} (h0 : 0 < c) (h1 : c < p) : C (inv c) * C c = 1 := by
  obtain ⟨-, -, h3⟩ := zR_inv I h0 h1
  rw [← zR_Cmul I, ← zR_C1 I]
  refine zR_Ceq I ?_
  rw [Int.mul_comm, h3, Int.emod_eq_of_lt (by omega) (by have := zR_p I; omega)]
/-! division -/
theorem zdiv {R : Type} [Lean.Grind.CommRing R] {p : Int} {inv : Int → Int} {co : R → Nat → Int} {X : R} {C : Int → R} (I : zIf R p inv co X C) {b : R} (hb : b ≠ 0) : ∀ (n : Nat) (a : R), zlen co a ≤ n → ∃ q r, a = q * b + r ∧ zlen co r < zlen co b := by
  obtain ⟨l, hl⟩ := zL_pos I hb
  intro n
  induction n with
  | zero => intro a ha; exact ⟨0, a, by grind, by omega⟩
  | succ m ih =>
    intro a ha
    by_cases h : zlen co a < zlen co b
    · exact ⟨0, a, by grind, h⟩
    · by_cases hm : zlen co a ≤ m
      · exact ih a hm
      · have hB := zR_rng I b l
        have tB := zL_top I hl
        have e1 := zC_unit I (c := co b l) (by omega) hB.2
        have hs : m - l + l = m := by omega
        obtain ⟨q, r, h1, h2⟩ := ih (a - C (co a m * inv (co b l)) * (X ^ (m - l) * b)) (zL_lt I (zL_sub I (by omega) (zL_smul I _ (zL_le I (fun k hk => by
            rw [zR_pow I]
            split
            · rfl
            · exact zL_hi I (by omega))))) (by
          rw [zR_sub I, zR_smul I, zR_pow I, if_neg (by omega), show m - (m - l) = l by omega, Int.sub_emod_emod]
          have e2 : C (co a m - co a m * inv (co b l) * co b l) = C 0 := by
            rw [zR_Csub I, zR_Cmul I, zR_Cmul I, zR_C0 I]
            grind
          have := zR_Cinj I e2
          simpa using this))
        exact ⟨q + C (co a m * inv (co b l)) * X ^ (m - l), r, by grind, h2⟩
theorem zdivu {R : Type} [Lean.Grind.CommRing R] {p : Int} {inv : Int → Int} {co : R → Nat → Int} {X : R} {C : Int → R} (I : zIf R p inv co X C) {b q q' r r' : R} (h : q * b + r = q' * b + r') (h1 : zlen co r < zlen co b) (h2 : zlen co r' < zlen co b) : q = q' ∧ r = r' := by
  by_cases hq : q - q' = 0
  · have : q = q' := by grind
    subst this
    exact ⟨rfl, by grind⟩
  · have hb : b ≠ 0 := by
      rintro rfl
      rw [zL_0 I] at h1
      omega
    have e : (q - q') * b = r' - r := by grind
    have := zM_len I hq hb
    rw [e] at this
    obtain ⟨m, hm⟩ := zL_pos I hq
    obtain ⟨n, hn⟩ := zL_pos I hb
    have := zL_sub I (a := r') (b := r) (n := n) (by omega) (by omega)
    omega
/-! divisors -/
theorem zdv_refl {R : Type} [Lean.Grind.CommRing R] (a : R) : zdv a a := ⟨1, by grind⟩
theorem zdv_0 {R : Type} [Lean.Grind.CommRing R] (a : R) : zdv a 0 := ⟨0, by grind⟩
theorem zdv_1 {R : Type} [Lean.Grind.CommRing R] (a : R) : zdv 1 a := ⟨a, by grind⟩
theorem zdv_trans {R : Type} [Lean.Grind.CommRing R] {a b c : R} (h1 : zdv a b) (h2 : zdv b c) : zdv a c := by
  obtain ⟨x, rfl⟩ := h1
  obtain ⟨y, rfl⟩ := h2
  exact ⟨x * y, by grind⟩
theorem zdv_add {R : Type} [Lean.Grind.CommRing R] {a b c : R} (h1 : zdv a b) (h2 : zdv a c) : zdv a (b + c) := by
  obtain ⟨x, rfl⟩ := h1
  obtain ⟨y, rfl⟩ := h2
  exact ⟨x + y, by grind⟩
theorem zdv_sub {R : Type} [Lean.Grind.CommRing R] {a b c : R} (h1 : zdv a b) (h2 : zdv a c) : zdv a (b - c) := by
  obtain ⟨x, rfl⟩ := h1
  obtain ⟨y, rfl⟩ := h2
  exact ⟨x - y, by grind⟩
theorem zdv_mul {R : Type} [Lean.Grind.CommRing R] {a b : R} (c : R) (h1 : zdv a b) : zdv a (c * b) := by
  obtain ⟨x, rfl⟩ := h1
  exact ⟨c * x, by grind⟩
theorem zdv_mulr {R : Type} [Lean.Grind.CommRing R] {a b : R} (c : R) (h1 : zdv a b) : zdv a (b * c) := by
  obtain ⟨x, rfl⟩ := h1
  exact ⟨x * c, by grind⟩
theorem zdv_mm {R : Type} [Lean.Grind.CommRing R] {a b c d : R} (h1 : zdv a b) (h2 : zdv c d) : zdv (a * c) (b * d) := by
  obtain ⟨x, rfl⟩ := h1
  obtain ⟨y, rfl⟩ := h2
  exact ⟨x * y, by grind⟩
theorem zdv_len {R : Type} [Lean.Grind.CommRing R] {p : Int} {inv : Int → Int} {co : R → Nat → Int} {X : R} {C : Int → R} (I : zIf R p inv co X C) {a b : R} (h : zdv a b) (hb : b ≠ 0) : zlen co a ≤ zlen co b := by
  obtain ⟨q, rfl⟩ := h
  have ha : a ≠ 0 := by rintro rfl; exact hb (by grind)
  have hq : q ≠ 0 := by rintro rfl; exact hb (by grind)
  have := zM_len I ha hq
  obtain ⟨n, hn⟩ := zL_pos I hq
  omega
theorem zdv_small {R : Type} [Lean.Grind.CommRing R] {p : Int} {inv : Int → Int} {co : R → Nat → Int} {X : R} {C : Int → R} (I : zIf R p inv co X C) {a b : R} (h : zdv a b) (hl : zlen co b < zlen co a) : b = 0 := by
  by_cases hb : b = 0
  · exact hb
  · have := zdv_len I h hb
    omega
def zgcd {R : Type} [Lean.Grind.CommRing R] (a b g : R) : Prop := zdv g a ∧ zdv g b ∧ ∃ u v, g = u * a + v * b
def zcp {R : Type} [Lean.Grind.CommRing R] (a b : R) : Prop := ∃ u v, u * a + v * b = 1
def zmon {R : Type} (co : R → Nat → Int) (g : R) : Prop := ∃ n, zlen co g = n + 1 ∧ co g n = 1
theorem zgcd_step {R : Type} [Lean.Grind.CommRing R] {a b q r g : R} (e : a = q * b + r) (h : zgcd b r g) : zgcd a b g := by
  obtain ⟨h1, h2, u, v, h3⟩ := h
  refine ⟨?_, h1, v, u - v * q, by grind⟩
  rw [e]
  exact zdv_add (zdv_mul q h1) h2
theorem zgcd_back {R : Type} [Lean.Grind.CommRing R] {a b q r g : R} (e : a = q * b + r) (h : zgcd a b g) : zgcd b r g := by
  obtain ⟨h1, h2, u, v, h3⟩ := h
  refine ⟨h2, ?_, u * q + v, u, by grind⟩
  have : r = a - q * b := by grind
  rw [this]
  exact zdv_sub h1 (zdv_mul q h2)
theorem zgcd_ex {R : Type} [Lean.Grind.CommRing R] {p : Int} {inv : Int → Int} {co : R → Nat → Int} {X : R} {C : Int → R} (I : zIf R p inv co X C) : ∀ (n : Nat) (a b : R), zlen co b ≤ n → ∃ g, zgcd a b g := by
  intro n
  induction n using Nat.strongRecOn with
  | _ n ih =>
    intro a b hb
    by_cases h0 : b = 0
    · subst h0
      exact ⟨a, zdv_refl a, zdv_0 a, 1, 0, by grind⟩
    · obtain ⟨q, r, e, hr⟩ := zdiv I h0 _ a (Nat.le_refl _)
      obtain ⟨g, hg⟩ := ih (zlen co r) (by omega) b r (Nat.le_refl _)
      exact ⟨g, zgcd_step e hg⟩
theorem zmon_ne {R : Type} [Lean.Grind.CommRing R] {p : Int} {inv : Int → Int} {co : R → Nat → Int} {X : R} {C : Int → R} (I : zIf R p inv co X C) {g : R} (h : zmon co g) : g ≠ 0 := by
  obtain ⟨n, h1, h2⟩ := h
  exact zL_ne I (k := n) (by rw [h2]; decide)
theorem zmon_eq {R : Type} [Lean.Grind.CommRing R] {p : Int} {inv : Int → Int} {co : R → Nat → Int} {X : R} {C : Int → R} (I : zIf R p inv co X C) {g g' : R} (h1 : zdv g g') (h2 : zdv g' g) (m1 : zmon co g) (m2 : zmon co g') : g = g' := by
  have n1 := zmon_ne I m1
  have n2 := zmon_ne I m2
  have l1 := zdv_len I h1 n2
  have l2 := zdv_len I h2 n1
  obtain ⟨q, rfl⟩ := h1
  have hq : q ≠ 0 := by rintro rfl; exact n2 (by grind)
  have := zM_len I n1 hq
  have eq := zL_const I (a := q) (by omega)
  obtain ⟨n, e1, e2⟩ := m1
  obtain ⟨n', e3, e4⟩ := m2
  have : n' = n := by omega
  subst this
  have e5 : g * q = C (co q 0) * g := by rw [eq, zR_C I, if_pos rfl, zR_mod I]; grind
  rw [e5, zR_smul I, e2, Int.mul_one, zR_mod I] at e4
  rw [e5, e4, zR_C1 I]
  grind
theorem zgcd_u {R : Type} [Lean.Grind.CommRing R] {p : Int} {inv : Int → Int} {co : R → Nat → Int} {X : R} {C : Int → R} (I : zIf R p inv co X C) {a b g g' : R} (h : zgcd a b g) (h' : zgcd a b g') (m : g = 0 ∨ zmon co g) (m' : g' = 0 ∨ zmon co g') : g = g' := by
  obtain ⟨h1, h2, u, v, h3⟩ := h
  obtain ⟨k1, k2, u', v', k3⟩ := h'
  have d1 : zdv g g' := by rw [k3]; exact zdv_add (zdv_mul _ h1) (zdv_mul _ h2)
  have d2 : zdv g' g := by rw [h3]; exact zdv_add (zdv_mul _ k1) (zdv_mul _ k2)
  rcases m with m | m
  · obtain ⟨q, e⟩ := d1
    rw [m] at e ⊢
    grind
  · rcases m' with m' | m'
    · obtain ⟨q, e⟩ := d2
      rw [m'] at e ⊢
      grind
    · exact zmon_eq I d1 d2 m m'
theorem zcp_of {R : Type} [Lean.Grind.CommRing R] {p : Int} {inv : Int → Int} {co : R → Nat → Int} {X : R} {C : Int → R} (I : zIf R p inv co X C) {a b : R} (ha : a ≠ 0) (h : ∀ g, zdv g a → zdv g b → zlen co g ≤ 1) : zcp a b := by
  obtain ⟨g, h1, h2, u, v, h3⟩ := zgcd_ex I _ a b (Nat.le_refl _)
  have hg := h g h1 h2
  have hg0 : g ≠ 0 := by
    rintro rfl
    obtain ⟨q, e⟩ := h1
    exact ha (by grind)
  obtain ⟨n, hn⟩ := zL_pos I hg0
  have hn0 : n = 0 := by omega
  subst hn0
  have hr := zR_rng I g 0
  have ht := zL_top I hn
  have := zC_unit I (c := co g 0) (by omega) hr.2
  rw [← zL_const I hg] at this
  exact ⟨C (inv (co g 0)) * u, C (inv (co g 0)) * v, by grind⟩
theorem zcp_symm {R : Type} [Lean.Grind.CommRing R] {a b : R} (h : zcp a b) : zcp b a := by
  obtain ⟨u, v, h⟩ := h
  exact ⟨v, u, by grind⟩
theorem zcp_mul {R : Type} [Lean.Grind.CommRing R] {a b c : R} (h1 : zcp a b) (h2 : zcp a c) : zcp a (b * c) := by
  obtain ⟨u, v, h1⟩ := h1
  obtain ⟨x, y, h2⟩ := h2
  exact ⟨u * x * a + u * y * c + v * b * x, v * y, by grind⟩
theorem zcp_pow {R : Type} [Lean.Grind.CommRing R] {a b : R} (h : zcp a b) : ∀ n : Nat, zcp a (b ^ n) := by
  intro n
  induction n with
  | zero => exact ⟨0, 1, by grind⟩
  | succ n ih =>
    have : b ^ (n + 1) = b ^ n * b := by grind
    rw [this]
    exact zcp_mul ih h
theorem zcp_dvd {R : Type} [Lean.Grind.CommRing R] {a b c : R} (h : zcp a b) (hd : zdv a (b * c)) : zdv a c := by
  obtain ⟨u, v, h⟩ := h
  obtain ⟨q, hq⟩ := hd
  exact ⟨u * c + v * q, by grind⟩
theorem zcp_prod {R : Type} [Lean.Grind.CommRing R] {a b c : R} (h : zcp a b) (h1 : zdv a c) (h2 : zdv b c) : zdv (a * b) c := by
  obtain ⟨u, v, h⟩ := h
  obtain ⟨x, h1⟩ := h1
  obtain ⟨y, h2⟩ := h2
  exact ⟨u * y + v * x, by grind⟩
theorem zcp_dv {R : Type} [Lean.Grind.CommRing R] {a b c d : R} (h : zcp a b) (h1 : zdv c a) (h2 : zdv d b) : zcp c d := by
  obtain ⟨u, v, h⟩ := h
  obtain ⟨x, h1⟩ := h1
  obtain ⟨y, h2⟩ := h2
  exact ⟨u * x, v * y, by grind⟩
