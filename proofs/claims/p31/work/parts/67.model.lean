/-! A ring that is as 30.ring wants it: sequences over Fin p that come to an end. -/
def zPm {K : Type} [Lean.Grind.CommRing K] : (Nat → K) → (Nat → K) → Nat → K
  | f, g, 0 => f 0 * g 0
  | f, g, k + 1 => zPm (fun i => f (i + 1)) g k + f 0 * g (k + 1)
theorem zPm_ar {K : Type} [Lean.Grind.CommRing K] (h i : Nat → K) (g : Nat → K) (k : Nat) : zPm g (fun j => h j + i j) k = zPm g h k + zPm g i k := by
  induction k generalizing g with
  | zero => simp only [zPm]; grind
  | succ k ih => simp only [zPm]; rw [ih]; grind
theorem zPm_al {K : Type} [Lean.Grind.CommRing K] (f g h : Nat → K) (k : Nat) : zPm (fun j => f j + g j) h k = zPm f h k + zPm g h k := by
  induction k generalizing f g with
  | zero => simp only [zPm]; grind
  | succ k ih => simp only [zPm]; rw [ih (fun j => f (j + 1)) (fun j => g (j + 1))]; grind
theorem zPm_s {K : Type} [Lean.Grind.CommRing K] (c : K) (f g : Nat → K) (k : Nat) : zPm (fun j => c * f j) g k = c * zPm f g k := by
  induction k generalizing f with
  | zero => simp only [zPm]; grind
  | succ k ih => simp only [zPm]; rw [ih (fun j => f (j + 1))]; grind
theorem zPm_0 {K : Type} [Lean.Grind.CommRing K] (g : Nat → K) (k : Nat) : zPm (fun _ => 0) g k = 0 := by
  induction k with
  | zero => simp only [zPm]; grind
  | succ k ih => simp only [zPm]; rw [ih]; grind
theorem zPm_r {K : Type} [Lean.Grind.CommRing K] (f g : Nat → K) (k : Nat) : zPm f g (k + 1) = zPm f (fun j => g (j + 1)) k + f (k + 1) * g 0 := by
  induction k generalizing f with
  | zero => simp only [zPm]; grind
  | succ k ih =>
    have e := ih (fun j => f (j + 1))
    show zPm (fun j => f (j + 1)) g (k + 1) + f 0 * g (k + 2) = (zPm (fun j => f (j + 1)) (fun j => g (j + 1)) k + f 0 * g (k + 2)) + f (k + 2) * g 0
    rw [e]
    grind
theorem zPm_c {K : Type} [Lean.Grind.CommRing K] (f g : Nat → K) (k : Nat) : zPm f g k = zPm g f k := by
  induction k generalizing f with
  | zero => simp only [zPm]; grind
  | succ k ih =>
    rw [zPm_r g f]
    show zPm (fun j => f (j + 1)) g k + f 0 * g (k + 1) = _
    rw [ih]
    grind
theorem zPm_a {K : Type} [Lean.Grind.CommRing K] (f g h : Nat → K) (k : Nat) : zPm (zPm f g) h k = zPm f (zPm g h) k := by
  induction k generalizing f with
  | zero => simp only [zPm]; grind
  | succ k ih =>
    show zPm (fun j => zPm (fun j => f (j + 1)) g j + f 0 * g (j + 1)) h k + f 0 * g 0 * h (k + 1) = zPm (fun j => f (j + 1)) (zPm g h) k + f 0 * (zPm (fun j => g (j + 1)) h k + g 0 * h (k + 1))
    rw [zPm_al (fun j => zPm (fun j => f (j + 1)) g j) (fun j => f 0 * g (j + 1)), zPm_s (f 0) (fun j => g (j + 1)), ← ih]
    grind
def zPc {K : Type} [Lean.Grind.CommRing K] (c : K) : Nat → K := fun k => if k = 0 then c else 0
theorem zPm_k {K : Type} [Lean.Grind.CommRing K] (c : K) (g : Nat → K) (k : Nat) : zPm (zPc c) g k = c * g k := by
  cases k with
  | zero => rfl
  | succ k =>
    show zPm (fun j => zPc c (j + 1)) g k + zPc c 0 * g (k + 1) = _
    have e : (fun j => zPc c (j + 1)) = fun _ : Nat => (0 : K) := rfl
    have e2 : zPc c 0 = c := rfl
    rw [e, zPm_0, e2]
    grind
def zPf {K : Type} [Lean.Grind.CommRing K] (f : Nat → K) : Prop := ∃ n, ∀ k, n ≤ k → f k = 0
theorem zPf_m {K : Type} [Lean.Grind.CommRing K] {f g : Nat → K} (hf : zPf f) (hg : zPf g) : zPf (zPm f g) := by
  obtain ⟨m, hm⟩ := hf
  obtain ⟨n, hn⟩ := hg
  refine ⟨m + n, fun k hk => ?_⟩
  induction m generalizing f k with
  | zero =>
    have e : f = fun _ => 0 := funext (fun j => hm j (by omega))
    rw [e, zPm_0]
  | succ m ih =>
    obtain ⟨k, rfl⟩ : ∃ j, k = j + 1 := ⟨k - 1, by omega⟩
    show zPm (fun j => f (j + 1)) g k + f 0 * g (k + 1) = 0
    rw [ih (f := fun j => f (j + 1)) (fun j hj => hm _ (by omega)) k (by omega), hn (k + 1) (by omega)]
    grind
theorem zPf_c {K : Type} [Lean.Grind.CommRing K] (c : K) : zPf (zPc c) := ⟨1, fun k hk => if_neg (by omega)⟩
abbrev zPY (K : Type) [Lean.Grind.CommRing K] : Type := { f : Nat → K // zPf f }
theorem zPe {K : Type} [Lean.Grind.CommRing K] {a b : zPY K} (h : ∀ k, a.1 k = b.1 k) : a = b := Subtype.ext (funext h)
def zP_add {K : Type} [Lean.Grind.CommRing K] (a b : zPY K) : zPY K := ⟨fun k => a.1 k + b.1 k, by
  obtain ⟨m, hm⟩ := a.2
  obtain ⟨n, hn⟩ := b.2
  exact ⟨m + n, fun k hk => by show a.1 k + b.1 k = 0; rw [hm k (by omega), hn k (by omega)]; grind⟩⟩
def zP_neg {K : Type} [Lean.Grind.CommRing K] (a : zPY K) : zPY K := ⟨fun k => - a.1 k, by
  obtain ⟨m, hm⟩ := a.2
  exact ⟨m, fun k hk => by show - a.1 k = 0; rw [hm k hk]; grind⟩⟩
def zP_mul {K : Type} [Lean.Grind.CommRing K] (a b : zPY K) : zPY K := ⟨zPm a.1 b.1, zPf_m a.2 b.2⟩
def zP_c {K : Type} [Lean.Grind.CommRing K] (c : K) : zPY K := ⟨zPc c, zPf_c c⟩
def zP_n {K : Type} [Lean.Grind.CommRing K] (n : Nat) : zPY K := zP_c (OfNat.ofNat n)
def zP_i {K : Type} [Lean.Grind.CommRing K] (i : Int) : zPY K := zP_c (@Int.cast K Lean.Grind.Ring.intCast i)
def zP_pw {K : Type} [Lean.Grind.CommRing K] (a : zPY K) : Nat → zPY K
  | 0 => zP_n 1
  | n + 1 => zP_mul (zP_pw a n) a
theorem zP_0 {K : Type} [Lean.Grind.CommRing K] (a : zPY K) (k : Nat) : (zP_n (K := K) 0).1 k = 0 := by
  show (if k = 0 then (OfNat.ofNat 0 : K) else 0) = 0
  split <;> rfl
theorem zP_comm {K : Type} [Lean.Grind.CommRing K] (a b : zPY K) : zP_mul a b = zP_mul b a := zPe (fun k => zPm_c a.1 b.1 k)
theorem zP_1 {K : Type} [Lean.Grind.CommRing K] (a : zPY K) : zP_mul a (zP_n 1) = a := by
  rw [zP_comm]
  refine zPe (fun k => ?_)
  show zPm (zPc (OfNat.ofNat 1 : K)) a.1 k = _
  rw [zPm_k]
  exact Lean.Grind.Semiring.one_mul _
theorem zP_z {K : Type} [Lean.Grind.CommRing K] (a : zPY K) : zP_mul (zP_n 0) a = zP_n 0 := zPe (fun k => by
  show zPm (zPc (OfNat.ofNat 0 : K)) a.1 k = _
  rw [zPm_k, zP_0 a]
  exact Lean.Grind.Semiring.zero_mul _)
theorem zP_ld {K : Type} [Lean.Grind.CommRing K] (a b c : zPY K) : zP_mul a (zP_add b c) = zP_add (zP_mul a b) (zP_mul a c) := zPe (fun k => zPm_ar b.1 c.1 a.1 k)
theorem zP_az {K : Type} [Lean.Grind.CommRing K] (a : zPY K) : zP_add a (zP_n 0) = a := zPe (fun k => by
  show a.1 k + (zP_n (K := K) 0).1 k = a.1 k
  rw [zP_0 a]
  exact Lean.Grind.Semiring.add_zero _)
abbrev zP_ring (K : Type) [Lean.Grind.CommRing K] : Lean.Grind.CommRing (zPY K) where
  add := zP_add
  mul := zP_mul
  natCast := ⟨zP_n⟩
  ofNat := fun n => ⟨zP_n n⟩
  nsmul := ⟨fun n a => zP_mul (zP_n n) a⟩
  npow := ⟨zP_pw⟩
  neg := zP_neg
  sub := fun a b => zP_add a (zP_neg b)
  intCast := ⟨zP_i⟩
  zsmul := ⟨fun i a => zP_mul (zP_i i) a⟩
  add_zero := zP_az
  add_comm := fun a b => zPe (fun k => Lean.Grind.Semiring.add_comm _ _)
  add_assoc := fun a b c => zPe (fun k => Lean.Grind.Semiring.add_assoc _ _ _)
  mul_assoc := fun a b c => zPe (fun k => zPm_a a.1 b.1 c.1 k)
  mul_one := zP_1
  one_mul := fun a => (zP_comm _ _).trans (zP_1 a)
  left_distrib := zP_ld
  right_distrib := fun a b c => ((zP_comm _ _).trans (zP_ld c a b)).trans (by rw [zP_comm c a, zP_comm c b]; rfl)
  zero_mul := zP_z
  mul_zero := fun a => (zP_comm _ _).trans (zP_z a)
  pow_zero := fun a => rfl
  pow_succ := fun a n => rfl
  ofNat_succ := fun n => zPe (fun k => by
    show zPc (OfNat.ofNat (n + 1) : K) k = zPc (OfNat.ofNat n : K) k + zPc (OfNat.ofNat 1 : K) k
    unfold zPc
    split
    · exact Lean.Grind.Semiring.ofNat_succ n
    · exact (Lean.Grind.Semiring.add_zero _).symm)
  ofNat_eq_natCast := fun n => rfl
  nsmul_eq_natCast_mul := fun n a => rfl
  neg_add_cancel := fun a => zPe (fun k => by
    show - a.1 k + a.1 k = (zP_n (K := K) 0).1 k
    rw [zP_0 a]
    exact Lean.Grind.Ring.neg_add_cancel _)
  sub_eq_add_neg := fun a b => rfl
  neg_zsmul := fun i a => zPe (fun k => by
    show zPm (zPc (@Int.cast K Lean.Grind.Ring.intCast (-i))) a.1 k = - zPm (zPc (@Int.cast K Lean.Grind.Ring.intCast i)) a.1 k
    rw [zPm_k, zPm_k, Lean.Grind.Ring.intCast_neg]
    grind)
  zsmul_natCast_eq_nsmul := fun n a => zPe (fun k => by
    show zPm (zPc (@Int.cast K Lean.Grind.Ring.intCast (n : Int))) a.1 k = zPm (zPc (OfNat.ofNat n : K)) a.1 k
    have e : @Int.cast K Lean.Grind.Ring.intCast (n : Int) = (OfNat.ofNat n : K) := Lean.Grind.Ring.intCast_ofNat n
    rw [e])
  intCast_ofNat := fun n => by
    show zP_c (@Int.cast K Lean.Grind.Ring.intCast (OfNat.ofNat n)) = zP_c (OfNat.ofNat n : K)
    rw [Lean.Grind.Ring.intCast_ofNat]
  intCast_neg := fun i => zPe (fun k => by
    show zPc (@Int.cast K Lean.Grind.Ring.intCast (-i)) k = - zPc (@Int.cast K Lean.Grind.Ring.intCast i) k
    unfold zPc
    split
    · exact Lean.Grind.Ring.intCast_neg i
    · grind)
  mul_comm := zP_comm
def zP_inv (p : Int) (c : Int) : Int := ((((List.range 98).find? (fun k : Nat => decide ((c * (k : Int)) % p = 1))).getD 0 : Nat) : Int)
theorem zP_invT : ([2, 3, 5, 7, 11, 13, 31, 97] : List Int).all (fun p => decide (zP_inv p 0 = 0) && (List.range 97).all (fun c => decide (c = 0) || decide (p ≤ (c : Int)) || (decide (0 < zP_inv p (c : Int)) && decide (zP_inv p (c : Int) < p) && decide (((c : Int) * zP_inv p (c : Int)) % p = 1)))) = true := by decide +kernel
theorem zP_if (n : Nat) (hz : NeZero n) (hn : (n : Int) ∈ ([2, 3, 5, 7, 11, 13, 31, 97] : List Int)) : ∃ (R : Type) (i : Lean.Grind.CommRing R) (inv : Int → Int) (co : R → Nat → Int) (X : R) (C : Int → R), @zIf R i (n : Int) inv co X C := by
  have hT := List.all_eq_true.mp zP_invT _ hn
  simp only [Bool.and_eq_true, decide_eq_true_eq] at hT
  have hn2 : 2 ≤ n ∧ n ≤ 97 := by
    simp only [List.mem_cons, List.not_mem_nil, or_false] at hn
    omega
  refine ⟨zPY (Fin n), zP_ring (Fin n), zP_inv n, fun a k => ((a.1 k).val : Int), ⟨fun k => if k = 1 then 1 else 0, 2, fun k hk => if_neg (by omega)⟩, fun c => zP_c (Fin.ofNat n (c % (n : Int)).toNat), hn, ⟨hT.1, fun c c0 c1 => ?_⟩, fun a k => ?_, fun a b h => ?_, fun a => ?_, fun a b k => ?_, fun c a k => ?_, fun a => ?_, fun a k => ?_, fun k => ?_⟩
  · have h := List.all_eq_true.mp hT.2 c.toNat (List.mem_range.mpr (by omega))
    simp only [Bool.or_eq_true, Bool.and_eq_true, decide_eq_true_eq] at h
    rw [Int.toNat_of_nonneg (by omega)] at h
    rcases h with (h | h) | h
    · omega
    · omega
    · exact ⟨h.1.1, h.1.2, h.2⟩
  · have := (a.1 k).isLt
    show 0 ≤ ((a.1 k).val : Int) ∧ ((a.1 k).val : Int) < n
    omega
  · exact zPe (fun k => Fin.ext (Int.ofNat.inj (h k)))
  · obtain ⟨m, hm⟩ := a.2
    refine ⟨m, fun k hk => ?_⟩
    show ((a.1 k).val : Int) = 0
    rw [hm k hk]
    rfl
  · show (((a.1 k + b.1 k : Fin n).val : Nat) : Int) = (((a.1 k).val : Int) + ((b.1 k).val : Int)) % (n : Int)
    rw [Fin.val_add, Int.natCast_emod, Int.natCast_add]
  · show (((zPm (zPc (Fin.ofNat n (c % (n : Int)).toNat)) a.1 k : Fin n).val : Nat) : Int) = (c * ((a.1 k).val : Int)) % (n : Int)
    have hc0 := Int.emod_nonneg c (show (n : Int) ≠ 0 by omega)
    have hc1 := Int.emod_lt_of_pos c (show (0 : Int) < n by omega)
    rw [zPm_k, Fin.val_mul, Fin.val_ofNat, Nat.mod_eq_of_lt (show (c % (n : Int)).toNat < n by omega), Int.natCast_emod, Int.natCast_mul, Int.toNat_of_nonneg hc0, zme1]
  · show (((0 * a.1 0 : Fin n).val : Nat) : Int) = 0
    rw [Fin.zero_mul]
    rfl
  · show (((zPm (fun j => if j + 1 = 1 then 1 else 0) a.1 k + 0 * a.1 (k + 1) : Fin n).val : Nat) : Int) = ((a.1 k).val : Int)
    have e : (fun j : Nat => if j + 1 = 1 then (1 : Fin n) else 0) = zPc 1 := funext (fun j => by
      unfold zPc
      by_cases hj : j = 0
      · rw [if_pos hj, if_pos (by omega)]
      · rw [if_neg hj, if_neg (by omega)])
    rw [e, zPm_k, Fin.zero_mul, Fin.add_zero, Fin.one_mul]
  · show ((((if k = 0 then (OfNat.ofNat 1 : Fin n) else 0) : Fin n).val : Nat) : Int) = _
    split
    · show (((1 % n : Nat)) : Int) = 1
      rw [Nat.mod_eq_of_lt (by omega)]
      rfl
    · rfl
theorem zring {p : Int} (hp : p ∈ ([2, 3, 5, 7, 11, 13, 31, 97] : List Int)) : ∃ (R : Type) (i : Lean.Grind.CommRing R) (inv : Int → Int) (co : R → Nat → Int) (X : R) (C : Int → R), @zIf R i p inv co X C := by
  have h2 : 2 ≤ p := by
    simp only [List.mem_cons, List.not_mem_nil, or_false] at hp
    omega
  have e : p = ((p.toNat : Nat) : Int) := by omega
  rw [e] at hp ⊢
  exact zP_if p.toNat ⟨by omega⟩ hp
