/-! The law's product of rows; and the class's calls on the law's memory. -/
theorem zpw {R : Type} [Lean.Grind.CommRing R] (x : R) (i j : Nat) : x ^ (i + j) = x ^ i * x ^ j := Lean.Grind.Semiring.pow_add x i j
theorem zcoX {R : Type} [Lean.Grind.CommRing R] {p : Int} {inv : Int → Int} {co : R → Nat → Int} {X : R} {C : Int → R} (I : zIf R p inv co X C) (m : R) (c : Int) (n k : Nat) : co (m + C c * X ^ n) k = if k = n then (co m n + c) % p else co m k := by
  have e : X ^ n = X ^ n * (1 : R) := by grind
  rw [e, zR_add I, zR_smul I, zR_pow I, zR_one I]
  by_cases h : k = n
  · subst h
    rw [if_neg (by omega), if_pos (by omega), if_pos rfl, Int.mul_one, Int.add_emod, Int.emod_emod, ← Int.add_emod]
  · rw [if_neg h]
    split
    · rw [Int.mul_zero, Int.zero_emod, Int.add_zero, zR_mod I]
    · rw [if_neg (by omega), Int.mul_zero, Int.zero_emod, Int.add_zero, zR_mod I]
def zlow {R : Type} (co : R → Nat → Int) (f : R) (n : Nat) (g : R) : Prop := ∀ k, co g k = if k < n then co f k else 0
theorem zlow_0 {R : Type} [Lean.Grind.CommRing R] {p : Int} {inv : Int → Int} {co : R → Nat → Int} {X : R} {C : Int → R} (I : zIf R p inv co X C) (f : R) : zlow co f 0 0 := fun k => by rw [zR_zero I, if_neg (by omega)]
theorem zlow_s {R : Type} [Lean.Grind.CommRing R] {p : Int} {inv : Int → Int} {co : R → Nat → Int} {X : R} {C : Int → R} (I : zIf R p inv co X C) {f g : R} {n : Nat} (h : zlow co f n g) : zlow co f (n + 1) (g + C (co f n) * X ^ n) := fun k => by
  rw [zcoX I, h k, h n]
  by_cases hk : k = n
  · subst hk
    rw [if_pos rfl, if_neg (by omega), if_pos (by omega), Int.zero_add, zR_mod I]
  · rw [if_neg hk]
    by_cases h1 : k < n
    · rw [if_pos h1, if_pos (by omega)]
    · rw [if_neg h1, if_neg (by omega)]
theorem zlow_e {R : Type} [Lean.Grind.CommRing R] {p : Int} {inv : Int → Int} {co : R → Nat → Int} {X : R} {C : Int → R} (I : zIf R p inv co X C) {f g : R} {n : Nat} (h : zlow co f n g) (hn : zlen co f ≤ n) : g = f := zR_ext I (fun k => by
  rw [h k]
  split
  · rfl
  · exact (zL_hi I (by omega)).symm)
theorem c96 {R : Type} [Lean.Grind.CommRing R] {p : Int} {inv : Int → Int} {co : R → Nat → Int} {X : R} {C : Int → R} (I : zIf R p inv co X C) {E : List (List Int)} {d : Nat} {Q : Int → zT → zD → Prop} {l : List R} {A : List (Int × R)} {N : Nat} {T : zT} {D : zD} (h : zLs p inv co l A N T D) (hd : 1 ≤ d) {q1 q2 : Int} {f g : R} (h1 : (q1, f) ∈ A) (h2 : (q2, g) ∈ A) (hfg : zlen co f + zlen co g ≤ 26)
    (hQ : ∀ T' D', zLs p inv co l (((T.length : Int), f * g) :: A) (N + 1) T' D' → Q (T.length : Int) T' D') : zc E d 2 96 [(2, q1), (2, q2), (0, p)] T D Q := by
  have hp := zR_p I
  obtain ⟨h', h158, hne⟩ := zLs_n I h
  generalize hq : (T.length : Int) = q at h' h158 hne hQ
  have m1 : ∀ m : R, (q1, f) ∈ (q, m) :: A := fun m => List.mem_cons_of_mem _ h1
  have m2 : ∀ m : R, (q2, g) ∈ (q, m) :: A := fun m => List.mem_cons_of_mem _ h2
  have fl := (zLs_at h h1).2.2.2.1
  have gl := (zLs_at h h2).2.2.2.1
  have inner : ∀ (m j i : Nat) (lo gl : R) (D : zD) (T : zT), j + m = zlen co g → i < zlen co f → zlow co g j gl →
      zLs p inv co l ((q, lo * g + C (co f i) * (X ^ i * gl)) :: A) (N + 1) T D →
      (∀ T D, zLs p inv co l ((q, (lo + C (co f i) * X ^ i) * g) :: A) (N + 1) T D → zj E d 2 96 8 [(2, q1), (2, q2), (0, p), (2, q), (0, (i : Int) + 1), (0, (zlen co g : Int))] [] T D Q) →
      zj E d 2 96 20 [(2, q1), (2, q2), (0, p), (2, q), (0, (i : Int)), (0, (j : Int))] [] T D Q := by
    intro m
    induction m with
    | zero =>
      intro j i lo gl D T hj hi hgl hs hK
      obtain rfl : j = zlen co g := by omega
      refine z96_20 _ _ _ _ _ _ ⟨by omega, ?_⟩
      refine c94 I hs (m2 _) ⟨by unfold zin; omega, by unfold zin; omega, fun _ => hK T D ?_, fun hh => by omega⟩
      rw [zlow_e I hgl (Nat.le_refl _)] at hs
      rw [show (lo + C (co f i) * X ^ i) * g = lo * g + C (co f i) * (X ^ i * g) by grind]
      exact hs
    | succ m ih =>
      intro j i lo gl D T hj hi hgl hs hK
      refine z96_20 _ _ _ _ _ _ ⟨by omega, ?_⟩
      have hq0 := zLs_at hs List.mem_cons_self
      have hq1 := zLs_at hs (m1 _)
      have hq2 := zLs_at hs (m2 _)
      have e0 : D q ((i : Int) + (j : Int)) = co (lo * g + C (co f i) * (X ^ i * gl)) (i + j) := by
        rw [hq0.2.2.2.2.1 _ (by omega) (by omega)]
        congr 1
      have e1 : D q1 (i : Int) = co f i := by
        rw [hq1.2.2.2.2.1 _ (by omega) (by omega)]
        congr 1
      have e2 : D q2 (j : Int) = co g j := by
        rw [hq2.2.2.2.2.1 _ (by omega) (by omega)]
        congr 1
      have b1 := zR_rng I f i
      have b2 := zR_rng I g j
      have b0 := zR_rng I (lo * g + C (co f i) * (X ^ i * gl)) (i + j)
      have bm := zmulb (a := co f i) (b := co g j) b1.1 (by omega) b2.1 (by omega)
      refine c94 I hs (m2 _) ⟨by unfold zin; omega, by unfold zin; omega, fun hh => by omega, fun _ => ⟨hq0.2.2.2.2.2 _ (by omega) (by omega), hq1.2.2.2.2.2 _ (by omega) (by omega), hq2.2.2.2.2.2 _ (by omega) (by omega), ?_, by omega, by omega, ?_⟩⟩
      · rw [e0, e1, e2]
        unfold zin
        omega
      · rw [e0, e1, e2, Int.tmod_eq_emod_of_nonneg (by omega)]
        refine ih (j + 1) i lo (gl + C (co g j) * X ^ j) _ T (by omega) hi (zlow_s I hgl) ?_ hK
        have ev : lo * g + C (co f i) * (X ^ i * (gl + C (co g j) * X ^ j)) = (lo * g + C (co f i) * (X ^ i * gl)) + C (co f i * co g j) * X ^ (i + j) := by
          rw [zpw, zR_Cmul I]
          grind
        rw [ev]
        refine zLs_w I (k := i + j) hs hne (by omega) (fun k => ?_)
        exact zcoX I _ _ _ _
  have outer : ∀ (m i : Nat) (lo : R) (D : zD) (T : zT) (w : zv_V), zs_wide w = false → i + m = zlen co f → zlow co f i lo → zLs p inv co l ((q, lo * g) :: A) (N + 1) T D → zj E d 2 96 8 [(2, q1), (2, q2), (0, p), (2, q), (0, (i : Int)), w] [] T D Q := by
    intro m
    induction m with
    | zero =>
      intro i lo D T w hw hi hlo hs
      obtain rfl : i = zlen co f := by omega
      refine z96_8 _ _ _ _ _ w hw ⟨by omega, ?_⟩
      rw [zlow_e I hlo (Nat.le_refl _)] at hs
      exact c94 I hs (m1 _) ⟨by unfold zin; omega, by unfold zin; omega, fun _ => ⟨by omega, hQ T D hs⟩, fun hh => by omega⟩
    | succ m ih =>
      intro i lo D T w hw hi hlo hs
      refine z96_8 _ _ _ _ _ w hw ⟨by omega, ?_⟩
      refine c94 I hs (m1 _) ⟨by unfold zin; omega, by unfold zin; omega, fun hh => by omega, fun _ => ?_⟩
      have e : lo * g = lo * g + C (co f i) * (X ^ i * 0) := by grind
      rw [e] at hs
      refine inner (zlen co g) 0 i lo 0 D T (by omega) (by omega) (zlow_0 I g) hs (fun T D hs => ?_)
      exact ih (i + 1) _ D T _ rfl (by omega) (zlow_s I hlo) hs
  refine e96 _ _ _ ?_
  rw [hq]
  refine outer (zlen co f) 0 0 _ _ _ rfl (by omega) (zlow_0 I f) ?_
  rw [show (0 : R) * g = 0 by grind]
  exact h'
