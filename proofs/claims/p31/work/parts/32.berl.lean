/-! What Berlekamp's way rests on: kernels of y^p - y, how many parts there are, what is simple. -/
def zK {R : Type} [Lean.Grind.CommRing R] (p : Int) (C : Int → R) (f : R) : Prop := ∀ u : R, zdv f (u ^ p.toNat - u) → ∃ c : Int, zdv f (u - C c)
def zsq {R : Type} [Lean.Grind.CommRing R] (co : R → Nat → Int) (f : R) : Prop := ∀ h : R, zdv (h * h) f → zlen co h ≤ 1
theorem zidem {R : Type} [Lean.Grind.CommRing R] {f e : R} (h : zdv f (e * e - e)) : ∀ n : Nat, zdv f (e ^ (n + 1) - e) := by
  intro n
  induction n with
  | zero => exact ⟨0, by grind⟩
  | succ n ih =>
    obtain ⟨x, h⟩ := h
    obtain ⟨y, ih⟩ := ih
    have e1 : e ^ (n + 1 + 1) = e ^ (n + 1) * e := by grind
    exact ⟨y * e + x, by rw [e1]; grind⟩
theorem zdvC {R : Type} [Lean.Grind.CommRing R] {p : Int} {inv : Int → Int} {co : R → Nat → Int} {X : R} {C : Int → R} (I : zIf R p inv co X C) {f : R} {c : Int} (hf : 2 ≤ zlen co f) (h : zdv f (C c)) : C c = 0 := zdv_small I h (by have := zL_C I c; omega)
theorem zCnz {R : Type} [Lean.Grind.CommRing R] {p : Int} {inv : Int → Int} {co : R → Nat → Int} {X : R} {C : Int → R} (I : zIf R p inv co X C) {c : Int} (h : C c ≠ 0) : ∃ d, C d * C c = 1 := by
  have h1 : C c = C (c % p) := (zR_Cmod I c).symm
  have hp := zR_p I
  have h2 := Int.emod_nonneg c (show p ≠ 0 by omega)
  have h3 := Int.emod_lt_of_pos c (show 0 < p by omega)
  have h4 : c % p ≠ 0 := by
    intro h0
    rw [h1, h0, zR_C0 I] at h
    exact h rfl
  refine ⟨inv (c % p), ?_⟩
  rw [h1]
  exact zC_unit I (by omega) h3
theorem zpp {R : Type} [Lean.Grind.CommRing R] {p : Int} {inv : Int → Int} {co : R → Nat → Int} {X : R} {C : Int → R} (I : zIf R p inv co X C) : ∃ n, p.toNat = n + 1 := by
  have := zR_p I
  exact ⟨p.toNat - 1, by omega⟩
theorem zdv_pow {R : Type} [Lean.Grind.CommRing R] {f a b : R} (h : zdv f (a - b)) (n : Nat) : zdv f (a ^ n - b ^ n) := by
  induction n with
  | zero => exact ⟨0, by grind⟩
  | succ n ih =>
    obtain ⟨x, h⟩ := h
    obtain ⟨y, ih⟩ := ih
    have e1 : a ^ (n + 1) = a ^ n * a := by grind
    have e2 : b ^ (n + 1) = b ^ n * b := by grind
    exact ⟨x * a ^ n + y * b, by rw [e1, e2]; grind⟩
/-- what is the same by f is in the kernel of f, too -/
theorem zker_c {R : Type} [Lean.Grind.CommRing R] {f a b : R} {n : Nat} (h : zdv f (a - b)) (hb : zdv f (b ^ n - b)) : zdv f (a ^ n - a) := by
  obtain ⟨x, h1⟩ := zdv_pow h n
  obtain ⟨y, h2⟩ := hb
  obtain ⟨z, h3⟩ := h
  exact ⟨x + y - z, by grind⟩
/-- what is 1 by f and 0 by g -/
theorem zcrt {R : Type} [Lean.Grind.CommRing R] {f g : R} (h : zcp f g) : ∃ e : R, zdv f (e - 1) ∧ zdv g e ∧ zdv (f * g) (e * e - e) := by
  obtain ⟨u, v, h⟩ := h
  exact ⟨v * g, ⟨-u, by grind⟩, ⟨v, by grind⟩, ⟨-(u * v), by grind⟩⟩
theorem zK_prime {R : Type} [Lean.Grind.CommRing R] {p : Int} {inv : Int → Int} {co : R → Nat → Int} {X : R} {C : Int → R} (I : zIf R p inv co X C) {f a b : R} (hf : 2 ≤ zlen co f) (hs : zsq co f) (hK : zK p C f) (h : zdv f (a * b)) : zdv f a ∨ zdv f b := by
  have hf0 : f ≠ 0 := by rintro rfl; rw [zL_0 I] at hf; omega
  obtain ⟨g, hg1, hg2, u, v, hg3⟩ := zgcd_ex I _ f a (Nat.le_refl _)
  obtain ⟨k, hk⟩ := hg1
  have hg0 : g ≠ 0 := by rintro rfl; exact hf0 (by grind)
  have hk0 : k ≠ 0 := by rintro rfl; exact hf0 (by grind)
  by_cases l1 : zlen co g ≤ 1
  · right
    refine zcp_dvd (zcp_of I hf0 (fun t t1 t2 => ?_)) h
    have : zdv t g := by rw [hg3]; exact zdv_add (zdv_mul _ t1) (zdv_mul _ t2)
    have := zdv_len I this hg0
    omega
  · by_cases l2 : zlen co k ≤ 1
    · left
      have e1 := zL_const I l2
      obtain ⟨d, hd⟩ := zCnz I (c := co k 0) (by rw [← e1]; exact hk0)
      have : zdv f g := ⟨C d, by rw [← e1] at hd; grind⟩
      exact zdv_trans this hg2
    · exfalso
      have hcp : zcp g k := zcp_of I hg0 (fun t t1 t2 => hs t (by rw [hk]; exact zdv_mm t1 t2))
      obtain ⟨e, e1, e2, e3⟩ := zcrt hcp
      rw [← hk] at e3
      obtain ⟨n, hn⟩ := zpp I
      have e4 := zidem e3 n
      rw [← hn] at e4
      obtain ⟨c, hc⟩ := hK e e4
      have d1 : zdv g (e - C c) := zdv_trans ⟨k, hk⟩ hc
      have d2 : zdv k (e - C c) := zdv_trans ⟨g, by grind⟩ hc
      have d3 : zdv k (C c) := by
        have : C c = e - (e - C c) := by grind
        rw [this]
        exact zdv_sub e2 d2
      have d4 : zdv g (C (c - 1)) := by
        have : C (c - 1) = (e - 1) - (e - C c) := by rw [zR_Csub I, zR_C1 I]; grind
        rw [this]
        exact zdv_sub e1 d1
      have z1 := zdvC I (by omega) d3
      have z2 := zdvC I (by omega) d4
      rw [zR_Csub I, zR_C1 I, z1] at z2
      exact zR_1ne0 I (by grind)
/-- the kernel of a part, where the whole's is known -/
theorem zK_A {R : Type} [Lean.Grind.CommRing R] {p : Int} {inv : Int → Int} {co : R → Nat → Int} {X : R} {C : Int → R} (I : zIf R p inv co X C) {w f g : R} (hw : w = f * g) (hw0 : w ≠ 0) (hc : zcp f g) (h : ∀ V : R, zlen co V < zlen co w → zdv w (V ^ p.toNat - V) → ∃ c : Int, zdv f (V - C c)) : zK p C f := by
  intro u hu
  obtain ⟨e, e1, e2, e3⟩ := zcrt hc
  obtain ⟨n, hn⟩ := zpp I
  have k1 : zdv f (u * e - u) := by
    have : u * e - u = u * (e - 1) := by grind
    rw [this]
    exact zdv_mul _ e1
  have k2 : zdv f ((u * e) ^ p.toNat - u * e) := zker_c k1 hu
  have k3 : zdv g ((u * e) ^ p.toNat - u * e) := by
    have : (u * e) ^ p.toNat = (u * e) ^ n * (u * e) := by rw [hn]; grind
    rw [this]
    exact zdv_sub (zdv_mul _ (zdv_mul _ e2)) (zdv_mul _ e2)
  have k4 : zdv w ((u * e) ^ p.toNat - u * e) := by rw [hw]; exact zcp_prod hc k2 k3
  obtain ⟨q, V, h1, h2⟩ := zdiv I hw0 _ (u * e) (Nat.le_refl _)
  have k5 : zdv w (V - u * e) := ⟨-q, by grind⟩
  obtain ⟨c, hcc⟩ := h V h2 (zker_c k5 k4)
  refine ⟨c, ?_⟩
  have k6 : zdv f (V - u * e) := zdv_trans ⟨g, hw⟩ k5
  have : u - C c = (V - C c) - (V - u * e) - (u * e - u) := by grind
  rw [this]
  exact zdv_sub (zdv_sub hcc k6) k1
/-! counting: more unknowns than equations -/
def zfc (fr : Nat → Bool) : Nat → Nat
  | 0 => 0
  | n + 1 => zfc fr n + (if fr n then 1 else 0)
def zskip (i0 i : Nat) : Nat := if i < i0 then i else i + 1
theorem zsum_skip {R : Type} [Lean.Grind.CommRing R] (g : Nat → R) (i0 : Nat) : ∀ n : Nat, i0 ≤ n → zsum (n + 1) g = g i0 + zsum n (fun i => g (zskip i0 i)) := by
  intro n
  induction n with
  | zero =>
    intro h
    have : i0 = 0 := by omega
    subst this
    show 0 + g 0 = g 0 + 0
    grind
  | succ n ih =>
    intro h
    by_cases e : i0 = n + 1
    · subst e
      show zsum (n + 1) g + g (n + 1) = g (n + 1) + zsum (n + 1) _
      rw [zsum_c (f := fun i => g (zskip (n + 1) i)) (g := g) (fun k hk => by simp only [zskip]; rw [if_pos hk])]
      grind
    · show zsum (n + 1) g + g (n + 1) = g i0 + (zsum n _ + g (zskip i0 n))
      rw [ih (by omega)]
      have : zskip i0 n = n + 1 := by simp only [zskip]; rw [if_neg (by omega)]
      rw [this]
      grind
theorem zsum_C {R : Type} [Lean.Grind.CommRing R] {p : Int} {inv : Int → Int} {co : R → Nat → Int} {X : R} {C : Int → R} (I : zIf R p inv co X C) (f : Nat → Int) (n : Nat) : C (zsum n f) = zsum n (fun k => C (f k)) := by
  induction n with
  | zero => exact zR_C0 I
  | succ n ih => show C (zsum n f + f n) = zsum n _ + C (f n); rw [zR_Cadd I, ih]
theorem zlin {R : Type} [Lean.Grind.CommRing R] {p : Int} {inv : Int → Int} {co : R → Nat → Int} {X : R} {C : Int → R} (I : zIf R p inv co X C) : ∀ (n : Nat) (fr : Nat → Bool) (M : Nat), zfc fr n < M → ∀ A : Nat → Nat → Int, ∃ α : Nat → Int, (∃ i, i < M ∧ C (α i) ≠ 0) ∧ ∀ k, k < n → fr k = true → zsum M (fun i => C (α i) * C (A k i)) = 0 := by
  intro n
  induction n with
  | zero =>
    intro fr M hM A
    exact ⟨fun _ => 1, ⟨0, by omega, by rw [zR_C1 I]; exact zR_1ne0 I⟩, fun k hk => by omega⟩
  | succ n ih =>
    intro fr M hM A
    cases hfr : fr n with
    | false =>
      have h1 : zfc fr (n + 1) = zfc fr n := by show zfc fr n + _ = _; rw [hfr]; rfl
      obtain ⟨α, h2, h3⟩ := ih fr M (by omega) A
      refine ⟨α, h2, fun k hk hf => ?_⟩
      by_cases e : k = n
      · subst e; rw [hfr] at hf; cases hf
      · exact h3 k (by omega) hf
    | true =>
      have h1 : zfc fr (n + 1) = zfc fr n + 1 := by show zfc fr n + _ = _; rw [hfr]; rfl
      obtain ⟨M, rfl⟩ : ∃ m, M = m + 1 := ⟨M - 1, by omega⟩
      by_cases hall : ∃ i0, i0 < M + 1 ∧ C (A n i0) ≠ 0
      · obtain ⟨i0, hi0, hne⟩ := hall
        obtain ⟨y, hy⟩ := zCnz I hne
        obtain ⟨β, ⟨j, hj, hbj⟩, hb⟩ := ih fr M (by omega) (fun k i => A k (zskip i0 i) - y * A n (zskip i0 i) * A k i0)
        have hsk : ∀ i, zskip i0 i ≠ i0 := by intro i; simp only [zskip]; split <;> omega
        have hal : ∀ i, (fun i => if i = i0 then -(y * zsum M (fun i => β i * A n (zskip i0 i))) else if i < i0 then β i else β (i - 1)) (zskip i0 i) = β i := by
          intro i
          show (if zskip i0 i = i0 then _ else if zskip i0 i < i0 then β (zskip i0 i) else β (zskip i0 i - 1)) = β i
          by_cases hi : i < i0
          · have e : zskip i0 i = i := if_pos hi
            rw [e, if_neg (by omega), if_pos hi]
          · have e : zskip i0 i = i + 1 := if_neg hi
            rw [e, if_neg (by omega), if_neg (by omega), Nat.add_sub_cancel]
        refine ⟨fun i => if i = i0 then -(y * zsum M (fun i => β i * A n (zskip i0 i))) else if i < i0 then β i else β (i - 1), ⟨zskip i0 j, by simp only [zskip]; split <;> omega, by rw [hal j]; exact hbj⟩, fun k hk hf => ?_⟩
        rw [zsum_skip _ i0 M (by omega)]
        have e1 : zsum M (fun i => C ((fun i => if i = i0 then -(y * zsum M (fun i => β i * A n (zskip i0 i))) else if i < i0 then β i else β (i - 1)) (zskip i0 i)) * C (A k (zskip i0 i))) = zsum M (fun i => C (β i) * C (A k (zskip i0 i))) := zsum_c (fun i _ => by rw [hal i])
        have e2 : zsum M (fun i => C (β i) * C (A k (zskip i0 i) - y * A n (zskip i0 i) * A k i0)) = zsum M (fun i => C (β i) * C (A k (zskip i0 i))) - C y * C (A k i0) * zsum M (fun i => C (β i) * C (A n (zskip i0 i))) := by
          rw [← zsum_mul, ← zsum_sub]
          refine zsum_c (fun i _ => ?_)
          rw [zR_Csub I, zR_Cmul I, zR_Cmul I]
          grind
        have e3 : C (-(y * zsum M (fun i => β i * A n (zskip i0 i)))) = - (C y * zsum M (fun i => C (β i) * C (A n (zskip i0 i)))) := by
          rw [zR_Cneg I, zR_Cmul I, zsum_C I, zsum_c (fun i _ => zR_Cmul I _ _)]
        simp only [if_pos] at e1 ⊢
        rw [e1, e3]
        by_cases e : k = n
        · subst e
          grind
        · have := hb k (by omega) hf
          rw [e2] at this
          grind
      · obtain ⟨α, h2, h3⟩ := ih fr (M + 1) (by omega) A
        refine ⟨α, h2, fun k hk hf => ?_⟩
        by_cases e : k = n
        · subst e
          refine zsum_0 (fun i hi => ?_)
          by_cases h0 : C (A k i) = 0
          · rw [h0]; grind
          · exact absurd ⟨i, hi, h0⟩ hall
        · exact h3 k (by omega) hf
theorem zker_sum {R : Type} [Lean.Grind.CommRing R] {p : Int} {inv : Int → Int} {co : R → Nat → Int} {X : R} {C : Int → R} (I : zIf R p inv co X C) {w : R} {f : Nat → R} {α : Nat → Int} {n : Nat} (h : ∀ k, k < n → zdv w (f k ^ p.toNat - f k)) : zdv w ((zsum n (fun k => C (α k) * f k)) ^ p.toNat - zsum n (fun k => C (α k) * f k)) := by
  obtain ⟨m, hm⟩ := zpp I
  have hp := zR_p I
  induction n with
  | zero =>
    show zdv w ((0 : R) ^ p.toNat - 0)
    rw [hm]
    exact ⟨0, by grind⟩
  | succ n ih =>
    show zdv w ((zsum n _ + C (α n) * f n) ^ p.toNat - (zsum n _ + C (α n) * f n))
    rw [zfrob_add I, zpow_mul]
    have e : C (α n) ^ p.toNat = C (α n) := by
      rw [← zR_Cmod I (α n)]
      exact zfrob_C I (Int.emod_nonneg _ (by omega))
    rw [e]
    have h1 := ih (fun k hk => h k (by omega))
    have h2 := zdv_mul (C (α n)) (h n (by omega))
    have e2 : ∀ a b c d : R, a + b * c - (d + b * f n) = (a - d) + b * (c - f n) := by intro a b c d; grind
    rw [e2]
    exact zdv_add h1 h2
/-- as many parts as the kernel has dimensions: the kernel of each is the numbers -/
theorem zK_B {R : Type} [Lean.Grind.CommRing R] {p : Int} {inv : Int → Int} {co : R → Nat → Int} {X : R} {C : Int → R} (I : zIf R p inv co X C) {w : R} {n m : Nat} {fr : Nat → Bool} {fs gs : Nat → R} (hw : zlen co w = n + 1) (hm : zfc fr n ≤ m)
    (hf : ∀ i, i < m → w = fs i * gs i ∧ zcp (fs i) (gs i) ∧ 2 ≤ zlen co (fs i)) (hg : ∀ i j, i < m → j < m → j ≠ i → zdv (fs j) (gs i))
    (hker : ∀ V : R, zlen co V ≤ n → zdv w (V ^ p.toNat - V) → (∀ k, k < n → fr k = true → co V k = 0) → V = 0) :
    ∀ i, i < m → zK p C (fs i) := by
  intro i0 hi0 u hu
  have hw0 : w ≠ 0 := by rintro rfl; rw [zL_0 I] at hw; omega
  obtain ⟨pn, hpn⟩ := zpp I
  -- the elements that are 1 at one part
  have hE : ∀ i, ∃ e : R, i < m → zdv (fs i) (e - 1) ∧ zdv (gs i) e ∧ zdv w (e * e - e) := by
    intro i
    by_cases hi : i < m
    · obtain ⟨h1, h2, -⟩ := hf i hi
      obtain ⟨e, e1, e2, e3⟩ := zcrt h2
      rw [← h1] at e3
      exact ⟨e, fun _ => ⟨e1, e2, e3⟩⟩
    · exact ⟨0, fun h => absurd h hi⟩
  have hEs : ∃ es : Nat → R, ∀ i, i < m → zdv (fs i) (es i - 1) ∧ zdv (gs i) (es i) ∧ zdv w (es i * es i - es i) := ⟨fun i => Classical.choose (hE i), fun i hi => Classical.choose_spec (hE i) hi⟩
  obtain ⟨es, hes⟩ := hEs
  -- all in the kernel, and the one more
  have hk1 : ∀ i, i < m + 1 → zdv w ((if i < m then es i else u * es i0) ^ p.toNat - (if i < m then es i else u * es i0)) := by
    intro i hi
    by_cases h : i < m
    · rw [if_pos h, hpn]
      exact zidem (hes i h).2.2 pn
    · rw [if_neg h]
      obtain ⟨f1, f2, -⟩ := hf i0 hi0
      obtain ⟨e1, e2, -⟩ := hes i0 hi0
      have k1 : zdv (fs i0) (u * es i0 - u) := by
        have : u * es i0 - u = u * (es i0 - 1) := by grind
        rw [this]
        exact zdv_mul _ e1
      have k3 : zdv (gs i0) ((u * es i0) ^ p.toNat - u * es i0) := by
        have : (u * es i0) ^ p.toNat = (u * es i0) ^ pn * (u * es i0) := by rw [hpn]; grind
        rw [this]
        exact zdv_sub (zdv_mul _ (zdv_mul _ e2)) (zdv_mul _ e2)
      rw [f1]
      exact zcp_prod f2 (zker_c k1 hu) k3
  have hV : ∀ i, ∃ V : R, zlen co V ≤ n ∧ zdv w (V - (if i < m then es i else u * es i0)) := by
    intro i
    obtain ⟨q, r, h1, h2⟩ := zdiv I hw0 _ (if i < m then es i else u * es i0) (Nat.le_refl _)
    exact ⟨r, by omega, -q, by grind⟩
  have hVs : ∃ vs : Nat → R, ∀ i, zlen co (vs i) ≤ n ∧ zdv w (vs i - (if i < m then es i else u * es i0)) := ⟨fun i => Classical.choose (hV i), fun i => Classical.choose_spec (hV i)⟩
  obtain ⟨vs, hvs⟩ := hVs
  obtain ⟨α, ⟨j0, hj0, hα⟩, hlin⟩ := zlin I n fr (m + 1) (by omega) (fun k i => co (vs i) k)
  have hZ : zsum (m + 1) (fun i => C (α i) * vs i) = 0 := by
    refine hker _ (zsum_len I (fun k _ => zL_smul I _ (hvs k).1)) (zker_sum I (fun k hk => zker_c (hvs k).2 (hk1 k hk))) (fun k hk hfr => ?_)
    have h1 := hlin k hk hfr
    have h2 := zsum_co I (fun i => C (α i) * vs i) (m + 1) k (fun i => α i * co (vs i) k) (fun j _ => zR_smul I _ _ _)
    rw [h2]
    have h3 : C (zsum (m + 1) (fun i => α i * co (vs i) k)) = C 0 := by
      rw [zsum_C I, zR_C0 I, ← h1]
      exact zsum_c (fun i _ => zR_Cmul I _ _)
    simpa using zR_Cinj I h3
  -- at each other part: 0
  have hz : ∀ j, j < m → j ≠ i0 → C (α j) = 0 := by
    intro j hj hji
    obtain ⟨f1, f2, f3⟩ := hf j hj
    have hfw : zdv (fs j) w := ⟨gs j, f1⟩
    have h1 : zdv (fs j) (zsum (m + 1) (fun i => C (α i) * vs i) - C (α j) * vs j) := by
      refine zsum_dv1 (f := fun i => C (α i) * vs i) (by omega) (fun k hk hkj => zdv_mul _ ?_)
      have e : vs k = (vs k - (if k < m then es k else u * es i0)) + (if k < m then es k else u * es i0) := by grind
      rw [e]
      refine zdv_add (zdv_trans hfw (hvs k).2) ?_
      by_cases hkm : k < m
      · rw [if_pos hkm]
        exact zdv_trans (hg k j hkm hj (by omega)) (hes k hkm).2.1
      · rw [if_neg hkm]
        exact zdv_mul _ (zdv_trans (hg i0 j hi0 hj hji) (hes i0 hi0).2.1)
    rw [hZ] at h1
    have h2 : zdv (fs j) (vs j - es j) := by
      have := zdv_trans hfw (hvs j).2
      rwa [if_pos hj] at this
    refine zdvC I f3 ?_
    have : C (α j) = C (α j) * (1 : R) := by grind
    have e : C (α j) = (0 - (0 - C (α j) * vs j)) - C (α j) * (vs j - es j) - C (α j) * (es j - 1) := by grind
    rw [e]
    exact zdv_sub (zdv_sub (zdv_sub (zdv_0 _) h1) (zdv_mul _ h2)) (zdv_mul _ (hes j hj).1)
  -- at the part itself
  obtain ⟨f1, f2, f3⟩ := hf i0 hi0
  have hfw : zdv (fs i0) w := ⟨gs i0, f1⟩
  have hsum : zdv (fs i0) (C (α i0) + C (α m) * u) := by
    have h0 : zsum (m + 1) (fun i => C (α i) * vs i) = zsum m (fun i => C (α i) * vs i) + C (α m) * vs m := rfl
    have h1 : zdv (fs i0) (zsum m (fun i => C (α i) * vs i) - C (α i0) * vs i0) := by
      refine zsum_dv1 (f := fun i => C (α i) * vs i) hi0 (fun k hk hkj => ?_)
      rw [hz k hk hkj]
      exact ⟨0, by grind⟩
    rw [hZ] at h0
    have h2 : zdv (fs i0) (vs i0 - es i0) := by
      have := zdv_trans hfw (hvs i0).2
      rwa [if_pos hi0] at this
    have h3 : zdv (fs i0) (vs m - u * es i0) := by
      have := zdv_trans hfw (hvs m).2
      rwa [if_neg (by omega)] at this
    have h4 := (hes i0 hi0).1
    have e : C (α i0) + C (α m) * u = (0 - (zsum m (fun i => C (α i) * vs i) - C (α i0) * vs i0)) - C (α i0) * (vs i0 - es i0) - C (α i0) * (es i0 - 1) - C (α m) * (vs m - u * es i0) - C (α m) * (u * (es i0 - 1)) := by grind
    rw [e]
    exact zdv_sub (zdv_sub (zdv_sub (zdv_sub (zdv_sub (zdv_0 _) h1) (zdv_mul _ h2)) (zdv_mul _ h4)) (zdv_mul _ h3)) (zdv_mul _ (zdv_mul _ h4))
  by_cases hm0 : C (α m) = 0
  · exfalso
    have : C (α i0) + C (α m) * u = C (α i0) := by rw [hm0]; grind
    rw [this] at hsum
    have hi := zdvC I f3 hsum
    by_cases a1 : j0 = m
    · subst a1; exact hα hm0
    · by_cases a2 : j0 = i0
      · subst a2; exact hα hi
      · exact hα (hz j0 (by omega) a2)
  · obtain ⟨d, hd⟩ := zCnz I hm0
    refine ⟨-(d * α i0), ?_⟩
    have : u - C (-(d * α i0)) = C d * (C (α i0) + C (α m) * u) := by
      rw [zR_Cneg I, zR_Cmul I]
      grind
    rw [this]
    exact zdv_mul _ hsum
/-! what the derivative shows: the quotient by the common divisor is simple -/
theorem zde_pow {R : Type} [Lean.Grind.CommRing R] {p : Int} {inv : Int → Int} {co : R → Nat → Int} {X : R} {C : Int → R} (I : zIf R p inv co X C) {h h' : R} (hd : zde p co h h') : ∀ m : Nat, ∃ d, zde p co (h ^ m) d ∧ h * d = C (m : Int) * (h ^ m * h') := by
  intro m
  induction m with
  | zero =>
    refine ⟨0, ?_, ?_⟩
    · intro k
      have : h ^ 0 = 1 := by grind
      rw [this, zR_one I, zR_zero I, if_neg (by omega)]; simp
    · rw [show ((0 : Nat) : Int) = 0 from rfl, zR_C0 I]; grind
  | succ m ih =>
    obtain ⟨d, h1, h2⟩ := ih
    have e : h ^ (m + 1) = h ^ m * h := by grind
    refine ⟨d * h + h ^ m * h', ?_, ?_⟩
    · rw [e]
      exact zde_mul I hd (h ^ m) d h1
    · rw [show ((m + 1 : Nat) : Int) = (m : Int) + 1 by omega, zR_Cadd I, zR_C1 I, e]
      grind
theorem zal1 {R : Type} [Lean.Grind.CommRing R] {g g' w w' v r' : R} (h1 : r' = g * v) (h2 : r' = g' * w + g * w') : (v - w') * g = g' * w := by grind
theorem zal2 {R : Type} [Lean.Grind.CommRing R] {h d s s' k c P h' : R} (h1 : h * d = c * (P * h')) : (d * s + P * s') * (h * h * k) = P * h * ((c * h' * s + h * s') * k) := by grind
theorem zsqf {R : Type} [Lean.Grind.CommRing R] {p : Int} {inv : Int → Int} {co : R → Nat → Int} {X : R} {C : Int → R} (I : zIf R p inv co X C) {r r' g w : R} (hr : r ≠ 0) (hd : zde p co r r') (hg : zgcd r r' g) (e : r = g * w) : zsq co w := by
  intro h hh
  obtain ⟨-, ⟨v, hv⟩, a, b, hab⟩ := hg
  have hg0 : g ≠ 0 := by rintro rfl; exact hr (by grind)
  have hw0 : w ≠ 0 := by rintro rfl; exact hr (by grind)
  have hwv : a * w + b * v = 1 := by
    refine zM_can I hg0 ?_
    grind
  obtain ⟨k, hk⟩ := hh
  obtain ⟨h', dh⟩ := zde_ex I h
  obtain ⟨k', dk⟩ := zde_ex I k
  obtain ⟨g', dg⟩ := zde_ex I g
  have dw : zde p co w ((h' * h + h * h') * k + h * h * k') := by
    rw [hk]
    exact zde_mul I dk (h * h) _ (zde_mul I dh h h' dh)
  have dr := zde_mul I dw g g' dg
  rw [← e] at dr
  have e1 := zde_u I hd dr
  have hcp : zcp h (v - ((h' * h + h * h') * k + h * h * k')) := ⟨a * h * k + b * (h' * k + h' * k + h * k'), b, by grind⟩
  have key : ∀ m : Nat, zdv (h ^ m) g := by
    intro m
    induction m with
    | zero =>
      have : h ^ 0 = 1 := by grind
      rw [this]
      exact zdv_1 g
    | succ m ih =>
      obtain ⟨s, hs⟩ := ih
      obtain ⟨s', ds⟩ := zde_ex I s
      obtain ⟨d, d1, d2⟩ := zde_pow I dh m
      have e2 := zde_mul I ds (h ^ m) d d1
      rw [← hs] at e2
      have e3 := zde_u I dg e2
      refine zcp_dvd (b := v - ((h' * h + h * h') * k + h * h * k')) (zcp_symm (zcp_pow (zcp_symm hcp) (m + 1))) ?_
      refine ⟨(C (m : Int) * h' * s + h * s') * k, ?_⟩
      have e4 : h ^ (m + 1) = h ^ m * h := by grind
      rw [e4]
      have e5 : (v - ((h' * h + h * h') * k + h * h * k')) * g = g' * w := zal1 hv e1
      rw [e5, hk, e3]
      exact zal2 d2
  by_cases hl : zlen co h ≤ 1
  · exact hl
  · exfalso
    have hh0 : h ≠ 0 := by rintro rfl; rw [zL_0 I] at hl; omega
    have hpw : ∀ m : Nat, m + 1 ≤ zlen co (h ^ m) := by
      intro m
      induction m with
      | zero =>
        have : h ^ 0 = 1 := by grind
        rw [this, zL_1 I]
        omega
      | succ m ih =>
        have e4 : h ^ (m + 1) = h ^ m * h := by grind
        have : h ^ m ≠ 0 := by intro h0; rw [h0, zL_0 I] at ih; omega
        rw [e4]
        have := zM_len I this hh0
        omega
    have h1 := hpw (zlen co g)
    have h2 := zdv_len I (key (zlen co g)) hg0
    omega
/-! pth roots -/
theorem zfrob_co {R : Type} [Lean.Grind.CommRing R] {p : Int} {inv : Int → Int} {co : R → Nat → Int} {X : R} {C : Int → R} (I : zIf R p inv co X C) (a : R) : ∀ i : Nat, co (a ^ p.toNat) i = if i % p.toNat = 0 then co a (i / p.toNat) else 0 := by
  have hp := zR_p I
  refine zind I (P := fun a => ∀ i : Nat, co (a ^ p.toNat) i = if i % p.toNat = 0 then co a (i / p.toNat) else 0) ?_ ?_ a
  · intro i
    obtain ⟨n, hn⟩ := zpp I
    have : (0 : R) ^ p.toNat = 0 := by rw [hn]; grind
    rw [this, zR_zero I, zR_zero I]
    split <;> rfl
  · intro c a h0 h1 ih i
    have e : (C c + X * a) ^ p.toNat = C c + X ^ p.toNat * a ^ p.toNat := by rw [zfrob_add I, zfrob_C I h0, zpow_mul]
    rw [e, zR_add I, zR_C I, zR_pow I]
    by_cases hi : i < p.toNat
    · rw [if_pos hi, Int.add_zero, Int.emod_eq_of_lt h0 h1]
      by_cases hi0 : i = 0
      · subst hi0
        rw [if_pos rfl, Nat.zero_mod, if_pos rfl, Nat.zero_div, zR_add I, zR_X0 I, zR_C I, if_pos rfl, Int.add_zero, Int.emod_emod, Int.emod_eq_of_lt h0 h1]
      · rw [if_neg hi0, Nat.mod_eq_of_lt hi, if_neg hi0]; simp
    · rw [if_neg hi, if_neg (by omega), ih (i - p.toNat), Int.zero_add]
      have e1 : i % p.toNat = (i - p.toNat) % p.toNat := Nat.mod_eq_sub_mod (by omega)
      have e2 : i / p.toNat = (i - p.toNat) / p.toNat + 1 := Nat.div_eq_sub_div (by omega) (by omega)
      rw [e1, e2]
      by_cases hh : (i - p.toNat) % p.toNat = 0
      · rw [if_pos hh, if_pos hh, zR_add I, zR_C I, zR_XS I, if_neg (Nat.succ_ne_zero _), Int.zero_add, zR_mod I]
      · rw [if_neg hh, if_neg hh]; simp
/-- where the derivative is 0 there is a root -/
theorem zroot_of {R : Type} [Lean.Grind.CommRing R] {p : Int} {inv : Int → Int} {co : R → Nat → Int} {X : R} {C : Int → R} (I : zIf R p inv co X C) {a k : R} (hd : zde p co a 0) (hk : ∀ j, co k j = co a (j * p.toNat)) : a = k ^ p.toNat := by
  have hp := zR_p I
  refine zR_ext I (fun i => ?_)
  rw [zfrob_co I]
  split
  · next h =>
    rw [hk]
    congr 1
    have := Nat.div_add_mod i p.toNat
    rw [h, Nat.add_zero, Nat.mul_comm] at this
    exact this.symm
  · next h =>
    cases i with
    | zero => simp at h
    | succ i =>
      have h1 := hd i
      rw [zR_zero I] at h1
      by_cases h0 : co a (i + 1) = 0
      · exact h0
      · exfalso
        have hr := zR_rng I a (i + 1)
        have h2 : 0 < ((i : Int) + 1) % p := by
          have h3 := Int.emod_nonneg ((i : Int) + 1) (show p ≠ 0 by omega)
          have h4 : ((i : Int) + 1) % p ≠ 0 := by
            intro h5
            apply h
            have e1 : (((i + 1 : Nat) : Int) % ((p.toNat : Nat) : Int)) = 0 := by
              rw [show ((i + 1 : Nat) : Int) = (i : Int) + 1 by omega, show ((p.toNat : Nat) : Int) = p by omega]
              exact h5
            omega
          omega
        have h3 := Int.emod_lt_of_pos ((i : Int) + 1) (show 0 < p by omega)
        have := zR_nz I h2 h3 (d := co a (i + 1)) (by omega) hr.2
        rw [zme1] at this
        exact this h1.symm
theorem zsq_der {R : Type} [Lean.Grind.CommRing R] {p : Int} {inv : Int → Int} {co : R → Nat → Int} {X : R} {C : Int → R} (I : zIf R p inv co X C) {f f' : R} (hf : 2 ≤ zlen co f) (hs : zsq co f) (hd : zde p co f f') : f' ≠ 0 := by
  rintro rfl
  have hp := zR_p I
  obtain ⟨n, hn⟩ := zR_fin I f
  obtain ⟨k, hk⟩ := zbuild I n (fun j => co f (j * p.toNat)) (fun j => zR_rng I f _) (fun j hj => hn _ (by
    have : j * 1 ≤ j * p.toNat := Nat.mul_le_mul_left j (by omega)
    omega))
  have e := zroot_of I hd hk
  obtain ⟨m, hm⟩ : ∃ m, p.toNat = m + 2 := ⟨p.toNat - 2, by omega⟩
  have h1 : zdv (k * k) f := ⟨k ^ m, by rw [e, hm]; grind⟩
  have h2 := hs k h1
  have h3 := zL_const I h2
  rw [h3, zfrob_C I (zR_rng I k 0).1] at e
  have := zL_C I (co k 0)
  rw [← e] at this
  omega
/-- a simple irreducible part has nothing in common with its derivative -/
theorem zsq_gcd {R : Type} [Lean.Grind.CommRing R] {p : Int} {inv : Int → Int} {co : R → Nat → Int} {X : R} {C : Int → R} (I : zIf R p inv co X C) {f f' g : R} (hf : 2 ≤ zlen co f) (hs : zsq co f) (hK : zK p C f) (hd : zde p co f f') (hg : zgcd f f' g) : zlen co g ≤ 1 := by
  by_cases hl : zlen co g ≤ 1
  · exact hl
  · exfalso
    have hf0 : f ≠ 0 := by rintro rfl; rw [zL_0 I] at hf; omega
    obtain ⟨⟨k, hk⟩, h2, -⟩ := hg
    have hg0 : g ≠ 0 := by rintro rfl; exact hf0 (by grind)
    have hk0 : k ≠ 0 := by rintro rfl; exact hf0 (by grind)
    have hlen := zM_len I hg0 hk0
    rw [← hk] at hlen
    rcases zK_prime I hf hs hK (a := g) (b := k) ⟨1, by grind⟩ with h | h
    · have h3 := zdv_trans h h2
      have h4 := zde_len I (n := zlen co f - 1) hd (by omega)
      exact zsq_der I hf hs hd (zdv_small I h3 (by omega))
    · have := zdv_len I h hk0
      omega
