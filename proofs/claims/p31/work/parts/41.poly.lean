/-! Contracts: numbers and polynomials. -/
theorem zF_ob {T : zT} (hT : zTT T) : zob T 1 1 2 := zTT_k hT (by decide) (by decide) (by decide +kernel)
theorem zF_k {T : zT} (hT : zTT T) : zk T 1 = 1 := (zF_ob hT).1
theorem zF_inv {T : zT} (hT : zTT T) : zk T 2 = 50 ∧ zn T 2 = 97 := zTT_k hT (by decide) (by decide) (by decide +kernel)
theorem ztm {c p : Int} (hp : 0 < p) : (0 ≤ c.tmod p → c.tmod p = c % p) ∧ (c.tmod p < 0 → c.tmod p + p = c % p) := by
  have h1 := Int.tmod_eq_emod (a := c) (b := p)
  have h2 := Int.emod_nonneg c (show p ≠ 0 by omega)
  have h3 := Int.emod_lt_of_pos c hp
  have h4 : ((p.natAbs : Nat) : Int) = p := by omega
  split at h1 <;> constructor <;> intro h <;> omega
theorem zmodr {R : Type} [Lean.Grind.CommRing R] {p : Int} {inv : Int → Int} {co : R → Nat → Int} {X : R} {C : Int → R} (I : zIf R p inv co X C) (c : Int) : 0 ≤ c % p ∧ c % p < p := by
  have hp := zR_p I
  exact ⟨Int.emod_nonneg c (by omega), Int.emod_lt_of_pos c (by omega)⟩
theorem zmulb {a b : Int} (h0 : 0 ≤ a) (h1 : a ≤ 100) (h2 : 0 ≤ b) (h3 : b ≤ 100) : 0 ≤ a * b ∧ a * b ≤ 10000 := by
  have e1 := Int.mul_nonneg h0 h2
  have e2 := Int.mul_le_mul h1 h3 h2 (by omega : (0 : Int) ≤ 100)
  omega
theorem c12 {R : Type} [Lean.Grind.CommRing R] {p : Int} {inv : Int → Int} {co : R → Nat → Int} {X : R} {C : Int → R} (I : zIf R p inv co X C) {E : List (List Int)} {d : Nat} {T : zT} {S : Int → R} {U : zD} {Q : Int → zT → zD → Prop} (hT : zTT T) (hS : ∀ a, zlen co (S a) ≤ 25) (hQ : Q p T (zS p inv co S U)) : zc E d 1 12 [(2, 1)] T (zS p inv co S U) Q := e12 _ ⟨zF_ob hT, hQ⟩
theorem c28 {R : Type} [Lean.Grind.CommRing R] {p : Int} {inv : Int → Int} {co : R → Nat → Int} {X : R} {C : Int → R} (I : zIf R p inv co X C) {E : List (List Int)} {d : Nat} {T : zT} {S : Int → R} {U : zD} {Q : Int → zT → zD → Prop} (hT : zTT T) (hS : ∀ a, zlen co (S a) ≤ 25) {c : Int} (h0 : 0 ≤ c) (h1 : c < p) (hQ : Q (if c = 0 then 0 else p - c) T (zS p inv co S U)) : zc E d 1 28 [(2, 1), (0, c)] T (zS p inv co S U) Q := by
  have hp := zR_p I
  refine e28 _ _ ⟨by unfold zin; omega, fun h => ⟨zF_ob hT, ?_⟩, fun h => ?_⟩
  · rw [zS_p]
    rwa [if_neg h] at hQ
  · rwa [if_pos h] at hQ
theorem c31x {R : Type} [Lean.Grind.CommRing R] {p : Int} {inv : Int → Int} {co : R → Nat → Int} {X : R} {C : Int → R} (I : zIf R p inv co X C) {E : List (List Int)} {d : Nat} {T : zT} {S : Int → R} {U : zD} {Q : Int → zT → zD → Prop} (hT : zTT T) (hS : ∀ a, zlen co (S a) ≤ 25) {x : Int} (hQ : Q ((Int32.ofInt x).toInt % p) T (zS p inv co S U)) : zc E d 1 31 [(2, 1), (0, x)] T (zS p inv co S U) Q := by
  have hp := zR_p I
  generalize hc : (Int32.ofInt x).toInt = c at hQ
  have h1 := ztm (c := c) (p := p) (by omega)
  have h2 := zmodr I c
  have h3 := Int.tmod_lt_of_pos c (show 0 < p by omega)
  refine e31 _ _ ⟨zF_ob hT, by rw [zS_p]; unfold zin; omega, fun _ => ⟨by rw [zS_p]; omega, by rw [zS_p]; omega, ?_, fun h4 => ?_, fun h4 => ?_⟩, fun h4 => ?_⟩
  · rw [zS_p, hc]
    unfold zin
    by_cases h5 : 0 ≤ c.tmod p
    · omega
    · have := h1.2 (by omega)
      omega
  · rw [zS_p, hc] at h4 ⊢
    rwa [h1.1 h4]
  · rw [zS_p, hc] at h4 ⊢
    rwa [h1.2 h4]
  · rw [zS_p] at h4
    omega
theorem c31 {R : Type} [Lean.Grind.CommRing R] {p : Int} {inv : Int → Int} {co : R → Nat → Int} {X : R} {C : Int → R} (I : zIf R p inv co X C) {E : List (List Int)} {d : Nat} {T : zT} {S : Int → R} {U : zD} {Q : Int → zT → zD → Prop} (hT : zTT T) (hS : ∀ a, zlen co (S a) ≤ 25) {c : Int} (h : zin c) (hQ : Q (c % p) T (zS p inv co S U)) : zc E d 1 31 [(2, 1), (0, c)] T (zS p inv co S U) Q :=
  c31x I hT hS (by rwa [zi_of h])
theorem c37 {R : Type} [Lean.Grind.CommRing R] {p : Int} {inv : Int → Int} {co : R → Nat → Int} {X : R} {C : Int → R} (I : zIf R p inv co X C) {E : List (List Int)} {d : Nat} {T : zT} {S : Int → R} {U : zD} {Q : Int → zT → zD → Prop} (hT : zTT T) (hS : ∀ a, zlen co (S a) ≤ 25) {c : Int} (h0 : 0 ≤ c) (h1 : c < p) (hQ : Q (inv c) T (zS p inv co S U)) : zc E d 1 37 [(2, 1), (0, c)] T (zS p inv co S U) Q := by
  have hp := zR_p I
  have hF := zF_inv hT
  refine e37 _ _ ⟨by unfold zin; omega, fun h => by omega, fun _ => ⟨zF_ob hT, ?_, ?_, fun h => ⟨?_, ?_⟩, fun h => ?_⟩⟩
  · rw [zS_p1]; exact hF.1
  · rw [zS_p1, hF.2]; unfold zin; omega
  · rw [zS_p1]
    unfold zar
    rw [hF.1, hF.2]
    exact ⟨rfl, by omega, by omega, by omega⟩
  · rw [zS_p1, zS_inv h0 h1]; exact hQ
  · rw [zS_p1, hF.2] at h
    omega
theorem c38 {R : Type} [Lean.Grind.CommRing R] {p : Int} {inv : Int → Int} {co : R → Nat → Int} {X : R} {C : Int → R} (I : zIf R p inv co X C) {E : List (List Int)} {d : Nat} {T : zT} {S : Int → R} {U : zD} {Q : Int → zT → zD → Prop} (hT : zTT T) (hS : ∀ a, zlen co (S a) ≤ 25) {a b : Int} (h0 : 0 ≤ a) (h1 : a ≤ 100) (h2 : 0 ≤ b) (h3 : b ≤ 100) (hQ : Q ((a * b) % p) T (zS p inv co S U)) : zc E d 1 38 [(2, 1), (0, a), (0, b)] T (zS p inv co S U) Q := by
  have hp := zR_p I
  have hm := zmulb h0 h1 h2 h3
  refine e38 _ _ _ ⟨zF_ob hT, by rw [zS_p]; unfold zin; omega, fun _ => ⟨by unfold zin; omega, by rw [zS_p]; omega, by rw [zS_p]; omega, ?_⟩, fun h => ?_⟩
  · rw [zS_p, Int.tmod_eq_emod_of_nonneg hm.1]; exact hQ
  · rw [zS_p] at h
    omega
/-- a coefficient, at whatever place -/
def zat {R : Type} (co : R → Nat → Int) (a : R) (k : Int) : Int := if k < 0 then 0 else co a k.toNat
theorem c19 {R : Type} [Lean.Grind.CommRing R] {p : Int} {inv : Int → Int} {co : R → Nat → Int} {X : R} {C : Int → R} (I : zIf R p inv co X C) {E : List (List Int)} {d : Nat} {T : zT} {S : Int → R} {U : zD} {Q : Int → zT → zD → Prop} (hT : zTT T) (hS : ∀ a, zlen co (S a) ≤ 25) {q k : Int} (hq : zPq q = true) (h0 : -5000 ≤ k) (h1 : k ≤ 5000) (hQ : Q (zat co (S q) k) T (zS p inv co S U)) : zc E d 1 19 [(2, q), (0, k)] T (zS p inv co S U) Q := by
  unfold zat at hQ
  refine e19 _ _ ⟨by unfold zin; omega, fun h => ?_, fun h => ⟨zP_ob hT hq, ?_, ?_, fun h2 => ?_, fun h2 => ?_⟩⟩
  · rwa [if_pos h] at hQ
  · rw [zS_f1 hq]; exact zP_rk hT hq
  · rw [zS_f1 hq, zP_rn hT hq]; exact zin25
  · rw [zS_f1 hq] at h2 ⊢
    rw [zP_rn hT hq] at h2
    rw [zP_ar hT hq, zS_row hq]
    rw [if_neg (by omega)] at hQ
    exact ⟨⟨h, h2⟩, hQ⟩
  · rw [zS_f1 hq, zP_rn hT hq] at h2
    rw [if_neg (by omega), zL_hi I (by have := hS q; omega)] at hQ
    exact hQ
theorem c21 {R : Type} [Lean.Grind.CommRing R] {p : Int} {inv : Int → Int} {co : R → Nat → Int} {X : R} {C : Int → R} (I : zIf R p inv co X C) {E : List (List Int)} {d : Nat} {T : zT} {S : Int → R} {U : zD} {Q : Int → zT → zD → Prop} (hT : zTT T) (hS : ∀ a, zlen co (S a) ≤ 25) {q : Int} (hq : zPq q = true) (hQ : Q ((zlen co (S q) : Int) - 1) T (zS p inv co S U)) : zc E d 1 21 [(2, q)] T (zS p inv co S U) Q :=
  e21 _ ⟨zP_ob hT hq, by rw [zS_f2 hq]; exact hQ⟩
theorem zin_h {n : Nat} (h : n ≤ 25) : zin ((n : Int) - 1) := by unfold zin; omega
theorem c34 {R : Type} [Lean.Grind.CommRing R] {p : Int} {inv : Int → Int} {co : R → Nat → Int} {X : R} {C : Int → R} (I : zIf R p inv co X C) {E : List (List Int)} {d : Nat} {T : zT} {S : Int → R} {U : zD} {Q : Int → zT → zD → Prop} (hT : zTT T) (hS : ∀ a, zlen co (S a) ≤ 25) {q : Int} (hq : zPq q = true) (h0 : S q ≠ 0 → Q 0 T (zS p inv co S U)) (h1 : S q = 0 → Q 1 T (zS p inv co S U)) : zc E d 1 34 [(2, q)] T (zS p inv co S U) Q := by
  refine e34 _ ⟨zP_ob hT hq, ?_, fun h => h0 ?_, fun h => h1 ?_⟩
  · rw [zS_f2 hq]; exact zin_h (hS q)
  · rw [zS_f2 hq] at h
    intro e
    rw [e, zL_0 I] at h
    omega
  · rw [zS_f2 hq] at h
    exact zL_eq0 I (by omega)
theorem c36 {R : Type} [Lean.Grind.CommRing R] {p : Int} {inv : Int → Int} {co : R → Nat → Int} {X : R} {C : Int → R} (I : zIf R p inv co X C) {E : List (List Int)} {d : Nat} {T : zT} {S : Int → R} {U : zD} {Q : Int → zT → zD → Prop} (hT : zTT T) (hS : ∀ a, zlen co (S a) ≤ 25) {q : Int} (hq : zPq q = true) (hQ : Q (co (S q) (zlen co (S q) - 1)) T (zS p inv co S U)) : zc E d 1 36 [(2, q)] T (zS p inv co S U) Q := by
  have hl := hS q
  refine e36 _ ⟨zP_ob hT hq, ?_, fun h => ?_, fun h => ⟨?_, ?_, fun h2 => ?_, fun h2 => ?_⟩⟩
  · rw [zS_f2 hq]; exact zin_h (hS q)
  · rw [zS_f2 hq] at h
    rw [zL_hi I (by omega)] at hQ
    exact hQ
  · rw [zS_f1 hq]; exact zP_rk hT hq
  · rw [zS_f1 hq, zP_rn hT hq]; exact zin25
  · rw [zS_f2 hq] at h
    rw [zS_f1 hq, zS_f2 hq, zP_ar hT hq, zS_row hq, show ((zlen co (S q) : Int) - 1).toNat = zlen co (S q) - 1 by omega]
    exact ⟨⟨by omega, by omega⟩, hQ⟩
  · rw [zS_f1 hq, zS_f2 hq, zP_rn hT hq] at h2
    omega
section
variable {R : Type} {p : Int} {inv : Int → Int} {co : R → Nat → Int} {S : Int → R} {U : zD} {q b h : Int} {f : Int → Int}
theorem zW1 (hq : zPq q = true) : zW (zS p inv co S U) q f h q 1 = q + 1 := by rw [zW_f (by decide), zS_f1 hq]
theorem zW0 (hq : zPq q = true) : zW (zS p inv co S U) q f h q 0 = 1 := by rw [zW_f (by decide), zS_f0 hq]
theorem zPne (hq : zPq q = true) (hb : zPq b = true) : b ≠ q + 1 := by
  rintro rfl
  rw [zPq_n hq] at hb
  cases hb
theorem zPne2 (hq : zPq q = true) (hb : zPq b = true) : b + 1 ≠ q := by
  rintro rfl
  rw [zPq_n hb] at hq
  cases hq
theorem zWo1 (hq : zPq q = true) (hb : zPq b = true) (hne : b ≠ q) : zW (zS p inv co S U) q f h b 1 = b + 1 := by rw [zW_o _ hne (zPne hq hb), zS_f1 hb]
theorem zWo2 (hq : zPq q = true) (hb : zPq b = true) (hne : b ≠ q) : zW (zS p inv co S U) q f h b 2 = (zlen co (S b) : Int) - 1 := by rw [zW_o _ hne (zPne hq hb), zS_f2 hb]
theorem zWor (hq : zPq q = true) (hb : zPq b = true) (hne : b ≠ q) (i : Int) : zW (zS p inv co S U) q f h (b + 1) i = co (S b) i.toNat := by rw [zW_o _ (zPne2 hq hb) (by omega), zS_row hb]
theorem zWp (hq : zPq q = true) : zW (zS p inv co S U) q f h 1 0 = p := by
  rw [zW_o _ (by rintro rfl; cases hq) (by rintro h; have := zPq_0 hq; have h2 : q = 0 := by omega
                                           rw [h2] at hq; cases hq), zS_p]
end
theorem c13 {R : Type} [Lean.Grind.CommRing R] {p : Int} {inv : Int → Int} {co : R → Nat → Int} {X : R} {C : Int → R} (I : zIf R p inv co X C) {E : List (List Int)} {d : Nat} {T : zT} {S : Int → R} {U : zD} {Q : Int → zT → zD → Prop} (hT : zTT T) (hS : ∀ a, zlen co (S a) ≤ 25) {q : Int} (hq : zPq q = true) (hQ : Q 0 T (zS p inv co (zup S q 0) U)) : zc E d 0 13 [(2, q)] T (zS p inv co S U) Q := by
  refine zc_ext (e13 _ ?_)
  have key : ∀ (n : Nat) (k : Int) (f : Int → Int), k + n = 25 → 0 ≤ k → (∀ j, 0 ≤ j → j < k → f j = 0) → zj E d 0 13 2 [(2, q), (0, k)] [] T (zW (zS p inv co S U) q f ((zlen co (S q) : Int) - 1)) (fun x T D => ∃ D', zqH T D = zqH T D' ∧ Q x T D') := by
    intro n
    induction n with
    | zero =>
      intro k f hk h0 hf
      refine z13_2 _ _ ⟨zP_ob hT hq, ?_, ?_, ?_, fun _ => ?_, fun h => ?_⟩
      · rw [zW1 hq]; exact zP_rk hT hq
      · unfold zin; omega
      · rw [zW1 hq, zP_rn hT hq]; exact zin25
      · rw [zW_u2]
        exact ⟨_, zW_out hT hq (fun j hj => by rw [zR_zero I]; exact hf j (by omega) (by omega)) (by rw [zL_0 I]; rfl), hQ⟩
      · rw [zW1 hq, zP_rn hT hq] at h
        omega
    | succ n ih =>
      intro k f hk h0 hf
      refine z13_2 _ _ ⟨zP_ob hT hq, ?_, ?_, ?_, fun h => ?_, fun h => ⟨?_, ?_⟩⟩
      · rw [zW1 hq]; exact zP_rk hT hq
      · unfold zin; omega
      · rw [zW1 hq, zP_rn hT hq]; exact zin25
      · rw [zW1 hq, zP_rn hT hq] at h
        omega
      · rw [zW1 hq, zP_ar hT hq]; omega
      · rw [zW1 hq, zW_u]
        refine ih (k + 1) _ (by omega) (by omega) (fun j h1 h2 => ?_)
        by_cases e : j = k
        · exact if_pos e
        · show (if j = k then 0 else f j) = 0
          rw [if_neg e]
          exact hf j h1 (by omega)
  have h1 := key 25 0 (fun i => co (S q) i.toNat) (by omega) (by omega) (fun j h1 h2 => by omega)
  rwa [← zW_in hq] at h1
theorem c25 {R : Type} [Lean.Grind.CommRing R] {p : Int} {inv : Int → Int} {co : R → Nat → Int} {X : R} {C : Int → R} (I : zIf R p inv co X C) {E : List (List Int)} {d : Nat} {T : zT} {S : Int → R} {U : zD} {Q : Int → zT → zD → Prop} (hT : zTT T) (hS : ∀ a, zlen co (S a) ≤ 25) {q b : Int} (hq : zPq q = true) (hb : zPq b = true) (hne : b ≠ q) (hQ : Q 0 T (zS p inv co (zup S q (S b)) U)) : zc E d 0 25 [(2, q), (2, b)] T (zS p inv co S U) Q := by
  refine zc_ext (e25 _ _ ?_)
  have key : ∀ (n : Nat) (k : Int) (f : Int → Int), k + n = 25 → 0 ≤ k → (∀ j, 0 ≤ j → j < k → f j = co (S b) j.toNat) → zj E d 0 25 2 [(2, q), (2, b), (0, k)] [] T (zW (zS p inv co S U) q f ((zlen co (S q) : Int) - 1)) (fun x T D => ∃ D', zqH T D = zqH T D' ∧ Q x T D') := by
    intro n
    induction n with
    | zero =>
      intro k f hk h0 hf
      refine z25_2 _ _ _ ⟨zP_ob hT hq, ?_, ?_, ?_, fun _ => ⟨zP_ob hT hb, ?_⟩, fun h => ?_⟩
      · rw [zW1 hq]; exact zP_rk hT hq
      · unfold zin; omega
      · rw [zW1 hq, zP_rn hT hq]; exact zin25
      · rw [zW_u2, zWo2 hq hb hne]
        exact ⟨_, zW_out hT hq (fun j hj => by rw [hf j (by omega) (by omega)]; rfl) rfl, hQ⟩
      · rw [zW1 hq, zP_rn hT hq] at h
        omega
    | succ n ih =>
      intro k f hk h0 hf
      refine z25_2 _ _ _ ⟨zP_ob hT hq, ?_, ?_, ?_, fun h => ?_, fun h => ⟨zP_ob hT hb, ?_, ?_, fun h2 => ?_, fun h2 => ⟨?_, ?_, ?_⟩⟩⟩
      · rw [zW1 hq]; exact zP_rk hT hq
      · unfold zin; omega
      · rw [zW1 hq, zP_rn hT hq]; exact zin25
      · rw [zW1 hq, zP_rn hT hq] at h
        omega
      · rw [zWo1 hq hb hne]; exact zP_rk hT hb
      · rw [zWo1 hq hb hne, zP_rn hT hb]; exact zin25
      · rw [zWo1 hq hb hne, zP_rn hT hb] at h2
        omega
      · rw [zWo1 hq hb hne, zP_ar hT hb]; omega
      · rw [zW1 hq, zP_ar hT hq]; omega
      · rw [zW1 hq, zWo1 hq hb hne, zWor hq hb hne, zW_u]
        refine ih (k + 1) _ (by omega) (by omega) (fun j h1 h2 => ?_)
        by_cases e : j = k
        · subst e; exact if_pos rfl
        · show (if j = k then co (S b) k.toNat else f j) = _
          rw [if_neg e]
          exact hf j h1 (by omega)
  have h1 := key 25 0 (fun i => co (S q) i.toNat) (by omega) (by omega) (fun j h1 h2 => by omega)
  rwa [← zW_in hq] at h1
theorem c32 {R : Type} [Lean.Grind.CommRing R] {p : Int} {inv : Int → Int} {co : R → Nat → Int} {X : R} {C : Int → R} (I : zIf R p inv co X C) {E : List (List Int)} {d : Nat} {T : zT} {S : Int → R} {U : zD} {Q : Int → zT → zD → Prop} (hT : zTT T) (hS : ∀ a, zlen co (S a) ≤ 25) {q : Int} {k : Nat} {c : Int} {v : R} (hq : zPq q = true) (hk : k < 25) (hv : ∀ j, co v j = if j = k then c else co (S q) j) (hQ : Q 0 T (zS p inv co (zup S q v) U)) : zc E d 0 32 [(2, q), (0, (k : Int)), (0, c)] T (zS p inv co S U) Q := by
  have hp := zR_p I
  have hl := hS q
  have hc : 0 ≤ c ∧ c < p := by
    have h1 := zR_rng I v k
    have h2 := hv k
    rw [if_pos rfl] at h2
    rwa [h2] at h1
  have hvl : zlen co v ≤ 25 := zL_le I (fun j hj => by
    rw [hv, if_neg (by omega)]
    exact zL_hi I (by omega))
  have key : ∀ (n : Nat) (h : Int) (f : Int → Int), (∀ j : Nat, j < 25 → f j = co v j) → h + 1 = (zlen co v : Int) + n → h < 25 → zj E d 0 32 38 [(2, q), (0, (k : Int)), (0, c)] [] T (zW (zS p inv co S U) q f h) (fun x T D => ∃ D', zqH T D = zqH T D' ∧ Q x T D') := by
    intro n
    induction n with
    | zero =>
      intro h f hf hh h25
      refine z32_38 _ _ _ ⟨zP_ob hT hq, ?_, fun h1 => ?_, fun h1 => ⟨?_, ?_, fun h2 => ?_, fun h2 => ⟨?_, ?_, fun h3 => ?_, fun h3 => ?_⟩⟩⟩
      · rw [zW_f2]; unfold zin; omega
      · exact ⟨_, zW_out hT hq hf (by omega), hQ⟩
      · rw [zW1 hq]; exact zP_rk hT hq
      · rw [zW1 hq, zP_rn hT hq]; exact zin25
      · rw [zW1 hq, zP_rn hT hq, zW_f2] at h2
        omega
      · rw [zW1 hq, zP_ar hT hq, zW_f2]
        rw [zW_f2] at h1
        omega
      · rw [zW_f2] at h1
        rw [zW1 hq, zW_row, zW_f2]
        have e1 := hf h.toNat (by omega)
        rw [Int.toNat_of_nonneg h1] at e1
        have := zR_rng I v h.toNat
        unfold zin
        omega
      · exact ⟨_, zW_out hT hq hf (by omega), hQ⟩
      · rw [zW_f2] at h1
        rw [zW1 hq, zW_row, zW_f2] at h3
        have e1 := hf h.toNat (by omega)
        rw [Int.toNat_of_nonneg h1] at e1
        exact absurd (e1.symm.trans h3) (zL_top I (by omega))
    | succ n ih =>
      intro h f hf hh h25
      have h0 : 0 ≤ h := by omega
      have e1 := hf h.toNat (by omega)
      rw [Int.toNat_of_nonneg h0, zL_hi I (by omega)] at e1
      refine z32_38 _ _ _ ⟨zP_ob hT hq, ?_, fun h1 => ?_, fun h1 => ⟨?_, ?_, fun h2 => ?_, fun h2 => ⟨?_, ?_, fun h3 => ?_, fun h3 => ?_⟩⟩⟩
      · rw [zW_f2]; unfold zin; omega
      · rw [zW_f2] at h1
        omega
      · rw [zW1 hq]; exact zP_rk hT hq
      · rw [zW1 hq, zP_rn hT hq]; exact zin25
      · rw [zW1 hq, zP_rn hT hq, zW_f2] at h2
        omega
      · rw [zW1 hq, zP_ar hT hq, zW_f2]
        omega
      · rw [zW1 hq, zW_row, zW_f2, e1]; exact zin_0
      · rw [zW1 hq, zW_row, zW_f2] at h3
        exact absurd e1 h3
      · rw [zW_u2, zW_f2]
        exact ih (h - 1) f hf (by omega) (by omega)
  have hf : ∀ j : Nat, j < 25 → (fun i : Int => if i = (k : Int) then c else co (S q) i.toNat) (j : Int) = co v j := by
    intro j hj
    rw [hv]
    by_cases e : j = k
    · subst e; simp
    · show (if (j : Int) = (k : Int) then c else co (S q) ((j : Int)).toNat) = _
      rw [if_neg (by omega), if_neg e, Int.toNat_natCast]
  have hz : zu (zS p inv co S U) (q + 1) (k : Int) c = zW (zS p inv co S U) q (fun i : Int => if i = (k : Int) then c else co (S q) i.toNat) ((zlen co (S q) : Int) - 1) := by
    conv => lhs; rw [zW_in hq]
    rw [zW_u]
  refine zc_ext (e32 _ _ _ ⟨by unfold zin; omega, fun h => by omega, fun _ => ⟨zP_ob hT hq, ?_, ?_, fun h2 => ⟨?_, ?_, fun h3 => ?_, fun h3 => ⟨?_, fun h4 => ?_, fun h4 => ?_⟩⟩, fun h2 => ?_⟩⟩)
  · rw [zS_f1 hq]; exact zP_rk hT hq
  · rw [zS_f1 hq, zP_rn hT hq]; exact zin25
  · rw [zS_f1 hq, zP_ar hT hq]; omega
  · unfold zin; omega
  · rw [zS_f1 hq, hz]
    have : zlen co v ≤ zlen co (S q) := zL_le I (fun j hj => by
      rw [hv]
      split
      · exact h3
      · exact zL_hi I hj)
    exact key (zlen co (S q) - zlen co v) _ _ hf (by omega) (by omega)
  · rw [zS_f1 hq, hz, zW_f2]; exact zin_h hl
  · rw [zS_f1 hq, hz] at h4 ⊢
    rw [zW_f2] at h4
    have : zlen co v ≤ zlen co (S q) := zL_le I (fun j hj => by
      rw [hv, if_neg (by omega)]
      exact zL_hi I hj)
    exact key (zlen co (S q) - zlen co v) _ _ hf (by omega) (by omega)
  · rw [zS_f1 hq, hz] at h4 ⊢
    rw [zW_f2] at h4
    rw [zW_u2]
    have h5 : zlen co v ≤ k + 1 := zL_le I (fun j hj => by
      rw [hv, if_neg (by omega)]
      exact zL_hi I (by omega))
    exact key (k + 1 - zlen co v) _ _ hf (by omega) (by omega)
  · rw [zS_f1 hq, zP_rn hT hq] at h2
    omega
theorem zXs_co {R : Type} [Lean.Grind.CommRing R] {p : Int} {inv : Int → Int} {co : R → Nat → Int} {X : R} {C : Int → R} (I : zIf R p inv co X C) (a b : R) (c : Int) (s j : Nat) : co (a + C c * (X ^ s * b)) j = (co a j + c * (if j < s then 0 else co b (j - s))) % p := by
  rw [zR_add I, zR_smul I, zR_pow I, Int.add_emod_emod]
theorem c26 {R : Type} [Lean.Grind.CommRing R] {p : Int} {inv : Int → Int} {co : R → Nat → Int} {X : R} {C : Int → R} (I : zIf R p inv co X C) {E : List (List Int)} {d : Nat} {T : zT} {S : Int → R} {U : zD} {Q : Int → zT → zD → Prop} (hT : zTT T) (hS : ∀ a, zlen co (S a) ≤ 25) {q b : Int} {c : Int} {s : Nat} (hq : zPq q = true) (hb : zPq b = true) (hne : b ≠ q) (h0 : 0 ≤ c) (h1 : c < p) (hs : s ≤ 100) (hl : S b ≠ 0 → zlen co (S b) + s ≤ 25) (hQ : Q 0 T (zS p inv co (zup S q (S q + C c * (X ^ s * S b))) U)) : zc E d 0 26 [(2, q), (2, b), (0, c), (0, (s : Int))] T (zS p inv co S U) Q := by
  have hp := zR_p I
  have hlq := hS q
  have hlb := hS b
  have hl' : zlen co (S b) = 0 ∨ zlen co (S b) + s ≤ 25 := by
    by_cases e : S b = 0
    · left; rw [e, zL_0 I]
    · right; exact hl e
  generalize hv : S q + C c * (X ^ s * S b) = v at hQ
  have hco : ∀ j, co v j = (co (S q) j + c * (if j < s then 0 else co (S b) (j - s))) % p := by
    intro j
    rw [← hv]
    exact zXs_co I _ _ _ _ _
  have hvl : ∀ m, zlen co (S q) ≤ m → (zlen co (S b) = 0 ∨ zlen co (S b) + s ≤ m) → zlen co v ≤ m := by
    intro m hm1 hm2
    refine zL_le I (fun j hj => ?_)
    rw [hco, zL_hi I (by omega : zlen co (S q) ≤ j)]
    split
    · simp
    · rw [zL_hi I (by omega)]; simp
  have hv25 : zlen co v ≤ 25 := hvl 25 hlq hl'
  -- the degree
  have key2 : ∀ (n : Nat) (t : Int) (f : Int → Int), (∀ j : Nat, j < 25 → f j = co v j) → t + 1 = (zlen co v : Int) + n → t ≤ 200 → zj E d 0 26 123 [(2, q), (2, b), (0, c), (0, (s : Int)), (0, p), (0, t)] [] T (zW (zS p inv co S U) q f ((zlen co (S q) : Int) - 1)) (fun x T D => ∃ D', zqH T D = zqH T D' ∧ Q x T D') := by
    intro n
    induction n with
    | zero =>
      intro t f hf ht h200
      refine z26_123 _ _ _ _ _ _ ⟨by unfold zin; omega, fun h => ⟨zP_ob hT hq, ?_⟩, fun h => ⟨zP_ob hT hq, ?_, ?_, fun h2 => ?_, fun h2 => ⟨?_, ?_, fun h3 => ?_, fun h3 => ?_⟩⟩⟩
      · rw [zW_u2]
        exact ⟨_, zW_out hT hq hf (by omega), hQ⟩
      · rw [zW1 hq]; exact zP_rk hT hq
      · rw [zW1 hq, zP_rn hT hq]; exact zin25
      · rw [zW1 hq, zP_rn hT hq] at h2
        omega
      · rw [zW1 hq, zP_ar hT hq]; omega
      · rw [zW1 hq, zW_row]
        have e1 := hf t.toNat (by omega)
        rw [Int.toNat_of_nonneg h] at e1
        have := zR_rng I v t.toNat
        unfold zin
        omega
      · rw [zW_u2]
        exact ⟨_, zW_out hT hq hf (by omega), hQ⟩
      · rw [zW1 hq, zW_row] at h3
        have e1 := hf t.toNat (by omega)
        rw [Int.toNat_of_nonneg h] at e1
        exact absurd (e1.symm.trans h3) (zL_top I (by omega))
    | succ n ih =>
      intro t f hf ht h200
      have ht0 : 0 ≤ t := by omega
      refine z26_123 _ _ _ _ _ _ ⟨by unfold zin; omega, fun h => by omega, fun h => ⟨zP_ob hT hq, ?_, ?_, fun h2 => ?_, fun h2 => ⟨?_, ?_, fun h3 => ?_, fun h3 => ?_⟩⟩⟩
      · rw [zW1 hq]; exact zP_rk hT hq
      · rw [zW1 hq, zP_rn hT hq]; exact zin25
      · exact ih (t + -1) f hf (by omega) (by omega)
      · rw [zW1 hq, zP_rn hT hq] at h2
        rw [zW1 hq, zP_ar hT hq]; omega
      · rw [zW1 hq, zP_rn hT hq] at h2
        rw [zW1 hq, zW_row]
        have e1 := hf t.toNat (by omega)
        rw [Int.toNat_of_nonneg h] at e1
        have := zR_rng I v t.toNat
        unfold zin
        omega
      · rw [zW1 hq, zP_rn hT hq] at h2
        rw [zW1 hq, zW_row] at h3
        have e1 := hf t.toNat (by omega)
        rw [Int.toNat_of_nonneg h, zL_hi I (by omega)] at e1
        exact absurd e1 h3
      · exact ih (t + -1) f hf (by omega) (by omega)
  -- behind the adding
  have exit : ∀ f : Int → Int, (∀ j : Nat, j < 25 → f j = co v j) → ∀ D : zD, D = zW (zS p inv co S U) q f ((zlen co (S q) : Int) - 1) → zob T q 3 3 ∧ zin (D q 2) ∧ zin (D b 2 + (s : Int)) ∧ ((D q 2 ≤ D b 2 + (s : Int) → zj E d 0 26 123 [(2, q), (2, b), (0, c), (0, (s : Int)), (0, p), (0, D b 2 + (s : Int))] [] T D (fun x T D => ∃ D', zqH T D = zqH T D' ∧ Q x T D')) ∧ (D q 2 > D b 2 + (s : Int) → zj E d 0 26 123 [(2, q), (2, b), (0, c), (0, (s : Int)), (0, p), (0, D q 2)] [] T D (fun x T D => ∃ D', zqH T D = zqH T D' ∧ Q x T D'))) := by
    intro f hf D hD
    subst hD
    rw [zW_f2, zWo2 hq hb hne]
    refine ⟨zP_ob hT hq, zin_h hlq, by unfold zin; omega, fun h => ?_, fun h => ?_⟩
    · have h2 := hvl (zlen co (S b) + s) (by omega) (by omega)
      exact key2 (zlen co (S b) + s - zlen co v) _ f hf (by omega) (by omega)
    · have h2 := hvl (zlen co (S q)) (by omega) (by omega)
      exact key2 (zlen co (S q) - zlen co v) _ f hf (by omega) (by omega)
  by_cases hc : c = 0
  · have hvq : v = S q := by
      subst hc
      rw [← hv, zR_C0 I]
      grind
    rw [hvq, zup_same] at hQ
    refine e26 _ _ _ _ ⟨zP_ob hT hq, ?_, ?_, fun h => ?_, fun h => ⟨?_, fun _ => hQ, fun h => absurd hc h⟩⟩
    · rw [zS_f0 hq]; exact zF_ob hT
    · rw [zS_f0 hq, zS_p]; unfold zin; omega
    · exact hQ
    · unfold zin; omega
  · -- the adding
    have key : ∀ (n k : Nat) (f : Int → Int), k + n = zlen co (S b) → (∀ j : Nat, j < 25 → f j = if j < s + k then co v j else co (S q) j) → zj E d 0 26 27 [(2, q), (2, b), (0, c), (0, (s : Int)), (0, p), (0, (k : Int))] [] T (zW (zS p inv co S U) q f ((zlen co (S q) : Int) - 1)) (fun x T D => ∃ D', zqH T D = zqH T D' ∧ Q x T D') := by
      intro n
      induction n with
      | zero =>
        intro k f hk hf
        have hf2 : ∀ j : Nat, j < 25 → f j = co v j := by
          intro j hj
          rw [hf j hj]
          split
          · rfl
          · next h =>
            rw [hco, if_neg (by omega), zL_hi I (a := S b) (by omega), Int.mul_zero, Int.add_zero, zR_mod I]
        have hx := exit f hf2 _ rfl
        refine z26_27 _ _ _ _ _ _ ⟨zP_ob hT hb, by unfold zin; omega, ?_, fun _ => hx, fun h => ?_⟩
        · rw [zWo2 hq hb hne]; exact zin_h hlb
        · rw [zWo2 hq hb hne] at h
          omega
      | succ n ih =>
        intro k f hk hf
        have hks : s + k < 25 := by omega
        have hA := zR_rng I (S q) (s + k)
        have hB := zR_rng I (S b) k
        have hfk := hf (s + k) hks
        rw [if_neg (by omega)] at hfk
        have hm := zmulb h0 (by omega : c ≤ 100) hB.1 (by omega)
        have e1 : (k : Int) + (s : Int) = ((s + k : Nat) : Int) := by omega
        have e2 : zW (zS p inv co S U) q f ((zlen co (S q) : Int) - 1) (q + 1) ((k : Int) + (s : Int)) = co (S q) (s + k) := by rw [zW_row, e1, hfk]
        refine z26_27 _ _ _ _ _ _ ⟨zP_ob hT hb, by unfold zin; omega, ?_, fun h => ?_, fun _ => ⟨?_, ?_, fun h => ?_, fun _ => ⟨zP_ob hT hq, ?_, ?_, ?_, fun h => ?_, fun _ => ⟨?_, ?_, ?_, by omega, by omega, ?_⟩⟩⟩⟩
        · rw [zWo2 hq hb hne]; exact zin_h hlb
        · rw [zWo2 hq hb hne] at h
          omega
        · rw [zWo1 hq hb hne]; exact zP_rk hT hb
        · rw [zWo1 hq hb hne, zP_rn hT hb]; exact zin25
        · rw [zWo1 hq hb hne, zP_rn hT hb] at h
          omega
        · rw [zW1 hq]; exact zP_rk hT hq
        · unfold zin; omega
        · rw [zW1 hq, zP_rn hT hq]; exact zin25
        · rw [zW1 hq, zP_rn hT hq] at h
          omega
        · rw [zW1 hq, zP_ar hT hq]; omega
        · rw [zWo1 hq hb hne, zP_ar hT hb]; omega
        · rw [zW1 hq, zWo1 hq hb hne, zWor hq hb hne, e2, Int.toNat_natCast]
          unfold zin; omega
        · rw [zW1 hq, zWo1 hq hb hne, zWor hq hb hne, e2, Int.toNat_natCast, zW_u, Int.tmod_eq_emod_of_nonneg (by omega)]
          refine ih (k + 1) _ (by omega) (fun j hj => ?_)
          by_cases e : j = s + k
          · subst e
            show (if ((s + k : Nat) : Int) = (k : Int) + (s : Int) then _ else _) = _
            rw [if_pos (by omega), if_pos (by omega), hco, if_neg (by omega), Nat.add_sub_cancel_left]
          · show (if (j : Int) = (k : Int) + (s : Int) then _ else _) = _
            rw [if_neg (by omega), hf j hj]
            by_cases e2 : j < s + k
            · rw [if_pos e2, if_pos (by omega)]
            · rw [if_neg e2, if_neg (by omega)]
    refine zc_ext (e26 _ _ _ _ ⟨zP_ob hT hq, ?_, ?_, fun h => ?_, fun h => ⟨?_, fun h => absurd h hc, fun _ => ⟨by unfold zin; omega, fun _ => ?_, fun h => by omega⟩⟩⟩)
    · rw [zS_f0 hq]; exact zF_ob hT
    · rw [zS_f0 hq, zS_p]; unfold zin; omega
    · rw [zS_f0 hq, zS_p] at h
      omega
    · unfold zin; omega
    · rw [zS_f0 hq, zS_p]
      have h2 := key (zlen co (S b)) 0 (fun i => co (S q) i.toNat) (by omega) (fun j hj => by
        show co (S q) ((j : Int)).toNat = _
        rw [Int.toNat_natCast]
        split
        · rw [hco, if_pos (by omega), Int.mul_zero, Int.add_zero, zR_mod I]
        · rfl)
      rwa [← zW_in hq] at h2
