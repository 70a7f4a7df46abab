/-! Contracts: the class's own calls, but factoring. -/
theorem zO_ob {T : zT} (hT : zTT T) : zob T 0 7 11 := zTT_k hT (by decide) (by decide) (by decide +kernel)
theorem zO_k {T : zT} (hT : zTT T) : zk T 0 = 7 := (zO_ob hT).1
theorem zO_r {T : zT} (hT : zTT T) : zk T 3 = 52 ∧ zn T 3 = 10 := zTT_k hT (by decide) (by decide) (by decide +kernel)
section
variable {R : Type} {p : Int} {inv : Int → Int} {co : R → Nat → Int} {S : Int → R} {U : zD}
theorem zS00 : zS p inv co S U 0 0 = 1 := rfl
theorem zS01 : zS p inv co S U 0 1 = 3 := rfl
theorem zS06 : zS p inv co S U 0 6 = 74 := rfl
theorem zS07 : zS p inv co S U 0 7 = 91 := rfl
theorem zS08 : zS p inv co S U 0 8 = 152 := rfl
theorem zS09 : zS p inv co S U 0 9 = 154 := rfl
theorem zS0a : zS p inv co S U 0 10 = 156 := rfl
theorem zS_reg {r : Int} (h0 : 0 ≤ r) (h1 : r < 10) : zS p inv co S U 3 r = 4 + 2 * r := by
  have : r = 0 ∨ r = 1 ∨ r = 2 ∨ r = 3 ∨ r = 4 ∨ r = 5 ∨ r = 6 ∨ r = 7 ∨ r = 8 ∨ r = 9 := by omega
  rcases this with rfl | rfl | rfl | rfl | rfl | rfl | rfl | rfl | rfl | rfl <;> rfl
end
theorem zreg_q {r : Int} (h0 : 0 ≤ r) (h1 : r < 10) : zPq (4 + 2 * r) = true := by
  rw [zPq_iff]
  omega
theorem q152 : zPq 152 = true := by decide
theorem q154 : zPq 154 = true := by decide
theorem q156 : zPq 156 = true := by decide
/-- the rows of the factors: all 24, each once -/
def zPR (U : zD) : Prop := (∀ i : Int, 0 ≤ i → i < 24 → 96 ≤ U 92 i ∧ U 92 i ≤ 142 ∧ U 92 i % 2 = 0) ∧ (∀ i j : Int, 0 ≤ i → i < 24 → 0 ≤ j → j < 24 → i ≠ j → U 92 i ≠ U 92 j)
def zOK {R : Type} (co : R → Nat → Int) (S : Int → R) (U : zD) : Prop := (∀ x, zlen co (S x) ≤ 25) ∧ zEU U ∧ zPR U
/-- what a call keeps that finds no factors -/
def zKp {R : Type} (S : Int → R) (U : zD) (S' : Int → R) (U' : zD) : Prop := (∀ x, (4 ≤ x ∧ x ≤ 22) ∨ (96 ≤ x ∧ x ≤ 142) → S' x = S x) ∧ (∀ x i, x ≠ 74 ∧ ¬ (x = 91 ∧ i = 7) ∧ x ≠ 94 ∧ x ≠ 95 → U' x i = U x i)
theorem zKp_r {R : Type} (S : Int → R) (U : zD) : zKp S U S U := ⟨fun _ _ => rfl, fun _ _ _ => rfl⟩
theorem zKp_t {R : Type} {S S1 S2 : Int → R} {U U1 U2 : zD} (h1 : zKp S U S1 U1) (h2 : zKp S1 U1 S2 U2) : zKp S U S2 U2 :=
  ⟨fun x hx => (h2.1 x hx).trans (h1.1 x hx), fun x i hx => (h2.2 x i hx).trans (h1.2 x i hx)⟩
theorem zKp_u {R : Type} {S S1 : Int → R} {U U1 : zD} (h1 : zKp S U S1 U1) {q : Int} {v : R} (hq : ¬ ((4 ≤ q ∧ q ≤ 22) ∨ (96 ≤ q ∧ q ≤ 142))) : zKp S U (zup S1 q v) U1 :=
  ⟨fun x hx => by rw [zup_o _ _ (by rintro rfl; exact hq hx)]; exact h1.1 x hx, h1.2⟩
theorem zKp_v {R : Type} {S S1 : Int → R} {U U1 : zD} (h1 : zKp S U S1 U1) (q : Int) (v : R) : zKp (zup S q v) U (zup S1 q v) U1 :=
  ⟨fun x hx => by
    unfold zup
    split
    · rfl
    · exact h1.1 x hx, h1.2⟩
theorem zKp_f {R : Type} {S S1 : Int → R} {U U1 : zD} (h1 : zEf S U S1 U1) : zKp S U S1 U1 :=
  ⟨fun x hx => h1.1 x (by omega), fun x i hx => h1.2 x i (by omega)⟩
theorem zPR_k {R : Type} {S S1 : Int → R} {U U1 : zD} (h1 : zKp S U S1 U1) (h : zPR U) : zPR U1 := by
  have e : ∀ i, U1 92 i = U 92 i := fun i => h1.2 92 i (by omega)
  constructor
  · intro i h0 h24
    rw [e]; exact h.1 i h0 h24
  · intro i j a1 a2 a3 a4 a5
    rw [e, e]; exact h.2 i j a1 a2 a3 a4 a5
theorem c17 {R : Type} [Lean.Grind.CommRing R] {p : Int} {inv : Int → Int} {co : R → Nat → Int} {X : R} {C : Int → R} (I : zIf R p inv co X C) {E : List (List Int)} {d : Nat} {T : zT} {S : Int → R} {U : zD} {Q : Int → zT → zD → Prop} (hT : zTT T) (hS : ∀ a, zlen co (S a) ≤ 25) {r : Int} (h0 : 0 ≤ r) (h1 : r < 10) (hQ : Q (4 + 2 * r) T (zS p inv co S U)) : zc E d 2 17 [(2, 0), (0, r)] T (zS p inv co S U) Q := by
  have hr := zO_r hT
  refine e17 _ _ ⟨zin_t h0 (by omega), fun h => by omega, fun _ => ⟨zO_ob hT, ?_, ?_, fun _ => ⟨?_, ?_, ?_, ?_⟩, fun h => ?_⟩⟩
  · rw [zS01]; exact hr.1
  · rw [zS01, hr.2]; exact zin_c (by decide)
  · rw [zS01]
    exact ⟨hr.1, h0, by rw [hr.2]; exact h1, by rw [hr.2]; decide⟩
  · rw [zS01, zS_reg h0 h1]; omega
  · rw [zS01, zS_reg h0 h1]; omega
  · rw [zS01, zS_reg h0 h1]; exact hQ
  · rw [zS01, hr.2] at h
    omega
theorem c18 {E : List (List Int)} {d : Nat} {T : zT} {D : zD} {Q : Int → zT → zD → Prop} {k : Int} (h0 : 0 ≤ k) (h1 : k < 25) (hQ : Q 0 T D) : zc E d 0 18 [(0, k)] T D Q :=
  e18 _ ⟨zin_t h0 (by omega), fun h => by omega, fun _ => ⟨fun _ => hQ, fun h => by omega⟩⟩
theorem c16 {R : Type} [Lean.Grind.CommRing R] {p : Int} {inv : Int → Int} {co : R → Nat → Int} {X : R} {C : Int → R} (I : zIf R p inv co X C) {E : List (List Int)} {d : Nat} {T : zT} {S : Int → R} {U : zD} {Q : Int → zT → zD → Prop} (hT : zTT T) (hS : ∀ a, zlen co (S a) ≤ 25) (hd : 1 ≤ d) {r : Int} {k : Nat} (h0 : 0 ≤ r) (h1 : r < 10) (hk : k < 25) (hQ : Q (co (S (4 + 2 * r)) k) T (zS p inv co S U)) : zc E d 1 16 [(2, 0), (0, r), (0, (k : Int))] T (zS p inv co S U) Q := by
  refine e16 _ _ _ ⟨by omega, zO_k hT, ?_⟩
  refine c17 I hT hS h0 h1 ?_
  refine c18 (by omega) (by omega) ⟨zP_k hT (zreg_q h0 h1), ?_⟩
  refine c19 I hT hS (zreg_q h0 h1) (by omega) (by omega) ?_
  rw [zat_n]
  exact hQ
theorem c20 {R : Type} [Lean.Grind.CommRing R] {p : Int} {inv : Int → Int} {co : R → Nat → Int} {X : R} {C : Int → R} (I : zIf R p inv co X C) {E : List (List Int)} {d : Nat} {T : zT} {S : Int → R} {U : zD} {Q : Int → zT → zD → Prop} (hT : zTT T) (hS : ∀ a, zlen co (S a) ≤ 25) (hd : 1 ≤ d) {r : Int} (h0 : 0 ≤ r) (h1 : r < 10) (hQ : Q ((zlen co (S (4 + 2 * r)) : Int) - 1) T (zS p inv co S U)) : zc E d 1 20 [(2, 0), (0, r)] T (zS p inv co S U) Q := by
  refine e20 _ _ ⟨by omega, zO_k hT, ?_⟩
  refine c17 I hT hS h0 h1 ⟨zP_k hT (zreg_q h0 h1), ?_⟩
  exact c21 I hT hS (zreg_q h0 h1) hQ
theorem c93 {R : Type} [Lean.Grind.CommRing R] {p : Int} {inv : Int → Int} {co : R → Nat → Int} {X : R} {C : Int → R} (I : zIf R p inv co X C) {E : List (List Int)} {d : Nat} {T : zT} {S : Int → R} {U : zD} {Q : Int → zT → zD → Prop} (hT : zTT T) (hS : ∀ a, zlen co (S a) ≤ 25) (hd : 1 ≤ d) {r c : Int} {k : Nat} {v : R} (h0 : 0 ≤ r) (h1 : r < 10) (hk : k < 25) (hc : zin c) (hv : ∀ j, co v j = if j = k then c % p else co (S (4 + 2 * r)) j) (hQ : Q ((zlen co v : Int) - 1) T (zS p inv co (zup S (4 + 2 * r) v) U)) : zc E d 1 93 [(2, 0), (0, r), (0, (k : Int)), (0, c)] T (zS p inv co S U) Q := by
  have hq := zreg_q h0 h1
  refine e93 _ _ _ _ ⟨by omega, zO_k hT, ?_⟩
  refine c17 I hT hS h0 h1 ?_
  refine c18 (by omega) (by omega) ⟨zO_ob hT, ?_, ?_⟩
  · rw [zS00]; exact zF_k hT
  rw [zS00]
  refine c31 I hT hS hc ⟨zP_k hT hq, ?_⟩
  have hvl : zlen co v ≤ 25 := zL_le I (fun j hj => by
    rw [hv, if_neg (by omega)]
    exact zL_hi I (by have := hS (4 + 2 * r); omega))
  refine c32 I hT hS hq hk hv ⟨zP_k hT hq, ?_⟩
  refine c21 I hT (zup_l hS hvl) hq ?_
  rw [zup_s]
  exact hQ
theorem c55 {R : Type} [Lean.Grind.CommRing R] {p : Int} {inv : Int → Int} {co : R → Nat → Int} {X : R} {C : Int → R} (I : zIf R p inv co X C) {E : List (List Int)} {d : Nat} {T : zT} {S : Int → R} {U : zD} {Q : Int → zT → zD → Prop} (hT : zTT T) (hS : ∀ a, zlen co (S a) ≤ 25) (hd : 1 ≤ d) {r x : Int} (h0 : 0 ≤ r) (h1 : r < 10) (hQ : ∀ v, 0 ≤ v → v < p → zval X C (S (4 + 2 * r)) (Int32.ofInt x).toInt v → Q v T (zS p inv co S U)) : zc E d 1 55 [(2, 0), (0, r), (0, x)] T (zS p inv co S U) Q := by
  refine e55 _ _ _ ⟨by omega, zO_k hT, ?_⟩
  refine c17 I hT hS h0 h1 ⟨zO_ob hT, ?_, ?_⟩
  · rw [zS00]; exact zF_k hT
  rw [zS00]
  refine c31x I hT hS ⟨zP_k hT (zreg_q h0 h1), ?_⟩
  have hr := zmodr I (Int32.ofInt x).toInt
  refine c56 I hT hS (zreg_q h0 h1) hr.1 hr.2 (fun v v0 v1 hv => hQ v v0 v1 ?_)
  obtain ⟨z, hz⟩ := hv
  exact ⟨z, by rw [hz, zR_Cmod I]⟩
/-! the sorts of reckoning -/
theorem c23 {E : List (List Int)} {d : Nat} {T : zT} {D : zD} {Q : Int → zT → zD → Prop} {s : Int} {a b : Nat} (hs : 0 ≤ s) (hs2 : s < 7) (ha : a ≤ 25) (hb : b ≤ 25) (h2 : s = 2 → 0 < a → 0 < b → a + b ≤ 26) (h3 : s = 3 → (a - 1) * (b - 1) ≤ 24) (hQ : Q 0 T D) : zc E d 1 23 [(0, s), (0, (a : Int) - 1), (0, (b : Int) - 1)] T D Q := by
  refine e23 _ _ _ ⟨zin_t hs (by omega), fun _ => ⟨fun _ => hQ, fun h => ⟨zin_h ha, fun _ => hQ, fun x1 => ⟨zin_h hb, fun _ => hQ, fun x2 => ?_⟩⟩⟩, fun h => ⟨zin_h ha, fun _ => hQ, fun x1 => ⟨zin_h hb, fun _ => hQ, fun x2 => ⟨by unfold zin; omega, fun _ => hQ, fun x3 => ?_⟩⟩⟩⟩
  · have e : ((a : Int) - 1) * ((b : Int) - 1) = (((a - 1) * (b - 1) : Nat) : Int) := by
      rw [Int.natCast_mul]
      congr 1 <;> omega
    have := h3 h
    rw [e]
    exact ⟨by unfold zin; omega, fun _ => hQ, fun x3 => by omega⟩
  · have := h2 h (by omega) (by omega)
    omega
theorem c24_0 {R : Type} [Lean.Grind.CommRing R] {p : Int} {inv : Int → Int} {co : R → Nat → Int} {X : R} {C : Int → R} (I : zIf R p inv co X C) {E : List (List Int)} {d : Nat} {T : zT} {S : Int → R} {U : zD} {Q : Int → zT → zD → Prop} (hT : zTT T) (hS : ∀ a, zlen co (S a) ≤ 25) {a b : Int} (hd : 2 ≤ d) (ha : zPq a = true) (hb : zPq b = true) (ha2 : a ≤ 22) (hb2 : b ≤ 22) (hQ : Q 0 T (zS p inv co (zup S 152 (S a + S b)) U)) : zc E d 0 24 [(2, 0), (0, 0), (2, a), (2, b)] T (zS p inv co S U) Q := by
  have hp := zR_p I
  refine e24 _ _ _ _ ⟨zin_c (by decide), fun _ => ⟨zO_ob hT, by omega, ?_, ?_⟩, fun h => absurd h (by decide), fun h => absurd h (by decide), fun h => absurd h (by decide), fun h => absurd h (by decide), fun h => absurd h (by decide), fun h => absurd h (by decide)⟩
  · rw [zS08]; exact zP_k hT q152
  rw [zS08]
  have hS1 := zup_l hS (q := 152) (hS a)
  refine c25 I hT hS q152 ha (by omega) ⟨zO_ob hT, ?_, ?_⟩
  · rw [zS08]; exact zP_k hT q152
  rw [zS08]
  refine c26 I hT hS1 (s := 0) q152 hb (by omega) (by omega) (by omega) (by omega) (fun _ => by have := hS1 b; omega) ?_
  rw [zup_s, zup_up, zup_o _ _ (show b ≠ 152 by omega)]
  have e : S a + C 1 * (X ^ 0 * S b) = S a + S b := by rw [zR_C1 I]; grind
  rw [e]
  exact hQ
theorem c24_1 {R : Type} [Lean.Grind.CommRing R] {p : Int} {inv : Int → Int} {co : R → Nat → Int} {X : R} {C : Int → R} (I : zIf R p inv co X C) {E : List (List Int)} {d : Nat} {T : zT} {S : Int → R} {U : zD} {Q : Int → zT → zD → Prop} (hT : zTT T) (hS : ∀ a, zlen co (S a) ≤ 25) {a b : Int} (hd : 2 ≤ d) (ha : zPq a = true) (hb : zPq b = true) (ha2 : a ≤ 22) (hb2 : b ≤ 22) (hQ : Q 0 T (zS p inv co (zup S 152 (S a - S b)) U)) : zc E d 0 24 [(2, 0), (0, 1), (2, a), (2, b)] T (zS p inv co S U) Q := by
  refine e24 _ _ _ _ ⟨zin_c (by decide), fun h => absurd h (by decide), fun _ => ⟨zO_ob hT, by omega, ?_, ?_⟩, fun h => absurd h (by decide), fun h => absurd h (by decide), fun h => absurd h (by decide), fun h => absurd h (by decide), fun h => absurd h (by decide)⟩
  · rw [zS08]; exact zP_k hT q152
  rw [zS08]
  have hS1 := zup_l hS (q := 152) (hS a)
  refine c25 I hT hS q152 ha (by omega) ⟨zO_ob hT, ?_, ?_⟩
  · rw [zS08]; exact zP_k hT q152
  rw [zS08]
  refine c27 I hT hS1 (by omega) q152 hb (by omega) ?_
  rw [zup_s, zup_up, zup_o _ _ (show b ≠ 152 by omega)]
  exact hQ
theorem c24_2 {R : Type} [Lean.Grind.CommRing R] {p : Int} {inv : Int → Int} {co : R → Nat → Int} {X : R} {C : Int → R} (I : zIf R p inv co X C) {E : List (List Int)} {d : Nat} {T : zT} {S : Int → R} {U : zD} {Q : Int → zT → zD → Prop} (hT : zTT T) (hS : ∀ a, zlen co (S a) ≤ 25) {a b : Int} (hd : 2 ≤ d) (ha : zPq a = true) (hb : zPq b = true) (ha2 : a ≤ 22) (hb2 : b ≤ 22) (hl : S a ≠ 0 → S b ≠ 0 → zlen co (S a) + zlen co (S b) ≤ 26) (hQ : Q 0 T (zS p inv co (zup S 152 (S a * S b)) U)) : zc E d 0 24 [(2, 0), (0, 2), (2, a), (2, b)] T (zS p inv co S U) Q := by
  refine e24 _ _ _ _ ⟨zin_c (by decide), fun h => absurd h (by decide), fun h => absurd h (by decide), fun _ => ⟨zO_ob hT, by omega, ?_, ?_⟩, fun h => absurd h (by decide), fun h => absurd h (by decide), fun h => absurd h (by decide), fun h => absurd h (by decide)⟩
  · rw [zS08]; exact zP_k hT q152
  rw [zS08]
  exact c29 I hT hS (by omega) q152 ha hb (by omega) (by omega) hl hQ
theorem c24_5 {R : Type} [Lean.Grind.CommRing R] {p : Int} {inv : Int → Int} {co : R → Nat → Int} {X : R} {C : Int → R} (I : zIf R p inv co X C) {E : List (List Int)} {d : Nat} {T : zT} {S : Int → R} {U : zD} {Q : Int → zT → zD → Prop} (hT : zTT T) (hS : ∀ a, zlen co (S a) ≤ 25) {a b : Int} (hd : 2 ≤ d) (ha : zPq a = true) (ha2 : a ≤ 22) (hQ : ∀ v, zde p co (S a) v → Q 0 T (zS p inv co (zup S 152 v) U)) : zc E d 0 24 [(2, 0), (0, 5), (2, a), (2, b)] T (zS p inv co S U) Q := by
  refine e24 _ _ _ _ ⟨zin_c (by decide), fun h => absurd h (by decide), fun h => absurd h (by decide), fun h => absurd h (by decide), fun h => absurd h (by decide), fun h => absurd h (by decide), fun _ => ⟨zO_ob hT, by omega, ?_, ?_⟩, fun h => absurd h (by decide)⟩
  · rw [zS08]; exact zP_k hT q152
  rw [zS08]
  exact c42 I hT hS (by omega) q152 ha (by omega) hQ
theorem c24_4 {R : Type} [Lean.Grind.CommRing R] {p : Int} {inv : Int → Int} {co : R → Nat → Int} {X : R} {C : Int → R} (I : zIf R p inv co X C) {E : List (List Int)} {d : Nat} {T : zT} {S : Int → R} {U : zD} {Q : Int → zT → zD → Prop} (hT : zTT T) (hS : ∀ a, zlen co (S a) ≤ 25) {a b : Int} (hd : 3 ≤ d) (hok : zOK co S U) (ha : zPq a = true) (hb : zPq b = true) (ha2 : a ≤ 22) (hb2 : b ≤ 22) (hQ : ∀ S' U' g, zOK co S' U' → zKp S U S' U' → zgcd (S a) (S b) g → (g = 0 ∨ zmon co g) → S' 152 = g → Q 0 T (zS p inv co S' U')) : zc E d 0 24 [(2, 0), (0, 4), (2, a), (2, b)] T (zS p inv co S U) Q := by
  refine e24 _ _ _ _ ⟨zin_c (by decide), fun h => absurd h (by decide), fun h => absurd h (by decide), fun h => absurd h (by decide), fun h => absurd h (by decide), fun _ => ⟨zO_ob hT, by omega, ?_, ?_⟩, fun h => absurd h (by decide), fun h => absurd h (by decide)⟩
  · rw [zS06]; exact zE_k hT
  rw [zS06]
  refine c33 I hT hS (by omega) hok.2.1 ha hb (by omega) (by omega) (fun S' U' hf hS' hE' hg hm => ⟨zO_ob hT, ?_, ?_⟩)
  · rw [zS06]; exact zE_k hT
  rw [zS06]
  refine c41 I hT hS' hE' ⟨?_, ?_⟩
  · rw [zS08]; exact zP_k hT q152
  rw [zS08]
  have hr3 := zEU_q hE' 3 (by omega) (by omega)
  have hb3 := hE'.1 3 (by omega) (by omega)
  have hk := zKp_u (q := 152) (v := S' (U' 74 3)) (zKp_f hf) (by omega)
  refine c25 I hT hS' q152 hr3 (by omega) (hQ _ _ _ ⟨zup_l hS' (hS' _), hE', zPR_k hk hok.2.2⟩ hk hg hm (zup_s _ _ _))
theorem c30 {R : Type} [Lean.Grind.CommRing R] {p : Int} {inv : Int → Int} {co : R → Nat → Int} {X : R} {C : Int → R} (I : zIf R p inv co X C) {E : List (List Int)} {d : Nat} {T : zT} {S : Int → R} {U : zD} {Q : Int → zT → zD → Prop} (hT : zTT T) (hS : ∀ a, zlen co (S a) ≤ 25) {a b : Int} (hd : 2 ≤ d) (ha : zPq a = true) (hb : zPq b = true) (ha2 : a ≤ 22) (hb2 : b ≤ 22) (hl : (zlen co (S a) - 1) * (zlen co (S b) - 1) ≤ 24)
    (hQ : ∀ S' v, (∀ x, zlen co (S' x) ≤ 25) → zKp S U S' U → S' 152 = v → (∀ y : Int, ∃ w z1 z2, S a = (X - C y) * z1 + C w ∧ v = (S b - C y) * z2 + C w) → Q 0 T (zS p inv co S' U)) : zc E d 0 30 [(2, 0), (2, a), (2, b)] T (zS p inv co S U) Q := by
  have hp := zR_p I
  have hlb := hS b
  have key : ∀ (n : Nat) (lo t r wk : R), n ≤ zlen co (S a) → zlen co lo ≤ n → S a = lo + X ^ n * t → zlen co wk ≤ 25 → (n = zlen co (S a) → r = 0) → (n < zlen co (S a) → zlen co r ≤ (zlen co (S a) - n - 1) * (zlen co (S b) - 1) + 1) → (∀ y : Int, ∃ w z1 z2, t = (X - C y) * z1 + C w ∧ r = (S b - C y) * z2 + C w) → zj E d 0 30 12 [(2, 0), (2, a), (2, b), (0, (n : Int) - 1)] [] T (zS p inv co (zup (zup S 156 wk) 152 r) U) Q := by
    intro n
    induction n with
    | zero =>
      intro lo t r wk hn hlo he hwk hr0 hrl hy
      have hrl25 : zlen co r ≤ 25 := by
        by_cases h : 0 = zlen co (S a)
        · rw [hr0 h, zL_0 I]; omega
        · have := hrl (by omega)
          rw [Nat.sub_zero] at this
          omega
      refine z30_12 _ _ _ _ ⟨zin_c (by decide), fun _ => ?_, fun h => absurd h (by decide)⟩
      have : lo = 0 := zL_eq0 I (by omega)
      subst this
      have e : S a = t := by rw [he]; grind
      refine hQ _ r (zup_l (zup_l hS hwk) hrl25) (zKp_u (zKp_u (zKp_r S U) (by omega)) (by omega)) (zup_s _ _ _) (by rw [e]; exact hy)
    | succ n ih =>
      intro lo t r wk hn hlo he hwk hr0 hrl hy
      have e0 : ((n + 1 : Nat) : Int) - 1 = (n : Int) := by omega
      rw [e0]
      have hla := hS a
      have hrl25 : zlen co r ≤ 25 := by
        by_cases h : n + 1 = zlen co (S a)
        · rw [hr0 h, zL_0 I]; omega
        · have h1 := hrl (by omega)
          have h2 : (zlen co (S a) - (n + 1) - 1) * (zlen co (S b) - 1) ≤ (zlen co (S a) - 1) * (zlen co (S b) - 1) := Nat.mul_le_mul_right _ (by omega)
          omega
      have hprod : r ≠ 0 → S b ≠ 0 → zlen co r + zlen co (S b) ≤ 26 := by
        intro hr hb0
        by_cases h : n + 1 = zlen co (S a)
        · exact absurd (hr0 h) hr
        · have h1 := hrl (by omega)
          have h2 : (zlen co (S a) - (n + 1) - 1) * (zlen co (S b) - 1) + (zlen co (S b) - 1) ≤ (zlen co (S a) - 1) * (zlen co (S b) - 1) := by
            have h3 : (zlen co (S a) - (n + 1) - 1 + 1) * (zlen co (S b) - 1) ≤ (zlen co (S a) - 1) * (zlen co (S b) - 1) := Nat.mul_le_mul_right _ (by omega)
            rw [Nat.add_mul, Nat.one_mul] at h3
            exact h3
          omega
      have hml : zlen co (r * S b) ≤ (zlen co (S a) - n - 1) * (zlen co (S b) - 1) + 1 ∧ zlen co (r * S b) ≤ 25 := by
        by_cases hr : r = 0
        · have : r * S b = 0 := by rw [hr]; grind
          rw [this, zL_0 I]; omega
        · by_cases hb0 : S b = 0
          · have : r * S b = 0 := by rw [hb0]; grind
            rw [this, zL_0 I]; omega
          · have h4 := zM_len I hr hb0
            have h5 := hprod hr hb0
            by_cases h : n + 1 = zlen co (S a)
            · exact absurd (hr0 h) hr
            · have h1 := hrl (by omega)
              have h3 : (zlen co (S a) - n - 1) * (zlen co (S b) - 1) = (zlen co (S a) - (n + 1) - 1) * (zlen co (S b) - 1) + (zlen co (S b) - 1) := by
                have : zlen co (S a) - n - 1 = zlen co (S a) - (n + 1) - 1 + 1 := by omega
                rw [this, Nat.add_mul, Nat.one_mul]
              omega
      have hS1 := zup_l (zup_l hS hwk (q := 156)) (q := 152) hrl25
      have hS2 := zup_l hS1 (q := 156) hml.2
      have hS3 := zup_l hS2 (q := 152) hml.2
      have e1 : zup (zup S 156 wk) 152 r b = S b := by rw [zup_o _ _ (by omega), zup_o _ _ (by omega)]
      have e2 : ∀ v w : R, zup (zup (zup (zup S 156 wk) 152 r) 156 v) 152 w = zup (zup S 156 v) 152 w := by
        intro v w
        rw [zup_cm (zup S 156 wk) _ _ (show (152 : Int) ≠ 156 by decide), zup_up, zup_up]
      refine z30_12 _ _ _ _ ⟨by unfold zin; omega, fun h => by omega, fun _ => ⟨zO_ob hT, by omega, ?_, ?_⟩⟩
      · rw [zS0a]; exact zP_k hT q156
      rw [zS0a, zS08]
      refine c29 I hT hS1 (by omega) q156 q152 hb (by decide) (by omega) (by rw [zup_s, e1]; exact hprod) ⟨zO_ob hT, ?_, ?_⟩
      · rw [zS08]; exact zP_k hT q152
      rw [zS08, zS0a, zup_s, e1]
      refine c25 I hT hS2 q152 q156 (by decide) ⟨zO_ob hT, ?_, ?_⟩
      · rw [zS08]; exact zP_k hT q152
      rw [zS08, zup_s, e2]
      have hS4 := zup_l (zup_l hS hml.2 (q := 156)) (q := 152) hml.2
      refine c19 I hT hS4 (k := 0) q152 (by omega) (by omega) ⟨zP_k hT ha, ?_⟩
      have e3 : zat co (zup (zup S 156 (r * S b)) 152 (r * S b) 152) 0 = co (r * S b) 0 := by rw [zup_s]; rfl
      rw [e3]
      refine c19 I hT hS4 ha (by omega) (by omega) ⟨?_, ?_⟩
      · rw [zS00]; exact zF_k hT
      rw [zup_o _ _ (show a ≠ 152 by omega), zup_o _ _ (show a ≠ 156 by omega), zat_n, zS00]
      have r1 := zR_rng I (r * S b) 0
      have r2 := zR_rng I (S a) n
      refine c31 I hT hS4 (by unfold zin; omega) ⟨zP_k hT q152, ?_⟩
      have hv : ∀ j, co (r * S b + C (co (S a) n)) j = if j = 0 then (co (r * S b) 0 + co (S a) n) % p else co (zup (zup S 156 (r * S b)) 152 (r * S b) 152) j := by
        intro j
        rw [zup_s, zR_add I, zR_C I]
        by_cases h : j = 0
        · subst h
          rw [if_pos rfl, if_pos rfl, Int.add_emod_emod]
        · rw [if_neg h, if_neg h, Int.add_zero, zR_mod I]
      refine c32 I hT hS4 (k := 0) q152 (by omega) hv ?_
      rw [zup_up, show ((n : Int) + -1) = (n : Int) - 1 by omega]
      have hcn : co (S a) n = co lo n := by
        rw [he, zR_add I, zR_pow I, if_pos (by omega), Int.add_zero, zR_mod I]
      have hX : ∀ j, co (C (co lo n) * X ^ n) j = if j = n then co lo n else 0 := by
        intro j
        have : X ^ n = X ^ n * 1 := by grind
        rw [zR_smul I, this, zR_pow I, zR_one I]
        by_cases h1 : j < n
        · rw [if_pos h1, if_neg (by omega)]; simp
        · by_cases h2 : j = n
          · subst h2; simp [zR_mod I]
          · rw [if_neg h1, if_neg (by omega), if_neg h2]; simp
      refine ih (lo - C (co lo n) * X ^ n) (C (co lo n) + X * t) _ _ (by omega) (zL_lt I (zL_sub I hlo (zL_le I (fun j hj => by rw [hX, if_neg (by omega)]))) (by
        rw [zR_sub I, hX, if_pos rfl]; simp)) (by rw [he]; grind) hml.2 (fun h => by omega) (fun _ => zL_add I hml.1 (by have := zL_C I (co (S a) n); omega)) (fun y => ?_)
      obtain ⟨w, z1, z2, y1, y2⟩ := hy y
      refine ⟨co (S a) n + y * w, t + C y * z1, r + C y * z2, ?_, ?_⟩
      · rw [zR_Cadd I, zR_Cmul I, hcn]
        grind
      · rw [zR_Cadd I, zR_Cmul I]
        grind
  refine e30 _ _ _ ⟨zO_ob hT, by omega, ?_, ?_⟩
  · rw [zS08]; exact zP_k hT q152
  rw [zS08]
  have hS1 := zup_l hS (q := 152) (v := (0 : R)) (by rw [zL_0 I]; omega)
  refine c13 I hT hS q152 ⟨zP_k hT ha, ?_⟩
  refine c21 I hT hS1 ha ?_
  rw [zup_o _ _ (show a ≠ 152 by omega)]
  have h := key (zlen co (S a)) (S a) 0 0 (S 156) (Nat.le_refl _) (Nat.le_refl _) (by grind) (hS 156) (fun _ => rfl) (fun h => by omega) (fun y => ⟨0, 0, 0, by rw [zR_C0 I]; grind, by rw [zR_C0 I]; grind⟩)
  rw [zup_same] at h
  exact h
