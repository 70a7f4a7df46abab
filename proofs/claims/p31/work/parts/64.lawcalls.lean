/-! The class's calls on the law's memory. -/
theorem l22_0 {R : Type} [Lean.Grind.CommRing R] {p : Int} {inv : Int → Int} {co : R → Nat → Int} {X : R} {C : Int → R} (I : zIf R p inv co X C) {E : List (List Int)} {d : Nat} {Q : Int → zT → zD → Prop} {l : List R} {A : List (Int × R)} {N : Nat} {T : zT} {D : zD} (h : zLs p inv co l A N T D) (hd : 4 ≤ d) {a b to : Int} (a0 : 0 ≤ a) (a1 : a < 10) (b0 : 0 ≤ b) (b1 : b < 10) (t0 : 0 ≤ to) (t1 : to < 10) (hQ : ∀ D', zLs p inv co (l.set to.toNat (l.getD a.toNat 0 + l.getD b.toNat 0)) A N T D' → Q ((zlen co (l.getD a.toNat 0 + l.getD b.toNat 0) : Int) - 1) T D') : zc E d 1 22 [(2, 0), (0, 0), (0, a), (0, b), (0, to)] T D Q := by
  obtain ⟨S, U, rfl, hT, hok, h10, hl, hA⟩ := h
  rw [← hl a a0 a1, ← hl b b0 b1] at hQ
  exact k22_0 I (zLT_T hT) hok hd a0 a1 b0 b1 t0 t1 (fun S' U' hok' hk => hQ _ (zLs_s hT h10 hl hA t0 t1 hok' hk))
theorem l22_1 {R : Type} [Lean.Grind.CommRing R] {p : Int} {inv : Int → Int} {co : R → Nat → Int} {X : R} {C : Int → R} (I : zIf R p inv co X C) {E : List (List Int)} {d : Nat} {Q : Int → zT → zD → Prop} {l : List R} {A : List (Int × R)} {N : Nat} {T : zT} {D : zD} (h : zLs p inv co l A N T D) (hd : 4 ≤ d) {a b to : Int} (a0 : 0 ≤ a) (a1 : a < 10) (b0 : 0 ≤ b) (b1 : b < 10) (t0 : 0 ≤ to) (t1 : to < 10) (hQ : ∀ D', zLs p inv co (l.set to.toNat (l.getD a.toNat 0 - l.getD b.toNat 0)) A N T D' → Q ((zlen co (l.getD a.toNat 0 - l.getD b.toNat 0) : Int) - 1) T D') : zc E d 1 22 [(2, 0), (0, 1), (0, a), (0, b), (0, to)] T D Q := by
  obtain ⟨S, U, rfl, hT, hok, h10, hl, hA⟩ := h
  rw [← hl a a0 a1, ← hl b b0 b1] at hQ
  exact k22_1 I (zLT_T hT) hok hd a0 a1 b0 b1 t0 t1 (fun S' U' hok' hk => hQ _ (zLs_s hT h10 hl hA t0 t1 hok' hk))
theorem l22_2 {R : Type} [Lean.Grind.CommRing R] {p : Int} {inv : Int → Int} {co : R → Nat → Int} {X : R} {C : Int → R} (I : zIf R p inv co X C) {E : List (List Int)} {d : Nat} {Q : Int → zT → zD → Prop} {l : List R} {A : List (Int × R)} {N : Nat} {T : zT} {D : zD} (h : zLs p inv co l A N T D) (hd : 4 ≤ d) {a b to : Int} (a0 : 0 ≤ a) (a1 : a < 10) (b0 : 0 ≤ b) (b1 : b < 10) (t0 : 0 ≤ to) (t1 : to < 10) (hl2 : zlen co (l.getD a.toNat 0) + zlen co (l.getD b.toNat 0) ≤ 26) (hQ : ∀ D', zLs p inv co (l.set to.toNat (l.getD a.toNat 0 * l.getD b.toNat 0)) A N T D' → Q ((zlen co (l.getD a.toNat 0 * l.getD b.toNat 0) : Int) - 1) T D') : zc E d 1 22 [(2, 0), (0, 2), (0, a), (0, b), (0, to)] T D Q := by
  obtain ⟨S, U, rfl, hT, hok, h10, hl, hA⟩ := h
  rw [← hl a a0 a1, ← hl b b0 b1] at hQ hl2
  exact k22_2 I (zLT_T hT) hok hd a0 a1 b0 b1 t0 t1 hl2 (fun S' U' hok' hk => hQ _ (zLs_s hT h10 hl hA t0 t1 hok' hk))
theorem l22_3 {R : Type} [Lean.Grind.CommRing R] {p : Int} {inv : Int → Int} {co : R → Nat → Int} {X : R} {C : Int → R} (I : zIf R p inv co X C) {E : List (List Int)} {d : Nat} {Q : Int → zT → zD → Prop} {l : List R} {A : List (Int × R)} {N : Nat} {T : zT} {D : zD} (h : zLs p inv co l A N T D) (hd : 4 ≤ d) {a b to : Int} (a0 : 0 ≤ a) (a1 : a < 10) (b0 : 0 ≤ b) (b1 : b < 10) (t0 : 0 ≤ to) (t1 : to < 10) (hl2 : (zlen co (l.getD a.toNat 0) - 1) * (zlen co (l.getD b.toNat 0) - 1) ≤ 24) (hQ : ∀ D' v, (∀ y : Int, ∃ w z1 z2, l.getD a.toNat 0 = (X - C y) * z1 + C w ∧ v = (l.getD b.toNat 0 - C y) * z2 + C w) → zLs p inv co (l.set to.toNat v) A N T D' → Q ((zlen co v : Int) - 1) T D') : zc E d 1 22 [(2, 0), (0, 3), (0, a), (0, b), (0, to)] T D Q := by
  obtain ⟨S, U, rfl, hT, hok, h10, hl, hA⟩ := h
  rw [← hl a a0 a1, ← hl b b0 b1] at hQ hl2
  exact k22_3 I (zLT_T hT) hok hd a0 a1 b0 b1 t0 t1 hl2 (fun S' U' v hok' hv hk => hQ _ v hv (zLs_s hT h10 hl hA t0 t1 hok' hk))
theorem l22_4 {R : Type} [Lean.Grind.CommRing R] {p : Int} {inv : Int → Int} {co : R → Nat → Int} {X : R} {C : Int → R} (I : zIf R p inv co X C) {E : List (List Int)} {d : Nat} {Q : Int → zT → zD → Prop} {l : List R} {A : List (Int × R)} {N : Nat} {T : zT} {D : zD} (h : zLs p inv co l A N T D) (hd : 4 ≤ d) {a b to : Int} (a0 : 0 ≤ a) (a1 : a < 10) (b0 : 0 ≤ b) (b1 : b < 10) (t0 : 0 ≤ to) (t1 : to < 10) (hQ : ∀ D' g, zgcd (l.getD a.toNat 0) (l.getD b.toNat 0) g → (g = 0 ∨ zmon co g) → zLs p inv co (l.set to.toNat g) A N T D' → Q ((zlen co g : Int) - 1) T D') : zc E d 1 22 [(2, 0), (0, 4), (0, a), (0, b), (0, to)] T D Q := by
  obtain ⟨S, U, rfl, hT, hok, h10, hl, hA⟩ := h
  rw [← hl a a0 a1, ← hl b b0 b1] at hQ
  exact k22_4 I (zLT_T hT) hok hd a0 a1 b0 b1 t0 t1 (fun S' U' g hok' h1 h2 hk => hQ _ g h1 h2 (zLs_s hT h10 hl hA t0 t1 hok' hk))
theorem l22_5 {R : Type} [Lean.Grind.CommRing R] {p : Int} {inv : Int → Int} {co : R → Nat → Int} {X : R} {C : Int → R} (I : zIf R p inv co X C) {E : List (List Int)} {d : Nat} {Q : Int → zT → zD → Prop} {l : List R} {A : List (Int × R)} {N : Nat} {T : zT} {D : zD} (h : zLs p inv co l A N T D) (hd : 4 ≤ d) {a b to : Int} (a0 : 0 ≤ a) (a1 : a < 10) (b0 : 0 ≤ b) (b1 : b < 10) (t0 : 0 ≤ to) (t1 : to < 10) (hQ : ∀ D' v, zde p co (l.getD a.toNat 0) v → zLs p inv co (l.set to.toNat v) A N T D' → Q ((zlen co v : Int) - 1) T D') : zc E d 1 22 [(2, 0), (0, 5), (0, a), (0, b), (0, to)] T D Q := by
  obtain ⟨S, U, rfl, hT, hok, h10, hl, hA⟩ := h
  rw [← hl a a0 a1] at hQ
  exact k22_5 I (zLT_T hT) hok hd a0 a1 b0 b1 t0 t1 (fun S' U' v hok' h1 hk => hQ _ v h1 (zLs_s hT h10 hl hA t0 t1 hok' hk))
theorem zset1 {R : Type} [Lean.Grind.CommRing R] {l : List R} {S : Int → R} {to : Int} {v : R} (h10 : l.length = 10) (hl : ∀ r : Int, 0 ≤ r → r < 10 → S (4 + 2 * r) = l.getD r.toNat 0) (t0 : 0 ≤ to) (t1 : to < 10) : ∀ r : Int, 0 ≤ r → r < 10 → zup S (4 + 2 * to) v (4 + 2 * r) = (l.set to.toNat v).getD r.toNat 0 := by
  intro r r0 r1
  rw [List.getD_eq_getElem?_getD, List.getElem?_set]
  by_cases e : r = to
  · subst e
    rw [zup_s, if_pos rfl, if_pos (by omega)]
    rfl
  · rw [zup_o _ _ (by omega), if_neg (by omega), hl r r0 r1, List.getD_eq_getElem?_getD]
theorem zLs_s2 {R : Type} [Lean.Grind.CommRing R] {p : Int} {inv : Int → Int} {co : R → Nat → Int} {l : List R} {A : List (Int × R)} {N : Nat} {T : zT} {S S' : Int → R} {U U' : zD} {a b : Int} {u v : R} (hT : zLT N T) (h10 : l.length = 10) (hl : ∀ r : Int, 0 ≤ r → r < 10 → S (4 + 2 * r) = l.getD r.toNat 0) (hA : ∀ a ∈ A, zAr co T U a.1 a.2) (a0 : 0 ≤ a) (a1 : a < 10) (b0 : 0 ≤ b) (b1 : b < 10) (hok : zOK co S' U') (hk : zKp (zup (zup S (4 + 2 * a) u) (4 + 2 * b) v) U S' U') : zLs p inv co ((l.set a.toNat u).set b.toNat v) A N T (zS p inv co S' U') := by
  refine zLs_s (S := zup S (4 + 2 * a) u) hT (by rw [List.length_set, h10]) (fun r r0 r1 => ?_) hA b0 b1 hok hk
  rw [List.getD_eq_getElem?_getD, List.getElem?_set]
  by_cases e : r = a
  · subst e
    rw [zup_s, if_pos rfl, if_pos (by omega)]
    rfl
  · rw [zup_o _ _ (by omega), if_neg (by omega), hl r r0 r1, List.getD_eq_getElem?_getD]
theorem l43 {R : Type} [Lean.Grind.CommRing R] {p : Int} {inv : Int → Int} {co : R → Nat → Int} {X : R} {C : Int → R} (I : zIf R p inv co X C) {E : List (List Int)} {d : Nat} {Q : Int → zT → zD → Prop} {l : List R} {A : List (Int × R)} {N : Nat} {T : zT} {D : zD} (h : zLs p inv co l A N T D) (hd : 4 ≤ d) {a b q r : Int} (a0 : 0 ≤ a) (a1 : a < 10) (b0 : 0 ≤ b) (b1 : b < 10) (q0 : 0 ≤ q) (q1 : q < 10) (r0 : 0 ≤ r) (r1 : r < 10) (hqr : q ≠ r) (hb : l.getD b.toNat 0 ≠ 0) (hQ : ∀ D' qq rr, l.getD a.toNat 0 = qq * (l.getD b.toNat 0) + rr → zlen co rr < zlen co (l.getD b.toNat 0) → zLs p inv co ((l.set q.toNat qq).set r.toNat rr) A N T D' → Q ((zlen co rr : Int) - 1) T D') : zc E d 1 43 [(2, 0), (0, a), (0, b), (0, q), (0, r)] T D Q := by
  obtain ⟨S, U, rfl, hT, hok, h10, hl, hA⟩ := h
  rw [← hl a a0 a1, ← hl b b0 b1] at hQ
  rw [← hl b b0 b1] at hb
  exact k43 I (zLT_T hT) hok hd a0 a1 b0 b1 q0 q1 r0 r1 hqr hb (fun S' U' qq rr hok' h1 h2 hk => hQ _ qq rr h1 h2 (zLs_s2 hT h10 hl hA q0 q1 r0 r1 hok' hk))
theorem l44 {R : Type} [Lean.Grind.CommRing R] {p : Int} {inv : Int → Int} {co : R → Nat → Int} {X : R} {C : Int → R} (I : zIf R p inv co X C) {E : List (List Int)} {d : Nat} {Q : Int → zT → zD → Prop} {l : List R} {A : List (Int × R)} {N : Nat} {T : zT} {D : zD} (h : zLs p inv co l A N T D) (hd : 5 ≤ d) {a b s t : Int} (a0 : 0 ≤ a) (a1 : a < 10) (b0 : 0 ≤ b) (b1 : b < 10) (s0 : 0 ≤ s) (s1 : s < 10) (t0 : 0 ≤ t) (t1 : t < 10) (hst : s ≠ t) (hQ : ∀ D' g u v, zgcd (l.getD a.toNat 0) (l.getD b.toNat 0) g → (g = 0 ∨ zmon co g) → g = u * (l.getD a.toNat 0) + v * (l.getD b.toNat 0) → zlen co u ≤ zlen co (l.getD b.toNat 0) + 1 → zlen co v ≤ zlen co (l.getD a.toNat 0) + 1 → zLs p inv co ((l.set s.toNat u).set t.toNat v) A N T D' → Q ((zlen co g : Int) - 1) T D') : zc E d 1 44 [(2, 0), (0, a), (0, b), (0, s), (0, t)] T D Q := by
  obtain ⟨S, U, rfl, hT, hok, h10, hl, hA⟩ := h
  rw [← hl a a0 a1, ← hl b b0 b1] at hQ
  exact k44 I (zLT_T hT) hok hd a0 a1 b0 b1 s0 s1 t0 t1 hst (fun S' U' g u v hok' h1 h2 h3 h4 h5 hk => hQ _ g u v h1 h2 h3 h4 h5 (zLs_s2 hT h10 hl hA s0 s1 t0 t1 hok' hk))
theorem l51 {R : Type} [Lean.Grind.CommRing R] {p : Int} {inv : Int → Int} {co : R → Nat → Int} {X : R} {C : Int → R} (I : zIf R p inv co X C) {E : List (List Int)} {d : Nat} {Q : Int → zT → zD → Prop} {l : List R} {A : List (Int × R)} {N : Nat} {T : zT} {D : zD} (h : zLs p inv co l A N T D) (hd : 4 ≤ d) {a m to : Int} {n : Nat} (a0 : 0 ≤ a) (a1 : a < 10) (m0 : 0 ≤ m) (m1 : m < 10) (t0 : 0 ≤ to) (t1 : to < 10) (hn : n ≤ 1000000) (hm : l.getD m.toNat 0 ≠ 0) (hQ : ∀ D' r q, (l.getD a.toNat 0) ^ n = q * (l.getD m.toNat 0) + r → zlen co r < zlen co (l.getD m.toNat 0) → zLs p inv co (l.set to.toNat r) A N T D' → Q ((zlen co r : Int) - 1) T D') : zc E d 1 51 [(2, 0), (0, a), (0, (n : Int)), (0, m), (0, to)] T D Q := by
  obtain ⟨S, U, rfl, hT, hok, h10, hl, hA⟩ := h
  rw [← hl a a0 a1, ← hl m m0 m1] at hQ
  rw [← hl m m0 m1] at hm
  exact k51 I (zLT_T hT) hok hd a0 a1 m0 m1 t0 t1 hn hm (fun S' U' r q hok' h1 h2 hk => hQ _ r q h1 h2 (zLs_s hT h10 hl hA t0 t1 hok' hk))
theorem l55 {R : Type} [Lean.Grind.CommRing R] {p : Int} {inv : Int → Int} {co : R → Nat → Int} {X : R} {C : Int → R} (I : zIf R p inv co X C) {E : List (List Int)} {d : Nat} {Q : Int → zT → zD → Prop} {l : List R} {A : List (Int × R)} {N : Nat} {T : zT} {D : zD} (h : zLs p inv co l A N T D) (hd : 1 ≤ d) {r x : Int} (r0 : 0 ≤ r) (r1 : r < 10) (hQ : ∀ v, 0 ≤ v → v < p → zval X C (l.getD r.toNat 0) (Int32.ofInt x).toInt v → Q v T D) : zc E d 1 55 [(2, 0), (0, r), (0, x)] T D Q := by
  obtain ⟨S, U, rfl, hT, hok, h10, hl, hA⟩ := h
  rw [← hl r r0 r1] at hQ
  exact c55 I (zLT_T hT) hok.1 hd r0 r1 hQ
/-- the law's memory with the factors found: n, the factors and how often -/
def zLf {R : Type} [Lean.Grind.CommRing R] (p : Int) (inv : Int → Int) (co : R → Nat → Int) (n : Nat) (F : Nat → R) (t : Nat → Int) (l : List R) (A : List (Int × R)) (N : Nat) (T : zT) (D : zD) : Prop :=
  ∃ S U, D = zS p inv co S U ∧ zLT N T ∧ zOK co S U ∧ l.length = 10 ∧ (∀ r : Int, 0 ≤ r → r < 10 → S (4 + 2 * r) = l.getD r.toNat 0) ∧ (∀ a ∈ A, zAr co T U a.1 a.2) ∧ U 91 4 = (n : Int) ∧ n ≤ 24 ∧ ∀ i : Nat, i < n → S (U 92 (i : Int)) = F i ∧ U 93 (i : Int) = t i
theorem zLf_s {R : Type} [Lean.Grind.CommRing R] {p : Int} {inv : Int → Int} {co : R → Nat → Int} {n : Nat} {F : Nat → R} {t : Nat → Int} {l : List R} {A : List (Int × R)} {N : Nat} {T : zT} {D : zD} (h : zLf p inv co n F t l A N T D) : zLs p inv co l A N T D := by
  obtain ⟨S, U, e, hT, hok, h10, hl, hA, -⟩ := h
  exact ⟨S, U, e, hT, hok, h10, hl, hA⟩
theorem l57 {R : Type} [Lean.Grind.CommRing R] {p : Int} {inv : Int → Int} {co : R → Nat → Int} {X : R} {C : Int → R} (I : zIf R p inv co X C) {E : List (List Int)} {d : Nat} {Q : Int → zT → zD → Prop} {l : List R} {A : List (Int × R)} {N : Nat} {T : zT} {D : zD} (h : zLs p inv co l A N T D) (hd : 7 ≤ d) {a : Int} (a0 : 0 ≤ a) (a1 : a < 10) (ha : l.getD a.toNat 0 ≠ 0) (hQ : ∀ D' (n : Nat) (F : Nat → R) (t : Nat → Int), zLf p inv co n F t l A N T D' → C (inv (co (l.getD a.toNat 0) (zlen co (l.getD a.toNat 0) - 1))) * (l.getD a.toNat 0) = zprd n (fun i => F i ^ (t i).toNat) → (∀ i : Nat, i < n → zGd p co C (F i) (t i)) → Q (n : Int) T D') : zc E d 1 57 [(2, 0), (0, a)] T D Q := by
  obtain ⟨S, U, rfl, hT, hok, h10, hl, hA⟩ := h
  rw [← hl a a0 a1] at hQ ha
  refine k57 I (zLT_T hT) hok hd a0 a1 ha (fun S' U' sz hok' hF h4 h24 he hG => hQ _ sz (fun i => S' (U' 92 (i : Int))) (fun i => U' 93 (i : Int)) ⟨S', U', rfl, hT, hok', h10, fun r r0 r1 => ?_, fun a ha => zAr_u (hA a ha) (fun i => hF.2 _ _ (hA a ha).2.2.1), h4, h24, fun i _ => ⟨rfl, rfl⟩⟩ he hG)
  rw [hF.1 _ (by omega), hl r r0 r1]
theorem l84 {R : Type} [Lean.Grind.CommRing R] {p : Int} {inv : Int → Int} {co : R → Nat → Int} {X : R} {C : Int → R} (I : zIf R p inv co X C) {E : List (List Int)} {d : Nat} {Q : Int → zT → zD → Prop} {l : List R} {A : List (Int × R)} {N : Nat} {T : zT} {D : zD} {n : Nat} {F : Nat → R} {t : Nat → Int} (h : zLf p inv co n F t l A N T D) (hd : 2 ≤ d) {k : Nat} (hk : k < n) (hQ : Q (t k) T D) : zc E d 1 84 [(2, 0), (0, (k : Int)), (0, 1)] T D Q := by
  obtain ⟨S, U, rfl, hT, hok, h10, hl, hA, h4, h24, hF⟩ := h
  rw [← (hF k hk).2] at hQ
  exact k84 I (zLT_T hT) hok.1 hd h4 hk h24 hQ
theorem zLf_k {R : Type} [Lean.Grind.CommRing R] {p : Int} {inv : Int → Int} {co : R → Nat → Int} {n : Nat} {F : Nat → R} {t : Nat → Int} {S S1 S' : Int → R} {U U' : zD} (hok : zOK co S U) (hF : ∀ i : Nat, i < n → S (U 92 (i : Int)) = F i ∧ U 93 (i : Int) = t i) (h24 : n ≤ 24) (h1 : ∀ x : Int, 96 ≤ x → x ≤ 142 → S1 x = S x) (hk : zKp S1 U S' U') : ∀ i : Nat, i < n → S' (U' 92 (i : Int)) = F i ∧ U' 93 (i : Int) = t i := by
  intro i hi
  have e1 : U' 92 (i : Int) = U 92 (i : Int) := hk.2 _ _ (by omega)
  have e2 : U' 93 (i : Int) = U 93 (i : Int) := hk.2 _ _ (by omega)
  have hr := hok.2.2.1 (i : Int) (by omega) (by omega)
  rw [e1, e2, hk.1 _ (by omega), h1 _ hr.1 hr.2.1]
  exact hF i hi
theorem l87 {R : Type} [Lean.Grind.CommRing R] {p : Int} {inv : Int → Int} {co : R → Nat → Int} {X : R} {C : Int → R} (I : zIf R p inv co X C) {E : List (List Int)} {d : Nat} {Q : Int → zT → zD → Prop} {l : List R} {A : List (Int × R)} {N : Nat} {T : zT} {D : zD} {n : Nat} {F : Nat → R} {t : Nat → Int} (h : zLf p inv co n F t l A N T D) (hd : 2 ≤ d) {to : Int} {k : Nat} (hk : k < n) (t0 : 0 ≤ to) (t1 : to < 10) (hQ : ∀ D', zLf p inv co n F t (l.set to.toNat (F k)) A N T D' → Q ((zlen co (F k) : Int) - 1) T D') : zc E d 1 87 [(2, 0), (0, (k : Int)), (0, to)] T D Q := by
  obtain ⟨S, U, rfl, hT, hok, h10, hl, hA, h4, h24, hF⟩ := h
  rw [← (hF k hk).1] at hQ
  refine k87 I (zLT_T hT) hok hd h4 hk h24 t0 t1 (fun hok' => hQ _ ?_)
  exact ⟨_, U, rfl, hT, hok', by rw [List.length_set, h10], zset1 h10 hl t0 t1, hA, h4, h24, zLf_k (p := p) (inv := inv) hok hF h24 (fun x x0 x1 => zup_o _ _ (by omega)) (zKp_r _ _)⟩
theorem l88 {R : Type} [Lean.Grind.CommRing R] {p : Int} {inv : Int → Int} {co : R → Nat → Int} {X : R} {C : Int → R} (I : zIf R p inv co X C) {E : List (List Int)} {d : Nat} {Q : Int → zT → zD → Prop} {l : List R} {A : List (Int × R)} {N : Nat} {T : zT} {D : zD} {n : Nat} {F : Nat → R} {t : Nat → Int} (h : zLf p inv co n F t l A N T D) (hd : 7 ≤ d) {a : Int} (a0 : 0 ≤ a) (a1 : a < 10) {t1 : Int} (hg : zGd p co C (l.getD a.toNat 0) t1) (hQ : ∀ D', zLf p inv co n F t l A N T D' → Q 1 T D') : zc E d 1 88 [(2, 0), (0, a)] T D Q := by
  obtain ⟨S, U, rfl, hT, hok, h10, hl, hA, h4, h24, hF⟩ := h
  rw [← hl a a0 a1] at hg
  obtain ⟨g1, g2, g3, g4, -⟩ := hg
  refine k88 I (zLT_T hT) hok hd a0 a1 g1 g2 g3 g4 (fun S' U' hok' hk => hQ _ ⟨S', U', rfl, hT, hok', h10, fun r r0 r1 => by rw [hk.1 _ (by omega), hl r r0 r1], fun a ha => zAr_u (hA a ha) (fun i => hk.2 _ _ ?_), by rw [hk.2 _ _ (by omega)]; exact h4, h24, zLf_k (p := p) (inv := inv) hok hF h24 (fun _ _ _ => rfl) hk⟩)
  have : (158 : Int) ≤ a.1 := (hA a ha).2.2.1
  omega
theorem l43f {R : Type} [Lean.Grind.CommRing R] {p : Int} {inv : Int → Int} {co : R → Nat → Int} {X : R} {C : Int → R} (I : zIf R p inv co X C) {E : List (List Int)} {d : Nat} {Q : Int → zT → zD → Prop} {l : List R} {A : List (Int × R)} {N : Nat} {T : zT} {D : zD} {n : Nat} {F : Nat → R} {t : Nat → Int} (h : zLf p inv co n F t l A N T D) (hd : 4 ≤ d) {a b q r : Int} (a0 : 0 ≤ a) (a1 : a < 10) (b0 : 0 ≤ b) (b1 : b < 10) (q0 : 0 ≤ q) (q1 : q < 10) (r0 : 0 ≤ r) (r1 : r < 10) (hqr : q ≠ r) (hb : l.getD b.toNat 0 ≠ 0) (hQ : ∀ D' qq rr, l.getD a.toNat 0 = qq * (l.getD b.toNat 0) + rr → zlen co rr < zlen co (l.getD b.toNat 0) → zLf p inv co n F t ((l.set q.toNat qq).set r.toNat rr) A N T D' → Q ((zlen co rr : Int) - 1) T D') : zc E d 1 43 [(2, 0), (0, a), (0, b), (0, q), (0, r)] T D Q := by
  obtain ⟨S, U, rfl, hT, hok, h10, hl, hA, h4, h24, hF⟩ := h
  rw [← hl a a0 a1, ← hl b b0 b1] at hQ
  rw [← hl b b0 b1] at hb
  refine k43 I (zLT_T hT) hok hd a0 a1 b0 b1 q0 q1 r0 r1 hqr hb (fun S' U' qq rr hok' h1 h2 hk => hQ _ qq rr h1 h2 ⟨S', U', rfl, hT, hok', by rw [List.length_set, List.length_set, h10], fun x x0 x1 => by rw [hk.1 _ (by omega)]; exact zset1 (by rw [List.length_set, h10]) (zset1 h10 hl q0 q1) r0 r1 x x0 x1, fun a ha => zAr_u (hA a ha) (fun i => hk.2 _ _ ?_), by rw [hk.2 _ _ (by omega)]; exact h4, h24, zLf_k (p := p) (inv := inv) hok hF h24 (fun x x0 x1 => by rw [zup_o _ _ (by omega), zup_o _ _ (by omega)]) hk⟩)
  have : (158 : Int) ≤ a.1 := (hA a ha).2.2.1
  omega
