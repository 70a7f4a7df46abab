/-! Contracts: Euclid's way. -/
def zEU (U : zD) : Prop := (∀ i : Int, 3 ≤ i → i ≤ 8 → 79 ≤ U 74 i ∧ U 74 i ≤ 89 ∧ U 74 i % 2 = 1) ∧ (∀ i j : Int, 3 ≤ i → i ≤ 8 → 3 ≤ j → j ≤ 8 → i ≠ j → U 74 i ≠ U 74 j)
theorem zEU_q {U : zD} (h : zEU U) (i : Int) (h3 : 3 ≤ i) (h8 : i ≤ 8) : zPq (U 74 i) = true := by
  rw [zPq_iff]
  have := h.1 i h3 h8
  omega
theorem zEU_n {U : zD} (h : zEU U) (i : Int) (h3 : 3 ≤ i) (h8 : i ≤ 8) {x : Int} (hx : ¬ (79 ≤ x ∧ x ≤ 89)) : x ≠ U 74 i := by
  have := h.1 i h3 h8
  omega
theorem zEU_sw {U : zD} (h : zEU U) (i j : Int) (hi : 3 ≤ i) (hi8 : i ≤ 8) (hj : 3 ≤ j) (hj8 : j ≤ 8) (hij : i ≠ j) : zEU (zu (zu U 74 i (U 74 j)) 74 j (U 74 i)) := by
  have e : ∀ k, zu (zu U 74 i (U 74 j)) 74 j (U 74 i) 74 k = if k = j then U 74 i else if k = i then U 74 j else U 74 k := by
    intro k
    unfold zu
    by_cases h1 : k = j
    · rw [if_pos ⟨rfl, h1⟩, if_pos h1]
    · rw [if_neg (by omega), if_neg h1]
      by_cases h2 : k = i
      · rw [if_pos ⟨rfl, h2⟩, if_pos h2]
      · rw [if_neg (by omega), if_neg h2]
  constructor
  · intro k h3 h8
    rw [e]
    split
    · exact h.1 i hi hi8
    · split
      · exact h.1 j hj hj8
      · exact h.1 k h3 h8
  · intro k l h3 h8 l3 l8 hkl
    rw [e, e]
    split
    · split
      · omega
      · split
        · exact h.2 i j hi hi8 hj hj8 hij
        · exact h.2 i l hi hi8 l3 l8 (by omega)
    · split
      · split
        · exact h.2 j i hj hj8 hi hi8 (by omega)
        · split
          · omega
          · exact h.2 j l hj hj8 l3 l8 (by omega)
      · split
        · exact h.2 k i h3 h8 hi hi8 (by omega)
        · split
          · exact h.2 k j h3 h8 hj hj8 (by omega)
          · exact h.2 k l h3 h8 l3 l8 hkl
theorem zEUn {U : zD} (h : zEU U) (i j : Int) (hh : (decide (3 ≤ i) && decide (i ≤ 8) && decide (3 ≤ j) && decide (j ≤ 8) && decide (i ≠ j)) = true := by decide) : U 74 i ≠ U 74 j := by
  simp only [Bool.and_eq_true, decide_eq_true_eq] at hh
  exact h.2 i j (by omega) (by omega) (by omega) (by omega) hh.2
theorem zE_ob {T : zT} (hT : zTT T) : zob T 74 0 9 := zTT_k hT (by decide) (by decide) (by decide +kernel)
theorem zE_k {T : zT} (hT : zTT T) : zk T 74 = 0 := (zE_ob hT).1
section
variable {R : Type} {p : Int} {inv : Int → Int} {co : R → Nat → Int} {S : Int → R} {U : zD}
theorem zSE {i : Int} (h3 : 3 ≤ i) (h8 : i ≤ 8) : zS p inv co S U 74 i = U 74 i := by
  refine zS_mu ?_ (by decide)
  unfold zMu
  simp [h3, h8]
theorem zSEu {i x : Int} (h3 : 3 ≤ i) (h8 : i ≤ 8) : zu (zS p inv co S U) 74 i x = zS p inv co S (zu U 74 i x) := by
  refine zS_zu ?_ (by decide)
  unfold zMu
  simp [h3, h8]
theorem zSE0 : zS p inv co S U 74 0 = 1 := rfl
theorem zSE1 : zS p inv co S U 74 1 = 75 := rfl
theorem zSE2 : zS p inv co S U 74 2 = 77 := rfl
end
theorem c41 {R : Type} [Lean.Grind.CommRing R] {p : Int} {inv : Int → Int} {co : R → Nat → Int} {X : R} {C : Int → R} (I : zIf R p inv co X C) {E : List (List Int)} {d : Nat} {T : zT} {S : Int → R} {U : zD} {Q : Int → zT → zD → Prop} (hT : zTT T) (hS : ∀ a, zlen co (S a) ≤ 25) (hE : zEU U) (hQ : Q (U 74 3) T (zS p inv co S U)) : zc E d 2 41 [(2, 74)] T (zS p inv co S U) Q := by
  have := hE.1 3 (by omega) (by omega)
  refine e41 _ ⟨zE_ob hT, ?_, ?_⟩
  · rw [zSE (by omega) (by omega)]; omega
  · rw [zSE (by omega) (by omega)]; exact hQ
theorem c49 {R : Type} [Lean.Grind.CommRing R] {p : Int} {inv : Int → Int} {co : R → Nat → Int} {X : R} {C : Int → R} (I : zIf R p inv co X C) {E : List (List Int)} {d : Nat} {T : zT} {S : Int → R} {U : zD} {Q : Int → zT → zD → Prop} (hT : zTT T) (hS : ∀ a, zlen co (S a) ≤ 25) (hE : zEU U) (hQ : Q (U 74 5) T (zS p inv co S U)) : zc E d 2 49 [(2, 74)] T (zS p inv co S U) Q := by
  have := hE.1 5 (by omega) (by omega)
  refine e49 _ ⟨zE_ob hT, ?_, ?_⟩
  · rw [zSE (by omega) (by omega)]; omega
  · rw [zSE (by omega) (by omega)]; exact hQ
theorem c50 {R : Type} [Lean.Grind.CommRing R] {p : Int} {inv : Int → Int} {co : R → Nat → Int} {X : R} {C : Int → R} (I : zIf R p inv co X C) {E : List (List Int)} {d : Nat} {T : zT} {S : Int → R} {U : zD} {Q : Int → zT → zD → Prop} (hT : zTT T) (hS : ∀ a, zlen co (S a) ≤ 25) (hE : zEU U) (hQ : Q (U 74 7) T (zS p inv co S U)) : zc E d 2 50 [(2, 74)] T (zS p inv co S U) Q := by
  have := hE.1 7 (by omega) (by omega)
  refine e50 _ ⟨zE_ob hT, ?_, ?_⟩
  · rw [zSE (by omega) (by omega)]; omega
  · rw [zSE (by omega) (by omega)]; exact hQ
theorem c39 {R : Type} [Lean.Grind.CommRing R] {p : Int} {inv : Int → Int} {co : R → Nat → Int} {X : R} {C : Int → R} (I : zIf R p inv co X C) {E : List (List Int)} {d : Nat} {T : zT} {S : Int → R} {U : zD} {Q : Int → zT → zD → Prop} (hT : zTT T) (hS : ∀ a, zlen co (S a) ≤ 25) (hQ : Q 0 T (zS p inv co S (zu (zu U 74 3 (U 74 4)) 74 4 (U 74 3)))) : zc E d 0 39 [(2, 74)] T (zS p inv co S U) Q := by
  refine e39 _ ⟨zE_ob hT, ?_⟩
  rw [zSE (by omega) (by omega), zSE (by omega) (by omega), zSEu (by omega) (by omega), zSEu (by omega) (by omega)]
  exact hQ
theorem c48 {R : Type} [Lean.Grind.CommRing R] {p : Int} {inv : Int → Int} {co : R → Nat → Int} {X : R} {C : Int → R} (I : zIf R p inv co X C) {E : List (List Int)} {d : Nat} {T : zT} {S : Int → R} {U : zD} {Q : Int → zT → zD → Prop} (hT : zTT T) (hS : ∀ a, zlen co (S a) ≤ 25) (hQ : Q 0 T (zS p inv co S (zu (zu (zu (zu U 74 5 (U 74 6)) 74 6 (U 74 5)) 74 7 (U 74 8)) 74 8 (U 74 7)))) : zc E d 0 48 [(2, 74)] T (zS p inv co S U) Q := by
  refine e48 _ ⟨zE_ob hT, ?_⟩
  rw [zSE (by omega) (by omega), zSE (by omega) (by omega), zSEu (by omega) (by omega), zSEu (by omega) (by omega), zSE (by omega) (by omega), zSE (by omega) (by omega), zSEu (by omega) (by omega), zSEu (by omega) (by omega)]
  have e1 : zu (zu U 74 5 (U 74 6)) 74 6 (U 74 5) 74 8 = U 74 8 := rfl
  have e2 : zu (zu U 74 5 (U 74 6)) 74 6 (U 74 5) 74 7 = U 74 7 := rfl
  rw [e1, e2]
  exact hQ
/-- what of the state stays where Euclid goes his way -/
def zEf {R : Type} (S : Int → R) (U : zD) (S' : Int → R) (U' : zD) : Prop := (∀ x, ¬ (75 ≤ x ∧ x ≤ 89) → S' x = S x) ∧ (∀ x i, x ≠ 74 → U' x i = U x i)
theorem zEf_r {R : Type} (S : Int → R) (U : zD) : zEf S U S U := ⟨fun _ _ => rfl, fun _ _ _ => rfl⟩
theorem zEf_t {R : Type} {S S1 S2 : Int → R} {U U1 U2 : zD} (h1 : zEf S U S1 U1) (h2 : zEf S1 U1 S2 U2) : zEf S U S2 U2 :=
  ⟨fun x hx => (h2.1 x hx).trans (h1.1 x hx), fun x i hx => (h2.2 x i hx).trans (h1.2 x i hx)⟩
theorem zEf_u {R : Type} {S S1 : Int → R} {U U1 : zD} (h1 : zEf S U S1 U1) {q : Int} {v : R} (hq : 75 ≤ q ∧ q ≤ 89) : zEf S U (zup S1 q v) U1 :=
  ⟨fun x hx => by rw [zup_o _ _ (by omega)]; exact h1.1 x hx, h1.2⟩
theorem zEf_U {R : Type} {S S1 : Int → R} {U U1 : zD} (h1 : zEf S U S1 U1) {i x : Int} : zEf S U S1 (zu U1 74 i x) :=
  ⟨h1.1, fun y j hy => by unfold zu; rw [if_neg (by omega)]; exact h1.2 y j hy⟩
/-- divided by the leading coefficient -/
theorem zmonic {R : Type} [Lean.Grind.CommRing R] {p : Int} {inv : Int → Int} {co : R → Nat → Int} {X : R} {C : Int → R} (I : zIf R p inv co X C) (a : R) : (C (inv (co a (zlen co a - 1))) * a = 0 ∨ zmon co (C (inv (co a (zlen co a - 1))) * a)) ∧ zdv a (C (inv (co a (zlen co a - 1))) * a) ∧ zdv (C (inv (co a (zlen co a - 1))) * a) a := by
  by_cases h : a = 0
  · have e : C (inv (co a (zlen co a - 1))) * a = 0 := by rw [h]; grind
    rw [e]
    exact ⟨Or.inl rfl, zdv_0 _, by rw [h]; exact zdv_0 _⟩
  · obtain ⟨n, hn⟩ := zL_pos I h
    rw [hn, Nat.add_sub_cancel]
    have hr := zR_rng I a n
    have ht := zL_top I hn
    have e1 := zC_unit I (c := co a n) (by omega) hr.2
    obtain ⟨i0, i1, i2⟩ := zR_inv I (c := co a n) (by omega) hr.2
    refine ⟨Or.inr ⟨n, ?_, ?_⟩, ⟨C (inv (co a n)), by grind⟩, ⟨C (co a n), by grind⟩⟩
    · have hc : C (inv (co a n)) ≠ 0 := by intro h0; rw [h0] at e1; exact zR_1ne0 I (by grind)
      have h1 := zM_len I hc h
      have h2 := zL_C I (inv (co a n))
      obtain ⟨m, hm⟩ := zL_pos I hc
      omega
    · rw [zR_smul I, Int.mul_comm]
      exact i2
theorem zin_t {n : Int} (h0 : 0 ≤ n) (h1 : n ≤ 1000) : zin n := by unfold zin; omega
theorem c33 {R : Type} [Lean.Grind.CommRing R] {p : Int} {inv : Int → Int} {co : R → Nat → Int} {X : R} {C : Int → R} (I : zIf R p inv co X C) {E : List (List Int)} {d : Nat} {T : zT} {S : Int → R} {U : zD} {Q : Int → zT → zD → Prop} (hT : zTT T) (hS : ∀ a, zlen co (S a) ≤ 25) {a b : Int} (hd : 2 ≤ d) (hE : zEU U) (ha : zPq a = true) (hb : zPq b = true) (ha2 : ¬ (75 ≤ a ∧ a ≤ 89)) (hb2 : ¬ (75 ≤ b ∧ b ≤ 89))
    (hQ : ∀ S' U', zEf S U S' U' → (∀ x, zlen co (S' x) ≤ 25) → zEU U' → zgcd (S a) (S b) (S' (U' 74 3)) → (S' (U' 74 3) = 0 ∨ zmon co (S' (U' 74 3))) → Q 0 T (zS p inv co S' U')) : zc E d 0 33 [(2, 74), (2, a), (2, b)] T (zS p inv co S U) Q := by
  have hp := zR_p I
  -- the end
  have fin : ∀ (S' : Int → R) (U' : zD) (turn : Int), zEf S U S' U' → (∀ x, zlen co (S' x) ≤ 25) → zEU U' → S' (U' 74 4) = 0 → (∀ g, zgcd (S' (U' 74 3)) (S' (U' 74 4)) g → zgcd (S a) (S b) g) → zj E d 0 33 57 [(2, 74), (2, a), (2, b), (0, turn)] [] T (zS p inv co S' U') Q := by
    intro S' U' turn hf hS' hE' h0 hg
    have hr := zEU_q hE' 3 (by omega) (by omega)
    refine z33_57 _ _ _ _ ⟨zE_ob hT, by omega, ?_, ?_⟩
    · rw [zSE (by omega) (by omega)]; exact zP_k hT hr
    rw [zSE (by omega) (by omega), zSE0]
    refine c36 I hT hS' hr ⟨zF_k hT, ?_⟩
    have hrg := zR_rng I (S' (U' 74 3)) (zlen co (S' (U' 74 3)) - 1)
    refine c37 I hT hS' hrg.1 hrg.2 ⟨zP_k hT hr, ?_⟩
    have hiv : 0 ≤ inv (co (S' (U' 74 3)) (zlen co (S' (U' 74 3)) - 1)) ∧ inv (co (S' (U' 74 3)) (zlen co (S' (U' 74 3)) - 1)) < p := by
      by_cases hz : co (S' (U' 74 3)) (zlen co (S' (U' 74 3)) - 1) = 0
      · rw [hz, I.2.1.1]; omega
      · have := zR_inv I (c := co (S' (U' 74 3)) (zlen co (S' (U' 74 3)) - 1)) (by omega) hrg.2
        omega
    refine c40 I hT hS' (by omega) hr hiv.1 hiv.2 ?_
    obtain ⟨m1, m2, m3⟩ := zmonic I (S' (U' 74 3))
    refine hQ _ _ (zEf_u hf (by have := hE'.1 3 (by omega) (by omega); omega)) (zup_l hS' (zL_smul I _ (hS' _))) hE' ?_ ?_
    · rw [zup_s]
      refine hg _ ⟨m3, by rw [h0]; exact zdv_0 _, ?_⟩
      obtain ⟨w, hw⟩ := m2
      exact ⟨w, 0, by grind⟩
    · rw [zup_s]; exact m1
  have key : ∀ (n : Nat) (turn : Int) (S' : Int → R) (U' : zD), zlen co (S' (U' 74 4)) ≤ n → 0 ≤ turn → turn + n ≤ 100 → zEf S U S' U' → (∀ x, zlen co (S' x) ≤ 25) → zEU U' → (∀ g, zgcd (S' (U' 74 3)) (S' (U' 74 4)) g → zgcd (S a) (S b) g) → zj E d 0 33 18 [(2, 74), (2, a), (2, b), (0, turn)] [] T (zS p inv co S' U') Q := by
    intro n
    induction n with
    | zero =>
      intro turn S' U' hn ht0 ht hf hS' hE' hg
      have h0 := zL_eq0 I (show zlen co (S' (U' 74 4)) = 0 by omega)
      have hr4 := zEU_q hE' 4 (by omega) (by omega)
      have f1 := fin S' U' turn hf hS' hE' h0 hg
      refine z33_18 _ _ _ _ ⟨zin_t ht0 (by omega), fun h => by omega, fun _ => ⟨zE_ob hT, by omega, ?_, ?_⟩⟩
      · rw [zSE (by omega) (by omega)]; exact zP_k hT hr4
      · rw [zSE (i := 4) (by omega) (by omega)]
        exact c34 I hT hS' hr4 (fun h => absurd h0 h) (fun _ => ⟨zin_c (by decide), fun _ => f1, fun h => absurd h (by decide)⟩)
    | succ n ih =>
      intro turn S' U' hn ht0 ht hf hS' hE' hg
      by_cases h0 : S' (U' 74 4) = 0
      · exact ih turn S' U' (by rw [h0, zL_0 I]; omega) ht0 (by omega) hf hS' hE' hg
      · have hr3 := zEU_q hE' 3 (by omega) (by omega)
        have hr4 := zEU_q hE' 4 (by omega) (by omega)
        have hne := hE'.2 4 3 (by omega) (by omega) (by omega) (by omega) (by omega)
        refine z33_18 _ _ _ _ ⟨zin_t ht0 (by omega), fun h => by omega, fun _ => ⟨zE_ob hT, by omega, ?_, ?_⟩⟩
        · rw [zSE (by omega) (by omega)]; exact zP_k hT hr4
        · rw [zSE (i := 4) (by omega) (by omega)]
          refine c34 I hT hS' hr4 (fun _ => ⟨zin_c (by decide), fun h => absurd rfl h, fun _ => ⟨zE_ob hT, ?_, ?_⟩⟩) (fun h => absurd h h0)
          · rw [zSE (by omega) (by omega)]; exact zP_k hT hr3
          · rw [zSE (i := 3) (by omega) (by omega), zSE (i := 4) (by omega) (by omega)]
            refine c35n I hT hS' (by omega) hr3 hr4 hne h0 (fun qq r e1 e2 => ⟨zE_k hT, ?_⟩)
            have hS2 := zup_l hS' (q := U' 74 3) (v := r) (by have := hS' (U' 74 4); omega)
            refine c39 I hT hS2 ?_
            refine ih (turn + 1) _ _ ?_ (by omega) (by omega) (zEf_U (zEf_U (zEf_u hf (by have := hE'.1 3 (by omega) (by omega); omega)))) hS2 (zEU_sw hE' 3 4 (by omega) (by omega) (by omega) (by omega) (by omega)) ?_
            · have e3 : zu (zu U' 74 3 (U' 74 4)) 74 4 (U' 74 3) 74 4 = U' 74 3 := rfl
              rw [e3, zup_s]
              omega
            · have e3 : zu (zu U' 74 3 (U' 74 4)) 74 4 (U' 74 3) 74 4 = U' 74 3 := rfl
              have e4 : zu (zu U' 74 3 (U' 74 4)) 74 4 (U' 74 3) 74 3 = U' 74 4 := rfl
              rw [e3, e4, zup_s, zup_o _ _ hne]
              intro g h
              exact hg g (zgcd_step e1 h)
  have hr3 := zEU_q hE 3 (by omega) (by omega)
  have hr4 := zEU_q hE 4 (by omega) (by omega)
  have hne := hE.2 4 3 (by omega) (by omega) (by omega) (by omega) (by omega)
  have g3 := hE.1 3 (by omega) (by omega)
  have g4 := hE.1 4 (by omega) (by omega)
  refine e33 _ _ _ ⟨zE_ob hT, by omega, ?_, ?_⟩
  · rw [zSE (by omega) (by omega)]; exact zP_k hT hr3
  · rw [zSE (by omega) (by omega)]
    refine c25 I hT hS hr3 ha (by omega) ⟨zE_ob hT, ?_, ?_⟩
    · rw [zSE (by omega) (by omega)]; exact zP_k hT hr4
    · rw [zSE (by omega) (by omega)]
      have hS1 := zup_l hS (q := U 74 3) (hS a)
      refine c25 I hT hS1 hr4 hb (by omega) ?_
      rw [zup_o (q := U 74 3) (a := b) _ _ (by omega)]
      refine key 25 0 _ U (by rw [zup_s]; exact hS b) (by omega) (by omega) (zEf_u (zEf_u (zEf_r S U) (by omega)) (by omega)) (zup_l hS1 (hS b)) hE ?_
      rw [zup_s, zup_o _ _ (Ne.symm hne), zup_s]
      exact fun g h => h
theorem c47 {R : Type} [Lean.Grind.CommRing R] {p : Int} {inv : Int → Int} {co : R → Nat → Int} {X : R} {C : Int → R} (I : zIf R p inv co X C) {E : List (List Int)} {d : Nat} {T : zT} {S : Int → R} {U : zD} {Q : Int → zT → zD → Prop} (hT : zTT T) (hS : ∀ a, zlen co (S a) ≤ 25) {x y : Int} (hd : 2 ≤ d) (hx : zPq x = true) (hy : zPq y = true) (hx1 : x ≠ 77) (hx2 : x ≠ 75) (hy1 : y ≠ 77) (hl : S 75 ≠ 0 → S y ≠ 0 → zlen co (S 75) + zlen co (S y) ≤ 26) (hQ : ∀ w, zlen co w ≤ 25 → Q 0 T (zS p inv co (zup (zup S 77 w) x (S x - S 75 * S y)) U)) : zc E d 0 47 [(2, 74), (2, x), (2, y)] T (zS p inv co S U) Q := by
  have h75 : zPq 75 = true := by decide
  have h77 : zPq 77 = true := by decide
  refine e47 _ _ _ ⟨zE_ob hT, by omega, ?_, ?_⟩
  · rw [zSE2]; exact zP_k hT h77
  · rw [zSE2, zSE1]
    have hlen : zlen co (S 75 * S y) ≤ 25 := by
      by_cases h1 : S 75 = 0
      · rw [h1]
        have : (0 : R) * S y = 0 := by grind
        rw [this, zL_0 I]; omega
      · by_cases h2 : S y = 0
        · rw [h2]
          have : S 75 * (0 : R) = 0 := by grind
          rw [this, zL_0 I]; omega
        · have := zM_len I h1 h2
          have := hl h1 h2
          omega
    have hS1 := zup_l hS (q := 77) hlen
    refine c29 I hT hS (by omega) h77 h75 hy (by decide) hy1 hl ⟨zE_ob hT, zP_k hT hx, ?_⟩
    rw [zSE2]
    refine c27 I hT hS1 (by omega) hx h77 (Ne.symm hx1) ?_
    rw [zup_o _ _ hx1, zup_s]
    exact hQ _ hlen
