/-! Contract: Euclid's way with what makes the divisor. -/
theorem zq_len {R : Type} [Lean.Grind.CommRing R] {p : Int} {inv : Int → Int} {co : R → Nat → Int} {X : R} {C : Int → R} (I : zIf R p inv co X C) {r r' q m : R} (e : r = q * r' + m) (h : zlen co m < zlen co r') : (q ≠ 0 → zlen co q + zlen co r' ≤ zlen co r + 1) ∧ zlen co m ≤ zlen co r := by
  by_cases hq : q = 0
  · refine ⟨fun h => absurd hq h, ?_⟩
    have : r = m := by rw [e, hq]; grind
    rw [this]
    exact Nat.le_refl _
  · have hr : r' ≠ 0 := by rintro rfl; rw [zL_0 I] at h; omega
    have h1 := zM_len I hq hr
    obtain ⟨n, hn⟩ := zL_pos I hq
    have e2 : q * r' = r - m := by rw [e]; grind
    have h2 : zlen co r' ≤ zlen co r := by
      by_cases h3 : zlen co r' ≤ zlen co r
      · exact h3
      · have := zL_sub I (a := r) (b := m) (n := zlen co r' - 1) (by omega) (by omega)
        rw [← e2] at this
        omega
    have h3 := zL_sub I (a := r) (b := m) (n := zlen co r) (by omega) (by omega)
    rw [← e2] at h3
    exact ⟨fun _ => by omega, by omega⟩
/-- the length of what is taken off -/
theorem zt_len {R : Type} [Lean.Grind.CommRing R] {p : Int} {inv : Int → Int} {co : R → Nat → Int} {X : R} {C : Int → R} (I : zIf R p inv co X C) {s s' q r r' : R} {B : Nat} (h1 : s' ≠ 0 → zlen co s' + zlen co r ≤ B + 1) (h2 : s ≠ 0 → zlen co s + zlen co r' ≤ B + 1) (h3 : q ≠ 0 → zlen co q + zlen co r' ≤ zlen co r + 1) (hr : r' ≠ 0) : s - q * s' ≠ 0 → zlen co (s - q * s') + zlen co r' ≤ B + 1 := by
  intro hne
  obtain ⟨n, hn⟩ := zL_pos I hr
  have a1 : zlen co s ≤ B + 1 - zlen co r' := by
    by_cases hs : s = 0
    · rw [hs, zL_0 I]; omega
    · have := h2 hs; omega
  have a2 : zlen co (q * s') ≤ B + 1 - zlen co r' := by
    by_cases hq : q = 0
    · have : q * s' = 0 := by rw [hq]; grind
      rw [this, zL_0 I]; omega
    · by_cases hs : s' = 0
      · have : q * s' = 0 := by rw [hs]; grind
        rw [this, zL_0 I]; omega
      · have := zM_len I hq hs
        have := h1 hs
        have := h3 hq
        omega
  have a3 := zL_sub I a1 a2
  by_cases hB : zlen co r' ≤ B + 1
  · omega
  · exfalso
    have := zL_eq0 I (a := s - q * s') (by omega)
    exact hne this
theorem c45 {R : Type} [Lean.Grind.CommRing R] {p : Int} {inv : Int → Int} {co : R → Nat → Int} {X : R} {C : Int → R} (I : zIf R p inv co X C) {E : List (List Int)} {d : Nat} {T : zT} {S : Int → R} {U : zD} {Q : Int → zT → zD → Prop} (hT : zTT T) (hS : ∀ a, zlen co (S a) ≤ 25) {a b : Int} (hd : 3 ≤ d) (hE : zEU U) (ha : zPq a = true) (hb : zPq b = true) (ha2 : ¬ (75 ≤ a ∧ a ≤ 89)) (hb2 : ¬ (75 ≤ b ∧ b ≤ 89))
    (hQ : ∀ S' U', zEf S U S' U' → (∀ x, zlen co (S' x) ≤ 25) → zEU U' → zgcd (S a) (S b) (S' (U' 74 3)) → (S' (U' 74 3) = 0 ∨ zmon co (S' (U' 74 3))) → S' (U' 74 3) = S' (U' 74 5) * S a + S' (U' 74 7) * S b → zlen co (S' (U' 74 5)) ≤ zlen co (S b) + 1 → zlen co (S' (U' 74 7)) ≤ zlen co (S a) + 1 → Q 0 T (zS p inv co S' U')) : zc E d 0 45 [(2, 74), (2, a), (2, b)] T (zS p inv co S U) Q := by
  have hp := zR_p I
  have h75 : zPq 75 = true := by decide
  have h77 : zPq 77 = true := by decide
  have hla := hS a
  have hlb := hS b
  -- the end
  have fin : ∀ (S' : Int → R) (U' : zD) (turn : Int), zEf S U S' U' → (∀ x, zlen co (S' x) ≤ 25) → zEU U' → S' (U' 74 4) = 0 → (∀ g, zgcd (S' (U' 74 3)) (S' (U' 74 4)) g → zgcd (S a) (S b) g) → S' (U' 74 3) = S' (U' 74 5) * S a + S' (U' 74 7) * S b → (S' (U' 74 5) ≠ 0 → zlen co (S' (U' 74 5)) ≤ zlen co (S b) + 1) → (S' (U' 74 7) ≠ 0 → zlen co (S' (U' 74 7)) ≤ zlen co (S a) + 1) → zj E d 0 45 125 [(2, 74), (2, a), (2, b), (0, turn)] [] T (zS p inv co S' U') Q := by
    intro S' U' turn hf hS' hE' h0 hg he hs ht
    have hr := zEU_q hE' 3 (by omega) (by omega)
    have hr5 := zEU_q hE' 5 (by omega) (by omega)
    have hr7 := zEU_q hE' 7 (by omega) (by omega)
    have b3 := hE'.1 3 (by omega) (by omega)
    have b5 := hE'.1 5 (by omega) (by omega)
    have b7 := hE'.1 7 (by omega) (by omega)
    have hs' : zlen co (S' (U' 74 5)) ≤ zlen co (S b) + 1 := by
      by_cases h : S' (U' 74 5) = 0
      · rw [h, zL_0 I]; omega
      · exact hs h
    have ht' : zlen co (S' (U' 74 7)) ≤ zlen co (S a) + 1 := by
      by_cases h : S' (U' 74 7) = 0
      · rw [h, zL_0 I]; omega
      · exact ht h
    obtain ⟨m1, m2, m3⟩ := zmonic I (S' (U' 74 3))
    have hgg : zgcd (S a) (S b) (C (inv (co (S' (U' 74 3)) (zlen co (S' (U' 74 3)) - 1))) * S' (U' 74 3)) := by
      refine hg _ ⟨m3, by rw [h0]; exact zdv_0 _, ?_⟩
      obtain ⟨w, hw⟩ := m2
      exact ⟨w, 0, by grind⟩
    refine z45_125 _ _ _ _ ⟨zE_ob hT, by omega, ?_, ?_⟩
    · rw [zSE (by omega) (by omega)]; exact zP_k hT hr
    rw [zSE (i := 3) (by omega) (by omega)]
    refine c34 I hT hS' hr (fun hn0 => ⟨zin_c (by decide), fun h => absurd rfl h, fun _ => ⟨zE_ob hT, ?_, ?_⟩⟩) (fun hz => ⟨zin_c (by decide), fun _ => ?_, fun h => absurd h (by decide)⟩)
    · rw [zSE (by omega) (by omega)]; exact zP_k hT hr
    · rw [zSE (i := 3) (by omega) (by omega)]
      refine c36 I hT hS' hr ⟨by rw [zSE0]; exact zF_k hT, ?_⟩
      rw [zSE0]
      have hrg := zR_rng I (S' (U' 74 3)) (zlen co (S' (U' 74 3)) - 1)
      refine c37 I hT hS' hrg.1 hrg.2 ⟨zE_ob hT, ?_, ?_⟩
      · rw [zSE (by omega) (by omega)]; exact zP_k hT hr
      rw [zSE (i := 3) (by omega) (by omega)]
      have hiv : 0 ≤ inv (co (S' (U' 74 3)) (zlen co (S' (U' 74 3)) - 1)) ∧ inv (co (S' (U' 74 3)) (zlen co (S' (U' 74 3)) - 1)) < p := by
        by_cases hz : co (S' (U' 74 3)) (zlen co (S' (U' 74 3)) - 1) = 0
        · rw [hz, I.2.1.1]; omega
        · have := zR_inv I (c := co (S' (U' 74 3)) (zlen co (S' (U' 74 3)) - 1)) (by omega) hrg.2
          omega
      refine c40 I hT hS' (by omega) hr hiv.1 hiv.2 ⟨zE_ob hT, ?_, ?_⟩
      · rw [zSE (by omega) (by omega)]; exact zP_k hT hr5
      have hS1 := zup_l hS' (q := U' 74 3) (zL_smul I (inv (co (S' (U' 74 3)) (zlen co (S' (U' 74 3)) - 1))) (hS' (U' 74 3)))
      rw [zSE (i := 5) (by omega) (by omega)]
      refine c40 I hT hS1 (by omega) hr5 hiv.1 hiv.2 ⟨zE_ob hT, ?_, ?_⟩
      · rw [zSE (by omega) (by omega)]; exact zP_k hT hr7
      rw [zup_o _ _ (zEUn hE' 5 3)]
      have hS2 := zup_l hS1 (q := U' 74 5) (zL_smul I (inv (co (S' (U' 74 3)) (zlen co (S' (U' 74 3)) - 1))) (hS' (U' 74 5)))
      rw [zSE (i := 7) (by omega) (by omega)]
      refine c40 I hT hS2 (by omega) hr7 hiv.1 hiv.2 ?_
      rw [zup_o _ _ (zEUn hE' 7 5), zup_o _ _ (zEUn hE' 7 3)]
      have hS3 := zup_l hS2 (q := U' 74 7) (zL_smul I (inv (co (S' (U' 74 3)) (zlen co (S' (U' 74 3)) - 1))) (hS' (U' 74 7)))
      refine hQ _ _ (zEf_u (zEf_u (zEf_u hf (by omega)) (by omega)) (by omega)) hS3 hE' ?_ ?_ ?_ ?_ ?_
      · rw [zup_o _ _ (Ne.symm (zEUn hE' 7 3)), zup_o _ _ (Ne.symm (zEUn hE' 5 3)), zup_s]; exact hgg
      · rw [zup_o _ _ (Ne.symm (zEUn hE' 7 3)), zup_o _ _ (Ne.symm (zEUn hE' 5 3)), zup_s]; exact m1
      · rw [zup_o _ _ (Ne.symm (zEUn hE' 7 3)), zup_o _ _ (Ne.symm (zEUn hE' 5 3)), zup_s, zup_o _ _ (Ne.symm (zEUn hE' 7 5)), zup_s, zup_s]
        grind
      · rw [zup_o _ _ (Ne.symm (zEUn hE' 7 5)), zup_s]; exact zL_smul I _ hs'
      · rw [zup_s]; exact zL_smul I _ ht'
    · have hz2 : C (inv (co (S' (U' 74 3)) (zlen co (S' (U' 74 3)) - 1))) * S' (U' 74 3) = S' (U' 74 3) := by rw [hz]; grind
      rw [hz2] at hgg
      exact hQ S' U' hf hS' hE' hgg (Or.inl hz) he hs' ht'
  have key : ∀ (n : Nat) (turn : Int) (S' : Int → R) (U' : zD), zlen co (S' (U' 74 4)) ≤ n → 0 ≤ turn → turn + n ≤ 100 → zEf S U S' U' → (∀ x, zlen co (S' x) ≤ 25) → zEU U' → (∀ g, zgcd (S' (U' 74 3)) (S' (U' 74 4)) g → zgcd (S a) (S b) g) → S' (U' 74 3) = S' (U' 74 5) * S a + S' (U' 74 7) * S b → S' (U' 74 4) = S' (U' 74 6) * S a + S' (U' 74 8) * S b →
      (S' (U' 74 6) ≠ 0 → zlen co (S' (U' 74 6)) + zlen co (S' (U' 74 3)) ≤ zlen co (S b) + 1) → (S' (U' 74 5) ≠ 0 → zlen co (S' (U' 74 5)) + zlen co (S' (U' 74 4)) ≤ zlen co (S b) + 1) →
      (S' (U' 74 8) ≠ 0 → zlen co (S' (U' 74 8)) + zlen co (S' (U' 74 3)) ≤ zlen co (S a) + 1) → (S' (U' 74 7) ≠ 0 → zlen co (S' (U' 74 7)) + zlen co (S' (U' 74 4)) ≤ zlen co (S a) + 1) →
      zj E d 0 45 48 [(2, 74), (2, a), (2, b), (0, turn)] [] T (zS p inv co S' U') Q := by
    intro n
    induction n with
    | zero =>
      intro turn S' U' hn ht0 ht hf hS' hE' hg he1 he2 l1 l2 l3 l4
      have h0 := zL_eq0 I (show zlen co (S' (U' 74 4)) = 0 by omega)
      have hr4 := zEU_q hE' 4 (by omega) (by omega)
      have f1 := fin S' U' turn hf hS' hE' h0 hg he1 (fun h => by have := l2 h; omega) (fun h => by have := l4 h; omega)
      refine z45_48 _ _ _ _ ⟨zin_t ht0 (by omega), fun h => by omega, fun _ => ⟨zE_ob hT, by omega, ?_, ?_⟩⟩
      · rw [zSE (by omega) (by omega)]; exact zP_k hT hr4
      · rw [zSE (i := 4) (by omega) (by omega)]
        exact c34 I hT hS' hr4 (fun h => absurd h0 h) (fun _ => ⟨zin_c (by decide), fun _ => f1, fun h => absurd h (by decide)⟩)
    | succ n ih =>
      intro turn S' U' hn ht0 ht hf hS' hE' hg he1 he2 l1 l2 l3 l4
      by_cases h0 : S' (U' 74 4) = 0
      · exact ih turn S' U' (by rw [h0, zL_0 I]; omega) ht0 (by omega) hf hS' hE' hg he1 he2 l1 l2 l3 l4
      · have q3 := zEU_q hE' 3 (by omega) (by omega)
        have q4 := zEU_q hE' 4 (by omega) (by omega)
        have q5 := zEU_q hE' 5 (by omega) (by omega)
        have q6 := zEU_q hE' 6 (by omega) (by omega)
        have q7 := zEU_q hE' 7 (by omega) (by omega)
        have q8 := zEU_q hE' 8 (by omega) (by omega)
        have b3 := hE'.1 3 (by omega) (by omega)
        have b4 := hE'.1 4 (by omega) (by omega)
        have b5 := hE'.1 5 (by omega) (by omega)
        have b6 := hE'.1 6 (by omega) (by omega)
        have b7 := hE'.1 7 (by omega) (by omega)
        have b8 := hE'.1 8 (by omega) (by omega)
        have i75 : ∀ i, 3 ≤ i → i ≤ 8 → U' 74 i ≠ 75 := fun i h3 h8 => by have := hE'.1 i h3 h8; omega
        have i77 : ∀ i, 3 ≤ i → i ≤ 8 → U' 74 i ≠ 77 := fun i h3 h8 => by have := hE'.1 i h3 h8; omega
        refine z45_48 _ _ _ _ ⟨zin_t ht0 (by omega), fun h => by omega, fun _ => ⟨zE_ob hT, by omega, ?_, ?_⟩⟩
        · rw [zSE (by omega) (by omega)]; exact zP_k hT q4
        · rw [zSE (i := 4) (by omega) (by omega)]
          refine c34 I hT hS' q4 (fun _ => ⟨zin_c (by decide), fun h => absurd rfl h, fun _ => ⟨zE_ob hT, ?_, ?_⟩⟩) (fun h => absurd h h0)
          · rw [zSE1]; exact zP_k hT h75
          · rw [zSE1]
            have hS1 := zup_l hS' (q := 75) (v := (0 : R)) (by rw [zL_0 I]; omega)
            have e13 : zup S' 75 (0 : R) (U' 74 3) = S' (U' 74 3) := zup_o _ _ (i75 3 (by omega) (by omega))
            have e14 : zup S' 75 (0 : R) (U' 74 4) = S' (U' 74 4) := zup_o _ _ (i75 4 (by omega) (by omega))
            refine c13 I hT hS' h75 ⟨zE_ob hT, ?_, ?_⟩
            · rw [zSE (by omega) (by omega)]; exact zP_k hT q3
            rw [zSE (i := 3) (by omega) (by omega), zSE (i := 4) (by omega) (by omega), zSE1]
            refine c35q I hT hS1 (by omega) q3 q4 h75 (zEUn hE' 4 3) (Ne.symm (i75 3 (by omega) (by omega))) (Ne.symm (i75 4 (by omega) (by omega))) (by rw [e14]; exact h0) (zup_s _ _ _) (fun qq r er1 er2 hqq => ⟨zE_ob hT, zE_k hT, ?_⟩)
            rw [e13, e14] at er1
            rw [e14] at er2
            rw [zup_up]
            obtain ⟨k1, k2⟩ := zq_len I er1 er2
            have hS2 := zup_l (zup_l hS' (q := 75) hqq) (q := U' 74 3) (v := r) (by have := hS' (U' 74 4); omega)
            -- values there
            have v5 : zup (zup S' 75 qq) (U' 74 3) r (U' 74 5) = S' (U' 74 5) := by rw [zup_o _ _ (zEUn hE' 5 3), zup_o _ _ (i75 5 (by omega) (by omega))]
            have v6 : zup (zup S' 75 qq) (U' 74 3) r (U' 74 6) = S' (U' 74 6) := by rw [zup_o _ _ (zEUn hE' 6 3), zup_o _ _ (i75 6 (by omega) (by omega))]
            have v7 : zup (zup S' 75 qq) (U' 74 3) r (U' 74 7) = S' (U' 74 7) := by rw [zup_o _ _ (zEUn hE' 7 3), zup_o _ _ (i75 7 (by omega) (by omega))]
            have v8 : zup (zup S' 75 qq) (U' 74 3) r (U' 74 8) = S' (U' 74 8) := by rw [zup_o _ _ (zEUn hE' 8 3), zup_o _ _ (i75 8 (by omega) (by omega))]
            have vq : zup (zup S' 75 qq) (U' 74 3) r 75 = qq := by rw [zup_o _ _ (Ne.symm (i75 3 (by omega) (by omega))), zup_s]
            have pr1 : qq ≠ 0 → S' (U' 74 6) ≠ 0 → zlen co qq + zlen co (S' (U' 74 6)) ≤ 26 := by
              intro x1 x2
              have y1 := k1 x1
              have y2 := l1 x2
              obtain ⟨n4, y3⟩ := zL_pos I h0
              omega
            have pr2 : qq ≠ 0 → S' (U' 74 8) ≠ 0 → zlen co qq + zlen co (S' (U' 74 8)) ≤ 26 := by
              intro x1 x2
              have y1 := k1 x1
              have y2 := l3 x2
              obtain ⟨n4, y3⟩ := zL_pos I h0
              omega
            have s1 := zt_len I l1 l2 k1 h0
            have s2 := zt_len I l3 l4 k1 h0
            obtain ⟨n4, y3⟩ := zL_pos I h0
            have hsl : zlen co (S' (U' 74 5) - qq * S' (U' 74 6)) ≤ 25 := by
              by_cases h : S' (U' 74 5) - qq * S' (U' 74 6) = 0
              · rw [h, zL_0 I]; omega
              · have := s1 h; omega
            have htl : zlen co (S' (U' 74 7) - qq * S' (U' 74 8)) ≤ 25 := by
              by_cases h : S' (U' 74 7) - qq * S' (U' 74 8) = 0
              · rw [h, zL_0 I]; omega
              · have := s2 h; omega
            rw [zSE (i := 5) (by omega) (by omega), zSE (i := 6) (by omega) (by omega)]
            refine c47 I hT hS2 (by omega) q5 q6 (i77 5 (by omega) (by omega)) (i75 5 (by omega) (by omega)) (i77 6 (by omega) (by omega)) (by rw [vq, v6]; exact pr1) (fun w hw => ⟨zE_ob hT, zE_k hT, ?_⟩)
            rw [vq, v5, v6]
            have hS3 := zup_l (zup_l hS2 (q := 77) hw) (q := U' 74 5) hsl
            generalize hS3d : zup (zup (zup (zup S' 75 qq) (U' 74 3) r) 77 w) (U' 74 5) (S' (U' 74 5) - qq * S' (U' 74 6)) = S3 at hS3 ⊢
            have w3 : S3 (U' 74 3) = r := by rw [← hS3d, zup_o _ _ (zEUn hE' 3 5), zup_o _ _ (i77 3 (by omega) (by omega)), zup_s]
            have w4 : S3 (U' 74 4) = S' (U' 74 4) := by rw [← hS3d, zup_o _ _ (zEUn hE' 4 5), zup_o _ _ (i77 4 (by omega) (by omega)), zup_o _ _ (zEUn hE' 4 3), zup_o _ _ (i75 4 (by omega) (by omega))]
            have w5 : S3 (U' 74 5) = S' (U' 74 5) - qq * S' (U' 74 6) := by rw [← hS3d, zup_s]
            have w6 : S3 (U' 74 6) = S' (U' 74 6) := by rw [← hS3d, zup_o _ _ (zEUn hE' 6 5), zup_o _ _ (i77 6 (by omega) (by omega)), v6]
            have w7 : S3 (U' 74 7) = S' (U' 74 7) := by rw [← hS3d, zup_o _ _ (zEUn hE' 7 5), zup_o _ _ (i77 7 (by omega) (by omega)), v7]
            have w8 : S3 (U' 74 8) = S' (U' 74 8) := by rw [← hS3d, zup_o _ _ (zEUn hE' 8 5), zup_o _ _ (i77 8 (by omega) (by omega)), v8]
            have wq : S3 75 = qq := by rw [← hS3d, zup_o _ _ (Ne.symm (i75 5 (by omega) (by omega))), zup_o _ _ (by decide), vq]
            have hf3 : zEf S U S3 U' := by
              rw [← hS3d]
              exact zEf_u (zEf_u (zEf_u (zEf_u hf (by omega)) (by omega)) (by omega)) (by omega)
            rw [zSE (i := 7) (by omega) (by omega), zSE (i := 8) (by omega) (by omega)]
            refine c47 I hT hS3 (by omega) q7 q8 (i77 7 (by omega) (by omega)) (i75 7 (by omega) (by omega)) (i77 8 (by omega) (by omega)) (by rw [wq, w8]; exact pr2) (fun w' hw' => ⟨zE_k hT, ?_⟩)
            rw [wq, w7, w8]
            have hS4 := zup_l (zup_l hS3 (q := 77) hw') (q := U' 74 7) htl
            have hf4 : zEf S U (zup (zup S3 77 w') (U' 74 7) (S' (U' 74 7) - qq * S' (U' 74 8))) U' := zEf_u (zEf_u hf3 (by omega)) (by omega)
            have x3 : zup (zup S3 77 w') (U' 74 7) (S' (U' 74 7) - qq * S' (U' 74 8)) (U' 74 3) = r := by rw [zup_o _ _ (zEUn hE' 3 7), zup_o _ _ (i77 3 (by omega) (by omega)), w3]
            have x4 : zup (zup S3 77 w') (U' 74 7) (S' (U' 74 7) - qq * S' (U' 74 8)) (U' 74 4) = S' (U' 74 4) := by rw [zup_o _ _ (zEUn hE' 4 7), zup_o _ _ (i77 4 (by omega) (by omega)), w4]
            have x5 : zup (zup S3 77 w') (U' 74 7) (S' (U' 74 7) - qq * S' (U' 74 8)) (U' 74 5) = S' (U' 74 5) - qq * S' (U' 74 6) := by rw [zup_o _ _ (zEUn hE' 5 7), zup_o _ _ (i77 5 (by omega) (by omega)), w5]
            have x6 : zup (zup S3 77 w') (U' 74 7) (S' (U' 74 7) - qq * S' (U' 74 8)) (U' 74 6) = S' (U' 74 6) := by rw [zup_o _ _ (zEUn hE' 6 7), zup_o _ _ (i77 6 (by omega) (by omega)), w6]
            have x7 : zup (zup S3 77 w') (U' 74 7) (S' (U' 74 7) - qq * S' (U' 74 8)) (U' 74 7) = S' (U' 74 7) - qq * S' (U' 74 8) := zup_s _ _ _
            have x8 : zup (zup S3 77 w') (U' 74 7) (S' (U' 74 7) - qq * S' (U' 74 8)) (U' 74 8) = S' (U' 74 8) := by rw [zup_o _ _ (zEUn hE' 8 7), zup_o _ _ (i77 8 (by omega) (by omega)), w8]
            generalize hS4d : zup (zup S3 77 w') (U' 74 7) (S' (U' 74 7) - qq * S' (U' 74 8)) = S4 at hS4 hf4 x3 x4 x5 x6 x7 x8 ⊢
            refine c39 I hT hS4 ⟨zE_k hT, ?_⟩
            refine c48 I hT hS4 ?_
            have hE1 := zEU_sw hE' 3 4 (by omega) (by omega) (by omega) (by omega) (by omega)
            have hE2 := zEU_sw hE1 5 6 (by omega) (by omega) (by omega) (by omega) (by omega)
            have hE3 := zEU_sw hE2 7 8 (by omega) (by omega) (by omega) (by omega) (by omega)
            refine ih (turn + 1) S4 _ ?_ (by omega) (by omega) (zEf_U (zEf_U (zEf_U (zEf_U (zEf_U (zEf_U hf4)))))) hS4 hE3 ?_ ?_ ?_ ?_ ?_ ?_ ?_
            · show zlen co (S4 (U' 74 3)) ≤ n
              rw [x3]; omega
            · show ∀ g, zgcd (S4 (U' 74 4)) (S4 (U' 74 3)) g → _
              rw [x3, x4]
              intro g h
              exact hg g (zgcd_step er1 h)
            · show S4 (U' 74 4) = S4 (U' 74 6) * S a + S4 (U' 74 8) * S b
              rw [x4, x6, x8]; exact he2
            · show S4 (U' 74 3) = S4 (U' 74 5) * S a + S4 (U' 74 7) * S b
              rw [x3, x5, x7]
              rw [he1, he2] at er1
              grind
            · show S4 (U' 74 5) ≠ 0 → zlen co (S4 (U' 74 5)) + zlen co (S4 (U' 74 4)) ≤ _
              rw [x4, x5]; exact s1
            · show S4 (U' 74 6) ≠ 0 → zlen co (S4 (U' 74 6)) + zlen co (S4 (U' 74 3)) ≤ _
              rw [x3, x6]
              intro h
              have := l1 h
              omega
            · show S4 (U' 74 7) ≠ 0 → zlen co (S4 (U' 74 7)) + zlen co (S4 (U' 74 4)) ≤ _
              rw [x4, x7]; exact s2
            · show S4 (U' 74 8) ≠ 0 → zlen co (S4 (U' 74 8)) + zlen co (S4 (U' 74 3)) ≤ _
              rw [x3, x8]
              intro h
              have := l3 h
              omega
  have q3 := zEU_q hE 3 (by omega) (by omega)
  have q4 := zEU_q hE 4 (by omega) (by omega)
  have q5 := zEU_q hE 5 (by omega) (by omega)
  have q6 := zEU_q hE 6 (by omega) (by omega)
  have q7 := zEU_q hE 7 (by omega) (by omega)
  have q8 := zEU_q hE 8 (by omega) (by omega)
  have b3 := hE.1 3 (by omega) (by omega)
  have b4 := hE.1 4 (by omega) (by omega)
  have b5 := hE.1 5 (by omega) (by omega)
  have b6 := hE.1 6 (by omega) (by omega)
  have b7 := hE.1 7 (by omega) (by omega)
  have b8 := hE.1 8 (by omega) (by omega)
  have l0 : zlen co (0 : R) ≤ 25 := by rw [zL_0 I]; omega
  have l1 : zlen co (C 1) ≤ 25 := by have := zL_C I 1; omega
  have hS1 := zup_l hS (q := U 74 3) (hS a)
  have hS2 := zup_l hS1 (q := U 74 5) l1
  have hS3 := zup_l hS2 (q := U 74 7) l0
  have hS4 := zup_l hS3 (q := U 74 4) (hS b)
  have hS5 := zup_l hS4 (q := U 74 6) l0
  have hS6 := zup_l hS5 (q := U 74 8) l1
  have eb : zup (zup (zup S (U 74 3) (S a)) (U 74 5) (C 1)) (U 74 7) (0 : R) b = S b := by rw [zup_o _ _ (by omega), zup_o _ _ (by omega), zup_o _ _ (by omega)]
  refine e45 _ _ _ ⟨zE_ob hT, by omega, ?_, ?_⟩
  · rw [zSE (by omega) (by omega)]; exact zP_k hT q3
  rw [zSE (i := 3) (by omega) (by omega)]
  refine c25 I hT hS q3 ha (by omega) ⟨zE_ob hT, ?_, ?_⟩
  · rw [zSE (by omega) (by omega)]; exact zP_k hT q5
  rw [zSE (i := 5) (by omega) (by omega)]
  refine c46 I hT hS1 (by omega) q5 (by omega) (by omega) ⟨zE_ob hT, ?_, ?_⟩
  · rw [zSE (by omega) (by omega)]; exact zP_k hT q7
  rw [zSE (i := 7) (by omega) (by omega)]
  refine c13 I hT hS2 q7 ⟨zE_ob hT, ?_, ?_⟩
  · rw [zSE (by omega) (by omega)]; exact zP_k hT q4
  rw [zSE (i := 4) (by omega) (by omega)]
  refine c25 I hT hS3 q4 hb (by omega) ⟨zE_ob hT, ?_, ?_⟩
  · rw [zSE (by omega) (by omega)]; exact zP_k hT q6
  rw [eb, zSE (i := 6) (by omega) (by omega)]
  refine c13 I hT hS4 q6 ⟨zE_ob hT, ?_, ?_⟩
  · rw [zSE (by omega) (by omega)]; exact zP_k hT q8
  rw [zSE (i := 8) (by omega) (by omega)]
  refine c46 I hT hS5 (by omega) q8 (by omega) (by omega) ?_
  have x3 : zup (zup (zup (zup (zup (zup S (U 74 3) (S a)) (U 74 5) (C 1)) (U 74 7) (0 : R)) (U 74 4) (S b)) (U 74 6) (0 : R)) (U 74 8) (C 1) (U 74 3) = S a := by rw [zup_o _ _ (zEUn hE 3 8), zup_o _ _ (zEUn hE 3 6), zup_o _ _ (zEUn hE 3 4), zup_o _ _ (zEUn hE 3 7), zup_o _ _ (zEUn hE 3 5), zup_s]
  have x4 : zup (zup (zup (zup (zup (zup S (U 74 3) (S a)) (U 74 5) (C 1)) (U 74 7) (0 : R)) (U 74 4) (S b)) (U 74 6) (0 : R)) (U 74 8) (C 1) (U 74 4) = S b := by rw [zup_o _ _ (zEUn hE 4 8), zup_o _ _ (zEUn hE 4 6), zup_s]
  have x5 : zup (zup (zup (zup (zup (zup S (U 74 3) (S a)) (U 74 5) (C 1)) (U 74 7) (0 : R)) (U 74 4) (S b)) (U 74 6) (0 : R)) (U 74 8) (C 1) (U 74 5) = C 1 := by rw [zup_o _ _ (zEUn hE 5 8), zup_o _ _ (zEUn hE 5 6), zup_o _ _ (zEUn hE 5 4), zup_o _ _ (zEUn hE 5 7), zup_s]
  have x6 : zup (zup (zup (zup (zup (zup S (U 74 3) (S a)) (U 74 5) (C 1)) (U 74 7) (0 : R)) (U 74 4) (S b)) (U 74 6) (0 : R)) (U 74 8) (C 1) (U 74 6) = 0 := by rw [zup_o _ _ (zEUn hE 6 8), zup_s]
  have x7 : zup (zup (zup (zup (zup (zup S (U 74 3) (S a)) (U 74 5) (C 1)) (U 74 7) (0 : R)) (U 74 4) (S b)) (U 74 6) (0 : R)) (U 74 8) (C 1) (U 74 7) = 0 := by rw [zup_o _ _ (zEUn hE 7 8), zup_o _ _ (zEUn hE 7 6), zup_o _ _ (zEUn hE 7 4), zup_s]
  have x8 : zup (zup (zup (zup (zup (zup S (U 74 3) (S a)) (U 74 5) (C 1)) (U 74 7) (0 : R)) (U 74 4) (S b)) (U 74 6) (0 : R)) (U 74 8) (C 1) (U 74 8) = C 1 := zup_s _ _ _
  have hf6 : zEf S U (zup (zup (zup (zup (zup (zup S (U 74 3) (S a)) (U 74 5) (C 1)) (U 74 7) (0 : R)) (U 74 4) (S b)) (U 74 6) (0 : R)) (U 74 8) (C 1)) U := zEf_u (zEf_u (zEf_u (zEf_u (zEf_u (zEf_u (zEf_r S U) (by omega)) (by omega)) (by omega)) (by omega)) (by omega)) (by omega)
  generalize zup (zup (zup (zup (zup (zup S (U 74 3) (S a)) (U 74 5) (C 1)) (U 74 7) (0 : R)) (U 74 4) (S b)) (U 74 6) (0 : R)) (U 74 8) (C 1) = S6 at hS6 x3 x4 x5 x6 x7 x8 hf6 ⊢
  have c1 := zL_C I 1
  refine key 25 0 S6 U (hS6 _) (by omega) (by omega) hf6 hS6 hE ?_ ?_ ?_ ?_ ?_ ?_ ?_
  · rw [x3, x4]; exact fun g h => h
  · rw [x3, x5, x7, zR_C1 I]; grind
  · rw [x4, x6, x8, zR_C1 I]; grind
  · rw [x6]; exact fun h => absurd rfl h
  · rw [x5, x4]; intro _; omega
  · rw [x8, x3]; intro _; omega
  · rw [x7]; exact fun h => absurd rfl h
