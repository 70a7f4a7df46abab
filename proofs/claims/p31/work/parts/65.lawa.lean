/-! The law, up to the factors. -/
theorem zLs_d {R : Type} [Lean.Grind.CommRing R] {p : Int} {inv : Int → Int} {co : R → Nat → Int} {l : List R} {A : List (Int × R)} {N : Nat} {T : zT} {D : zD} (h : zLs p inv co l A N T D) : zLT N T := by
  obtain ⟨S, U, -, hT, -⟩ := h
  exact hT
theorem zL_0' {R : Type} [Lean.Grind.CommRing R] {p : Int} {inv : Int → Int} {co : R → Nat → Int} {X : R} {C : Int → R} (I : zIf R p inv co X C) {a : R} (h : a = 0) : (zlen co a : Int) - 1 = -1 := by
  rw [h, zL_0 I]
  rfl
theorem law_a {R : Type} [Lean.Grind.CommRing R] {p : Int} {inv : Int → Int} {co : R → Nat → Int} {X : R} {C : Int → R} (I : zIf R p inv co X C) {E : List (List Int)} {d : Nat} (hd : 8 ≤ d) {Q : Int → zT → zD → Prop} {T : zT} {D : zD} {q3 q4 q5 : Int} {f g h : R} (lf : zlen co f ≤ 8) (lg : zlen co g ≤ 8) (lh : zlen co h ≤ 8) {x3 x4 x5 x6 x7 x8 x9 : R} (hs : zLs p inv co [f, g, h, x3, x4, x5, x6, x7, x8, x9] [(q3, f), (q4, g), (q5, h)] 3 T D) (hK : ∀ (D : zD) (x3 x4 x5 x6 x7 x8 x9 : R) (l6 : Int), zLs p inv co [f, g, h, x3, x4, x5, x6, x7, x8, x9] [(q3, f), (q4, g), (q5, h)] 3 T D → zj E d 1 97 196 [(2, (-2)), (2, 0), (0, p), (2, q3), (2, q4), (2, q5), (0, l6), (9, 0), (9, 0), (9, 0), (9, 0), (9, 0)] [] T D Q) : zj E d 1 97 66 [(2, (-2)), (2, 0), (0, p), (2, q3), (2, q4), (2, q5), (9, 0), (9, 0), (9, 0), (9, 0), (9, 0), (9, 0)] [] T D Q := by
  have l1 : zlen co (g + h) ≤ 8 := zL_add I lg lh
  refine z97_66 _ _ _ _ _ ⟨by omega, zLs_k hs, l22_0 I hs (by omega) (by decide) (by decide) (by decide) (by decide) (by decide) (by decide) (fun D hs => ?_)⟩
  change zLs p inv co [f, g, h, (g + h), x4, x5, x6, x7, x8, x9] [(q3, f), (q4, g), (q5, h)] 3 T D at hs
  refine z97_75 _ _ _ _ _ ⟨by omega, zLs_k hs, l22_2 I hs (by omega) (by decide) (by decide) (by decide) (by decide) (by decide) (by decide) (by show zlen co f + zlen co (g + h) ≤ 26; omega) (fun D hs => ?_)⟩
  change zLs p inv co [f, g, h, (f * (g + h)), x4, x5, x6, x7, x8, x9] [(q3, f), (q4, g), (q5, h)] 3 T D at hs
  refine z97_84 _ _ _ _ _ ⟨by omega, zLs_k hs, l22_2 I hs (by omega) (by decide) (by decide) (by decide) (by decide) (by decide) (by decide) (by show zlen co f + zlen co g ≤ 26; omega) (fun D hs => ?_)⟩
  change zLs p inv co [f, g, h, (f * (g + h)), (f * g), x5, x6, x7, x8, x9] [(q3, f), (q4, g), (q5, h)] 3 T D at hs
  refine z97_93 _ _ _ _ _ ⟨by omega, zLs_k hs, l22_2 I hs (by omega) (by decide) (by decide) (by decide) (by decide) (by decide) (by decide) (by show zlen co h + zlen co f ≤ 26; omega) (fun D hs => ?_)⟩
  change zLs p inv co [f, g, h, (f * (g + h)), (f * g), (h * f), x6, x7, x8, x9] [(q3, f), (q4, g), (q5, h)] 3 T D at hs
  refine z97_102 _ _ _ _ _ ⟨by omega, zLs_k hs, l22_0 I hs (by omega) (by decide) (by decide) (by decide) (by decide) (by decide) (by decide) (fun D hs => ?_)⟩
  change zLs p inv co [f, g, h, (f * (g + h)), ((f * g) + (h * f)), (h * f), x6, x7, x8, x9] [(q3, f), (q4, g), (q5, h)] 3 T D at hs
  have e1 : f * (g + h) = f * g + h * f := by grind
  have hp := zR_p I
  have key : ∀ m n : Nat, n + m = 25 → (∀ l6 : Int, zj E d 1 97 146 [(2, (-2)), (2, 0), (0, p), (2, q3), (2, q4), (2, q5), (0, l6), (9, 0), (9, 0), (9, 0), (9, 0), (9, 0)] [] T D Q) → zj E d 1 97 114 [(2, (-2)), (2, 0), (0, p), (2, q3), (2, q4), (2, q5), (0, (n : Int)), (9, 0), (9, 0), (9, 0), (9, 0), (9, 0)] [] T D Q := by
    intro m
    induction m with
    | zero =>
      intro n hn hQ
      exact z97_114 _ _ _ _ _ _ ⟨by unfold zin; omega, fun _ => hQ _, fun hh => by omega⟩
    | succ m ih =>
      intro n hn hQ
      refine z97_114 _ _ _ _ _ _ ⟨by unfold zin; omega, fun hh => by omega, fun _ => ⟨by omega, zLs_k hs, l16 I hs (by omega) (by decide) (by decide) (by omega) ⟨zLs_k hs, l16 I hs (by omega) (by decide) (by decide) (by omega) ?_⟩⟩⟩
      show zin (co (f * (g + h)) n) ∧ zin (co (f * g + h * f) n) ∧ _
      have hr := zR_rng I (f * (g + h)) n
      have hr2 := zR_rng I (f * g + h * f) n
      exact ⟨by unfold zin; omega, by unfold zin; omega, fun _ => ih (n + 1) (by omega) hQ, fun hh => absurd (by show co (f * (g + h)) n = co (f * g + h * f) n; rw [e1]) hh⟩
  refine z97_111 _ _ _ _ _ (key 25 0 (by omega) (fun l6 => ?_))
  refine z97_146 _ _ _ _ _ _ ⟨by omega, zLs_k hs, l22_1 I hs (by omega) (by decide) (by decide) (by decide) (by decide) (by decide) (by decide) (fun D hs => ?_)⟩
  change zLs p inv co [f, g, h, (f * (g + h)), ((f * g) + (h * f)), (f - f), x6, x7, x8, x9] [(q3, f), (q4, g), (q5, h)] 3 T D at hs
  have e2 : (zlen co (f - f) : Int) - 1 = -1 := zL_0' I (by grind)
  show zin ((zlen co (f - f) : Int) - 1) ∧ _
  rw [e2]
  refine ⟨by unfold zin; omega, fun hh => absurd e2 hh, fun _ => ?_⟩
  refine z97_158 _ _ _ _ _ _ ⟨by omega, zLs_k hs, l22_1 I hs (by omega) (by decide) (by decide) (by decide) (by decide) (by decide) (by decide) (fun D hs => ?_)⟩
  change zLs p inv co [f, g, h, (f * (g + h)), ((f * g) + (h * f)), (f - g), x6, x7, x8, x9] [(q3, f), (q4, g), (q5, h)] 3 T D at hs
  have l2 : zlen co (f - g) ≤ 8 := zL_sub I lf lg
  show zin ((zlen co (f - g) : Int) - 1) ∧ _
  refine ⟨by unfold zin; omega, fun hh => ?_, fun _ => ?_⟩
  · have hh : (zlen co (f - g) : Int) - 1 < -1 := hh
    omega
  refine z97_170 _ _ _ _ _ _ ⟨by omega, zLs_k hs, l22_0 I hs (by omega) (by decide) (by decide) (by decide) (by decide) (by decide) (by decide) (fun D hs => ?_)⟩
  change zLs p inv co [f, g, h, (f * (g + h)), ((f * g) + (h * f)), (f - g + g), x6, x7, x8, x9] [(q3, f), (q4, g), (q5, h)] 3 T D at hs
  have e3 : f - g + g = f := by grind
  rw [e3] at hs
  refine c94 I hs List.mem_cons_self ?_
  show zin ((zlen co (f - g + g) : Int) - 1) ∧ _
  rw [e3]
  refine ⟨by unfold zin; omega, by unfold zin; omega, fun hh => ?_, fun _ => ?_⟩
  · exact absurd (by show (zlen co (f - g + g) : Int) - 1 = (zlen co f : Int) - 1; rw [e3]) hh
  refine z97_185 _ _ _ _ _ _ ⟨by omega, c95 I hs (by omega) (by decide) (by decide) List.mem_cons_self rfl ?_⟩
  exact ⟨by unfold zin; omega, fun _ => hK D _ _ _ _ _ _ _ l6 hs, fun hh => absurd hh (by decide)⟩
theorem law_b {R : Type} [Lean.Grind.CommRing R] {p : Int} {inv : Int → Int} {co : R → Nat → Int} {X : R} {C : Int → R} (I : zIf R p inv co X C) {E : List (List Int)} {d : Nat} (hd : 8 ≤ d) {Q : Int → zT → zD → Prop} {T : zT} {D : zD} {q3 q4 q5 : Int} {f g h : R} (lf : zlen co f ≤ 8) (lg : zlen co g ≤ 8) (lh : zlen co h ≤ 8) {x3 x4 x5 x6 x7 x8 x9 : R} (hs : zLs p inv co [f, g, h, x3, x4, x5, x6, x7, x8, x9] [(q3, f), (q4, g), (q5, h)] 3 T D) {l6 : Int} (hK : ∀ (D : zD) (x3 x4 x5 x6 x7 x8 x9 : R), zLs p inv co [f, g, h, x3, x4, x5, x6, x7, x8, x9] [(q3, f), (q4, g), (q5, h)] 3 T D → zj E d 1 97 289 [(2, (-2)), (2, 0), (0, p), (2, q3), (2, q4), (2, q5), (0, l6), (9, 0), (9, 0), (9, 0), (9, 0), (9, 0)] [] T D Q) : zj E d 1 97 196 [(2, (-2)), (2, 0), (0, p), (2, q3), (2, q4), (2, q5), (0, l6), (9, 0), (9, 0), (9, 0), (9, 0), (9, 0)] [] T D Q := by
  refine z97_196 _ _ _ _ _ _ ⟨by omega, zLs_k hs, l22_2 I hs (by omega) (by decide) (by decide) (by decide) (by decide) (by decide) (by decide) (by show zlen co f + zlen co g ≤ 26; omega) (fun D hs => ?_)⟩
  change zLs p inv co [f, g, h, x3, x4, (f * g), x6, x7, x8, x9] [(q3, f), (q4, g), (q5, h)] 3 T D at hs
  refine z97_205 _ _ _ _ _ _ ⟨by omega, zLs_k hs, l22_5 I hs (by omega) (by decide) (by decide) (by decide) (by decide) (by decide) (by decide) (fun D v5 h5 hs => ?_)⟩
  change zLs p inv co [f, g, h, x3, x4, v5, x6, x7, x8, x9] [(q3, f), (q4, g), (q5, h)] 3 T D at hs
  refine z97_214 _ _ _ _ _ _ ⟨by omega, zLs_k hs, l22_5 I hs (by omega) (by decide) (by decide) (by decide) (by decide) (by decide) (by decide) (fun D v6 h6 hs => ?_)⟩
  change zLs p inv co [f, g, h, x3, x4, v5, v6, x7, x8, x9] [(q3, f), (q4, g), (q5, h)] 3 T D at hs
  change zde p co f v6 at h6
  have l6 : zlen co v6 ≤ 7 := zde_len I h6 lf
  refine z97_224 _ _ _ _ _ _ ⟨by omega, zLs_k hs, l22_2 I hs (by omega) (by decide) (by decide) (by decide) (by decide) (by decide) (by decide) (by show zlen co v6 + zlen co g ≤ 26; omega) (fun D hs => ?_)⟩
  change zLs p inv co [f, g, h, x3, x4, v5, (v6 * g), x7, x8, x9] [(q3, f), (q4, g), (q5, h)] 3 T D at hs
  refine z97_235 _ _ _ _ _ _ ⟨by omega, zLs_k hs, l22_5 I hs (by omega) (by decide) (by decide) (by decide) (by decide) (by decide) (by decide) (fun D v7 h7 hs => ?_)⟩
  change zLs p inv co [f, g, h, x3, x4, v5, (v6 * g), v7, x8, x9] [(q3, f), (q4, g), (q5, h)] 3 T D at hs
  change zde p co g v7 at h7
  have l7 : zlen co v7 ≤ 7 := zde_len I h7 lg
  refine z97_245 _ _ _ _ _ _ ⟨by omega, zLs_k hs, l22_2 I hs (by omega) (by decide) (by decide) (by decide) (by decide) (by decide) (by decide) (by show zlen co v7 + zlen co f ≤ 26; omega) (fun D hs => ?_)⟩
  change zLs p inv co [f, g, h, x3, x4, v5, (v6 * g), (v7 * f), x8, x9] [(q3, f), (q4, g), (q5, h)] 3 T D at hs
  refine z97_256 _ _ _ _ _ _ ⟨by omega, zLs_k hs, l22_0 I hs (by omega) (by decide) (by decide) (by decide) (by decide) (by decide) (by decide) (fun D hs => ?_)⟩
  change zLs p inv co [f, g, h, x3, x4, v5, ((v6 * g) + (v7 * f)), (v7 * f), x8, x9] [(q3, f), (q4, g), (q5, h)] 3 T D at hs
  refine z97_268 _ _ _ _ _ _ ⟨by omega, zLs_k hs, l22_1 I hs (by omega) (by decide) (by decide) (by decide) (by decide) (by decide) (by decide) (fun D hs => ?_)⟩
  change zLs p inv co [f, g, h, x3, x4, (v5 - ((v6 * g) + (v7 * f))), ((v6 * g) + (v7 * f)), (v7 * f), x8, x9] [(q3, f), (q4, g), (q5, h)] 3 T D at hs
  have e : v5 = v6 * g + f * v7 := zde_u I h5 (zde_mul I h7 f v6 h6)
  refine z97_278 _ _ _ _ _ _ ⟨by omega, zLs_k hs, l20 I hs (by omega) (by decide) (by decide) ?_⟩
  have e2 : (zlen co (v5 - (v6 * g + v7 * f)) : Int) - 1 = -1 := zL_0' I (by rw [e]; grind)
  exact ⟨by show zin ((zlen co (v5 - (v6 * g + v7 * f)) : Int) - 1); rw [e2]; unfold zin; omega, fun _ => hK D _ _ _ _ _ _ _ hs, fun hh => absurd e2 hh⟩
theorem zval_add {R : Type} [Lean.Grind.CommRing R] {X : R} {C : Int → R} {a b : R} {y v w : Int} (hC : C (v + w) = C v + C w) (h1 : zval X C a y v) (h2 : zval X C b y w) : zval X C (a + b) y (v + w) := by
  obtain ⟨z1, rfl⟩ := h1
  obtain ⟨z2, rfl⟩ := h2
  exact ⟨z1 + z2, by rw [hC]; grind⟩
theorem zval_mul {R : Type} [Lean.Grind.CommRing R] {X : R} {C : Int → R} {a b : R} {y v w : Int} (hC : C (v * w) = C v * C w) (h1 : zval X C a y v) (h2 : zval X C b y w) : zval X C (a * b) y (v * w) := by
  obtain ⟨z1, rfl⟩ := h1
  obtain ⟨z2, rfl⟩ := h2
  exact ⟨(X - C y) * z1 * z2 + z1 * C w + C v * z2, by rw [hC]; grind⟩
theorem zXC_len {R : Type} [Lean.Grind.CommRing R] {p : Int} {inv : Int → Int} {co : R → Nat → Int} {X : R} {C : Int → R} (I : zIf R p inv co X C) (y : Int) : 1 < zlen co (X - C y) := by
  refine zL_gt I (k := 1) ?_
  have hp := zR_p I
  have e : X = X * (1 : R) := by grind
  have e1 : co X 1 = 1 := by
    rw [e, zR_XS I, zR_one I]
    rfl
  rw [zR_sub I, e1, zR_C I, if_neg (by decide), Int.sub_zero, Int.emod_eq_of_lt (by decide) (by omega)]
  decide
theorem zval_u {R : Type} [Lean.Grind.CommRing R] {p : Int} {inv : Int → Int} {co : R → Nat → Int} {X : R} {C : Int → R} (I : zIf R p inv co X C) {a : R} {y v w : Int} (h1 : zval X C a y v) (h2 : zval X C a y w) : v % p = w % p := by
  obtain ⟨z1, e1⟩ := h1
  obtain ⟨z2, e2⟩ := h2
  have hd : zdv (X - C y) (C (v - w)) := ⟨z2 - z1, by
    rw [zR_Csub I]
    rw [e1] at e2
    grind⟩
  have h0 := zdv_small I hd (by have := zXC_len I y; have := zL_C I (v - w); omega)
  have h3 : C (v - w) = C 0 := by rw [h0, zR_C0 I]
  have h4 := zR_Cinj I h3
  have h5 : (v - w) % p = 0 := by rw [h4]; exact Int.zero_emod _
  exact (Int.emod_eq_emod_iff_emod_sub_eq_zero).mpr h5
theorem law_c1 {R : Type} [Lean.Grind.CommRing R] {p : Int} {inv : Int → Int} {co : R → Nat → Int} {X : R} {C : Int → R} (I : zIf R p inv co X C) {E : List (List Int)} {d : Nat} (hd : 8 ≤ d) {Q : Int → zT → zD → Prop} {T : zT} {D : zD} {q3 q4 q5 : Int} {f g h : R} (lf : zlen co f ≤ 8) (lg : zlen co g ≤ 8) (lh : zlen co h ≤ 8) {l6 : Int} {x3 x4 x5 x6 x7 x8 x9 : R} (hs : zLs p inv co [f, g, h, x3, x4, x5, x6, x7, x8, x9] [(q3, f), (q4, g), (q5, h)] 3 T D) (hK : ∀ (D : zD) (x3 x4 x5 x6 x7 x8 x9 : R) (l6 : Int), zLs p inv co [f, g, h, x3, x4, x5, x6, x7, x8, x9] [(q3, f), (q4, g), (q5, h)] 3 T D → zj E d 1 97 373 [(2, (-2)), (2, 0), (0, p), (2, q3), (2, q4), (2, q5), (0, l6), (9, 0), (9, 0), (9, 0), (9, 0), (9, 0)] [] T D Q) : zj E d 1 97 297 [(2, (-2)), (2, 0), (0, p), (2, q3), (2, q4), (2, q5), (0, l6), (9, 0), (9, 0), (9, 0), (9, 0), (9, 0)] [] T D Q := by
  refine z97_297 _ _ _ _ _ _ ⟨by omega, zLs_k hs, l22_0 I hs (by omega) (by decide) (by decide) (by decide) (by decide) (by decide) (by decide) (fun D hs => ?_)⟩
  change zLs p inv co [f, g, h, x3, x4, (f + g), x6, x7, x8, x9] [(q3, f), (q4, g), (q5, h)] 3 T D at hs
  refine z97_306 _ _ _ _ _ _ ⟨by omega, zLs_k hs, l22_2 I hs (by omega) (by decide) (by decide) (by decide) (by decide) (by decide) (by decide) (by show zlen co f + zlen co g ≤ 26; omega) (fun D hs => ?_)⟩
  change zLs p inv co [f, g, h, x3, x4, (f + g), (f * g), x7, x8, x9] [(q3, f), (q4, g), (q5, h)] 3 T D at hs
  have hp := zR_p I
  refine z97_316 _ _ _ _ _ _ ⟨by omega, zLs_k hs, l55 I hs (by omega) (by decide) (by decide) (fun v1 v10 v11 hv1 => ⟨zLs_k hs, l55 I hs (by omega) (by decide) (by decide) (fun v2 v20 v21 hv2 => ⟨zLs_k hs, l55 I hs (by omega) (by decide) (by decide) (fun v3 v30 v31 hv3 => ?_)⟩)⟩)⟩
  have hb : 0 ≤ v2 + v3 ∧ v2 + v3 ≤ 10000 := by omega
  have hv : v1 = (v2 + v3).tmod p := by
    have h1 := zval_u I (a := (f + g)) hv1 (zval_add (zR_Cadd I _ _) hv2 hv3)
    rw [Int.emod_eq_of_lt v10 v11] at h1
    rw [Int.tmod_eq_emod_of_nonneg hb.1, h1]
  refine ⟨by unfold zin; omega, by omega, by omega, by unfold zin; omega, by rw [← hv]; unfold zin; omega, fun hh => absurd hv hh, fun _ => ?_⟩
  refine z97_343 _ _ _ _ _ _ ⟨by omega, zLs_k hs, l55 I hs (by omega) (by decide) (by decide) (fun v1 v10 v11 hv1 => ⟨zLs_k hs, l55 I hs (by omega) (by decide) (by decide) (fun v2 v20 v21 hv2 => ⟨zLs_k hs, l55 I hs (by omega) (by decide) (by decide) (fun v3 v30 v31 hv3 => ?_)⟩)⟩)⟩
  have hb : 0 ≤ v2 * v3 ∧ v2 * v3 ≤ 10000 := by exact zmulb v20 (by omega) v30 (by omega)
  have hv : v1 = (v2 * v3).tmod p := by
    have h1 := zval_u I (a := (f * g)) hv1 (zval_mul (zR_Cmul I _ _) hv2 hv3)
    rw [Int.emod_eq_of_lt v10 v11] at h1
    rw [Int.tmod_eq_emod_of_nonneg hb.1, h1]
  refine ⟨by unfold zin; omega, by omega, by omega, by unfold zin; omega, by rw [← hv]; unfold zin; omega, fun _ => hK D _ _ _ _ _ _ _ _ hs, fun hh => absurd hv hh⟩
theorem law_c2 {R : Type} [Lean.Grind.CommRing R] {p : Int} {inv : Int → Int} {co : R → Nat → Int} {X : R} {C : Int → R} (I : zIf R p inv co X C) {E : List (List Int)} {d : Nat} (hd : 8 ≤ d) {Q : Int → zT → zD → Prop} {T : zT} {D : zD} {q3 q4 q5 : Int} {f g h : R} (lf : zlen co f ≤ 8) (lg : zlen co g ≤ 8) (lh : zlen co h ≤ 8) {l6 : Int} {x3 x4 x5 x6 x7 x8 x9 : R} (hs : zLs p inv co [f, g, h, x3, x4, x5, x6, x7, x8, x9] [(q3, f), (q4, g), (q5, h)] 3 T D) (hK : ∀ (D : zD) (x3 x4 x5 x6 x7 x8 x9 : R), zLs p inv co [f, g, h, x3, x4, x5, x6, x7, x8, x9] [(q3, f), (q4, g), (q5, h)] 3 T D → zj E d 1 97 442 [(2, (-2)), (2, 0), (0, p), (2, q3), (2, q4), (2, q5), (0, l6), (9, 0), (9, 0), (9, 0), (9, 0), (9, 0)] [] T D Q) : zj E d 1 97 373 [(2, (-2)), (2, 0), (0, p), (2, q3), (2, q4), (2, q5), (0, l6), (9, 0), (9, 0), (9, 0), (9, 0), (9, 0)] [] T D Q := by
  have m3 : (q3, f) ∈ [(q3, f), (q4, g), (q5, h)] := List.mem_cons_self
  have m4 : (q4, g) ∈ [(q3, f), (q4, g), (q5, h)] := List.mem_cons_of_mem _ List.mem_cons_self
  have hp := zR_p I
  have key : (zlen co f ≤ 4 ∨ zlen co g ≤ 3) → zj E d 1 97 390 [(2, (-2)), (2, 0), (0, p), (2, q3), (2, q4), (2, q5), (0, l6), (9, 0), (9, 0), (9, 0), (9, 0), (9, 0)] [] T D Q := by
    intro hor
    have hb : (zlen co f - 1) * (zlen co g - 1) ≤ 24 := by
      rcases hor with ho | ho
      · have := Nat.mul_le_mul (show zlen co f - 1 ≤ 3 by omega) (show zlen co g - 1 ≤ 7 by omega)
        omega
      · have := Nat.mul_le_mul (show zlen co f - 1 ≤ 7 by omega) (show zlen co g - 1 ≤ 2 by omega)
        omega
    refine z97_390 _ _ _ _ _ _ ⟨by omega, zLs_k hs, l22_3 I hs (by omega) (by decide) (by decide) (by decide) (by decide) (by decide) (by decide) hb (fun D v hv hs => ?_)⟩
    change zLs p inv co [f, g, h, x3, x4, v, x6, x7, x8, x9] [(q3, f), (q4, g), (q5, h)] 3 T D at hs
    refine c94 I hs m3 (c94 I hs m4 ?_)
    have hb2 : -10 ≤ ((zlen co f : Int) - 1) * (if 1 < (zlen co g : Int) - 1 then (zlen co g : Int) - 1 else 1) ∧ ((zlen co f : Int) - 1) * (if 1 < (zlen co g : Int) - 1 then (zlen co g : Int) - 1 else 1) ≤ 49 := by
      have hc : 1 ≤ (if 1 < (zlen co g : Int) - 1 then (zlen co g : Int) - 1 else 1) ∧ (if 1 < (zlen co g : Int) - 1 then (zlen co g : Int) - 1 else 1) ≤ 7 := by
        split <;> omega
      generalize (if 1 < (zlen co g : Int) - 1 then (zlen co g : Int) - 1 else 1) = c at hc
      have h1 : (zlen co f : Int) = 0 ∨ 0 ≤ (zlen co f : Int) - 1 := by omega
      rcases h1 with h1 | h1
      · rw [h1]
        omega
      · have e1 := Int.mul_nonneg h1 (show 0 ≤ c by omega)
        have e2 := Int.mul_le_mul (show (zlen co f : Int) - 1 ≤ 7 by omega) hc.2 (by omega) (by decide : (0 : Int) ≤ 7)
        omega
    refine ⟨by unfold zin; omega, by unfold zin; omega, fun _ => hK D _ _ _ _ _ _ _ hs, fun _ => ⟨zLs_k hs, l55 I hs (by omega) (by decide) (by decide) (fun v1 v10 v11 hv1 => ⟨zLs_k hs, l55 I hs (by omega) (by decide) (by decide) (fun v2 v20 v21 hv2 => ⟨zLs_k hs, l55 I hs (by omega) (by decide) (by decide) (fun v3 v30 v31 hv3 => ?_)⟩)⟩)⟩⟩
    have hvv : v1 = v3 := by
      obtain ⟨w, z1, z2, e1, e2⟩ := hv v2
      rw [zi_of (by unfold zin; omega)] at hv3
      have e1 : f = (X - C v2) * z1 + C w := e1
      have e2 : v = (g - C v2) * z2 + C w := e2
      have h3 := zval_u I (a := f) hv3 ⟨z1, e1⟩
      obtain ⟨z3, e3⟩ := hv2
      have e3 : g = (X - C (Int32.ofInt l6).toInt) * z3 + C v2 := e3
      have h1 := zval_u I (a := v) hv1 (w := w) ⟨z3 * z2, by rw [e2, e3]; grind⟩
      rw [Int.emod_eq_of_lt v10 v11] at h1
      rw [Int.emod_eq_of_lt v30 v31] at h3
      rw [h1, h3]
    exact ⟨by unfold zin; omega, by unfold zin; omega, fun _ => hK D _ _ _ _ _ _ _ hs, fun hh => absurd hvv hh⟩
  refine z97_373 _ _ _ _ _ _ ⟨by omega, c94 I hs m3 ⟨by unfold zin; omega, fun hh => key (Or.inl (by omega)), fun _ => c94 I hs m4 ⟨by unfold zin; omega, fun _ => hK D _ _ _ _ _ _ _ hs, fun hh => key (Or.inr (by omega))⟩⟩⟩
theorem law_d {R : Type} [Lean.Grind.CommRing R] {p : Int} {inv : Int → Int} {co : R → Nat → Int} {X : R} {C : Int → R} (I : zIf R p inv co X C) {E : List (List Int)} {d : Nat} (hd : 8 ≤ d) {Q : Int → zT → zD → Prop} {T : zT} {D : zD} {q3 q4 q5 : Int} {f g h : R} (lf : zlen co f ≤ 8) (lg : zlen co g ≤ 8) (lh : zlen co h ≤ 8) {sc : List Int} (hsc : E[0]? = some sc) (hsl : sc.length ≤ 2147483647) {l6 : Int} {x3 x4 x5 x6 x7 x8 x9 : R} (hs : zLs p inv co [f, g, h, x3, x4, x5, x6, x7, x8, x9] [(q3, f), (q4, g), (q5, h)] 3 T D) (hK : ∀ (D : zD) (x3 x4 x5 x6 x7 x8 x9 : R) (w7 : zv_V) (hw7 : zs_wide w7 = false), zLs p inv co [f, g, h, x3, x4, x5, x6, x7, x8, x9] [(q3, f), (q4, g), (q5, h)] 3 T D → zj E d 1 97 534 [(2, (-2)), (2, 0), (0, p), (2, q3), (2, q4), (2, q5), (0, l6), w7, (9, 0), (9, 0), (9, 0), (9, 0)] [] T D Q) : zj E d 1 97 442 [(2, (-2)), (2, 0), (0, p), (2, q3), (2, q4), (2, q5), (0, l6), (9, 0), (9, 0), (9, 0), (9, 0), (9, 0)] [] T D Q := by
  have m4 : (q4, g) ∈ [(q3, f), (q4, g), (q5, h)] := List.mem_cons_of_mem _ List.mem_cons_self
  refine z97_442 _ _ _ _ _ _ ⟨by omega, c94 I hs m4 ⟨by unfold zin; omega, fun _ => hK D _ _ _ _ _ _ _ _ rfl hs, fun hh => ?_⟩⟩
  have hg : g ≠ 0 := by
    intro e
    rw [e, zL_0 I] at hh
    omega
  refine z97_450 _ _ _ _ _ _ ⟨by omega, c91 hsc hsl (by decide) (by decide) (fun v => c90 (by decide) (by decide) (fun n n0 n1 => ?_))⟩
  obtain ⟨n, rfl⟩ := Int.eq_ofNat_of_zero_le n0
  refine z97_463 _ _ _ _ _ _ _ ⟨by omega, zLs_k hs, l51 I hs (by omega) (by decide) (by decide) (by decide) (by decide) (by decide) (by decide) (by omega) hg (fun D r1 k1 he1 hr1 hs => ?_)⟩
  change zLs p inv co [f, g, h, r1, x4, x5, x6, x7, x8, x9] [(q3, f), (q4, g), (q5, h)] 3 T D at hs
  refine z97_473 _ _ _ _ _ _ _ ⟨by omega, zLs_k hs, l51 I hs (n := 77) (by omega) (by decide) (by decide) (by decide) (by decide) (by decide) (by decide) (by omega) hg (fun D r2 k2 he2 hr2 hs => ?_)⟩
  change zLs p inv co [f, g, h, r1, r2, x5, x6, x7, x8, x9] [(q3, f), (q4, g), (q5, h)] 3 T D at hs
  change f ^ n = k1 * g + r1 at he1
  change f ^ 77 = k2 * g + r2 at he2
  change zlen co r1 < zlen co g at hr1
  change zlen co r2 < zlen co g at hr2
  refine z97_483 _ _ _ _ _ _ _ ⟨by omega, zLs_k hs, l22_2 I hs (by omega) (by decide) (by decide) (by decide) (by decide) (by decide) (by decide) (by show zlen co r1 + zlen co r2 ≤ 26; omega) (fun D hs => ?_)⟩
  change zLs p inv co [f, g, h, (r1 * r2), r2, x5, x6, x7, x8, x9] [(q3, f), (q4, g), (q5, h)] 3 T D at hs
  refine z97_492 _ _ _ _ _ _ _ ⟨by omega, zLs_k hs, l43 I hs (by omega) (by decide) (by decide) (by decide) (by decide) (by decide) (by decide) (by decide) (by decide) (by decide) hg (fun D k3 r3 he3 hr3 hs => ?_)⟩
  change zLs p inv co [f, g, h, r3, k3, x5, x6, x7, x8, x9] [(q3, f), (q4, g), (q5, h)] 3 T D at hs
  change r1 * r2 = k3 * g + r3 at he3
  change zlen co r3 < zlen co g at hr3
  have en : (n : Int) + 77 = ((n + 77 : Nat) : Int) := by omega
  refine z97_501 _ _ _ _ _ _ _ ⟨by omega, zLs_k hs, ?_⟩
  rw [en]
  refine l51 I hs (n := n + 77) (by omega) (by decide) (by decide) (by decide) (by decide) (by decide) (by decide) (by omega) hg (fun D r4 k4 he4 hr4 hs => ?_)
  change zLs p inv co [f, g, h, r3, r4, x5, x6, x7, x8, x9] [(q3, f), (q4, g), (q5, h)] 3 T D at hs
  change f ^ (n + 77) = k4 * g + r4 at he4
  change zlen co r4 < zlen co g at hr4
  refine z97_514 _ _ _ _ _ _ _ ⟨by omega, zLs_k hs, l22_1 I hs (by omega) (by decide) (by decide) (by decide) (by decide) (by decide) (by decide) (fun D hs => ?_)⟩
  change zLs p inv co [f, g, h, (r3 - r4), r4, x5, x6, x7, x8, x9] [(q3, f), (q4, g), (q5, h)] 3 T D at hs
  have e : r3 = r4 := by
    rw [zpw, he1, he2] at he4
    exact (zdivu I (q := k1 * k2 * g + k1 * r2 + k2 * r1 + k3) (q' := k4) (b := g) (by rw [← he4]; grind) hr3 hr4).2
  refine z97_523 _ _ _ _ _ _ _ ⟨by omega, zLs_k hs, l20 I hs (by omega) (by decide) (by decide) ?_⟩
  have e2 : (zlen co (r3 - r4) : Int) - 1 = -1 := zL_0' I (by rw [e]; grind)
  exact ⟨by show zin ((zlen co (r3 - r4) : Int) - 1); rw [e2]; unfold zin; omega, fun _ => hK D _ _ _ _ _ _ _ _ rfl hs, fun hh => absurd e2 hh⟩
theorem law_e {R : Type} [Lean.Grind.CommRing R] {p : Int} {inv : Int → Int} {co : R → Nat → Int} {X : R} {C : Int → R} (I : zIf R p inv co X C) {E : List (List Int)} {d : Nat} (hd : 8 ≤ d) {Q : Int → zT → zD → Prop} {T : zT} {D : zD} {q3 q4 q5 : Int} {f g h : R} (lf : zlen co f ≤ 8) (lg : zlen co g ≤ 8) (lh : zlen co h ≤ 8) {l6 : Int} {w7 : zv_V} (hw7 : zs_wide w7 = false) {x3 x4 x5 x6 x7 x8 x9 : R} (hs : zLs p inv co [f, g, h, x3, x4, x5, x6, x7, x8, x9] [(q3, f), (q4, g), (q5, h)] 3 T D) (hK : ∀ (D : zD) (x3 x4 x5 x6 x7 x8 x9 : R), zLs p inv co [f, g, h, x3, x4, x5, x6, x7, x8, x9] [(q3, f), (q4, g), (q5, h)] 3 T D → zgcd f g x3 → (x3 = 0 ∨ zmon co x3) → zj E d 1 97 599 [(2, (-2)), (2, 0), (0, p), (2, q3), (2, q4), (2, q5), (0, l6), w7, (9, 0), (9, 0), (9, 0), (9, 0)] [] T D Q) : zj E d 1 97 534 [(2, (-2)), (2, 0), (0, p), (2, q3), (2, q4), (2, q5), (0, l6), w7, (9, 0), (9, 0), (9, 0), (9, 0)] [] T D Q := by
  refine z97_534 _ _ _ _ _ _ w7 hw7 ⟨by omega, zLs_k hs, l22_4 I hs (by omega) (by decide) (by decide) (by decide) (by decide) (by decide) (by decide) (fun D g1 hg1 hm1 hs => ?_)⟩
  change zLs p inv co [f, g, h, g1, x4, x5, x6, x7, x8, x9] [(q3, f), (q4, g), (q5, h)] 3 T D at hs
  change zgcd f g g1 at hg1
  refine z97_543 _ _ _ _ _ _ w7 hw7 ⟨by omega, zLs_k hs, l44 I hs (by omega) (by decide) (by decide) (by decide) (by decide) (by decide) (by decide) (by decide) (by decide) (by decide) (fun D g2 u v hg2 hm2 he2 lu lv hs => ?_)⟩
  change zLs p inv co [f, g, h, g1, u, v, x6, x7, x8, x9] [(q3, f), (q4, g), (q5, h)] 3 T D at hs
  change zgcd f g g2 at hg2
  change g2 = u * f + v * g at he2
  change zlen co u ≤ zlen co g + 1 at lu
  change zlen co v ≤ zlen co f + 1 at lv
  refine z97_552 _ _ _ _ _ _ w7 hw7 ⟨by omega, zLs_k hs, l22_2 I hs (by omega) (by decide) (by decide) (by decide) (by decide) (by decide) (by decide) (by show zlen co u + zlen co f ≤ 26; omega) (fun D hs => ?_)⟩
  change zLs p inv co [f, g, h, g1, (u * f), v, x6, x7, x8, x9] [(q3, f), (q4, g), (q5, h)] 3 T D at hs
  refine z97_561 _ _ _ _ _ _ w7 hw7 ⟨by omega, zLs_k hs, l22_2 I hs (by omega) (by decide) (by decide) (by decide) (by decide) (by decide) (by decide) (by show zlen co v + zlen co g ≤ 26; omega) (fun D hs => ?_)⟩
  change zLs p inv co [f, g, h, g1, (u * f), (v * g), x6, x7, x8, x9] [(q3, f), (q4, g), (q5, h)] 3 T D at hs
  refine z97_570 _ _ _ _ _ _ w7 hw7 ⟨by omega, zLs_k hs, l22_0 I hs (by omega) (by decide) (by decide) (by decide) (by decide) (by decide) (by decide) (fun D hs => ?_)⟩
  change zLs p inv co [f, g, h, g1, ((u * f) + (v * g)), (v * g), x6, x7, x8, x9] [(q3, f), (q4, g), (q5, h)] 3 T D at hs
  refine z97_579 _ _ _ _ _ _ w7 hw7 ⟨by omega, zLs_k hs, l22_1 I hs (by omega) (by decide) (by decide) (by decide) (by decide) (by decide) (by decide) (fun D hs => ?_)⟩
  change zLs p inv co [f, g, h, g1, (((u * f) + (v * g)) - g1), (v * g), x6, x7, x8, x9] [(q3, f), (q4, g), (q5, h)] 3 T D at hs
  have e : g1 = g2 := zgcd_u I hg1 hg2 hm1 hm2
  refine z97_588 _ _ _ _ _ _ w7 hw7 ⟨by omega, zLs_k hs, l20 I hs (by omega) (by decide) (by decide) ?_⟩
  have e2 : (zlen co (u * f + v * g - g1) : Int) - 1 = -1 := zL_0' I (by rw [e, he2]; grind)
  exact ⟨by show zin ((zlen co (u * f + v * g - g1) : Int) - 1); rw [e2]; unfold zin; omega, fun _ => hK D _ _ _ _ _ _ _ hs hg1 hm1, fun hh => absurd e2 hh⟩
theorem law_f {R : Type} [Lean.Grind.CommRing R] {p : Int} {inv : Int → Int} {co : R → Nat → Int} {X : R} {C : Int → R} (I : zIf R p inv co X C) {E : List (List Int)} {d : Nat} (hd : 8 ≤ d) {Q : Int → zT → zD → Prop} {T : zT} {D : zD} {q3 q4 q5 : Int} {f g h : R} (lf : zlen co f ≤ 8) (lg : zlen co g ≤ 8) (lh : zlen co h ≤ 8) {l6 : Int} {w7 : zv_V} (hw7 : zs_wide w7 = false) {x3 x4 x5 x6 x7 x8 x9 : R} (hs : zLs p inv co [f, g, h, x3, x4, x5, x6, x7, x8, x9] [(q3, f), (q4, g), (q5, h)] 3 T D) (hg1 : zgcd f g x3) (hm1 : x3 = 0 ∨ zmon co x3) (hK : ∀ (D : zD) (x3 x4 x5 x6 x7 x8 x9 : R), zLs p inv co [f, g, h, x3, x4, x5, x6, x7, x8, x9] [(q3, f), (q4, g), (q5, h)] 3 T D → zj E d 1 97 648 [(2, (-2)), (2, 0), (0, p), (2, q3), (2, q4), (2, q5), (0, l6), w7, (9, 0), (9, 0), (9, 0), (9, 0)] [] T D Q) : zj E d 1 97 599 [(2, (-2)), (2, 0), (0, p), (2, q3), (2, q4), (2, q5), (0, l6), w7, (9, 0), (9, 0), (9, 0), (9, 0)] [] T D Q := by
  have m4 : (q4, g) ∈ [(q3, f), (q4, g), (q5, h)] := List.mem_cons_of_mem _ List.mem_cons_self
  refine z97_599 _ _ _ _ _ _ w7 hw7 ⟨by omega, c94 I hs m4 ⟨by unfold zin; omega, fun _ => hK D _ _ _ _ _ _ _ hs, fun hh => ?_⟩⟩
  have hg : g ≠ 0 := by
    intro e
    rw [e, zL_0 I] at hh
    omega
  refine z97_607 _ _ _ _ _ _ w7 hw7 ⟨by omega, zLs_k hs, l43 I hs (by omega) (by decide) (by decide) (by decide) (by decide) (by decide) (by decide) (by decide) (by decide) (by decide) hg (fun D k r he hr hs => ?_)⟩
  change zLs p inv co [f, g, h, x3, x4, x5, x6, x7, k, r] [(q3, f), (q4, g), (q5, h)] 3 T D at hs
  change f = k * g + r at he
  refine z97_618 _ _ _ _ _ _ w7 hw7 ⟨by omega, zLs_k hs, l22_4 I hs (by omega) (by decide) (by decide) (by decide) (by decide) (by decide) (by decide) (fun D g3 hg3 hm3 hs => ?_)⟩
  change zLs p inv co [f, g, h, x3, g3, x5, x6, x7, k, r] [(q3, f), (q4, g), (q5, h)] 3 T D at hs
  change zgcd g r g3 at hg3
  refine z97_628 _ _ _ _ _ _ w7 hw7 ⟨by omega, zLs_k hs, l22_1 I hs (by omega) (by decide) (by decide) (by decide) (by decide) (by decide) (by decide) (fun D hs => ?_)⟩
  change zLs p inv co [f, g, h, x3, (g3 - x3), x5, x6, x7, k, r] [(q3, f), (q4, g), (q5, h)] 3 T D at hs
  have e : g3 = x3 := zgcd_u I hg3 (zgcd_back he hg1) hm3 hm1
  refine z97_637 _ _ _ _ _ _ w7 hw7 ⟨by omega, zLs_k hs, l20 I hs (by omega) (by decide) (by decide) ?_⟩
  have e2 : (zlen co (g3 - x3) : Int) - 1 = -1 := zL_0' I (by rw [e]; grind)
  exact ⟨by show zin ((zlen co (g3 - x3) : Int) - 1); rw [e2]; unfold zin; omega, fun _ => hK D _ _ _ _ _ _ _ hs, fun hh => absurd e2 hh⟩
