/-! The law, whole. -/
theorem zLs_sub {R : Type} [Lean.Grind.CommRing R] {p : Int} {inv : Int → Int} {co : R → Nat → Int} {l : List R} {A A' : List (Int × R)} {N N' : Nat} {T : zT} {D : zD} (h : zLs p inv co l A N T D) (hA' : ∀ a ∈ A', a ∈ A) (hN : N ≤ N') : zLs p inv co l A' N' T D := by
  obtain ⟨S, U, e, ⟨T1, e1, e2, e3⟩, hok, h10, hl, hA⟩ := h
  exact ⟨S, U, e, ⟨T1, e1, e2, by omega⟩, hok, h10, hl, fun a ha => hA a (hA' a ha)⟩
theorem law_go {R : Type} [Lean.Grind.CommRing R] {p : Int} {inv : Int → Int} {co : R → Nat → Int} {X : R} {C : Int → R} (I : zIf R p inv co X C) {E : List (List Int)} {sc : List Int} (hsc : E[0]? = some sc) (hsl : sc.length ≤ 2147483647) {Q : Int → zT → zD → Prop} (hQ : ∀ T D, zLT 700 T → Q 1 T D) : zj E 8 1 97 23 [(2, (-2)), (2, 0), (0, p), (9, 0), (9, 0), (9, 0), (9, 0), (9, 0), (9, 0), (9, 0), (9, 0), (9, 0)] [] zT0 zCo Q := by
  refine z97_23 _ _ ⟨by decide, by decide +kernel, c10 I (by decide) (fun U hok => ?_)⟩
  have hs : zLs p inv co [0, 0, 0, 0, 0, 0, 0, 0, 0, 0] [] 0 zT0 (zS p inv co (fun _ => (0 : R)) U) := by
    refine ⟨_, U, rfl, ⟨[], by rw [List.append_nil], fun t ht => absurd ht List.not_mem_nil, Nat.le_refl _⟩, hok, rfl, fun r r0 r1 => ?_, fun a ha => absurd ha List.not_mem_nil⟩
    have : r = 0 ∨ r = 1 ∨ r = 2 ∨ r = 3 ∨ r = 4 ∨ r = 5 ∨ r = 6 ∨ r = 7 ∨ r = 8 ∨ r = 9 := by omega
    rcases this with rfl | rfl | rfl | rfl | rfl | rfl | rfl | rfl | rfl | rfl <;> rfl
  refine z97_29 _ _ ⟨by decide, c92 I hsc hsl hs (by decide) (by decide) (by decide) (by decide) (by decide) rfl (fun T D f lf hs => ?_)⟩
  change zLs p inv co [f, 0, 0, 0, 0, 0, 0, 0, 0, 0] [(((zT0.length : Nat) : Int), f)] 1 T D at hs
  generalize ((zT0.length : Nat) : Int) = q3 at hs
  refine z97_40 _ _ _ ⟨by decide, c92 I hsc hsl hs (by decide) (by decide) (by decide) (by decide) (by decide) rfl (fun T' D g lg hs => ?_)⟩
  change zLs p inv co [f, g, 0, 0, 0, 0, 0, 0, 0, 0] [(((T.length : Nat) : Int), g), (q3, f)] 2 T' D at hs
  generalize ((T.length : Nat) : Int) = q4 at hs
  refine z97_53 _ _ _ _ ⟨by decide, c92 I hsc hsl hs (by decide) (by decide) (by decide) (by decide) (by decide) rfl (fun T D h lh hs => ?_)⟩
  change zLs p inv co [f, g, h, 0, 0, 0, 0, 0, 0, 0] [(((T'.length : Nat) : Int), h), (q4, g), (q3, f)] 3 T D at hs
  generalize ((T'.length : Nat) : Int) = q5 at hs
  have hs : zLs p inv co [f, g, h, 0, 0, 0, 0, 0, 0, 0] [(q3, f), (q4, g), (q5, h)] 3 T D := zLs_sub hs (fun a ha => by
    simp only [List.mem_cons, List.not_mem_nil, or_false] at ha ⊢
    rcases ha with ha | ha | ha
    · exact Or.inr (Or.inr ha)
    · exact Or.inr (Or.inl ha)
    · exact Or.inl ha) (Nat.le_refl _)
  refine law_a I (Nat.le_refl 8) lf lg lh hs (fun D x3 x4 x5 x6 x7 x8 x9 l6 hs => ?_)
  refine law_b I (Nat.le_refl 8) lf lg lh hs (fun D x3 x4 x5 x6 x7 x8 x9 hs => ?_)
  refine z97_289 _ _ _ _ _ _ ⟨by decide, c91 hsc hsl (by decide) (by decide) (fun x => ?_)⟩
  refine law_c1 I (Nat.le_refl 8) lf lg lh hs (fun D x3 x4 x5 x6 x7 x8 x9 l6 hs => ?_)
  refine law_c2 I (Nat.le_refl 8) lf lg lh hs (fun D x3 x4 x5 x6 x7 x8 x9 hs => ?_)
  refine law_d I (Nat.le_refl 8) lf lg lh hsc hsl hs (fun D x3 x4 x5 x6 x7 x8 x9 w7 hw7 hs => ?_)
  refine law_e I (Nat.le_refl 8) lf lg lh hw7 hs (fun D x3 x4 x5 x6 x7 x8 x9 hs hg hm => ?_)
  refine law_f I (Nat.le_refl 8) lf lg lh hw7 hs hg hm (fun D x3 x4 x5 x6 x7 x8 x9 hs => ?_)
  exact law_h I (Nat.le_refl 8) hQ lf lg hw7 hs
theorem zx_primes_in {x : Int} (h0 : 0 ≤ x) (h1 : x < 8) : zx_primes.getD x.toNat 0 ∈ ([2, 3, 5, 7, 11, 13, 31, 97] : List Int) := by
  have : x = 0 ∨ x = 1 ∨ x = 2 ∨ x = 3 ∨ x = 4 ∨ x = 5 ∨ x = 6 ∨ x = 7 := by omega
  rcases this with rfl | rfl | rfl | rfl | rfl | rfl | rfl | rfl <;> decide
theorem law_all {E : List (List Int)} {sc : List Int} {D : zD} (hsc : E[0]? = some sc) (hpr : E[1]? = some zx_primes) (hsl : sc.length ≤ 2147483647) {Q : Int → zT → zD → Prop} (hQ : ∀ T D, zLT 700 T → Q 1 T D) : zj E 8 1 97 0 [(2, (-2)), (9, 0), (9, 0), (9, 0), (9, 0), (9, 0), (9, 0), (9, 0), (9, 0), (9, 0), (9, 0), (9, 0)] [] [] D Q := by
  refine z97_0 hpr ⟨by decide, rfl, c0 (by decide) ?_⟩
  refine c91 hsc hsl (by decide) (by decide) (fun v => c90 (by decide) (by decide) (fun x x0 x1 => ⟨x0, x1, ?_⟩))
  have hp := zx_primes_in x0 x1
  generalize zx_primes.getD x.toNat 0 = p at hp
  obtain ⟨R, i, inv, co, X, C, I⟩ := zring hp
  exact law_go I hsc hsl hQ
theorem zsum60 : ∀ T1 : zT, (∀ t ∈ T1, t = ((50, 60) : Nat × Nat)) → (T1.map (fun t => t.2)).sum = 60 * T1.length := by
  intro T1
  induction T1 with
  | nil => intro _; rfl
  | cons t T1 ih =>
    intro h
    have e := h t List.mem_cons_self
    have := ih (fun u hu => h u (List.mem_cons_of_mem _ hu))
    rw [List.map_cons, List.sum_cons, this, e, List.length_cons]
    show 60 + 60 * T1.length = _
    omega
theorem zsl_qH (T : zT) (D : zD) : zx_sl (zqH T D) = (T.map (fun t => t.2)).sum := by
  unfold zx_sl
  congr 1
  apply List.ext_getElem?
  intro i
  rw [List.getElem?_map, List.getElem?_map, zqH, List.getElem?_mapIdx]
  cases T[i]? with
  | none => rfl
  | some t =>
    show some (zqC t.1 t.2 (D (i : Int))).2.length = some t.2
    unfold zqC
    rw [List.length_map, List.length_range]
/-- the walk, whatever the script is -/
theorem zl_each {L : Nat} (hL : L ≤ 260) (xs : Nat → Int32) : ∃ f h, zs_exec [zx_script L xs, zx_primes] f 8 zx_law0 = some (1, (0, 1), h) ∧ h.length ≤ 600086 ∧ zx_sl h ≤ 7301442 := by
  obtain ⟨f, x, T, D, h, hx, hT⟩ := law_all (E := [zx_script L xs, zx_primes]) (D := fun _ _ => 0) (sc := zx_script L xs) rfl rfl (by rw [zx_script, List.length_map, List.length_range]; omega) (Q := fun x T _ => x = 1 ∧ zLT 700 T) (fun T D h => ⟨rfl, h⟩)
  subst hx
  obtain ⟨T1, rfl, h1, h2⟩ := hT
  refine ⟨f, _, h, ?_, ?_⟩
  · rw [zqH_len, List.length_append, zT0_len]
    omega
  · rw [zsl_qH, List.map_append, List.sum_append, zsum60 T1 h1, show (zT0.map (fun t => t.2)).sum = (zT0.map (fun t => t.2)).sum from rfl]
    have : (zT0.map (fun t => t.2)).sum ≤ 10000 := by decide +kernel
    omega
