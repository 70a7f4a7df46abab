/-! Contracts: the grid. -/
theorem zX_ob {T : zT} (hT : zTT T) : zob T 91 5 12 := zTT_k hT (by decide) (by decide) (by decide +kernel)
theorem zX_k {T : zT} (hT : zTT T) : zk T 91 = 5 := (zX_ob hT).1
theorem zX_92 {T : zT} (hT : zTT T) : zk T 92 = 52 ∧ zn T 92 = 24 := zTT_k hT (by decide) (by decide) (by decide +kernel)
theorem zX_93 {T : zT} (hT : zTT T) : zk T 93 = 50 ∧ zn T 93 = 24 := zTT_k hT (by decide) (by decide) (by decide +kernel)
theorem zX_94 {T : zT} (hT : zTT T) : zk T 94 = 50 ∧ zn T 94 = 576 := zTT_k hT (by decide) (by decide) (by decide +kernel)
theorem zX_95 {T : zT} (hT : zTT T) : zk T 95 = 50 ∧ zn T 95 = 24 := zTT_k hT (by decide) (by decide) (by decide +kernel)
section
variable {R : Type} {p : Int} {inv : Int → Int} {co : R → Nat → Int} {S : Int → R} {U : zD}
theorem zX0 : zS p inv co S U 91 0 = 1 := rfl
theorem zX1 : zS p inv co S U 91 1 = 74 := rfl
theorem zX2 : zS p inv co S U 91 2 = 92 := rfl
theorem zX3 : zS p inv co S U 91 3 = 93 := rfl
theorem zX4 : zS p inv co S U 91 4 = U 91 4 := rfl
theorem zX5 : zS p inv co S U 91 5 = 94 := rfl
theorem zX6 : zS p inv co S U 91 6 = 95 := rfl
theorem zX7 : zS p inv co S U 91 7 = U 91 7 := rfl
theorem zX8 : zS p inv co S U 91 8 = 144 := rfl
theorem zX9 : zS p inv co S U 91 9 = 146 := rfl
theorem zXa : zS p inv co S U 91 10 = 148 := rfl
theorem zXb : zS p inv co S U 91 11 = 150 := rfl
theorem zX92 (i : Int) : zS p inv co S U 92 i = U 92 i := zS_mu rfl (by decide)
theorem zX93 (i : Int) : zS p inv co S U 93 i = U 93 i := zS_mu rfl (by decide)
theorem zX94 (i : Int) : zS p inv co S U 94 i = U 94 i := zS_mu rfl (by decide)
theorem zX95 (i : Int) : zS p inv co S U 95 i = U 95 i := zS_mu rfl (by decide)
theorem zXu4 (x : Int) : zu (zS p inv co S U) 91 4 x = zS p inv co S (zu U 91 4 x) := zS_zu rfl (by decide)
theorem zXu7 (x : Int) : zu (zS p inv co S U) 91 7 x = zS p inv co S (zu U 91 7 x) := zS_zu rfl (by decide)
theorem zXu92 (i x : Int) : zu (zS p inv co S U) 92 i x = zS p inv co S (zu U 92 i x) := zS_zu rfl (by decide)
theorem zXu93 (i x : Int) : zu (zS p inv co S U) 93 i x = zS p inv co S (zu U 93 i x) := zS_zu rfl (by decide)
theorem zXu94 (i x : Int) : zu (zS p inv co S U) 94 i x = zS p inv co S (zu U 94 i x) := zS_zu rfl (by decide)
theorem zXu95 (i x : Int) : zu (zS p inv co S U) 95 i x = zS p inv co S (zu U 95 i x) := zS_zu rfl (by decide)
end
theorem q144 : zPq 144 = true := by decide
theorem q146 : zPq 146 = true := by decide
theorem q148 : zPq 148 = true := by decide
theorem q150 : zPq 150 = true := by decide
/-- a cell of the grid -/
def zgr (U : zD) (l c : Nat) : Int := U 94 ((l : Int) * 24 + (c : Int))
def zGf (U U' : zD) : Prop := ∀ a i : Int, a ≠ 94 → U' a i = U a i
theorem zGf_r (U : zD) : zGf U U := fun _ _ _ => rfl
theorem zGf_u {U U' : zD} (h : zGf U U') (i x : Int) : zGf U (zu U' 94 i x) := fun a j ha => by
  unfold zu
  rw [if_neg (by omega)]
  exact h a j ha
theorem zgr_u (U : zD) (a k l c : Nat) (x : Int) (hk : k < 24) (hc : c < 24) : zgr (zu U 94 ((a : Int) * 24 + (k : Int)) x) l c = if l = a ∧ c = k then x else zgr U l c := by
  unfold zgr zu
  by_cases h : l = a ∧ c = k
  · obtain ⟨rfl, rfl⟩ := h
    rw [if_pos ⟨rfl, rfl⟩, if_pos ⟨rfl, rfl⟩]
  · rw [if_neg h, if_neg (by omega)]
theorem zg_rng {l c : Nat} (hl : l < 24) (hc : c < 24) : 0 ≤ (l : Int) * 24 + (c : Int) ∧ (l : Int) * 24 + (c : Int) < 576 := by omega
theorem c67 {R : Type} [Lean.Grind.CommRing R] {p : Int} {inv : Int → Int} {co : R → Nat → Int} {X : R} {C : Int → R} (I : zIf R p inv co X C) {E : List (List Int)} {d : Nat} {T : zT} {S : Int → R} {U : zD} {Q : Int → zT → zD → Prop} (hT : zTT T) (hS : ∀ a, zlen co (S a) ≤ 25) {l c : Nat} (hl : l < 24) (hc : c < 24) (hQ : Q (zgr U l c) T (zS p inv co S U)) : zc E d 1 67 [(2, 91), (0, (l : Int)), (0, (c : Int))] T (zS p inv co S U) Q := by
  have hr := zg_rng hl hc
  have h94 := zX_94 hT
  refine e67 _ _ _ ⟨by unfold zin; omega, fun h => by omega, fun _ => ⟨zX_ob hT, ?_, ?_, fun _ => ⟨?_, ?_⟩, fun h => ?_⟩⟩
  · rw [zX5]; exact h94.1
  · rw [zX5, h94.2]; exact zin_c (by decide)
  · rw [zX5]
    exact ⟨h94.1, hr.1, by rw [h94.2]; exact hr.2, by rw [h94.2]; decide⟩
  · rw [zX5, zX94]; exact hQ
  · rw [zX5, h94.2] at h
    omega
theorem c64 {R : Type} [Lean.Grind.CommRing R] {p : Int} {inv : Int → Int} {co : R → Nat → Int} {X : R} {C : Int → R} (I : zIf R p inv co X C) {E : List (List Int)} {d : Nat} {T : zT} {S : Int → R} {U : zD} {Q : Int → zT → zD → Prop} (hT : zTT T) (hS : ∀ a, zlen co (S a) ≤ 25) {l c : Nat} {x : Int} (hl : l < 24) (hc : c < 24) (hQ : Q 0 T (zS p inv co S (zu U 94 ((l : Int) * 24 + (c : Int)) x))) : zc E d 0 64 [(2, 91), (0, (l : Int)), (0, (c : Int)), (0, x)] T (zS p inv co S U) Q := by
  have hr := zg_rng hl hc
  have h94 := zX_94 hT
  refine e64 _ _ _ _ ⟨by unfold zin; omega, fun h => by omega, fun _ => ⟨zX_ob hT, ?_, ?_, fun h => ?_, fun _ => ⟨?_, ?_⟩⟩⟩
  · rw [zX5]; exact h94.1
  · rw [zX5, h94.2]; exact zin_c (by decide)
  · rw [zX5, h94.2] at h
    omega
  · rw [zX5]
    exact ⟨h94.1, hr.1, by rw [h94.2]; exact hr.2, by rw [h94.2]; decide⟩
  · rw [zX5, zXu94]; exact hQ
theorem c75 {R : Type} [Lean.Grind.CommRing R] {p : Int} {inv : Int → Int} {co : R → Nat → Int} {X : R} {C : Int → R} (I : zIf R p inv co X C) {E : List (List Int)} {d : Nat} {T : zT} {S : Int → R} {U : zD} {Q : Int → zT → zD → Prop} (hT : zTT T) (hS : ∀ a, zlen co (S a) ≤ 25) {c : Nat} (hc : c < 24) (hQ : Q (U 95 (c : Int)) T (zS p inv co S U)) : zc E d 1 75 [(2, 91), (0, (c : Int))] T (zS p inv co S U) Q := by
  have h95 := zX_95 hT
  refine e75 _ _ ⟨by unfold zin; omega, fun h => by omega, fun _ => ⟨zX_ob hT, ?_, ?_, fun _ => ⟨?_, ?_⟩, fun h => ?_⟩⟩
  · rw [zX6]; exact h95.1
  · rw [zX6, h95.2]; exact zin_c (by decide)
  · rw [zX6]
    exact ⟨h95.1, by omega, by rw [h95.2]; omega, by rw [h95.2]; decide⟩
  · rw [zX6, zX95]; exact hQ
  · rw [zX6, h95.2] at h
    omega
theorem c68 {R : Type} [Lean.Grind.CommRing R] {p : Int} {inv : Int → Int} {co : R → Nat → Int} {X : R} {C : Int → R} (I : zIf R p inv co X C) {E : List (List Int)} {d : Nat} {T : zT} {S : Int → R} {U : zD} {Q : Int → zT → zD → Prop} (hT : zTT T) (hS : ∀ a, zlen co (S a) ≤ 25) {c : Nat} {x : Int} (hc : c < 24) (hQ : Q 0 T (zS p inv co S (zu U 95 (c : Int) x))) : zc E d 0 68 [(2, 91), (0, (c : Int)), (0, x)] T (zS p inv co S U) Q := by
  have h95 := zX_95 hT
  refine e68 _ _ _ ⟨by unfold zin; omega, fun h => by omega, fun _ => ⟨zX_ob hT, ?_, ?_, fun h => ?_, fun _ => ⟨?_, ?_⟩⟩⟩
  · rw [zX6]; exact h95.1
  · rw [zX6, h95.2]; exact zin_c (by decide)
  · rw [zX6, h95.2] at h
    omega
  · rw [zX6]
    exact ⟨h95.1, by omega, by rw [h95.2]; omega, by rw [h95.2]; decide⟩
  · rw [zX6, zXu95]; exact hQ
theorem zin_n {n : Nat} (h : n ≤ 1000) : zin (n : Int) := by unfold zin; omega
theorem c66 {R : Type} [Lean.Grind.CommRing R] {p : Int} {inv : Int → Int} {co : R → Nat → Int} {X : R} {C : Int → R} (I : zIf R p inv co X C) {E : List (List Int)} {d : Nat} {T : zT} {S : Int → R} {U : zD} {Q : Int → zT → zD → Prop} (hT : zTT T) (hS : ∀ a, zlen co (S a) ≤ 25) {n f c : Nat} (hd : 1 ≤ d) (hn : U 91 7 = (n : Int)) (hn24 : n ≤ 24) (hc : c < n) (hf : f ≤ n) (hG : ∀ l k, l < n → k < n → 0 ≤ zgr U l k ∧ zgr U l k < p)
    (h0 : (∀ l, f ≤ l → l < n → zgr U l c = 0) → Q (-1) T (zS p inv co S U)) (h1 : ∀ l, f ≤ l → l < n → zgr U l c ≠ 0 → Q (l : Int) T (zS p inv co S U)) : zc E d 1 66 [(2, 91), (0, (f : Int)), (0, (c : Int))] T (zS p inv co S U) Q := by
  have hp := zR_p I
  have key : ∀ (m k : Nat), k + m = n → f ≤ k → (∀ l, f ≤ l → l < k → zgr U l c = 0) → zj E d 1 66 2 [(2, 91), (0, (f : Int)), (0, (c : Int)), (0, (k : Int))] [] T (zS p inv co S U) Q := by
    intro m
    induction m with
    | zero =>
      intro k hk hfk hz
      refine z66_2 _ _ _ _ ⟨zX_ob hT, zin_n (by omega), by rw [zX7, hn]; exact zin_n (by omega), fun _ => h0 (fun l a b => hz l a (by omega)), fun h => ?_⟩
      rw [zX7, hn] at h
      omega
    | succ m ih =>
      intro k hk hfk hz
      have hg := hG k c (by omega) hc
      refine z66_2 _ _ _ _ ⟨zX_ob hT, zin_n (by omega), by rw [zX7, hn]; exact zin_n (by omega), fun h => ?_, fun _ => ⟨by omega, zX_k hT, ?_⟩⟩
      · rw [zX7, hn] at h
        omega
      · refine c67 I hT hS (by omega) (by omega) ⟨by unfold zin; omega, fun h => ?_, fun h => h1 k hfk (by omega) h⟩
        exact ih (k + 1) (by omega) (by omega) (fun l a b => by
          by_cases e : l = k
          · subst e; exact h
          · exact hz l a (by omega))
  exact e66 _ _ _ (key (n - f) f (by omega) (Nat.le_refl _) (fun l a b => by omega))
theorem c69 {R : Type} [Lean.Grind.CommRing R] {p : Int} {inv : Int → Int} {co : R → Nat → Int} {X : R} {C : Int → R} (I : zIf R p inv co X C) {E : List (List Int)} {d : Nat} {T : zT} {S : Int → R} {U : zD} {Q : Int → zT → zD → Prop} (hT : zTT T) (hS : ∀ a, zlen co (S a) ≤ 25) {n a b : Nat} (hd : 1 ≤ d) (hn : U 91 7 = (n : Int)) (hn24 : n ≤ 24) (ha : a < n) (hb : b < n)
    (hQ : ∀ U', zGf U U' → (∀ l c, l < n → c < n → zgr U' l c = if l = a then zgr U b c else if l = b then zgr U a c else zgr U l c) → Q 0 T (zS p inv co S U')) : zc E d 0 69 [(2, 91), (0, (a : Int)), (0, (b : Int))] T (zS p inv co S U) Q := by
  have key : ∀ (m k : Nat) (U' : zD) (w : zv_V), zs_wide w = false → k + m = n → zGf U U' → (∀ l c, l < n → c < n → zgr U' l c = if c < k ∧ l = a then zgr U b c else if c < k ∧ l = b then zgr U a c else zgr U l c) → zj E d 0 69 2 [(2, 91), (0, (a : Int)), (0, (b : Int)), (0, (k : Int)), w] [] T (zS p inv co S U') Q := by
    intro m
    induction m with
    | zero =>
      intro k U' w hw hk hf hU
      have h7 : U' 91 7 = (n : Int) := by rw [hf 91 7 (by decide), hn]
      refine z69_2 _ _ _ _ _ hw ⟨zX_ob hT, zin_n (by omega), by rw [zX7, h7]; exact zin_n (by omega), fun _ => ?_, fun h => ?_⟩
      · refine hQ U' hf (fun l c hl hc => ?_)
        rw [hU l c hl hc]
        have : c < k := by omega
        simp only [this, true_and]
      · rw [zX7, h7] at h
        omega
    | succ m ih =>
      intro k U' w hw hk hf hU
      have h7 : U' 91 7 = (n : Int) := by rw [hf 91 7 (by decide), hn]
      refine z69_2 _ _ _ _ _ hw ⟨zX_ob hT, zin_n (by omega), by rw [zX7, h7]; exact zin_n (by omega), fun h => ?_, fun _ => ⟨by omega, zX_k hT, ?_⟩⟩
      · rw [zX7, h7] at h
        omega
      · refine c67 I hT hS (by omega) (by omega) ⟨zX_k hT, ?_⟩
        refine c67 I hT hS (by omega) (by omega) ⟨zX_k hT, ?_⟩
        refine c64 I hT hS (by omega) (by omega) ⟨zX_k hT, ?_⟩
        refine c64 I hT hS (by omega) (by omega) ?_
        refine ih (k + 1) _ _ rfl (by omega) (zGf_u (zGf_u hf _ _) _ _) (fun l c hl hc => ?_)
        have e1 := hU a k ha (by omega)
        have e2 := hU b k hb (by omega)
        rw [zgr_u _ _ _ _ _ _ (by omega) (by omega), zgr_u _ _ _ _ _ _ (by omega) (by omega), hU l c hl hc, e1, e2]
        have hkk : ¬ k < k := by omega
        simp only [hkk, false_and, if_false]
        by_cases hck : c = k
        · subst hck
          have : c < c + 1 := by omega
          simp only [hkk, this, and_true, true_and, false_and, if_false]
          by_cases x1 : l = a
          · by_cases x2 : l = b
            · subst x1; subst x2; simp
            · simp [x1, x2]
              intro h; omega
          · by_cases x2 : l = b
            · subst x2; simp [x1]
            · simp [x1, x2]
        · have : c < k + 1 ↔ c < k := by omega
          simp only [hck, this, and_false, if_false]
  exact e69 _ _ _ (key n 0 U (9, 0) rfl (by omega) (zGf_r U) (fun l c hl hc => by simp))
theorem c70 {R : Type} [Lean.Grind.CommRing R] {p : Int} {inv : Int → Int} {co : R → Nat → Int} {X : R} {C : Int → R} (I : zIf R p inv co X C) {E : List (List Int)} {d : Nat} {T : zT} {S : Int → R} {U : zD} {Q : Int → zT → zD → Prop} (hT : zTT T) (hS : ∀ a, zlen co (S a) ≤ 25) {n a : Nat} {x : Int} (hd : 1 ≤ d) (hn : U 91 7 = (n : Int)) (hn24 : n ≤ 24) (ha : a < n) (hx0 : 0 ≤ x) (hx1 : x < p) (hG : ∀ l k, l < n → k < n → 0 ≤ zgr U l k ∧ zgr U l k < p)
    (hQ : ∀ U', zGf U U' → (∀ l c, l < n → c < n → zgr U' l c = if l = a then (zgr U l c * x) % p else zgr U l c) → Q 0 T (zS p inv co S U')) : zc E d 0 70 [(2, 91), (0, (a : Int)), (0, x)] T (zS p inv co S U) Q := by
  have hp := zR_p I
  have key : ∀ (m k : Nat) (U' : zD), k + m = n → zGf U U' → (∀ l c, l < n → c < n → zgr U' l c = if c < k ∧ l = a then (zgr U l c * x) % p else zgr U l c) → zj E d 0 70 2 [(2, 91), (0, (a : Int)), (0, x), (0, (k : Int))] [] T (zS p inv co S U') Q := by
    intro m
    induction m with
    | zero =>
      intro k U' hk hf hU
      have h7 : U' 91 7 = (n : Int) := by rw [hf 91 7 (by decide), hn]
      refine z70_2 _ _ _ _ ⟨zX_ob hT, zin_n (by omega), by rw [zX7, h7]; exact zin_n (by omega), fun _ => ?_, fun h => ?_⟩
      · refine hQ U' hf (fun l c hl hc => ?_)
        rw [hU l c hl hc]
        have : c < k := by omega
        simp only [this, true_and]
      · rw [zX7, h7] at h
        omega
    | succ m ih =>
      intro k U' hk hf hU
      have h7 : U' 91 7 = (n : Int) := by rw [hf 91 7 (by decide), hn]
      have hg := hG a k ha (by omega)
      have e1 := hU a k ha (by omega)
      have hkk : ¬ k < k := by omega
      simp only [hkk, false_and, if_false] at e1
      refine z70_2 _ _ _ _ ⟨zX_ob hT, zin_n (by omega), by rw [zX7, h7]; exact zin_n (by omega), fun h => ?_, fun _ => ⟨by omega, zX_k hT, ?_⟩⟩
      · rw [zX7, h7] at h
        omega
      · refine c67 I hT hS (by omega) (by omega) ⟨by rw [zX0]; exact zF_k hT, ?_⟩
        rw [zX0, e1]
        refine c38 I hT hS hg.1 (by omega) hx0 (by omega) ⟨zX_k hT, ?_⟩
        refine c64 I hT hS (by omega) (by omega) ?_
        refine ih (k + 1) _ (by omega) (zGf_u hf _ _) (fun l c hl hc => ?_)
        rw [zgr_u _ _ _ _ _ _ (by omega) (by omega), hU l c hl hc]
        by_cases hck : c = k
        · subst hck
          by_cases x1 : l = a
          · subst x1; simp
          · simp [x1]
        · have : c < k + 1 ↔ c < k := by omega
          simp only [hck, this, and_false, if_false]
  exact e70 _ _ _ (key n 0 U (by omega) (zGf_r U) (fun l c hl hc => by simp))
theorem c72 {R : Type} [Lean.Grind.CommRing R] {p : Int} {inv : Int → Int} {co : R → Nat → Int} {X : R} {C : Int → R} (I : zIf R p inv co X C) {E : List (List Int)} {d : Nat} {T : zT} {S : Int → R} {U : zD} {Q : Int → zT → zD → Prop} (hT : zTT T) (hS : ∀ a, zlen co (S a) ≤ 25) {n a b : Nat} {x : Int} (hn : U 91 7 = (n : Int)) (hn24 : n ≤ 24) (ha : a < n) (hb : b < n) (hab : a ≠ b) (hx0 : 0 ≤ x) (hx1 : x < p) (hG : ∀ l k, l < n → k < n → 0 ≤ zgr U l k ∧ zgr U l k < p)
    (hQ : ∀ U', zGf U U' → (∀ l c, l < n → c < n → zgr U' l c = if l = a then (zgr U l c + x * zgr U b c) % p else zgr U l c) → Q 0 T (zS p inv co S U')) : zc E d 0 72 [(2, 91), (0, (a : Int)), (0, (b : Int)), (0, x)] T (zS p inv co S U) Q := by
  have hp := zR_p I
  have h94 := zX_94 hT
  have key : ∀ (m k : Nat) (U' : zD) (w6 w7 : zv_V), zs_wide w6 = false → zs_wide w7 = false → k + m = n → zGf U U' → (∀ l c, l < n → c < n → zgr U' l c = if c < k ∧ l = a then (zgr U l c + x * zgr U b c) % p else zgr U l c) → zj E d 0 72 12 [(2, 91), (0, (a : Int)), (0, (b : Int)), (0, x), (0, p), (0, (k : Int)), w6, w7] [] T (zS p inv co S U') Q := by
    intro m
    induction m with
    | zero =>
      intro k U' w6 w7 hw6 hw7 hk hf hU
      have h7 : U' 91 7 = (n : Int) := by rw [hf 91 7 (by decide), hn]
      refine z72_12 _ _ _ _ _ _ _ _ hw6 hw7 ⟨zX_ob hT, zin_n (by omega), by rw [zX7, h7]; exact zin_n (by omega), fun _ => ?_, fun h => ?_⟩
      · refine hQ U' hf (fun l c hl hc => ?_)
        rw [hU l c hl hc]
        have : c < k := by omega
        simp only [this, true_and]
      · rw [zX7, h7] at h
        omega
    | succ m ih =>
      intro k U' w6 w7 hw6 hw7 hk hf hU
      have h7 : U' 91 7 = (n : Int) := by rw [hf 91 7 (by decide), hn]
      have ga := hG a k ha (by omega)
      have gb := hG b k hb (by omega)
      have hkk : ¬ k < k := by omega
      have e1 := hU a k ha (by omega)
      have e2 := hU b k hb (by omega)
      simp only [hkk, false_and, if_false] at e1 e2
      have ra := zg_rng (l := a) (c := k) (by omega) (by omega)
      have rb := zg_rng (l := b) (c := k) (by omega) (by omega)
      have hm := zmulb hx0 (by omega : x ≤ 100) gb.1 (by omega)
      have f1 : zS p inv co S U' 94 ((a : Int) * 24 + (k : Int)) = zgr U a k := by rw [zX94]; exact e1
      have f2 : zS p inv co S U' 94 ((b : Int) * 24 + (k : Int)) = zgr U b k := by rw [zX94]; exact e2
      refine z72_12 _ _ _ _ _ _ _ _ hw6 hw7 ⟨zX_ob hT, zin_n (by omega), by rw [zX7, h7]; exact zin_n (by omega), fun h => ?_, fun _ => ⟨by unfold zin; omega, fun h => by omega, fun _ => ⟨by unfold zin; omega, fun h => by omega, fun _ => ⟨?_, ?_, fun h => ?_, fun _ => ⟨by unfold zin; omega, fun h => by omega, fun _ => ⟨fun h => ?_, fun _ => ⟨?_, ?_, ?_, by omega, by omega, ?_⟩⟩⟩⟩⟩⟩⟩
      · rw [zX7, h7] at h
        omega
      · rw [zX5]; exact h94.1
      · rw [zX5, h94.2]; exact zin_c (by decide)
      · rw [zX5, h94.2] at h
        omega
      · rw [zX5, h94.2] at h
        omega
      · rw [zX5]
        exact ⟨h94.1, ra.1, by rw [h94.2]; exact ra.2, by rw [h94.2]; decide⟩
      · rw [zX5]
        exact ⟨h94.1, rb.1, by rw [h94.2]; exact rb.2, by rw [h94.2]; decide⟩
      · rw [zX5, f1, f2]
        unfold zin; omega
      · rw [zX5, f1, f2, Int.tmod_eq_emod_of_nonneg (by omega), zXu94]
        refine ih (k + 1) _ _ _ rfl rfl (by omega) (zGf_u hf _ _) (fun l c hl hc => ?_)
        rw [zgr_u _ _ _ _ _ _ (by omega) (by omega), hU l c hl hc]
        by_cases hck : c = k
        · subst hck
          by_cases x1 : l = a
          · subst x1; simp
          · simp [x1]
        · have : c < k + 1 ↔ c < k := by omega
          simp only [hck, this, and_false, if_false]
  refine e72 _ _ _ _ ⟨zX_ob hT, by rw [zX0]; exact zF_ob hT, ?_⟩
  rw [zX0, zS_p]
  exact key n 0 U (9, 0) (9, 0) rfl rfl (by omega) (zGf_r U) (fun l c hl hc => by simp)
theorem c71 {R : Type} [Lean.Grind.CommRing R] {p : Int} {inv : Int → Int} {co : R → Nat → Int} {X : R} {C : Int → R} (I : zIf R p inv co X C) {E : List (List Int)} {d : Nat} {T : zT} {S : Int → R} {U : zD} {Q : Int → zT → zD → Prop} (hT : zTT T) (hS : ∀ a, zlen co (S a) ≤ 25) {n c b : Nat} (hd : 1 ≤ d) (hn : U 91 7 = (n : Int)) (hn24 : n ≤ 24) (hc : c < n) (hb : b < n) (hG : ∀ l k, l < n → k < n → 0 ≤ zgr U l k ∧ zgr U l k < p)
    (hQ : ∀ U', zGf U U' → (∀ l k, l < n → k < n → 0 ≤ zgr U' l k ∧ zgr U' l k < p) → (∀ l k, l < n → k < n → C (zgr U' l k) = if l = b then C (zgr U l k) else C (zgr U l k) - C (zgr U l c) * C (zgr U b k)) → Q 0 T (zS p inv co S U')) : zc E d 0 71 [(2, 91), (0, (c : Int)), (0, (b : Int))] T (zS p inv co S U) Q := by
  have hp := zR_p I
  have key : ∀ (m i : Nat) (U' : zD) (w : zv_V), zs_wide w = false → i + m = n → zGf U U' → (∀ l k, l < n → k < n → 0 ≤ zgr U' l k ∧ zgr U' l k < p) → (∀ l k, l < n → k < n → (i ≤ l ∨ l = b) → zgr U' l k = zgr U l k) → (∀ l k, l < n → k < n → l < i → l ≠ b → C (zgr U' l k) = C (zgr U l k) - C (zgr U l c) * C (zgr U b k)) → zj E d 0 71 2 [(2, 91), (0, (c : Int)), (0, (b : Int)), (0, (i : Int)), w] [] T (zS p inv co S U') Q := by
    intro m
    induction m with
    | zero =>
      intro i U' w hw hi hf hG' hU1 hU2
      have h7 : U' 91 7 = (n : Int) := by rw [hf 91 7 (by decide), hn]
      refine z71_2 _ _ _ _ _ hw ⟨zX_ob hT, zin_n (by omega), by rw [zX7, h7]; exact zin_n (by omega), fun _ => ?_, fun h => ?_⟩
      · refine hQ U' hf hG' (fun l k hl hk => ?_)
        by_cases e : l = b
        · rw [if_pos e, hU1 l k hl hk (Or.inr e)]
        · rw [if_neg e]; exact hU2 l k hl hk (by omega) e
      · rw [zX7, h7] at h
        omega
    | succ m ih =>
      intro i U' w hw hi hf hG' hU1 hU2
      have h7 : U' 91 7 = (n : Int) := by rw [hf 91 7 (by decide), hn]
      have hg := hG i c (by omega) hc
      have e1 := hU1 i c (by omega) hc (Or.inl (Nat.le_refl _))
      have e2 : ∀ k, k < n → zgr U' b k = zgr U b k := fun k hk => hU1 b k hb hk (Or.inr rfl)
      refine z71_2 _ _ _ _ _ hw ⟨zX_ob hT, zin_n (by omega), by rw [zX7, h7]; exact zin_n (by omega), fun h => ?_, fun _ => ⟨by omega, zX_k hT, ?_⟩⟩
      · rw [zX7, h7] at h
        omega
      · refine c67 I hT hS (by omega) (by omega) ⟨by rw [zX0]; exact zF_k hT, ?_⟩
        rw [zX0, e1]
        have hCm : C (if zgr U i c = 0 then 0 else p - zgr U i c) = - C (zgr U i c) := by
          split
          · next h => rw [h, zR_C0 I]; grind
          · rw [zR_Csub I, zR_Cp I]; grind
        refine c28 I hT hS hg.1 hg.2 ⟨zin_n (by omega), fun h => ?_, fun h => ⟨by split <;> (unfold zin; omega), fun h0 => ?_, fun h0 => ⟨zX_k hT, ?_⟩⟩⟩
        · have hib : i = b := by omega
          refine ih (i + 1) U' _ rfl (by omega) hf hG' (fun l k hl hk h => hU1 l k hl hk (by omega)) (fun l k hl hk h1 h2 => hU2 l k hl hk (by omega) h2)
        · have hz : zgr U i c = 0 := by
            split at h0
            · assumption
            · omega
          refine ih (i + 1) U' _ rfl (by omega) hf hG' (fun l k hl hk h => hU1 l k hl hk (by omega)) (fun l k hl hk h1 h2 => ?_)
          by_cases e : l = i
          · subst e
            rw [hU1 l k hl hk (Or.inl (Nat.le_refl _)), hz, zR_C0 I]
            grind
          · exact hU2 l k hl hk (by omega) h2
        · refine c72 I hT hS (U := U') h7 hn24 (by omega) hb (by omega) (by split <;> omega) (by split <;> omega) hG' (fun U'' hf2 hU3 => ?_)
          refine ih (i + 1) U'' _ rfl (by omega) (fun a j ha => (hf2 a j ha).trans (hf a j ha)) (fun l k hl hk => ?_) (fun l k hl hk h => ?_) (fun l k hl hk h1 h2 => ?_)
          · rw [hU3 l k hl hk]
            split
            · exact zmodr I _
            · exact hG' l k hl hk
          · rw [hU3 l k hl hk, if_neg (by omega)]
            exact hU1 l k hl hk (by omega)
          · rw [hU3 l k hl hk]
            by_cases e : l = i
            · subst e
              rw [if_pos rfl, zR_Cmod I, zR_Cadd I, zR_Cmul I, hCm, hU1 l k hl hk (Or.inl (Nat.le_refl _)), e2 k hk]
              grind
            · rw [if_neg e]
              exact hU2 l k hl hk (by omega) h2
  exact e71 _ _ _ (key n 0 U (9, 0) rfl (by omega) (zGf_r U) hG (fun l k hl hk h => rfl) (fun l k hl hk h1 h2 => by omega))
