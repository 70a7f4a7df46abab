/-! Splitting: what it does to the parts. -/
def zPP {R : Type} [Lean.Grind.CommRing R] (C : Int → R) (f v : R) (c : Int) : Prop := zdv f (v - C c) ∨ zcp f (v - C c)
theorem zPP_sub {R : Type} [Lean.Grind.CommRing R] {C : Int → R} {f g v : R} {c : Int} (h : zPP C f v c) (hg : zdv g f) : zPP C g v c := by
  rcases h with h | h
  · exact Or.inl (zdv_trans hg h)
  · exact Or.inr (zcp_dv h hg (zdv_refl _))
theorem zPP_split {R : Type} [Lean.Grind.CommRing R] {p : Int} {inv : Int → Int} {co : R → Nat → Int} {X : R} {C : Int → R} (I : zIf R p inv co X C) {f g h v : R} {c : Int} (hf : f ≠ 0) (hs : zsq co f) (e : f = h * g) (hg : zgcd f (v - C c) g) : zPP C g v c ∧ zPP C h v c := by
  obtain ⟨h1, h2, x, y, h3⟩ := hg
  refine ⟨Or.inl h2, Or.inr (zcp_of I (by rintro rfl; exact hf (by rw [e]; grind)) (fun t t1 t2 => ?_))⟩
  have tf : zdv t f := by rw [e]; exact zdv_mulr g t1
  have tg : zdv t g := by rw [h3]; exact zdv_add (zdv_mul _ tf) (zdv_mul _ t2)
  exact hs t (by rw [e]; exact zdv_mm t1 tg)
theorem zPP_no {R : Type} [Lean.Grind.CommRing R] {p : Int} {inv : Int → Int} {co : R → Nat → Int} {X : R} {C : Int → R} (I : zIf R p inv co X C) {f g v : R} {c : Int} (hf : f ≠ 0) (hg : zgcd f (v - C c) g) (hl : zlen co g ≤ 1 ∨ zlen co f ≤ zlen co g) : zPP C f v c := by
  obtain ⟨⟨q, hq⟩, h2, x, y, h3⟩ := hg
  have hg0 : g ≠ 0 := by rintro rfl; exact hf (by rw [hq]; grind)
  have hq0 : q ≠ 0 := by rintro rfl; exact hf (by rw [hq]; grind)
  by_cases h1 : zlen co g ≤ 1
  · refine Or.inr (zcp_of I hf (fun t t1 t2 => ?_))
    have tg : zdv t g := by rw [h3]; exact zdv_add (zdv_mul _ t1) (zdv_mul _ t2)
    have := zdv_len I tg hg0
    omega
  · have hlen := zM_len I hg0 hq0
    rw [← hq] at hlen
    have e1 := zL_const I (a := q) (by omega)
    obtain ⟨d, hd⟩ := zCnz I (c := co q 0) (by rw [← e1]; exact hq0)
    rw [← e1] at hd
    have : zdv f g := ⟨C d, by rw [hq]; grind⟩
    exact Or.inl (zdv_trans this h2)
/-- products of rows -/
def zprd {R : Type} [Lean.Grind.CommRing R] : Nat → (Nat → R) → R
  | 0, _ => 1
  | n + 1, f => zprd n f * f n
theorem zprd_c {R : Type} [Lean.Grind.CommRing R] {f g : Nat → R} : ∀ {n : Nat}, (∀ k, k < n → f k = g k) → zprd n f = zprd n g := by
  intro n
  induction n with
  | zero => intro _; rfl
  | succ n ih => intro h; show zprd n f * f n = zprd n g * g n; rw [ih (fun k hk => h k (by omega)), h n (by omega)]
theorem zprd_skip {R : Type} [Lean.Grind.CommRing R] (g : Nat → R) (i0 : Nat) : ∀ n : Nat, i0 ≤ n → zprd (n + 1) g = g i0 * zprd n (fun i => g (zskip i0 i)) := by
  intro n
  induction n with
  | zero =>
    intro h
    have : i0 = 0 := by omega
    subst this
    show 1 * g 0 = g 0 * 1
    grind
  | succ n ih =>
    intro h
    by_cases e : i0 = n + 1
    · subst e
      show zprd (n + 1) g * g (n + 1) = g (n + 1) * zprd (n + 1) _
      rw [zprd_c (f := fun i => g (zskip (n + 1) i)) (g := g) (fun k hk => by simp only [zskip]; rw [if_pos hk])]
      grind
    · show zprd (n + 1) g * g (n + 1) = g i0 * (zprd n _ * g (zskip i0 n))
      rw [ih (by omega)]
      have : zskip i0 n = n + 1 := by simp only [zskip]; rw [if_neg (by omega)]
      rw [this]
      grind
theorem zprd_dv {R : Type} [Lean.Grind.CommRing R] {g : Nat → R} {n i : Nat} (hi : i < n) : zdv (g i) (zprd n g) := by
  obtain ⟨m, rfl⟩ : ∃ m, n = m + 1 := ⟨n - 1, by omega⟩
  rw [zprd_skip g i m (by omega)]
  exact ⟨_, rfl⟩
/-- one factor taken apart in two -/
theorem zprd_two {R : Type} [Lean.Grind.CommRing R] {f g : Nat → R} {m i : Nat} {a b : R} (hi : i < m) (e : f i = a * b) (hg : ∀ j, j < m → g j = if j = i then a else f j) (hm : g m = b) : zprd (m + 1) g = zprd m f := by
  obtain ⟨n, rfl⟩ : ∃ n, m = n + 1 := ⟨m - 1, by omega⟩
  show zprd (n + 1) g * g (n + 1) = zprd (n + 1) f
  rw [zprd_skip g i n (by omega), zprd_skip f i n (by omega), hm, hg i hi, if_pos rfl, e]
  rw [zprd_c (f := fun j => g (zskip i j)) (g := fun j => f (zskip i j)) (fun k hk => by
    have h1 : zskip i k ≠ i := by simp only [zskip]; split <;> omega
    have h2 : zskip i k < n + 1 := by simp only [zskip]; split <;> omega
    show g (zskip i k) = f (zskip i k)
    rw [hg _ h2, if_neg h1])]
  grind
theorem zprd_len {R : Type} [Lean.Grind.CommRing R] {p : Int} {inv : Int → Int} {co : R → Nat → Int} {X : R} {C : Int → R} (I : zIf R p inv co X C) {g : Nat → R} {n : Nat} (h : ∀ i, i < n → 2 ≤ zlen co (g i)) : n + 1 ≤ zlen co (zprd n g) := by
  induction n with
  | zero => show 1 ≤ zlen co (1 : R); rw [zL_1 I]; omega
  | succ n ih =>
    have h1 := ih (fun i hi => h i (by omega))
    have h2 := h n (by omega)
    show n + 2 ≤ zlen co (zprd n g * g n)
    have := zM_len I (a := zprd n g) (b := g n) (by intro e; rw [e, zL_0 I] at h1; omega) (by intro e; rw [e, zL_0 I] at h2; omega)
    omega
theorem zprd_len2 {R : Type} [Lean.Grind.CommRing R] {p : Int} {inv : Int → Int} {co : R → Nat → Int} {X : R} {C : Int → R} (I : zIf R p inv co X C) {g : Nat → R} {n i : Nat} (h : ∀ i, i < n → 2 ≤ zlen co (g i)) (hi : i < n) (h3 : 3 ≤ zlen co (g i)) : n + 2 ≤ zlen co (zprd n g) := by
  obtain ⟨m, rfl⟩ : ∃ m, n = m + 1 := ⟨n - 1, by omega⟩
  rw [zprd_skip g i m (by omega)]
  have h1 := zprd_len I (g := fun j => g (zskip i j)) (n := m) (fun j hj => h _ (by simp only [zskip]; split <;> omega))
  have := zM_len I (a := g i) (b := zprd m (fun j => g (zskip i j))) (by intro e; rw [e, zL_0 I] at h3; omega) (by intro e; rw [e, zL_0 I] at h1; omega)
  omega
theorem zmon_mul {R : Type} [Lean.Grind.CommRing R] {p : Int} {inv : Int → Int} {co : R → Nat → Int} {X : R} {C : Int → R} (I : zIf R p inv co X C) {a b : R} (ha : zmon co a) (hb : zmon co b) : zmon co (a * b) := by
  have h1 := zM_len I (zmon_ne I ha) (zmon_ne I hb)
  obtain ⟨m, a1, a2⟩ := ha
  obtain ⟨n, b1, b2⟩ := hb
  have := (zM_hi I b n (by omega) m a (by omega)).2
  have hp := zR_p I
  refine ⟨m + n, by omega, ?_⟩
  rw [this, a2, b2, Int.mul_one, Int.emod_eq_of_lt (by omega) (by omega)]
theorem zmon_div {R : Type} [Lean.Grind.CommRing R] {p : Int} {inv : Int → Int} {co : R → Nat → Int} {X : R} {C : Int → R} (I : zIf R p inv co X C) {a b : R} (h : zmon co (a * b)) (hb : zmon co b) : zmon co a := by
  have h0 := zmon_ne I h
  have ha : a ≠ 0 := by rintro rfl; exact h0 (by grind)
  have h1 := zM_len I ha (zmon_ne I hb)
  obtain ⟨k, c1, c2⟩ := h
  obtain ⟨n, b1, b2⟩ := hb
  obtain ⟨m, a1⟩ := zL_pos I ha
  have := (zM_hi I b n (by omega) m a (by omega)).2
  refine ⟨m, a1, ?_⟩
  rw [b2, Int.mul_one, zR_mod I, show m + n = k by omega, c2] at this
  exact this.symm
theorem zsq_dv {R : Type} [Lean.Grind.CommRing R] {co : R → Nat → Int} {f w : R} (h : zsq co w) (hf : zdv f w) : zsq co f := fun t ht => h t (zdv_trans ht hf)
/-- what stays where pieces are split: rest, vector, registers, other pieces -/
def zFr {R : Type} (S : Int → R) (U : zD) (S' : Int → R) (U' : zD) : Prop := (∀ x, x = 144 ∨ x = 150 ∨ (4 ≤ x ∧ x ≤ 22) ∨ (96 ≤ x ∧ x ≤ 142) → S' x = S x) ∧ (∀ x i, x ≠ 74 → U' x i = U x i)
theorem zFr_r {R : Type} (S : Int → R) (U : zD) : zFr S U S U := ⟨fun _ _ => rfl, fun _ _ _ => rfl⟩
theorem zFr_f {R : Type} {S S1 : Int → R} {U U1 : zD} (h1 : zEf S U S1 U1) : zFr S U S1 U1 := ⟨fun x hx => h1.1 x (by omega), h1.2⟩
theorem zFr_w {R : Type} {S S1 : Int → R} {U U1 : zD} (h1 : zFr S U S1 U1) {q : Int} {v : R} (hq : q = 146 ∨ q = 148) : zFr S U (zup S1 q v) U1 :=
  ⟨fun x hx => by rw [zup_o _ _ (by omega)]; exact h1.1 x hx, h1.2⟩
theorem zFr_v {R : Type} {S S1 : Int → R} {U U1 : zD} (h1 : zFr S U S1 U1) (q : Int) (v : R) : zFr (zup S q v) U (zup S1 q v) U1 :=
  ⟨fun x hx => by
    unfold zup
    split
    · rfl
    · exact h1.1 x hx, h1.2⟩
theorem zFr_U {R : Type} {S S1 : Int → R} {U U1 : zD} (h1 : zFr S U S1 U1) (a i x : Int) : zFr S (zu U a i x) S1 (zu U1 a i x) :=
  ⟨h1.1, fun y j hy => by
    unfold zu
    split
    · rfl
    · exact h1.2 y j hy⟩
theorem zPR_q {U : zD} (h : zPR U) {i : Int} (h0 : 0 ≤ i) (h24 : i < 24) : zPq (U 92 i) = true := by
  rw [zPq_iff]
  have := h.1 i h0 h24
  omega
theorem zPR_e {U U' : zD} (e : ∀ i, U' 92 i = U 92 i) (h : zPR U) : zPR U' :=
  ⟨fun i h0 h24 => by rw [e]; exact h.1 i h0 h24, fun i j a1 a2 a3 a4 a5 => by rw [e, e]; exact h.2 i j a1 a2 a3 a4 a5⟩
theorem c76 {R : Type} [Lean.Grind.CommRing R] {p : Int} {inv : Int → Int} {co : R → Nat → Int} {X : R} {C : Int → R} (I : zIf R p inv co X C) {E : List (List Int)} {d : Nat} {T : zT} {S : Int → R} {U : zD} {Q : Int → zT → zD → Prop} (hT : zTT T) (hS : ∀ a, zlen co (S a) ≤ 25) {i : Nat} (hP : zPR U) (hi : i < 24) (hQ : Q (U 92 (i : Int)) T (zS p inv co S U)) : zc E d 2 76 [(2, 91), (0, (i : Int))] T (zS p inv co S U) Q := by
  have h92 := zX_92 hT
  have := hP.1 (i : Int) (by omega) (by omega)
  refine e76 _ _ ⟨zin_n (by omega), fun h => by omega, fun _ => ⟨zX_ob hT, ?_, ?_, fun _ => ⟨?_, ?_, ?_, ?_⟩, fun h => ?_⟩⟩
  · rw [zX2]; exact h92.1
  · rw [zX2, h92.2]; exact zin_c (by decide)
  · rw [zX2]
    exact ⟨h92.1, by omega, by rw [h92.2]; omega, by rw [h92.2]; decide⟩
  · rw [zX2, zX92]; omega
  · rw [zX2, zX92]; omega
  · rw [zX2, zX92]; exact hQ
  · rw [zX2, h92.2] at h
    omega
theorem c61 {R : Type} [Lean.Grind.CommRing R] {p : Int} {inv : Int → Int} {co : R → Nat → Int} {X : R} {C : Int → R} (I : zIf R p inv co X C) {E : List (List Int)} {d : Nat} {T : zT} {S : Int → R} {U : zD} {Q : Int → zT → zD → Prop} (hT : zTT T) (hS : ∀ a, zlen co (S a) ≤ 25) {a : Int} {n : Nat} (hd : 1 ≤ d) (hP : zPR U) (hn : U 91 4 = (n : Int)) (hn24 : n < 24) (ha : zPq a = true) (hne : a ≠ U 92 (n : Int)) (hQ : Q 0 T (zS p inv co (zup S (U 92 (n : Int)) (S a)) (zu U 91 4 ((n + 1 : Nat) : Int)))) : zc E d 0 61 [(2, 91), (2, a)] T (zS p inv co S U) Q := by
  have h92 := zX_92 hT
  have hb := hP.1 (n : Int) (by omega) (by omega)
  have hq := zPR_q hP (i := (n : Int)) (by omega) (by omega)
  refine e61 _ _ ⟨zX_ob hT, by rw [zX4, hn]; exact zin_n (by omega), fun h => ?_, fun _ => ⟨?_, ?_, fun h => ?_, fun _ => ⟨?_, ?_, by omega, ?_, ?_⟩⟩⟩
  · rw [zX4, hn] at h
    omega
  · rw [zX2]; exact h92.1
  · rw [zX2, h92.2]; exact zin_c (by decide)
  · rw [zX4, hn, zX2, h92.2] at h
    omega
  · rw [zX4, hn, zX2]
    exact ⟨h92.1, by omega, by rw [h92.2]; omega, by rw [h92.2]; decide⟩
  · rw [zX4, hn, zX2, zX92]; omega
  · rw [zX4, hn, zX2, zX92]; exact zP_k hT hq
  · rw [zX4, hn, zX2, zX92]
    refine c25 I hT hS hq ha hne ⟨zX_ob hT, ?_⟩
    rw [zX4, hn, zXu4]
    exact hQ
theorem c77 {R : Type} [Lean.Grind.CommRing R] {p : Int} {inv : Int → Int} {co : R → Nat → Int} {X : R} {C : Int → R} (I : zIf R p inv co X C) {E : List (List Int)} {d : Nat} {T : zT} {S : Int → R} {U : zD} {Q : Int → zT → zD → Prop} (hT : zTT T) (hS : ∀ a, zlen co (S a) ≤ 25) {i n : Nat} (hd : 3 ≤ d) (hE : zEU U) (hP : zPR U) (hn : U 91 4 = (n : Int)) (hin : i < n) (hn24 : 3 ≤ zlen co (S (U 92 (i : Int))) → n < 24) (hn25 : n ≤ 24) (hm : zmon co (S (U 92 (i : Int))))
    (hQa : ∀ S' U', (∀ x, zlen co (S' x) ≤ 25) → zEU U' → zPR U' → zFr S U S' U' → (zlen co (S (U 92 (i : Int))) ≤ 2 ∨ ∃ g, zgcd (S (U 92 (i : Int))) (S 150) g ∧ (zlen co g ≤ 1 ∨ zlen co (S (U 92 (i : Int))) ≤ zlen co g)) → Q 0 T (zS p inv co S' U'))
    (hQb : ∀ S' U' g h, (∀ x, zlen co (S' x) ≤ 25) → zEU U' → zPR U' → zFr (zup (zup S (U 92 (n : Int)) g) (U 92 (i : Int)) h) (zu U 91 4 ((n + 1 : Nat) : Int)) S' U' → S (U 92 (i : Int)) = h * g → zgcd (S (U 92 (i : Int))) (S 150) g → zmon co g → zmon co h → 2 ≤ zlen co g → 2 ≤ zlen co h → n < 24 → Q 0 T (zS p inv co S' U')) :
    zc E d 0 77 [(2, 91), (2, U 92 (i : Int))] T (zS p inv co S U) Q := by
  have hq := zPR_q hP (i := (i : Int)) (by omega) (by omega)
  have hb := hP.1 (i : Int) (by omega) (by omega)
  have hl := hS (U 92 (i : Int))
  refine e77 _ _ ⟨by omega, zP_k hT hq, ?_⟩
  refine c21 I hT hS hq ⟨zin_h hl, fun h => ⟨zX_ob hT, by rw [zX1]; exact zE_k hT, ?_⟩, fun h => hQa S U hS hE hP (zFr_r S U) (Or.inl (by omega))⟩
  rw [zX1, zXb]
  have h3 : 3 ≤ zlen co (S (U 92 (i : Int))) := by omega
  have hlt := hn24 h3
  refine c33 I hT hS (by omega) hE hq q150 (by omega) (by decide) (fun S1 U1 hf hS1 hE1 hg hgm => ⟨zX_ob hT, by rw [zX1]; exact zE_k hT, ?_⟩)
  rw [zX1]
  have e92 : ∀ j, U1 92 j = U 92 j := fun j => hf.2 92 j (by decide)
  have hP1 := zPR_e e92 hP
  have hr3 := zEU_q hE1 3 (by omega) (by omega)
  have hb3 := hE1.1 3 (by omega) (by omega)
  have ei : S1 (U 92 (i : Int)) = S (U 92 (i : Int)) := hf.1 _ (by omega)
  have hf0 := zmon_ne I hm
  have hgm' : zmon co (S1 (U1 74 3)) := by
    rcases hgm with h | h
    · exfalso
      obtain ⟨⟨q, hq'⟩, -⟩ := hg
      rw [h] at hq'
      exact hf0 (by rw [hq']; grind)
    · exact h
  have hl3 := hS1 (U1 74 3)
  refine c41 I hT hS1 hE1 ⟨zP_k hT hr3, ?_⟩
  refine c21 I hT hS1 hr3 ⟨zin_h hl3, fun h => hQa S1 U1 hS1 hE1 hP1 (zFr_f hf) (Or.inr ⟨_, hg, Or.inl (by omega)⟩), fun h1 => ⟨zP_k hT hr3, ?_⟩⟩
  refine c21 I hT hS1 hr3 ⟨zP_k hT hq, ?_⟩
  refine c21 I hT hS1 hq ⟨zin_h hl3, zin_h (hS1 _), fun h2 => ⟨zX_k hT, ?_⟩, fun h2 => hQa S1 U1 hS1 hE1 hP1 (zFr_f hf) (Or.inr ⟨_, hg, Or.inr (by rw [ei] at h2; omega)⟩)⟩
  rw [ei] at h2
  have h4 : U1 91 4 = (n : Int) := by rw [hf.2 91 4 (by decide), hn]
  have hbn := hP.1 (n : Int) (by omega) (by omega)
  have hni : U 92 (n : Int) ≠ U 92 (i : Int) := hP.2 n i (by omega) (by omega) (by omega) (by omega) (by omega)
  refine c61 I hT hS1 (by omega) hP1 h4 hlt hr3 (by rw [e92]; omega) ⟨zX_ob hT, by rw [zX9]; exact zP_k hT q146, ?_⟩
  rw [e92, zX9]
  generalize hgd : S1 (U1 74 3) = g at *
  have hS2 := zup_l hS1 (q := U 92 (n : Int)) hl3
  have e2i : zup S1 (U 92 (n : Int)) g (U 92 (i : Int)) = S (U 92 (i : Int)) := by rw [zup_o _ _ (Ne.symm hni), ei]
  refine c25 I hT hS2 q146 hq (by omega) ⟨zX_ob hT, by rw [zXa]; exact zP_k hT q148, ?_⟩
  rw [e2i, zXa]
  have hS3 := zup_l hS2 (q := 146) hl
  have hS4 := zup_l hS3 (q := 148) (v := (0 : R)) (by rw [zL_0 I]; omega)
  refine c13 I hT hS3 q148 ⟨zX_ob hT, by rw [zX9]; exact zP_k hT q146, ?_⟩
  rw [zX9, zXa]
  have e4g : zup (zup (zup S1 (U 92 (n : Int)) g) 146 (S (U 92 (i : Int)))) 148 (0 : R) (U1 74 3) = g := by
    rw [zup_o _ _ (by omega), zup_o _ _ (by omega), zup_o _ _ (by omega), hgd]
  have e4s : zup (zup (zup S1 (U 92 (n : Int)) g) 146 (S (U 92 (i : Int)))) 148 (0 : R) 146 = S (U 92 (i : Int)) := by
    rw [zup_o _ _ (by decide), zup_s]
  refine c35q I hT hS4 (by omega) q146 hr3 q148 (by omega) (by decide) (by omega) (by rw [e4g]; exact zmon_ne I hgm') (zup_s _ _ _) (fun qq r x1 x2 x3 => ⟨zX_ob hT, zP_k hT hq, ?_⟩)
  rw [e4s, e4g] at x1
  rw [e4g] at x2
  rw [zup_up, zXa]
  have hr0 : r = 0 := by
    refine zdv_small I (a := g) ?_ x2
    have : r = S (U 92 (i : Int)) - qq * g := by rw [x1]; grind
    rw [this]
    exact zdv_sub hg.1 (zdv_mul _ (zdv_refl _))
  have x4 : S (U 92 (i : Int)) = qq * g := by rw [x1, hr0]; grind
  have hS5 := zup_l (zup_l hS3 (q := 148) x3) (q := 146) (v := r) (by rw [hr0, zL_0 I]; omega)
  refine c25 I hT hS5 hq q148 (by omega) ?_
  rw [zup_o _ _ (show (148 : Int) ≠ 146 by decide), zup_s]
  have hqm : zmon co qq := by
    rw [x4] at hm
    exact zmon_div I hm hgm'
  have hlen := zM_len I (zmon_ne I hqm) (zmon_ne I hgm')
  rw [← x4] at hlen
  refine hQb _ _ g qq (zup_l hS5 x3) ?_ ?_ ?_ x4 hg hgm' hqm (by omega) (by omega) hlt
  · exact ⟨fun j a1 a2 => hE1.1 j a1 a2, fun j k a1 a2 a3 a4 a5 => hE1.2 j k a1 a2 a3 a4 a5⟩
  · exact zPR_e (fun j => rfl) hP1
  · refine zFr_v ?_ _ _
    exact zFr_w (zFr_w (zFr_w (zFr_v (zFr_U (zFr_f hf) 91 4 _) _ _) (by omega)) (by omega)) (by omega)
