/-! Contracts: reckon, divide, bezout, power as the law calls them. -/
theorem zOK_u {R : Type} {co : R → Nat → Int} {S : Int → R} {U : zD} (h : zOK co S U) {q : Int} {v : R} (hv : zlen co v ≤ 25) : zOK co (zup S q v) U := ⟨zup_l h.1 hv, h.2.1, h.2.2⟩
theorem c22 {R : Type} [Lean.Grind.CommRing R] {p : Int} {inv : Int → Int} {co : R → Nat → Int} {X : R} {C : Int → R} (I : zIf R p inv co X C) {E : List (List Int)} {d : Nat} {T : zT} {S : Int → R} {U : zD} {Q : Int → zT → zD → Prop} (hT : zTT T) (hok : zOK co S U) {s a b to : Int} (hd : 4 ≤ d) (hs : 0 ≤ s) (hs2 : s < 7) (a0 : 0 ≤ a) (a1 : a < 10) (b0 : 0 ≤ b) (b1 : b < 10) (t0 : 0 ≤ to) (t1 : to < 10)
    (h2 : s = 2 → 0 < zlen co (S (4 + 2 * a)) → 0 < zlen co (S (4 + 2 * b)) → zlen co (S (4 + 2 * a)) + zlen co (S (4 + 2 * b)) ≤ 26) (h3 : s = 3 → (zlen co (S (4 + 2 * a)) - 1) * (zlen co (S (4 + 2 * b)) - 1) ≤ 24)
    (hcomb : zc E (d - 1) 0 24 [(2, 0), (0, s), (2, 4 + 2 * a), (2, 4 + 2 * b)] T (zS p inv co S U) (fun _ T' D' => ∃ S' U', T' = T ∧ D' = zS p inv co S' U' ∧ zOK co S' U' ∧ Q ((zlen co (S' 152) : Int) - 1) T (zS p inv co (zup S' (4 + 2 * to) (S' 152)) U'))) :
    zc E d 1 22 [(2, 0), (0, s), (0, a), (0, b), (0, to)] T (zS p inv co S U) Q := by
  have hS := hok.1
  have qa := zreg_q a0 a1
  have qb := zreg_q b0 b1
  have qt := zreg_q t0 t1
  refine e22 _ _ _ _ _ ⟨zin_t hs (by omega), fun h => by omega, fun _ => ⟨fun _ => ⟨by omega, zO_k hT, ?_⟩, fun h => by omega⟩⟩
  refine c17 I hT hS a0 a1 ⟨zO_k hT, ?_⟩
  refine c17 I hT hS b0 b1 ⟨zO_k hT, ?_⟩
  refine c17 I hT hS t0 t1 ⟨zP_k hT qa, ?_⟩
  refine c21 I hT hS qa ⟨zP_k hT qb, ?_⟩
  refine c21 I hT hS qb ?_
  refine c23 hs hs2 (hS _) (hS _) h2 h3 ⟨zin_0, fun _ => ⟨zO_k hT, ?_⟩, fun h => absurd rfl h⟩
  refine zc_mono hcomb (fun x T' D' h => ?_)
  obtain ⟨S', U', rfl, rfl, hok', hQ⟩ := h
  refine ⟨zO_ob hT, zP_k hT qt, ?_⟩
  rw [zS08]
  refine c25 I hT hok'.1 qt q152 (by omega) ⟨zP_k hT qt, ?_⟩
  refine c21 I hT (zup_l hok'.1 (hok'.1 152)) qt ?_
  rw [zup_s]
  exact hQ
theorem zKp_to {R : Type} {S S' : Int → R} {U U' : zD} (h : zKp S U S' U') (q : Int) {v w : R} (e : v = w) : zKp (zup S q w) U (zup S' q v) U' := by
  subst e
  exact zKp_v h q v
section
end
theorem k22_0 {R : Type} [Lean.Grind.CommRing R] {p : Int} {inv : Int → Int} {co : R → Nat → Int} {X : R} {C : Int → R} (I : zIf R p inv co X C) {E : List (List Int)} {d : Nat} {T : zT} {S : Int → R} {U : zD} {Q : Int → zT → zD → Prop} (hT : zTT T) (hok : zOK co S U) {a b to : Int} (hd : 4 ≤ d) (a0 : 0 ≤ a) (a1 : a < 10) (b0 : 0 ≤ b) (b1 : b < 10) (t0 : 0 ≤ to) (t1 : to < 10)
    (hQ : ∀ S' U', zOK co S' U' → zKp (zup S (4 + 2 * to) (S (4 + 2 * a) + S (4 + 2 * b))) U S' U' → Q ((zlen co (S (4 + 2 * a) + S (4 + 2 * b)) : Int) - 1) T (zS p inv co S' U')) : zc E d 1 22 [(2, 0), (0, 0), (0, a), (0, b), (0, to)] T (zS p inv co S U) Q := by
  have hl := zL_add I (hok.1 (4 + 2 * a)) (hok.1 (4 + 2 * b))
  refine c22 I hT hok hd (by omega) (by omega) a0 a1 b0 b1 t0 t1 (fun h => absurd h (by decide)) (fun h => absurd h (by decide)) ?_
  refine c24_0 I hT hok.1 (by omega) (zreg_q a0 a1) (zreg_q b0 b1) (by omega) (by omega) ?_
  have hok' := zOK_u hok (q := 152) hl
  refine ⟨_, _, rfl, rfl, hok', ?_⟩
  rw [zup_s]
  exact hQ _ _ (zOK_u hok' hl) (zKp_v (zKp_u (zKp_r S U) (by omega)) _ _)
theorem k22_1 {R : Type} [Lean.Grind.CommRing R] {p : Int} {inv : Int → Int} {co : R → Nat → Int} {X : R} {C : Int → R} (I : zIf R p inv co X C) {E : List (List Int)} {d : Nat} {T : zT} {S : Int → R} {U : zD} {Q : Int → zT → zD → Prop} (hT : zTT T) (hok : zOK co S U) {a b to : Int} (hd : 4 ≤ d) (a0 : 0 ≤ a) (a1 : a < 10) (b0 : 0 ≤ b) (b1 : b < 10) (t0 : 0 ≤ to) (t1 : to < 10)
    (hQ : ∀ S' U', zOK co S' U' → zKp (zup S (4 + 2 * to) (S (4 + 2 * a) - S (4 + 2 * b))) U S' U' → Q ((zlen co (S (4 + 2 * a) - S (4 + 2 * b)) : Int) - 1) T (zS p inv co S' U')) : zc E d 1 22 [(2, 0), (0, 1), (0, a), (0, b), (0, to)] T (zS p inv co S U) Q := by
  have hl := zL_sub I (hok.1 (4 + 2 * a)) (hok.1 (4 + 2 * b))
  refine c22 I hT hok hd (by omega) (by omega) a0 a1 b0 b1 t0 t1 (fun h => absurd h (by decide)) (fun h => absurd h (by decide)) ?_
  refine c24_1 I hT hok.1 (by omega) (zreg_q a0 a1) (zreg_q b0 b1) (by omega) (by omega) ?_
  have hok' := zOK_u hok (q := 152) hl
  refine ⟨_, _, rfl, rfl, hok', ?_⟩
  rw [zup_s]
  exact hQ _ _ (zOK_u hok' hl) (zKp_v (zKp_u (zKp_r S U) (by omega)) _ _)
theorem zM_25 {R : Type} [Lean.Grind.CommRing R] {p : Int} {inv : Int → Int} {co : R → Nat → Int} {X : R} {C : Int → R} (I : zIf R p inv co X C) {a b : R} (h : a ≠ 0 → b ≠ 0 → zlen co a + zlen co b ≤ 26) : zlen co (a * b) ≤ 25 := by
  by_cases h1 : a = 0
  · have : a * b = 0 := by rw [h1]; grind
    rw [this, zL_0 I]; omega
  · by_cases h2 : b = 0
    · have : a * b = 0 := by rw [h2]; grind
      rw [this, zL_0 I]; omega
    · have := zM_len I h1 h2
      have := h h1 h2
      omega
theorem k22_2 {R : Type} [Lean.Grind.CommRing R] {p : Int} {inv : Int → Int} {co : R → Nat → Int} {X : R} {C : Int → R} (I : zIf R p inv co X C) {E : List (List Int)} {d : Nat} {T : zT} {S : Int → R} {U : zD} {Q : Int → zT → zD → Prop} (hT : zTT T) (hok : zOK co S U) {a b to : Int} (hd : 4 ≤ d) (a0 : 0 ≤ a) (a1 : a < 10) (b0 : 0 ≤ b) (b1 : b < 10) (t0 : 0 ≤ to) (t1 : to < 10)
    (hl : zlen co (S (4 + 2 * a)) + zlen co (S (4 + 2 * b)) ≤ 26)
    (hQ : ∀ S' U', zOK co S' U' → zKp (zup S (4 + 2 * to) (S (4 + 2 * a) * S (4 + 2 * b))) U S' U' → Q ((zlen co (S (4 + 2 * a) * S (4 + 2 * b)) : Int) - 1) T (zS p inv co S' U')) : zc E d 1 22 [(2, 0), (0, 2), (0, a), (0, b), (0, to)] T (zS p inv co S U) Q := by
  have hl2 := zM_25 I (a := S (4 + 2 * a)) (b := S (4 + 2 * b)) (fun _ _ => hl)
  refine c22 I hT hok hd (by omega) (by omega) a0 a1 b0 b1 t0 t1 (fun _ _ _ => hl) (fun h => absurd h (by decide)) ?_
  refine c24_2 I hT hok.1 (by omega) (zreg_q a0 a1) (zreg_q b0 b1) (by omega) (by omega) (fun _ _ => hl) ?_
  have hok' := zOK_u hok (q := 152) hl2
  refine ⟨_, _, rfl, rfl, hok', ?_⟩
  rw [zup_s]
  exact hQ _ _ (zOK_u hok' hl2) (zKp_v (zKp_u (zKp_r S U) (by omega)) _ _)
theorem k22_5 {R : Type} [Lean.Grind.CommRing R] {p : Int} {inv : Int → Int} {co : R → Nat → Int} {X : R} {C : Int → R} (I : zIf R p inv co X C) {E : List (List Int)} {d : Nat} {T : zT} {S : Int → R} {U : zD} {Q : Int → zT → zD → Prop} (hT : zTT T) (hok : zOK co S U) {a b to : Int} (hd : 4 ≤ d) (a0 : 0 ≤ a) (a1 : a < 10) (b0 : 0 ≤ b) (b1 : b < 10) (t0 : 0 ≤ to) (t1 : to < 10)
    (hQ : ∀ S' U' v, zOK co S' U' → zde p co (S (4 + 2 * a)) v → zKp (zup S (4 + 2 * to) v) U S' U' → Q ((zlen co v : Int) - 1) T (zS p inv co S' U')) : zc E d 1 22 [(2, 0), (0, 5), (0, a), (0, b), (0, to)] T (zS p inv co S U) Q := by
  refine c22 I hT hok hd (by omega) (by omega) a0 a1 b0 b1 t0 t1 (fun h => absurd h (by decide)) (fun h => absurd h (by decide)) ?_
  refine c24_5 I hT hok.1 (by omega) (zreg_q a0 a1) (by omega) (fun v hv => ?_)
  have hl : zlen co v ≤ 25 := zde_len I hv (by have := hok.1 (4 + 2 * a); omega)
  have hok' := zOK_u hok (q := 152) hl
  refine ⟨_, _, rfl, rfl, hok', ?_⟩
  rw [zup_s]
  exact hQ _ _ v (zOK_u hok' hl) hv (zKp_v (zKp_u (zKp_r S U) (by omega)) _ _)
theorem k22_4 {R : Type} [Lean.Grind.CommRing R] {p : Int} {inv : Int → Int} {co : R → Nat → Int} {X : R} {C : Int → R} (I : zIf R p inv co X C) {E : List (List Int)} {d : Nat} {T : zT} {S : Int → R} {U : zD} {Q : Int → zT → zD → Prop} (hT : zTT T) (hok : zOK co S U) {a b to : Int} (hd : 4 ≤ d) (a0 : 0 ≤ a) (a1 : a < 10) (b0 : 0 ≤ b) (b1 : b < 10) (t0 : 0 ≤ to) (t1 : to < 10)
    (hQ : ∀ S' U' g, zOK co S' U' → zgcd (S (4 + 2 * a)) (S (4 + 2 * b)) g → (g = 0 ∨ zmon co g) → zKp (zup S (4 + 2 * to) g) U S' U' → Q ((zlen co g : Int) - 1) T (zS p inv co S' U')) : zc E d 1 22 [(2, 0), (0, 4), (0, a), (0, b), (0, to)] T (zS p inv co S U) Q := by
  refine c22 I hT hok hd (by omega) (by omega) a0 a1 b0 b1 t0 t1 (fun h => absurd h (by decide)) (fun h => absurd h (by decide)) ?_
  refine c24_4 I hT hok.1 (by omega) hok (zreg_q a0 a1) (zreg_q b0 b1) (by omega) (by omega) (fun S' U' g hok' hk hg hm e => ?_)
  refine ⟨_, _, rfl, rfl, hok', ?_⟩
  rw [e]
  exact hQ _ _ g (zOK_u hok' (by rw [← e]; exact hok'.1 152)) hg hm (zKp_v hk _ _)
theorem k22_3 {R : Type} [Lean.Grind.CommRing R] {p : Int} {inv : Int → Int} {co : R → Nat → Int} {X : R} {C : Int → R} (I : zIf R p inv co X C) {E : List (List Int)} {d : Nat} {T : zT} {S : Int → R} {U : zD} {Q : Int → zT → zD → Prop} (hT : zTT T) (hok : zOK co S U) {a b to : Int} (hd : 4 ≤ d) (a0 : 0 ≤ a) (a1 : a < 10) (b0 : 0 ≤ b) (b1 : b < 10) (t0 : 0 ≤ to) (t1 : to < 10)
    (hl : (zlen co (S (4 + 2 * a)) - 1) * (zlen co (S (4 + 2 * b)) - 1) ≤ 24)
    (hQ : ∀ S' U' v, zOK co S' U' → (∀ y : Int, ∃ w z1 z2, S (4 + 2 * a) = (X - C y) * z1 + C w ∧ v = (S (4 + 2 * b) - C y) * z2 + C w) → zKp (zup S (4 + 2 * to) v) U S' U' → Q ((zlen co v : Int) - 1) T (zS p inv co S' U')) : zc E d 1 22 [(2, 0), (0, 3), (0, a), (0, b), (0, to)] T (zS p inv co S U) Q := by
  refine c22 I hT hok hd (by omega) (by omega) a0 a1 b0 b1 t0 t1 (fun h => absurd h (by decide)) (fun _ => hl) ?_
  refine e24 _ _ _ _ ⟨zin_c (by decide), fun h => absurd h (by decide), fun h => absurd h (by decide), fun h => absurd h (by decide), fun _ => ⟨by omega, zO_k hT, ?_⟩, fun h => absurd h (by decide), fun h => absurd h (by decide), fun h => absurd h (by decide)⟩
  refine c30 I hT hok.1 (by omega) (zreg_q a0 a1) (zreg_q b0 b1) (by omega) (by omega) hl (fun S' v hS' hk e hy => ?_)
  have hok' : zOK co S' U := ⟨hS', hok.2.1, hok.2.2⟩
  refine ⟨_, _, rfl, rfl, hok', ?_⟩
  rw [e]
  exact hQ _ _ v (zOK_u hok' (by rw [← e]; exact hS' 152)) hy (zKp_v hk _ _)
theorem k43 {R : Type} [Lean.Grind.CommRing R] {p : Int} {inv : Int → Int} {co : R → Nat → Int} {X : R} {C : Int → R} (I : zIf R p inv co X C) {E : List (List Int)} {d : Nat} {T : zT} {S : Int → R} {U : zD} {Q : Int → zT → zD → Prop} (hT : zTT T) (hok : zOK co S U) {a b q r : Int} (hd : 4 ≤ d) (a0 : 0 ≤ a) (a1 : a < 10) (b0 : 0 ≤ b) (b1 : b < 10) (q0 : 0 ≤ q) (q1 : q < 10) (r0 : 0 ≤ r) (r1 : r < 10) (hqr : q ≠ r) (hb0 : S (4 + 2 * b) ≠ 0)
    (hQ : ∀ S' U' qq rr, zOK co S' U' → S (4 + 2 * a) = qq * S (4 + 2 * b) + rr → zlen co rr < zlen co (S (4 + 2 * b)) → zKp (zup (zup S (4 + 2 * q) qq) (4 + 2 * r) rr) U S' U' → Q ((zlen co rr : Int) - 1) T (zS p inv co S' U')) : zc E d 1 43 [(2, 0), (0, a), (0, b), (0, q), (0, r)] T (zS p inv co S U) Q := by
  have hS := hok.1
  have qa := zreg_q a0 a1
  have qb := zreg_q b0 b1
  have qq' := zreg_q q0 q1
  have qr := zreg_q r0 r1
  refine e43 _ _ _ _ _ ⟨by omega, zO_k hT, ?_⟩
  refine c17 I hT hS a0 a1 ⟨zO_k hT, ?_⟩
  refine c17 I hT hS b0 b1 ⟨zO_k hT, ?_⟩
  refine c17 I hT hS q0 q1 ⟨zO_k hT, ?_⟩
  refine c17 I hT hS r0 r1 ⟨zin_t q0 (by omega), zin_t r0 (by omega), fun _ => ⟨zP_k hT qb, ?_⟩, fun h => absurd h hqr⟩
  refine c34 I hT hS qb (fun _ => ⟨zin_0, fun _ => ⟨zO_ob hT, ?_, ?_⟩, fun h => absurd rfl h⟩) (fun h => absurd h hb0)
  · rw [zS08]; exact zP_k hT q152
  rw [zS08]
  have hS1 := zup_l hS (q := 152) (hS (4 + 2 * a))
  refine c25 I hT hS q152 qa (by omega) ⟨zO_ob hT, ?_, ?_⟩
  · rw [zS0a]; exact zP_k hT q156
  rw [zS0a]
  have hS2 := zup_l hS1 (q := 156) (v := (0 : R)) (by rw [zL_0 I]; omega)
  refine c13 I hT hS1 q156 ⟨zO_ob hT, ?_, ?_⟩
  · rw [zS08]; exact zP_k hT q152
  rw [zS08, zS0a]
  have eb : zup (zup S 152 (S (4 + 2 * a))) 156 (0 : R) (4 + 2 * b) = S (4 + 2 * b) := by rw [zup_o _ _ (by omega), zup_o _ _ (by omega)]
  have ea : zup (zup S 152 (S (4 + 2 * a))) 156 (0 : R) 152 = S (4 + 2 * a) := by rw [zup_o _ _ (by decide), zup_s]
  refine c35q I hT hS2 (by omega) q152 qb q156 (by omega) (by decide) (by omega) (by rw [eb]; exact hb0) (zup_s _ _ _) (fun qq rr e1 e2 e3 => ⟨zO_ob hT, zP_k hT qq', ?_⟩)
  rw [ea, eb] at e1
  rw [eb] at e2
  have hrr : zlen co rr ≤ 25 := by have := hS (4 + 2 * b); omega
  rw [zup_up, zS0a]
  have hS3 := zup_l (zup_l hS1 (q := 156) e3) (q := 152) hrr
  refine c25 I hT hS3 qq' q156 (by omega) ⟨zO_ob hT, zP_k hT qr, ?_⟩
  rw [zS08, zup_o _ _ (show (156 : Int) ≠ 152 by decide), zup_s]
  have hS4 := zup_l hS3 (q := 4 + 2 * q) e3
  refine c25 I hT hS4 qr q152 (by omega) ⟨zP_k hT qr, ?_⟩
  rw [zup_o _ _ (show (152 : Int) ≠ 4 + 2 * q by omega), zup_s]
  have hS5 := zup_l hS4 (q := 4 + 2 * r) hrr
  refine c21 I hT hS5 qr ?_
  rw [zup_s]
  refine hQ _ _ qq rr ⟨hS5, hok.2.1, hok.2.2⟩ e1 e2 (zKp_v (zKp_v ?_ _ _) _ _)
  exact zKp_u (zKp_u (zKp_u (zKp_r S U) (by omega)) (by omega)) (by omega)
theorem k44 {R : Type} [Lean.Grind.CommRing R] {p : Int} {inv : Int → Int} {co : R → Nat → Int} {X : R} {C : Int → R} (I : zIf R p inv co X C) {E : List (List Int)} {d : Nat} {T : zT} {S : Int → R} {U : zD} {Q : Int → zT → zD → Prop} (hT : zTT T) (hok : zOK co S U) {a b s t : Int} (hd : 5 ≤ d) (a0 : 0 ≤ a) (a1 : a < 10) (b0 : 0 ≤ b) (b1 : b < 10) (s0 : 0 ≤ s) (s1 : s < 10) (t0 : 0 ≤ t) (t1 : t < 10) (hst : s ≠ t)
    (hQ : ∀ S' U' g u v, zOK co S' U' → zgcd (S (4 + 2 * a)) (S (4 + 2 * b)) g → (g = 0 ∨ zmon co g) → g = u * S (4 + 2 * a) + v * S (4 + 2 * b) → zlen co u ≤ zlen co (S (4 + 2 * b)) + 1 → zlen co v ≤ zlen co (S (4 + 2 * a)) + 1 → zKp (zup (zup S (4 + 2 * s) u) (4 + 2 * t) v) U S' U' → Q ((zlen co g : Int) - 1) T (zS p inv co S' U')) : zc E d 1 44 [(2, 0), (0, a), (0, b), (0, s), (0, t)] T (zS p inv co S U) Q := by
  have hS := hok.1
  have qa := zreg_q a0 a1
  have qb := zreg_q b0 b1
  have qs := zreg_q s0 s1
  have qt := zreg_q t0 t1
  refine e44 _ _ _ _ _ ⟨by omega, zO_k hT, ?_⟩
  refine c17 I hT hS a0 a1 ⟨zO_k hT, ?_⟩
  refine c17 I hT hS b0 b1 ⟨zO_k hT, ?_⟩
  refine c17 I hT hS s0 s1 ⟨zO_k hT, ?_⟩
  refine c17 I hT hS t0 t1 ⟨zin_t s0 (by omega), zin_t t0 (by omega), fun _ => ⟨zO_ob hT, ?_, ?_⟩, fun h => absurd h hst⟩
  · rw [zS06]; exact zE_k hT
  rw [zS06]
  refine c45 I hT hS (by omega) hok.2.1 qa qb (by omega) (by omega) (fun S' U' hf hS' hE' hg hm he hl1 hl2 => ⟨zO_ob hT, ?_, ?_⟩)
  · rw [zS06]; exact zE_k hT
  rw [zS06]
  have q3 := zEU_q hE' 3 (by omega) (by omega)
  have q5 := zEU_q hE' 5 (by omega) (by omega)
  have q7 := zEU_q hE' 7 (by omega) (by omega)
  have b3 := hE'.1 3 (by omega) (by omega)
  have b5 := hE'.1 5 (by omega) (by omega)
  have b7 := hE'.1 7 (by omega) (by omega)
  refine c49 I hT hS' hE' ⟨zP_k hT qs, ?_⟩
  have hS1 := zup_l hS' (q := 4 + 2 * s) (hS' (U' 74 5))
  refine c25 I hT hS' qs q5 (by omega) ⟨zO_ob hT, ?_, ?_⟩
  · rw [zS06]; exact zE_k hT
  rw [zS06]
  refine c50 I hT hS1 hE' ⟨zP_k hT qt, ?_⟩
  have e7 : zup S' (4 + 2 * s) (S' (U' 74 5)) (U' 74 7) = S' (U' 74 7) := zup_o _ _ (by omega)
  have hS2 := zup_l hS1 (q := 4 + 2 * t) (hS' (U' 74 7))
  refine c25 I hT hS1 qt q7 (by omega) ⟨zO_ob hT, ?_, ?_⟩
  · rw [zS06]; exact zE_k hT
  rw [zS06, e7]
  refine c41 I hT hS2 hE' ⟨zP_k hT q3, ?_⟩
  refine c21 I hT hS2 q3 ?_
  have e3 : zup (zup S' (4 + 2 * s) (S' (U' 74 5))) (4 + 2 * t) (S' (U' 74 7)) (U' 74 3) = S' (U' 74 3) := by rw [zup_o _ _ (by omega), zup_o _ _ (by omega)]
  rw [e3]
  exact hQ _ _ _ _ _ ⟨hS2, hE', zPR_k (zKp_f hf) hok.2.2⟩ hg hm he hl1 hl2 (zKp_v (zKp_v (zKp_f hf) _ _) _ _)
theorem zb_and (L : Nat) (h : L ≤ 2000000) : zi_and (L : Int) 1 = ((L % 2 : Nat) : Int) := by
  show ((Int32.ofInt (L : Int)).toBitVec &&& (Int32.ofInt 1).toBitVec).toInt = _
  have e : (Int32.ofInt (L : Int)).toBitVec = BitVec.ofNat 32 L := by rw [Int32.toBitVec_ofInt, BitVec.ofInt_natCast]
  have e1 : (Int32.ofInt 1).toBitVec = BitVec.ofNat 32 1 := rfl
  have e2 : (BitVec.ofNat 32 L &&& BitVec.ofNat 32 1).toNat = L % 2 := by
    rw [BitVec.toNat_and, BitVec.toNat_ofNat, BitVec.toNat_ofNat, Nat.mod_eq_of_lt (show L < 2 ^ 32 by omega), show 1 % 2 ^ 32 = 1 from rfl, Nat.and_one_is_mod]
  rw [e, e1, BitVec.toInt_eq_toNat_of_lt (by rw [e2]; omega), e2]
theorem zb_shr (L : Nat) (h : L ≤ 2000000) : zi_shr (L : Int) 1 = ((L / 2 : Nat) : Int) := by
  show (BitVec.sshiftRight' (Int32.ofInt (L : Int)).toBitVec (((Int32.ofInt 1) &&& (31 : Int32)).toBitVec.smod 32)).toInt = _
  have e2 : (((Int32.ofInt 1) &&& (31 : Int32)).toBitVec.smod 32).toNat = 1 := by decide
  rw [BitVec.sshiftRight_eq', e2, BitVec.toInt_sshiftRight, Int32.toInt_toBitVec, zi_of (by unfold zin; omega), Int.shiftRight_eq_div_pow]
  show (L : Int) / 2 = _
  omega
theorem c52 {R : Type} [Lean.Grind.CommRing R] {p : Int} {inv : Int → Int} {co : R → Nat → Int} {X : R} {C : Int → R} (I : zIf R p inv co X C) {E : List (List Int)} {d : Nat} {T : zT} {S : Int → R} {U : zD} {Q : Int → zT → zD → Prop} (hT : zTT T) (hS : ∀ a, zlen co (S a) ≤ 25) {a m : Int} {n : Nat} (hd : 3 ≤ d) (ha : zPq a = true) (hm : zPq m = true) (ha2 : a ≤ 22) (hm2 : m ≤ 22) (hn : n ≤ 2000000) (hm0 : S m ≠ 0)
    (hQ : ∀ S' r q, (∀ x, zlen co (S' x) ≤ 25) → zKp S U S' U → S' 152 = r → S a ^ n = q * S m + r → zlen co r < zlen co (S m) → Q 0 T (zS p inv co S' U)) : zc E d 0 52 [(2, 0), (2, a), (0, (n : Int)), (2, m)] T (zS p inv co S U) Q := by
  have hp := zR_p I
  have hlm := hS m
  have key : ∀ (L : Nat) (w : Int) (A B wk z : R), L ≤ 2000000 → zlen co A < zlen co (S m) → zlen co B < zlen co (S m) → zlen co wk ≤ 25 → A * B ^ L = S a ^ n + z * S m → zj E d 0 52 37 [(2, 0), (2, a), (0, (n : Int)), (2, m), (0, (L : Int))] [] T (zS p inv co (zup (zup (zup S 156 wk) 154 B) 152 A) U) Q := by
    intro L
    induction L using Nat.strongRecOn with
    | _ L ih =>
      intro w A B wk z hL hA hB hwk he
      have hS1 := zup_l (zup_l (zup_l hS (q := 156) hwk) (q := 154) (v := B) (by omega)) (q := 152) (v := A) (by omega)
      have em : ∀ x y z' : R, zup (zup (zup S 156 x) 154 y) 152 z' m = S m := fun x y z' => by rw [zup_o _ _ (by omega), zup_o _ _ (by omega), zup_o _ _ (by omega)]
      have e152 : ∀ x y z' : R, zup (zup (zup S 156 x) 154 y) 152 z' 152 = z' := fun x y z' => zup_s _ _ _
      have e154 : ∀ x y z' : R, zup (zup (zup S 156 x) 154 y) 152 z' 154 = y := fun x y z' => by rw [zup_o _ _ (by decide), zup_s]
      have e156 : ∀ x y z' : R, zup (zup (zup S 156 x) 154 y) 152 z' 156 = x := fun x y z' => by rw [zup_o _ _ (by decide), zup_o _ _ (by decide), zup_s]
      have u156 : ∀ x y z' v : R, zup (zup (zup (zup S 156 x) 154 y) 152 z') 156 v = zup (zup (zup S 156 v) 154 y) 152 z' := fun x y z' v => by
        rw [zup_cm _ _ _ (show (152 : Int) ≠ 156 by decide), zup_cm _ _ _ (show (154 : Int) ≠ 156 by decide), zup_up]
      have u154 : ∀ x y z' v : R, zup (zup (zup (zup S 156 x) 154 y) 152 z') 154 v = zup (zup (zup S 156 x) 154 v) 152 z' := fun x y z' v => by
        rw [zup_cm _ _ _ (show (152 : Int) ≠ 154 by decide), zup_up]
      have u152 : ∀ x y z' v : R, zup (zup (zup (zup S 156 x) 154 y) 152 z') 152 v = zup (zup (zup S 156 x) 154 y) 152 v := fun x y z' v => zup_up _ _ _ _
      refine z52_37 _ _ _ _ _ ⟨by unfold zin; omega, fun h => ?_, fun h => ?_⟩
      · have : L = 0 := by omega
        subst this
        refine hQ _ A (-z) hS1 (zKp_u (zKp_u (zKp_u (zKp_r S U) (by omega)) (by omega)) (by omega)) (e152 _ _ _) ?_ hA
        grind
      · rw [zb_and L hL, zb_shr L hL]
        have hL2 : L = 2 * (L / 2) + L % 2 := by omega
        refine ⟨by unfold zin; omega, fun h1 => ⟨zO_ob hT, by omega, ?_, ?_⟩, fun h1 => ⟨zO_ob hT, by omega, ?_, ?_⟩⟩
        · rw [zS0a]; exact zP_k hT q156
        · have hodd : L % 2 = 0 := by omega
          rw [zS0a, zS09]
          refine c53 I hT hS1 (by omega) q156 q154 q154 hm (by decide) (by decide) (by omega) (by rw [e154, em]; exact hB) (fun t r e1 e2 => ⟨zO_ob hT, ?_, ?_⟩)
          · rw [zS09]; exact zP_k hT q154
          rw [e154, em] at e1
          rw [em] at e2
          rw [zS09, zS0a, u156]
          have hS2 := zup_l (zup_l (zup_l hS (q := 156) (v := r) (by omega)) (q := 154) (v := B) (by omega)) (q := 152) (v := A) (by omega)
          refine c25 I hT hS2 q154 q156 (by decide) ?_
          rw [e156, u154]
          have hpw : ∃ z2, A * r ^ (L / 2) = S a ^ n + z2 * S m := by
            obtain ⟨y, hy⟩ := zdv_pow (f := S m) (a := r) (b := B * B) ⟨-t, by grind⟩ (L / 2)
            have e5 : B ^ L = (B * B) ^ (L / 2) := by
              have : B * B = B ^ 2 := by grind
              rw [this, zpow_pow]
              congr 1
              omega
            exact ⟨A * y + z, by rw [e5] at he; grind⟩
          obtain ⟨z2, hz2⟩ := hpw
          exact ih (L / 2) (by omega) 0 A r r z2 (by omega) hA e2 (by omega) hz2
        · rw [zS0a]; exact zP_k hT q156
        · have hodd : L % 2 = 1 := by omega
          rw [zS0a, zS09, zS08]
          refine c53 I hT hS1 (by omega) q156 q152 q154 hm (by decide) (by decide) (by omega) (by rw [e152, em]; exact hA) (fun t r e1 e2 => ⟨zO_ob hT, ?_, ?_⟩)
          · rw [zS08]; exact zP_k hT q152
          rw [e152, e154, em] at e1
          rw [em] at e2
          rw [zS08, zS0a, u156]
          have hS2 := zup_l (zup_l (zup_l hS (q := 156) (v := r) (by omega)) (q := 154) (v := B) (by omega)) (q := 152) (v := A) (by omega)
          refine c25 I hT hS2 q152 q156 (by decide) ⟨zO_ob hT, ?_, ?_⟩
          · rw [zS0a]; exact zP_k hT q156
          rw [e156, u152, zS0a, zS09]
          have hS3 := zup_l (zup_l (zup_l hS (q := 156) (v := r) (by omega)) (q := 154) (v := B) (by omega)) (q := 152) (v := r) (by omega)
          refine c53 I hT hS3 (by omega) q156 q154 q154 hm (by decide) (by decide) (by omega) (by rw [e154, em]; exact hB) (fun t2 r2 e3 e4 => ⟨zO_ob hT, ?_, ?_⟩)
          · rw [zS09]; exact zP_k hT q154
          rw [e154, em] at e3
          rw [em] at e4
          rw [zS09, zS0a, u156]
          have hS4 := zup_l (zup_l (zup_l hS (q := 156) (v := r2) (by omega)) (q := 154) (v := B) (by omega)) (q := 152) (v := r) (by omega)
          refine c25 I hT hS4 q154 q156 (by decide) ?_
          rw [e156, u154]
          have hpw : ∃ z2, r * r2 ^ (L / 2) = S a ^ n + z2 * S m := by
            obtain ⟨y, hy⟩ := zdv_pow (f := S m) (a := r2) (b := B * B) ⟨-t2, by grind⟩ (L / 2)
            have e5 : B ^ L = (B * B) ^ (L / 2) * B := by
              have : B * B = B ^ 2 := by grind
              rw [this, zpow_pow]
              have e6 : L = 2 * (L / 2) + 1 := by omega
              conv => lhs; rw [e6]
              grind
            exact ⟨r * y + z - t * (B * B) ^ (L / 2), by rw [e5] at he; grind⟩
          obtain ⟨z2, hz2⟩ := hpw
          exact ih (L / 2) (by omega) 0 r r2 r2 z2 (by omega) e2 e4 (by omega) hz2
  refine e52 _ _ _ _ ⟨zO_ob hT, by omega, ?_, ?_⟩
  · rw [zS09]; exact zP_k hT q154
  rw [zS09]
  have hS1 := zup_l hS (q := 154) (hS a)
  have em1 : ∀ x : R, zup S 154 x m = S m := fun x => zup_o _ _ (by omega)
  refine c25 I hT hS q154 ha (by omega) ⟨zO_ob hT, ?_, ?_⟩
  · rw [zS09]; exact zP_k hT q154
  rw [zS09]
  refine c35n I hT hS1 (by omega) q154 hm (by omega) (by rw [em1]; exact hm0) (fun q1 B e1 e2 => ⟨zO_ob hT, ?_, ?_⟩)
  · rw [zS08]; exact zP_k hT q152
  rw [zup_s, em1] at e1
  rw [em1] at e2
  rw [zS08, zup_up]
  have hS2 := zup_l hS (q := 154) (v := B) (by omega)
  refine c46 I hT hS2 (by omega) q152 (by omega) (by omega) ⟨zO_ob hT, ?_, ?_⟩
  · rw [zS08]; exact zP_k hT q152
  rw [zS08]
  have hS3 := zup_l hS2 (q := 152) (v := C 1) (by have := zL_C I 1; omega)
  have em2 : ∀ x y : R, zup (zup S 154 x) 152 y m = S m := fun x y => by rw [zup_o _ _ (by omega), zup_o _ _ (by omega)]
  refine c35n I hT hS3 (by omega) q152 hm (by omega) (by rw [em2]; exact hm0) (fun q2 A e3 e4 => ?_)
  rw [zup_s, em2, zR_C1 I] at e3
  rw [em2] at e4
  rw [zup_up]
  have hz : ∃ z, A * B ^ n = S a ^ n + z * S m := by
    obtain ⟨y, hy⟩ := zdv_pow (f := S m) (a := B) (b := S a) ⟨-q1, by grind⟩ n
    exact ⟨y - q2 * B ^ n, by grind⟩
  obtain ⟨z, hz⟩ := hz
  have h := key n 0 A B (S 156) z hn e4 e2 (hS 156) hz
  rw [zup_same] at h
  exact h
theorem k51 {R : Type} [Lean.Grind.CommRing R] {p : Int} {inv : Int → Int} {co : R → Nat → Int} {X : R} {C : Int → R} (I : zIf R p inv co X C) {E : List (List Int)} {d : Nat} {T : zT} {S : Int → R} {U : zD} {Q : Int → zT → zD → Prop} (hT : zTT T) (hok : zOK co S U) {a m to : Int} {n : Nat} (hd : 4 ≤ d) (a0 : 0 ≤ a) (a1 : a < 10) (m0 : 0 ≤ m) (m1 : m < 10) (t0 : 0 ≤ to) (t1 : to < 10) (hn : n ≤ 1000000) (hm0 : S (4 + 2 * m) ≠ 0)
    (hQ : ∀ S' U' r q, zOK co S' U' → S (4 + 2 * a) ^ n = q * S (4 + 2 * m) + r → zlen co r < zlen co (S (4 + 2 * m)) → zKp (zup S (4 + 2 * to) r) U S' U' → Q ((zlen co r : Int) - 1) T (zS p inv co S' U')) : zc E d 1 51 [(2, 0), (0, a), (0, (n : Int)), (0, m), (0, to)] T (zS p inv co S U) Q := by
  have hS := hok.1
  have qa := zreg_q a0 a1
  have qm := zreg_q m0 m1
  have qt := zreg_q t0 t1
  refine e51 _ _ _ _ _ ⟨by omega, zO_k hT, ?_⟩
  refine c17 I hT hS a0 a1 ⟨zO_k hT, ?_⟩
  refine c17 I hT hS m0 m1 ⟨zO_k hT, ?_⟩
  refine c17 I hT hS t0 t1 ⟨by unfold zin; omega, fun h => by omega, fun _ => ⟨fun _ => ⟨zP_k hT qm, ?_⟩, fun h => by omega⟩⟩
  refine c34 I hT hS qm (fun _ => ⟨zin_0, fun _ => ⟨zO_k hT, ?_⟩, fun h => absurd rfl h⟩) (fun h => absurd h hm0)
  refine c52 I hT hS (by omega) qa qm (by omega) (by omega) (by omega) hm0 (fun S' r q hS' hk e1 e2 e3 => ⟨zO_ob hT, zP_k hT qt, ?_⟩)
  rw [zS08]
  refine c25 I hT hS' qt q152 (by omega) ⟨zP_k hT qt, ?_⟩
  rw [e1]
  have hS2 := zup_l hS' (q := 4 + 2 * to) (v := r) (by rw [← e1]; exact hS' 152)
  refine c21 I hT hS2 qt ?_
  rw [zup_s]
  exact hQ _ _ r q ⟨hS2, hok.2.1, hok.2.2⟩ e2 e3 (zKp_v hk _ _)
