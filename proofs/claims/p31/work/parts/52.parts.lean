/-! Contracts: roots, simple parts, stripping. -/
theorem zP_N {R : Type} [Lean.Grind.CommRing R] {p : Int} {inv : Int → Int} {co : R → Nat → Int} {X : R} {C : Int → R} (I : zIf R p inv co X C) : ∃ P : Nat, p.toNat = P ∧ p = (P : Int) ∧ 2 ≤ P ∧ P ≤ 97 := by
  have hp := zR_p I
  exact ⟨p.toNat, rfl, by omega, by omega, by omega⟩
theorem c59 {R : Type} [Lean.Grind.CommRing R] {p : Int} {inv : Int → Int} {co : R → Nat → Int} {X : R} {C : Int → R} (I : zIf R p inv co X C) {E : List (List Int)} {d : Nat} {T : zT} {S : Int → R} {U : zD} {Q : Int → zT → zD → Prop} (hT : zTT T) (hS : ∀ a, zlen co (S a) ≤ 25) (hd : 1 ≤ d) (hQ : ∀ v : R, (∀ j, co v j = co (S 144) (j * p.toNat)) → Q 0 T (zS p inv co (zup (zup S 146 v) 144 v) U)) : zc E d 0 59 [(2, 91)] T (zS p inv co S U) Q := by
  obtain ⟨P, hP, hpP, hP2, hP97⟩ := zP_N I
  have hl := hS 144
  have key : ∀ (m k : Nat) (v : R), k + m = 25 → (∀ j, co v j = if j < k then co (S 144) (j * P) else 0) → zj E d 0 59 9 [(2, 91), (0, (k : Int))] [] T (zS p inv co (zup S 146 v) U) Q := by
    intro m
    induction m with
    | zero =>
      intro k v hk hv
      have hvl : zlen co v ≤ 25 := zL_le I (fun j hj => by rw [hv, if_neg (by omega)])
      refine z59_9 _ _ ⟨zin_n (by omega), fun _ => ⟨zX_ob hT, by omega, by rw [zX8]; exact zP_k hT q144, ?_⟩, fun h => by omega⟩
      rw [zX8, zX9]
      refine c25 I hT (zup_l hS hvl) q144 q146 (by decide) ?_
      rw [zup_s]
      refine hQ v (fun j => ?_)
      rw [hv, hP]
      split
      · rfl
      · have : j * 1 ≤ j * P := Nat.mul_le_mul_left j (by omega)
        rw [zL_hi I (by omega)]
    | succ m ih =>
      intro k v hk hv
      have hvl : zlen co v ≤ 25 := zL_le I (fun j hj => by rw [hv, if_neg (by omega)])
      have hS1 := zup_l hS (q := 146) hvl
      refine z59_9 _ _ ⟨zin_n (by omega), fun h => by omega, fun _ => ⟨zX_ob hT, by omega, by rw [zX0]; exact zF_k hT, ?_⟩⟩
      rw [zX0]
      refine c12 I hT hS1 ⟨by rw [zX8]; exact zP_k hT q144, ?_⟩
      rw [zX8, zX9]
      have e1 : (k : Int) * p = ((k * P : Nat) : Int) := by rw [hpP, Int.natCast_mul]
      have hkP : k * P ≤ 24 * 97 := Nat.mul_le_mul (by omega) hP97
      rw [e1]
      refine c19 I hT hS1 q144 (by omega) (by omega) ⟨zP_k hT q146, ?_⟩
      rw [zup_o _ _ (show (144 : Int) ≠ 146 by decide), zat_n]
      obtain ⟨v2, hv2⟩ := zbuild I 25 (fun j => if j < k + 1 then co (S 144) (j * P) else 0) (fun j => by
        have := zR_p I
        split
        · exact zR_rng I _ _
        · omega) (fun j hj => if_neg (by omega))
      refine c32 I hT hS1 q146 (v := v2) (by omega) (fun j => ?_) ?_
      · rw [hv2, zup_s, hv]
        by_cases e : j = k
        · subst e
          rw [if_pos (by omega), if_pos rfl]
        · have : j < k + 1 ↔ j < k := by omega
          rw [if_neg e]
          simp only [this]
      · rw [zup_up]
        exact ih (k + 1) v2 (by omega) hv2
  refine e59 _ ⟨zX_ob hT, by omega, by rw [zX9]; exact zP_k hT q146, ?_⟩
  rw [zX9]
  refine c13 I hT hS q146 ?_
  exact key 25 0 0 (by omega) (fun j => by rw [zR_zero I, if_neg (by omega)])
/-- what a round of factoring keeps: registers, the parts ahead -/
def zFo {R : Type} (S : Int → R) (U : zD) (S' : Int → R) (U' : zD) : Prop :=
  (∀ x, 4 ≤ x ∧ x ≤ 22 → S' x = S x) ∧ (∀ i, U' 92 i = U 92 i) ∧ (∀ x i, x ≠ 74 → x ≠ 91 → x ≠ 93 → x ≠ 94 → x ≠ 95 → U' x i = U x i)
theorem c60 {R : Type} [Lean.Grind.CommRing R] {p : Int} {inv : Int → Int} {co : R → Nat → Int} {X : R} {C : Int → R} (I : zIf R p inv co X C) {E : List (List Int)} {d : Nat} {T : zT} {S : Int → R} {U : zD} {Q : Int → zT → zD → Prop} (hT : zTT T) (hS : ∀ a, zlen co (S a) ≤ 25) {sz : Nat} (hd : 5 ≤ d) (hE : zEU U) (hP : zPR U) (hsz : U 91 4 = (sz : Int)) (hsz24 : sz < 24) (hr : zmon co (S 144)) (hr2 : 2 ≤ zlen co (S 144)) (hde : zde p co (S 144) (S 146)) (hne : S 146 ≠ 0)
    (hQ : ∀ S' U' w n ρ, (∀ x, zlen co (S' x) ≤ 25) → zEU U' → zPR U' → (∀ x, x = 144 ∨ (4 ≤ x ∧ x ≤ 22) → S' x = S x) → (∀ i : Nat, i < sz → S' (U 92 (i : Int)) = S (U 92 (i : Int))) → (∀ x i, x ≠ 74 → x ≠ 94 → x ≠ 95 → x ≠ 91 → U' x i = U x i) → U' 91 4 = ((sz + 1 : Nat) : Int) → S' (U 92 (sz : Int)) = w → zdv w (S 144) → zsq co w → zmon co w → 2 ≤ zlen co w → zKD p co C w n ρ U' → Q ((n : Int) - (ρ : Int)) T (zS p inv co S' U')) : zc E d 1 60 [(2, 91)] T (zS p inv co S U) Q := by
  have hl := hS 144
  have hr0 := zmon_ne I hr
  refine e60 _ ⟨zX_ob hT, by omega, by rw [zX1]; exact zE_k hT, ?_⟩
  rw [zX1, zX8, zX9]
  refine c33 I hT hS (by omega) hE q144 q146 (by decide) (by decide) (fun S1 U1 hf hS1 hE1 hg hgm => ⟨zX_ob hT, by rw [zX9]; exact zP_k hT q146, ?_⟩)
  rw [zX9, zX8]
  have e92 : ∀ j, U1 92 j = U 92 j := fun j => hf.2 92 j (by decide)
  have hP1 := zPR_e e92 hP
  have hr3 := zEU_q hE1 3 (by omega) (by omega)
  have hb3 := hE1.1 3 (by omega) (by omega)
  have e144 : S1 144 = S 144 := hf.1 144 (by decide)
  have hgm' : zmon co (S1 (U1 74 3)) := by
    rcases hgm with h | h
    · exfalso
      obtain ⟨⟨q, hq'⟩, -⟩ := hg
      rw [h] at hq'
      exact hr0 (by rw [hq']; grind)
    · exact h
  have hl3 := hS1 (U1 74 3)
  refine c25 I hT hS1 q146 q144 (by decide) ⟨zX_ob hT, by rw [zXa]; exact zP_k hT q148, ?_⟩
  rw [zXa, e144]
  have hS2 := zup_l hS1 (q := 146) hl
  have hS3 := zup_l hS2 (q := 148) (v := (0 : R)) (by rw [zL_0 I]; omega)
  refine c13 I hT hS2 q148 ⟨zX_ob hT, by rw [zX1]; exact zE_k hT, ?_⟩
  rw [zX1]
  refine c41 I hT hS3 hE1 ⟨zX_ob hT, by rw [zX9]; exact zP_k hT q146, ?_⟩
  rw [zX9, zXa]
  have e3g : zup (zup S1 146 (S 144)) 148 (0 : R) (U1 74 3) = S1 (U1 74 3) := by rw [zup_o _ _ (by omega), zup_o _ _ (by omega)]
  have e3s : zup (zup S1 146 (S 144)) 148 (0 : R) 146 = S 144 := by rw [zup_o _ _ (by decide), zup_s]
  refine c35q I hT hS3 (by omega) q146 hr3 q148 (by omega) (by decide) (by omega) (by rw [e3g]; exact zmon_ne I hgm') (zup_s _ _ _) (fun w r x1 x2 x3 => ⟨zX_ob hT, zX_k hT, ?_⟩)
  rw [e3s, e3g] at x1
  rw [e3g] at x2
  rw [zup_up, zXa]
  have hrr : r = 0 := by
    refine zdv_small I (a := S1 (U1 74 3)) ?_ x2
    have : r = S 144 - w * S1 (U1 74 3) := by rw [x1]; grind
    rw [this]
    exact zdv_sub hg.1 (zdv_mul _ (zdv_refl _))
  have x4 : S 144 = w * S1 (U1 74 3) := by rw [x1, hrr]; grind
  have hwm : zmon co w := by
    rw [x4] at hr
    exact zmon_div I hr hgm'
  have hwsq : zsq co w := zsqf I hr0 hde hg (by rw [x4]; grind)
  have hlen := zM_len I (zmon_ne I hwm) (zmon_ne I hgm')
  rw [← x4] at hlen
  have hgl : zlen co (S1 (U1 74 3)) < zlen co (S 144) := by
    have h1 := zdv_len I hg.2.1 hne
    have h2 := zde_len I (n := zlen co (S 144) - 1) hde (by omega)
    omega
  have h4 : U1 91 4 = (sz : Int) := by rw [hf.2 91 4 (by decide), hsz]
  have hS4 := zup_l (zup_l hS2 (q := 148) x3) (q := 146) (v := r) (by rw [hrr, zL_0 I]; omega)
  have e148 : zup (zup (zup S1 146 (S 144)) 148 w) 146 r 148 = w := by rw [zup_o _ _ (by decide), zup_s]
  have bz := hP.1 (sz : Int) (by omega) (by omega)
  refine c61 I hT hS4 (by omega) hP1 h4 hsz24 q148 (by rw [e92]; omega) ⟨zX_ob hT, zX_k hT, ?_⟩
  rw [e92, e148, zXa]
  have hS5 := zup_l hS4 (q := U 92 (sz : Int)) x3
  have e5 : zup (zup (zup (zup S1 146 (S 144)) 148 w) 146 r) (U 92 (sz : Int)) w 148 = w := by rw [zup_o _ _ (by omega), e148]
  obtain ⟨n, hn⟩ : ∃ n, zlen co w = n + 1 := ⟨zlen co w - 1, by omega⟩
  refine c62 I hT hS5 (U := zu U1 91 4 ((sz + 1 : Nat) : Int)) (n := n) (by omega) q148 (by decide) (by omega) (by omega) (by rw [e5]; exact hn) (fun U2 v ρ hf2 hv hK hρ => ?_)
  rw [e5] at hK
  have hS6 := zup_l hS5 (q := 150) (v := v) (by omega)
  have hU2 : ∀ x i, x ≠ 74 → x ≠ 94 → x ≠ 95 → x ≠ 91 → U2 x i = U x i := fun x i a1 a2 a3 a4 => by
    rw [hf2 x i a2 a3 (by omega)]
    unfold zu
    rw [if_neg (by omega)]
    exact hf.2 x i a1
  have h274 : ∀ i, U2 74 i = U1 74 i := fun i => by
    rw [hf2 74 i (by decide) (by decide) (by omega)]
    rfl
  refine hQ _ U2 w n ρ hS6 ?_ (zPR_e (fun i => hU2 92 i (by decide) (by decide) (by decide) (by decide)) hP) (fun x hx => ?_) (fun i hi => ?_) hU2 ?_ ?_ ⟨_, x4⟩ hwsq hwm (by omega) hK
  · exact ⟨fun i a b => by rw [h274]; exact hE1.1 i a b, fun i j a1 a2 a3 a4 a5 => by rw [h274, h274]; exact hE1.2 i j a1 a2 a3 a4 a5⟩
  · rw [zup_o _ _ (by omega), zup_o _ _ (by omega), zup_o _ _ (by omega), zup_o _ _ (by omega), zup_o _ _ (by omega)]
    exact hf.1 x (by omega)
  · have bi := hP.1 (i : Int) (by omega) (by omega)
    rw [zup_o _ _ (by omega), zup_o _ _ (hP.2 _ _ (by omega) (by omega) (by omega) (by omega) (by omega)), zup_o _ _ (by omega), zup_o _ _ (by omega), zup_o _ _ (by omega)]
    exact hf.1 _ (by omega)
  · rw [hf2 91 4 (by decide) (by decide) (by omega)]
    unfold zu
    exact if_pos ⟨rfl, rfl⟩
  · rw [zup_o _ _ (by omega), zup_s]
theorem c79 {R : Type} [Lean.Grind.CommRing R] {p : Int} {inv : Int → Int} {co : R → Nat → Int} {X : R} {C : Int → R} (I : zIf R p inv co X C) {E : List (List Int)} {d : Nat} {T : zT} {S : Int → R} {U : zD} {Q : Int → zT → zD → Prop} (hT : zTT T) (hS : ∀ a, zlen co (S a) ≤ 25) {q : Int} (hd : 2 ≤ d) (hq : zPq q = true) (hq2 : 96 ≤ q ∧ q ≤ 142) (hm : zmon co (S q)) (hm2 : 2 ≤ zlen co (S q)) (hr : zmon co (S 144))
    (hQ : ∀ S' (k : Nat) r1, (∀ x, zlen co (S' x) ≤ 25) → (∀ x, x ≠ 144 → x ≠ 146 → x ≠ 148 → S' x = S x) → S' 144 = r1 → S 144 = S q ^ k * r1 → ¬ zdv (S q) r1 → zmon co r1 → k ≤ 24 → Q (k : Int) T (zS p inv co S' U)) : zc E d 1 79 [(2, 91), (2, q)] T (zS p inv co S U) Q := by
  have hl := hS 144
  have key : ∀ (t k : Nat) (S' : Int → R) (r1 : R), k + t = 24 → (∀ x, zlen co (S' x) ≤ 25) → (∀ x, x ≠ 144 → x ≠ 146 → x ≠ 148 → S' x = S x) → S' 144 = r1 → S 144 = S q ^ k * r1 → zmon co r1 → zlen co r1 + k ≤ 25 → zj E d 1 79 2 [(2, 91), (2, q), (0, (k : Int))] [] T (zS p inv co S' U) Q := by
    intro t
    induction t with
    | zero =>
      intro k S' r1 hk hS' hf hr1 he hm1 hlen
      refine z79_2 _ _ _ ⟨zin_n (by omega), fun _ => ?_, fun h => by omega⟩
      have : k = 24 := by omega
      subst this
      refine hQ S' 24 r1 hS' hf hr1 he (fun h => ?_) hm1 (Nat.le_refl _)
      have := zdv_len I h (zmon_ne I hm1)
      omega
    | succ t ih =>
      intro k S' r1 hk hS' hf hr1 he hm1 hlen
      have eq : S' q = S q := hf q (by omega) (by omega) (by omega)
      refine z79_2 _ _ _ ⟨zin_n (by omega), fun h => by omega, fun _ => ⟨zX_ob hT, by omega, by rw [zX9]; exact zP_k hT q146, ?_⟩⟩
      rw [zX9, zX8]
      refine c25 I hT hS' q146 q144 (by decide) ⟨zX_ob hT, by rw [zXa]; exact zP_k hT q148, ?_⟩
      rw [hr1, zXa]
      have hr25 : zlen co r1 ≤ 25 := by rw [← hr1]; exact hS' 144
      have hS1 := zup_l hS' (q := 146) hr25
      have hS2 := zup_l hS1 (q := 148) (v := (0 : R)) (by rw [zL_0 I]; omega)
      refine c13 I hT hS1 q148 ⟨zX_ob hT, by rw [zX9]; exact zP_k hT q146, ?_⟩
      rw [zX9, zXa]
      have e2q : zup (zup S' 146 r1) 148 (0 : R) q = S q := by rw [zup_o _ _ (by omega), zup_o _ _ (by omega), eq]
      have e2s : zup (zup S' 146 r1) 148 (0 : R) 146 = r1 := by rw [zup_o _ _ (by decide), zup_s]
      refine c35q I hT hS2 (by omega) q146 hq q148 (by omega) (by decide) (by omega) (by rw [e2q]; exact zmon_ne I hm) (zup_s _ _ _) (fun qq r x1 x2 x3 => ⟨zX_ob hT, by rw [zX9]; exact zP_k hT q146, ?_⟩)
      rw [e2s, e2q] at x1
      rw [e2q] at x2
      rw [zup_up, zX9]
      have hS3 := zup_l (zup_l hS1 (q := 148) x3) (q := 146) (v := r) (by have := hS q; omega)
      have hf3 : ∀ x, x ≠ 144 → x ≠ 146 → x ≠ 148 → zup (zup (zup S' 146 r1) 148 qq) 146 r x = S x := fun x a1 a2 a3 => by
        rw [zup_o _ _ a2, zup_o _ _ a3, zup_o _ _ a2]
        exact hf x a1 a2 a3
      refine c34 I hT hS3 q146 (fun hne => ⟨zin_0, fun h => absurd rfl h, fun _ => ?_⟩) (fun h0 => ⟨zin_c (by decide), fun _ => ⟨zX_ob hT, by rw [zX8]; exact zP_k hT q144, ?_⟩, fun h => absurd h (by decide)⟩)
      · rw [zup_s] at hne
        refine hQ _ k r1 hS3 hf3 (by rw [zup_o _ _ (by decide), zup_o _ _ (by decide), zup_o _ _ (by decide), hr1]) he (fun hdv => ?_) hm1 (by omega)
        refine hne (zdv_small I (a := S q) ?_ x2)
        have : r = r1 - qq * S q := by rw [x1]; grind
        rw [this]
        exact zdv_sub hdv (zdv_mul _ (zdv_refl _))
      · rw [zup_s] at h0
        rw [zX8, zXa]
        refine c25 I hT hS3 q144 q148 (by decide) ?_
        rw [zup_o _ _ (show (148 : Int) ≠ 146 by decide), zup_s]
        have x4 : r1 = qq * S q := by rw [x1, h0]; grind
        have hqm : zmon co qq := by
          rw [x4] at hm1
          exact zmon_div I hm1 hm
        have hlq := zM_len I (zmon_ne I hqm) (zmon_ne I hm)
        rw [← x4] at hlq
        refine ih (k + 1) _ qq (by omega) (zup_l hS3 x3) (fun x a1 a2 a3 => by rw [zup_o _ _ a1]; exact hf3 x a1 a2 a3) (zup_s _ _ _) ?_ hqm (by omega)
        rw [he, x4]
        have : S q ^ (k + 1) = S q ^ k * S q := by grind
        rw [this]
        grind
  refine e79 _ _ (key 24 0 S (S 144) (by omega) hS (fun _ _ _ _ => rfl) rfl ?_ hr (by omega))
  have : S q ^ 0 = 1 := by grind
  rw [this]
  grind
theorem zprd_mul {R : Type} [Lean.Grind.CommRing R] (f g : Nat → R) (n : Nat) : zprd n (fun i => f i * g i) = zprd n f * zprd n g := by
  induction n with
  | zero => show (1 : R) = 1 * 1; grind
  | succ n ih => show zprd n _ * (f n * g n) = (zprd n f * f n) * (zprd n g * g n); rw [ih]; grind
theorem zprd_pow {R : Type} [Lean.Grind.CommRing R] (f : Nat → R) (k n : Nat) : zprd n f ^ k = zprd n (fun i => f i ^ k) := by
  induction n with
  | zero =>
    show (1 : R) ^ k = 1
    induction k with
    | zero => grind
    | succ k ih =>
      have : (1 : R) ^ (k + 1) = 1 ^ k * 1 := by grind
      rw [this, ih]; grind
  | succ n ih => show (zprd n f * f n) ^ k = zprd n _ * f n ^ k; rw [zpow_mul, ih]
theorem zprd_app {R : Type} [Lean.Grind.CommRing R] (f : Nat → R) (a b : Nat) : zprd (a + b) f = zprd a f * zprd b (fun i => f (a + i)) := by
  induction b with
  | zero => show zprd a f = zprd a f * 1; grind
  | succ b ih => show zprd (a + b) f * f (a + b) = zprd a f * (zprd b _ * f (a + b)); rw [ih]; grind
theorem zprd_cp {R : Type} [Lean.Grind.CommRing R] {p : Int} {inv : Int → Int} {co : R → Nat → Int} {X : R} {C : Int → R} (I : zIf R p inv co X C) {g : Nat → R} {n i j : Nat} (hs : zsq co (zprd n g)) (h0 : zprd n g ≠ 0) (hi : i < n) (hj : j < n) (hij : i ≠ j) : zcp (g i) (g j) := by
  obtain ⟨m, rfl⟩ : ∃ m, n = m + 1 := ⟨n - 1, by omega⟩
  have e := zprd_skip g i m (by omega)
  have hgi : g i ≠ 0 := by
    intro h
    rw [e, h] at h0
    exact h0 (by grind)
  refine zcp_of I hgi (fun t t1 t2 => hs t ?_)
  rw [e]
  refine zdv_mm t1 (zdv_trans t2 ?_)
  have : ∃ k, k < m ∧ zskip i k = j := by
    by_cases hji : j < i
    · exact ⟨j, by omega, if_pos hji⟩
    · refine ⟨j - 1, by omega, ?_⟩
      simp only [zskip]
      rw [if_neg (by omega)]
      omega
  obtain ⟨k, hk, ek⟩ := this
  have := zprd_dv (g := fun i' => g (zskip i i')) hk
  simp only [ek] at this
  exact this
theorem c78 {R : Type} [Lean.Grind.CommRing R] {p : Int} {inv : Int → Int} {co : R → Nat → Int} {X : R} {C : Int → R} (I : zIf R p inv co X C) {E : List (List Int)} {d : Nat} {T : zT} {S : Int → R} {U : zD} {Q : Int → zT → zD → Prop} (hT : zTT T) (hS : ∀ a, zlen co (S a) ≤ 25) {w : R} {fs m ω : Nat} (hd : 3 ≤ d) (hP : zPR U) (hsp : zSp co w fs m S U) (hfm : fs + m ≤ 24) (hsq : zsq co w) (hw0 : w ≠ 0) (hr : zmon co (S 144)) (hdv : zdv w (S 144)) (hω : ω ≤ 24)
    (hQ : ∀ S' U' (ks : Nat → Nat) r1, (∀ x, zlen co (S' x) ≤ 25) → (∀ x, x ≠ 144 → x ≠ 146 → x ≠ 148 → S' x = S x) → (∀ x i, x ≠ 93 → U' x i = U x i) → (∀ i : Nat, i < fs → U' 93 (i : Int) = U 93 (i : Int)) → (∀ i, i < m → U' 93 ((fs + i : Nat) : Int) = ((ω * ks i : Nat) : Int)) → (∀ i, i < m → 1 ≤ ks i) → S' 144 = r1 → zmon co r1 → S 144 = zprd m (fun i => zpc S U fs i ^ ks i) * r1 → Q 0 T (zS p inv co S' U')) : zc E d 0 78 [(2, 91), (0, (fs : Int)), (0, (ω : Int))] T (zS p inv co S U) Q := by
  have h93 := zX_93 hT
  have key : ∀ (t i : Nat) (S' : Int → R) (U' : zD) (ks : Nat → Nat) (r1 : R), i + t = m → (∀ x, zlen co (S' x) ≤ 25) → (∀ x, x ≠ 144 → x ≠ 146 → x ≠ 148 → S' x = S x) → (∀ x i, x ≠ 93 → U' x i = U x i) → (∀ j : Nat, j < fs → U' 93 (j : Int) = U 93 (j : Int)) → (∀ j, j < i → U' 93 ((fs + j : Nat) : Int) = ((ω * ks j : Nat) : Int)) → (∀ j, j < i → 1 ≤ ks j) → S' 144 = r1 → zmon co r1 → S 144 = zprd i (fun j => zpc S U fs j ^ ks j) * r1 → (∀ j, i ≤ j → j < m → zdv (zpc S U fs j) r1) → zj E d 0 78 2 [(2, 91), (0, (fs : Int)), (0, (ω : Int)), (0, ((fs + i : Nat) : Int))] [] T (zS p inv co S' U') Q := by
    intro t
    induction t with
    | zero =>
      intro i S' U' ks r1 hi hS' hfS hfU h1 h2 h3 h4 h5 h6 h7
      have e4 : U' 91 4 = ((fs + m : Nat) : Int) := by rw [hfU 91 4 (by decide)]; exact hsp.1
      have him : i = m := by omega
      subst him
      refine z78_2 _ _ _ _ ⟨zX_ob hT, zin_n (by omega), by rw [zX4, e4]; exact zin_n (by omega), fun _ => hQ S' U' ks r1 hS' hfS hfU h1 h2 h3 h4 h5 h6, fun h => ?_⟩
      rw [zX4, e4] at h
      omega
    | succ t ih =>
      intro i S' U' ks r1 hi hS' hfS hfU h1 h2 h3 h4 h5 h6 h7
      have e4 : U' 91 4 = ((fs + m : Nat) : Int) := by rw [hfU 91 4 (by decide)]; exact hsp.1
      have e92 : ∀ j, U' 92 j = U 92 j := fun j => hfU 92 j (by decide)
      have hP' := zPR_e e92 hP
      have hq := zPR_q hP (i := ((fs + i : Nat) : Int)) (by omega) (by omega)
      have hb := hP.1 ((fs + i : Nat) : Int) (by omega) (by omega)
      have ef : S' (U 92 ((fs + i : Nat) : Int)) = zpc S U fs i := hfS _ (by omega) (by omega) (by omega)
      obtain ⟨hmi, hli⟩ := hsp.2.2 i (by omega)
      refine z78_2 _ _ _ _ ⟨zX_ob hT, zin_n (by omega), by rw [zX4, e4]; exact zin_n (by omega), fun h => ?_, fun _ => ⟨?_, ?_, fun h => ?_, fun _ => ⟨by omega, zX_k hT, ?_⟩⟩⟩
      · rw [zX4, e4] at h
        omega
      · rw [zX3]; exact h93.1
      · rw [zX3, h93.2]; exact zin_c (by decide)
      · rw [zX3, h93.2] at h
        omega
      · refine c76 I hT hS' hP' (by omega) ⟨zX_k hT, ?_⟩
        rw [e92]
        refine c79 I hT hS' (by omega) hq (by omega) (by rw [ef]; exact hmi) (by rw [ef]; exact hli) (by rw [h4]; exact h5) (fun S2 k r2 hS2 hf2 y1 y2 y3 y4 y5 => ⟨?_, ?_⟩)
        · rw [zX3]
          exact ⟨h93.1, by omega, by rw [h93.2]; omega, by rw [h93.2]; decide⟩
        · rw [zX3, zXu93]
          rw [ef] at y2 y3
          rw [h4] at y2
          have hk1 : 1 ≤ k := by
            by_cases hk0 : k = 0
            · exfalso
              subst hk0
              have e0 : zpc S U fs i ^ 0 = 1 := by grind
              rw [e0] at y2
              have := h7 i (Nat.le_refl _) (by omega)
              rw [y2] at this
              have e1 : 1 * r2 = r2 := by grind
              rw [e1] at this
              exact y3 this
            · omega
          refine ih (i + 1) S2 _ (fun j => if j = i then k else ks j) r2 (by omega) hS2 (fun x a1 a2 a3 => (hf2 x a1 a2 a3).trans (hfS x a1 a2 a3)) (fun x j a1 => ?_) (fun j hj => ?_) (fun j hj => ?_) (fun j hj => ?_) y1 y4 ?_ (fun j hj hjm => ?_)
          · unfold zu
            rw [if_neg (by omega)]
            exact hfU x j a1
          · unfold zu
            rw [if_neg (by omega)]
            exact h1 j hj
          · unfold zu
            by_cases e : j = i
            · subst e
              rw [if_pos ⟨rfl, rfl⟩, if_pos rfl, Int.natCast_mul]
            · rw [if_neg (by omega), if_neg e]
              exact h2 j (by omega)
          · by_cases e : j = i
            · rw [if_pos e]; exact hk1
            · rw [if_neg e]; exact h3 j (by omega)
          · show S 144 = (zprd i (fun j => zpc S U fs j ^ (if j = i then k else ks j)) * zpc S U fs i ^ (if i = i then k else ks i)) * r2
            rw [if_pos rfl, zprd_c (f := fun j => zpc S U fs j ^ (if j = i then k else ks j)) (g := fun j => zpc S U fs j ^ ks j) (fun j hj => by rw [if_neg (by omega)]), h6, y2]
            grind
          · have hcp : zcp (zpc S U fs j) (zpc S U fs i) := zprd_cp I (g := zpc S U fs) (n := m) (by rw [hsp.2.1]; exact hsq) (by rw [hsp.2.1]; exact hw0) hjm (by omega) (by omega)
            have := h7 j (by omega) hjm
            rw [y2] at this
            exact zcp_dvd (zcp_pow hcp k) this
  refine e78 _ _ _ (key m 0 S U (fun _ => 1) (S 144) (by omega) hS (fun _ _ _ _ => rfl) (fun _ _ _ => rfl) (fun _ _ => rfl) (fun j hj => by omega) (fun j hj => by omega) rfl hr ?_ (fun j hj hjm => ?_))
  · show S 144 = 1 * S 144
    grind
  · refine zdv_trans ?_ hdv
    rw [← hsp.2.1]
    exact zprd_dv hjm
