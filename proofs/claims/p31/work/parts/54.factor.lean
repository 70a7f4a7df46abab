/-! Contract: factor. -/
theorem zprd_sw {R : Type} [Lean.Grind.CommRing R] {f g : Nat → R} {j : Nat} : ∀ {n : Nat}, j + 1 < n → (∀ k, k < n → g k = if k = j then f (j + 1) else if k = j + 1 then f j else f k) → zprd n g = zprd n f := by
  intro n
  induction n with
  | zero => intro h; omega
  | succ n ih =>
    intro h hg
    show zprd n g * g n = zprd n f * f n
    by_cases e : n = j + 1
    · subst e
      show zprd j g * g j * g (j + 1) = zprd j f * f j * f (j + 1)
      rw [zprd_c (f := g) (g := f) (n := j) (fun k hk => by rw [hg k (by omega), if_neg (by omega), if_neg (by omega)]), hg j (by omega), hg (j + 1) (by omega), if_pos rfl, if_neg (by omega), if_pos rfl]
      grind
    · rw [ih (by omega) (fun k hk => hg k (by omega)), hg n (by omega), if_neg (by omega), if_neg (by omega)]
theorem zlen_pow {R : Type} [Lean.Grind.CommRing R] {p : Int} {inv : Int → Int} {co : R → Nat → Int} {X : R} {C : Int → R} (I : zIf R p inv co X C) {a : R} (h : a ≠ 0) : ∀ n : Nat, zlen co (a ^ n) = n * (zlen co a - 1) + 1 := by
  intro n
  induction n with
  | zero =>
    have : a ^ 0 = 1 := by grind
    rw [this, zL_1 I, Nat.zero_mul]
  | succ n ih =>
    have e : a ^ (n + 1) = a ^ n * a := by grind
    have h1 : a ^ n ≠ 0 := by intro h0; rw [h0, zL_0 I] at ih; omega
    have h2 := zM_len I h1 h
    obtain ⟨k, hk⟩ := zL_pos I h
    rw [e, Nat.add_mul, Nat.one_mul]
    omega
theorem zmon_1 {R : Type} [Lean.Grind.CommRing R] {p : Int} {inv : Int → Int} {co : R → Nat → Int} {X : R} {C : Int → R} (I : zIf R p inv co X C) {a : R} (h : zmon co a) (hl : zlen co a ≤ 1) : a = 1 := by
  obtain ⟨n, h1, h2⟩ := h
  have hn : n = 0 := by omega
  subst hn
  rw [zL_const I hl, h2, zR_C1 I]
theorem zmon_root {R : Type} [Lean.Grind.CommRing R] {p : Int} {inv : Int → Int} {co : R → Nat → Int} {X : R} {C : Int → R} (I : zIf R p inv co X C) {a k : R} (h : zmon co a) (e : a = k ^ p.toNat) (hk0 : k ≠ 0) : zmon co k := by
  obtain ⟨P, hP, hpP, hP2, hP97⟩ := zP_N I
  obtain ⟨n, h1, h2⟩ := h
  obtain ⟨m, hm⟩ := zL_pos I hk0
  have hl := zlen_pow I hk0 p.toNat
  rw [← e, hm, Nat.add_sub_cancel, hP] at hl
  refine ⟨m, hm, ?_⟩
  have h3 := zfrob_co I k n
  rw [← e, h2, hP] at h3
  have h4 : n = P * m := by omega
  rw [h4, Nat.mul_mod_right, if_pos rfl, Nat.mul_div_cancel_left _ (by omega)] at h3
  exact h3.symm
def zFg {R : Type} (S : Int → R) (U : zD) (S' : Int → R) (U' : zD) : Prop := (∀ x, 4 ≤ x ∧ x ≤ 22 → S' x = S x) ∧ (∀ x i, 158 ≤ x → U' x i = U x i)
/-- a factor as it is kept -/
def zGd {R : Type} [Lean.Grind.CommRing R] (p : Int) (co : R → Nat → Int) (C : Int → R) (f : R) (t : Int) : Prop := zmon co f ∧ 2 ≤ zlen co f ∧ zsq co f ∧ zK p C f ∧ 1 ≤ t ∧ t ≤ 24
def zfp {R : Type} [Lean.Grind.CommRing R] (S : Int → R) (U : zD) (i : Nat) : R := S (U 92 (i : Int)) ^ (U 93 (i : Int)).toNat
theorem c58 {R : Type} [Lean.Grind.CommRing R] {p : Int} {inv : Int → Int} {co : R → Nat → Int} {X : R} {C : Int → R} (I : zIf R p inv co X C) {E : List (List Int)} {d : Nat} {T : zT} {S : Int → R} {U : zD} {Q : Int → zT → zD → Prop} (hT : zTT T) (hS : ∀ a, zlen co (S a) ≤ 25) {a : Int} (hd : 6 ≤ d) (hE : zEU U) (hP : zPR U) (ha : zPq a = true) (ha2 : a ≤ 22) (ha0 : S a ≠ 0)
    (hQ : ∀ S' U' (sz : Nat), zOK co S' U' → zFg S U S' U' → U' 91 4 = (sz : Int) → sz ≤ 24 → C (inv (co (S a) (zlen co (S a) - 1))) * S a = zprd sz (zfp S' U') → (∀ i : Nat, i < sz → zGd p co C (S' (U' 92 (i : Int))) (U' 93 (i : Int))) → Q 0 T (zS p inv co S' U')) : zc E d 0 58 [(2, 91), (2, a)] T (zS p inv co S U) Q := by
  obtain ⟨P, hPn, hpP, hP2, hP97⟩ := zP_N I
  have ha4 : 4 ≤ a := by have := (zPq_iff a).mp ha; omega
  generalize hW : C (inv (co (S a) (zlen co (S a) - 1))) * S a = W at hQ
  -- the end: sorting
  have fin : ∀ (S' : Int → R) (U' : zD) (sz ω : Nat), (∀ x, zlen co (S' x) ≤ 25) → zEU U' → zPR U' → zFg S U S' U' → zmon co (S' 144) → zlen co (S' 144) ≤ 1 → W = S' 144 ^ ω * zprd sz (zfp S' U') → U' 91 4 = (sz : Int) → sz ≤ 24 → (∀ i : Nat, i < sz → zGd p co C (S' (U' 92 (i : Int))) (U' 93 (i : Int))) → zc E (d - 1) 0 80 [(2, 91)] T (zS p inv co S' U') (fun x T D => Q 0 T D) := by
    intro S' U' sz ω hS' hE' hP' hf hm hl hWe h4 hsz hG
    have h1 := zmon_1 I hm hl
    have hone : ∀ k : Nat, (1 : R) ^ k = 1 := by
      intro k
      induction k with
      | zero => grind
      | succ k ih =>
        have : (1 : R) ^ (k + 1) = 1 ^ k * 1 := by grind
        rw [this, ih]; grind
    have hWe2 : W = zprd sz (zfp S' U') := by rw [hWe, h1, hone]; grind
    refine c80 I hT hS' (sz := sz) (by omega) (P := fun U2 => zPR U2 ∧ U2 91 4 = (sz : Int) ∧ (∀ x i, x ≠ 92 → x ≠ 93 → U2 x i = U' x i) ∧ W = zprd sz (zfp S' U2) ∧ ∀ i : Nat, i < sz → zGd p co C (S' (U2 92 (i : Int))) (U2 93 (i : Int))) (fun U2 h => h.2.1) hsz (fun U2 h => h.1) (fun U2 i h hi0 his => ?_) ⟨hP', h4, fun _ _ _ _ => rfl, hWe2, hG⟩ (fun U2 h => ?_)
    · obtain ⟨a1, a2, a3, a4, a5⟩ := h
      obtain ⟨j, rfl⟩ : ∃ j, i = j + 1 := ⟨i - 1, by omega⟩
      have ej : ((j + 1 : Nat) : Int) - 1 = (j : Int) := by omega
      rw [ej]
      have e92 : ∀ k : Nat, zsw U2 ((j + 1 : Nat) : Int) (j : Int) 92 (k : Int) = if k = j then U2 92 ((j + 1 : Nat) : Int) else if k = j + 1 then U2 92 (j : Int) else U2 92 (k : Int) := fun k => by
        rw [zsw_92]
        by_cases x1 : k = j
        · rw [if_pos (by omega), if_pos x1]
        · rw [if_neg (by omega), if_neg x1]
          by_cases x2 : k = j + 1
          · rw [if_pos (by omega), if_pos x2]
          · rw [if_neg (by omega), if_neg x2]
      have e93 : ∀ k : Nat, zsw U2 ((j + 1 : Nat) : Int) (j : Int) 93 (k : Int) = if k = j then U2 93 ((j + 1 : Nat) : Int) else if k = j + 1 then U2 93 (j : Int) else U2 93 (k : Int) := fun k => by
        rw [zsw_93]
        by_cases x1 : k = j
        · rw [if_pos (by omega), if_pos x1]
        · rw [if_neg (by omega), if_neg x1]
          by_cases x2 : k = j + 1
          · rw [if_pos (by omega), if_pos x2]
          · rw [if_neg (by omega), if_neg x2]
      refine ⟨zsw_P a1 (by omega) (by omega), by rw [zsw_o _ _ _ _ _ (by decide) (by decide)]; exact a2, fun x k y1 y2 => by rw [zsw_o _ _ _ _ _ y1 y2]; exact a3 x k y1 y2, ?_, fun k hk => ?_⟩
      · rw [a4]
        refine (zprd_sw (j := j) (by omega) (fun k hk => ?_)).symm
        unfold zfp
        rw [e92, e93]
        split
        · rfl
        · split <;> rfl
      · rw [e92, e93]
        split
        · exact a5 (j + 1) (by omega)
        · split
          · exact a5 j (by omega)
          · exact a5 k hk
    · obtain ⟨a1, a2, a3, a4, a5⟩ := h
      refine hQ S' U2 sz ⟨hS', ⟨fun i b1 b2 => by rw [a3 74 i (by decide) (by decide)]; exact hE'.1 i b1 b2, fun i j b1 b2 b3 b4 b5 => by rw [a3 74 i (by decide) (by decide), a3 74 j (by decide) (by decide)]; exact hE'.2 i j b1 b2 b3 b4 b5⟩, a1⟩ ⟨hf.1, fun x i hx => by rw [a3 x i (by omega) (by omega)]; exact hf.2 x i hx⟩ a2 hsz a4 a5
  have key : ∀ (t τ ω sz : Nat) (S' : Int → R) (U' : zD) (w4 w5 w6 : zv_V), zs_wide w4 = false → zs_wide w5 = false → zs_wide w6 = false → zlen co (S' 144) ≤ t + 1 → τ + t ≤ 30 → (∀ x, zlen co (S' x) ≤ 25) → zEU U' → zPR U' → zFg S U S' U' → zmon co (S' 144) → W = S' 144 ^ ω * zprd sz (zfp S' U') → U' 91 4 = (sz : Int) → 1 ≤ ω → (∀ i : Nat, i < sz → zGd p co C (S' (U' 92 (i : Int))) (U' 93 (i : Int))) → ω * (zlen co (S' 144) - 1) + zlen co (zprd sz (fun i => S' (U' 92 (i : Int)))) ≤ 25 → zj E d 0 58 38 [(2, 91), (2, a), (0, (ω : Int)), (0, (τ : Int)), w4, w5, w6] [] T (zS p inv co S' U') Q := by
    intro t
    induction t with
    | zero =>
      intro τ ω sz S' U' w4 w5 w6 hw4 hw5 hw6 hl hτ hS' hE' hP' hf hm hWe h4 hω hG hdeg
      have hlp := zprd_len I (g := fun i => S' (U' 92 (i : Int))) (n := sz) (fun i hi => (hG i hi).2.1)
      refine z58_38 _ _ _ _ _ _ _ hw4 hw5 hw6 ⟨zin_n (by omega), fun h => by omega, fun _ => ⟨zX_ob hT, by omega, by rw [zX8]; exact zP_k hT q144, ?_⟩⟩
      rw [zX8]
      refine c21 I hT hS' q144 ⟨zin_h (hS' 144), fun _ => ⟨zX_k hT, ?_⟩, fun h => by omega⟩
      exact fin S' U' sz ω hS' hE' hP' hf hm (by omega) hWe h4 (by omega) hG
    | succ t ih =>
      intro τ ω sz S' U' w4 w5 w6 hw4 hw5 hw6 hl hτ hS' hE' hP' hf hm hWe h4 hω hG hdeg
      have hlp := zprd_len I (g := fun i => S' (U' 92 (i : Int))) (n := sz) (fun i hi => (hG i hi).2.1)
      have hl25 := hS' 144
      refine z58_38 _ _ _ _ _ _ _ hw4 hw5 hw6 ⟨zin_n (by omega), fun h => by omega, fun _ => ⟨zX_ob hT, by omega, by rw [zX8]; exact zP_k hT q144, ?_⟩⟩
      rw [zX8]
      refine c21 I hT hS' q144 ⟨zin_h (hS' 144), fun h => ⟨zX_k hT, ?_⟩, fun h => ⟨zX_ob hT, by rw [zX9]; exact zP_k hT q146, ?_⟩⟩
      · exact fin S' U' sz ω hS' hE' hP' hf hm (by omega) hWe h4 (by omega) hG
      have hr2 : 2 ≤ zlen co (S' 144) := by omega
      have hωd : zlen co (S' 144) - 1 ≤ ω * (zlen co (S' 144) - 1) := by
        have := Nat.mul_le_mul_right (zlen co (S' 144) - 1) hω
        rw [Nat.one_mul] at this
        exact this
      have hω24 : ω ≤ 24 := by
        have : ω * 1 ≤ ω * (zlen co (S' 144) - 1) := Nat.mul_le_mul_left ω (by omega)
        omega
      rw [zX9, zX8]
      refine c42 I hT hS' (by omega) q146 q144 (by decide) (fun v hv => ⟨zX_ob hT, by rw [zX9]; exact zP_k hT q146, ?_⟩)
      rw [zX9]
      have hv25 : zlen co v ≤ 25 := zde_len I hv (by omega)
      have hS1 := zup_l hS' (q := 146) hv25
      have n144 : zup S' 146 v 144 = S' 144 := zup_o _ _ (by decide)
      have n92 : ∀ i : Nat, i < 24 → zup S' 146 v (U' 92 (i : Int)) = S' (U' 92 (i : Int)) := fun i hi => by
        have := hP'.1 (i : Int) (by omega) (by omega)
        rw [zup_o _ _ (by omega)]
      refine c34 I hT hS1 q146 (fun hne => ⟨zin_0, fun _ => ⟨zX_ob hT, zX_k hT, ?_⟩, fun h => absurd rfl h⟩) (fun h0 => ⟨zin_c (by decide), fun h => absurd h (by decide), fun _ => ⟨zX_k hT, ?_⟩⟩)
      · -- simple parts
        rw [zup_s] at hne
        refine c60 I hT hS1 (sz := sz) (by omega) hE' hP' h4 (by omega) (by rw [n144]; exact hm) (by rw [n144]; exact hr2) (by rw [n144, zup_s]; exact hv) (by rw [zup_s]; exact hne) (fun S2 U2 w n ρ hS2 hE2 hP2 hreg hold hU2 h42 hSw hwd hwsq hwm hw2 hK => ?_)
        rw [n144] at hwd
        have hr1 : S2 144 = S' 144 := by rw [hreg 144 (by omega), n144]
        have e92 : ∀ i, U2 92 i = U' 92 i := fun i => hU2 92 i (by decide) (by decide) (by decide) (by decide)
        have hw0 := zmon_ne I hwm
        have hwl := zdv_len I hwd (zmon_ne I hm)
        rw [zX4, h4]
        -- behind the splitting
        have leave : ∀ (S3 : Int → R) (U3 : zD) (m c : Nat) (l5 : Int), (∀ x, zlen co (S3 x) ≤ 25) → zEU U3 → zPR U3 → zFs sz S2 U2 S3 U3 → zSp co w sz m S3 U3 → (∀ i, i < m → zK p C (zpc S3 U3 sz i)) → zc E (d - 1) 0 78 [(2, 91), (0, (sz : Int)), (0, (ω : Int))] T (zS p inv co S3 U3) (fun x T D => zj E d 0 58 38 [(2, 91), (2, a), (0, (ω : Int)), (0, (τ : Int) + 1), (0, (sz : Int)), (0, l5), (0, (c : Int))] [] T D Q) := by
          intro S3 U3 m c l5 hS3 hE3 hP3 hf3 hsp3 hK3
          have hl3 := zprd_len I (g := zpc S3 U3 sz) (n := m) (fun i hi => (hsp3.2.2 i hi).2)
          rw [hsp3.2.1] at hl3
          have h3144 : S3 144 = S' 144 := by rw [hf3.1 144 (by omega), hr1]
          have e923 : ∀ i, U3 92 i = U' 92 i := fun i => by rw [hf3.2.2 92 i (by decide) (by omega), e92]
          have hm1 : 1 ≤ m := by
            by_cases hm0 : m = 0
            · exfalso
              have := hsp3.2.1
              rw [hm0] at this
              have e1 : w = 1 := this.symm
              rw [e1, zL_1 I] at hw2
              omega
            · omega
          refine c78 I hT hS3 (w := w) (fs := sz) (m := m) (ω := ω) (by omega) hP3 hsp3 (by omega) hwsq hw0 (by rw [h3144]; exact hm) (by rw [h3144]; exact hwd) hω24 (fun S4 U4 ks r1 hS4 hf4 hU4 ht4 hk4 hk1 hr4 hrm hre => ?_)
          rw [h3144] at hre
          have e924 : ∀ i, U4 92 i = U' 92 i := fun i => by rw [hU4 92 i (by decide), e923]
          have hP4 := zPR_e e924 hP'
          -- the values of the parts
          have pold : ∀ i : Nat, i < sz → S4 (U' 92 (i : Int)) = S' (U' 92 (i : Int)) := fun i hi => by
            have b := hP'.1 (i : Int) (by omega) (by omega)
            rw [hf4 _ (by omega) (by omega) (by omega)]
            have := hf3.2.1 i hi
            rw [e92] at this
            rw [this]
            have h5 := hold i hi
            rw [h5, n92 i (by omega)]
          have pnew : ∀ i, i < m → S4 (U' 92 ((sz + i : Nat) : Int)) = zpc S3 U3 sz i := fun i hi => by
            have b := hP'.1 ((sz + i : Nat) : Int) (by omega) (by omega)
            rw [hf4 _ (by omega) (by omega) (by omega)]
            unfold zpc
            rw [e923]
          have told : ∀ i : Nat, i < sz → U4 93 (i : Int) = U' 93 (i : Int) := fun i hi => by
            rw [ht4 i hi, hf3.2.2 93 _ (by decide) (by omega), hU2 93 _ (by decide) (by decide) (by decide) (by decide)]
          -- degrees
          have hks : ∀ i, i < m → ks i ≤ zlen co (S' 144) - 1 := fun i hi => by
            have h1 : zdv (zpc S3 U3 sz i ^ ks i) (S' 144) := by
              rw [hre]
              exact zdv_mulr _ (zprd_dv (g := fun i => zpc S3 U3 sz i ^ ks i) hi)
            have h2 := zdv_len I h1 (zmon_ne I hm)
            have h3 := (hsp3.2.2 i hi).2
            rw [zlen_pow I (zmon_ne I (hsp3.2.2 i hi).1)] at h2
            have : ks i * 1 ≤ ks i * (zlen co (zpc S3 U3 sz i) - 1) := Nat.mul_le_mul_left _ (by omega)
            omega
          have hwr : zlen co r1 + zlen co w ≤ zlen co (S' 144) + 1 := by
            have h1 : zdv (w * r1) (S' 144) := by
              rw [hre, ← hsp3.2.1]
              have e1 : zprd m (fun i => zpc S3 U3 sz i ^ ks i) = zprd m (zpc S3 U3 sz) * zprd m (fun i => zpc S3 U3 sz i ^ (ks i - 1)) := by
                rw [← zprd_mul]
                refine zprd_c (fun i hi => ?_)
                obtain ⟨k, hk⟩ : ∃ k, ks i = k + 1 := ⟨ks i - 1, by have := hk1 i hi; omega⟩
                rw [hk, Nat.add_sub_cancel]
                grind
              rw [e1]
              exact ⟨zprd m (fun i => zpc S3 U3 sz i ^ (ks i - 1)), by grind⟩
            have h2 := zdv_len I h1 (zmon_ne I hm)
            have h3 := zM_len I hw0 (zmon_ne I hrm)
            omega
          refine ih (τ + 1) ω (sz + m) S4 U4 (0, (sz : Int)) (0, l5) (0, (c : Int)) rfl rfl rfl (by rw [hr4]; omega) (by omega) hS4 ?_ hP4 ⟨fun x hx => ?_, fun x i hx => ?_⟩ (by rw [hr4]; exact hrm) ?_ ?_ hω (fun i hi => ?_) ?_
          · exact ⟨fun i b1 b2 => by rw [hU4 74 i (by decide)]; exact hE3.1 i b1 b2, fun i j b1 b2 b3 b4 b5 => by rw [hU4 74 i (by decide), hU4 74 j (by decide)]; exact hE3.2 i j b1 b2 b3 b4 b5⟩
          · rw [hf4 x (by omega) (by omega) (by omega), hf3.1 x (by omega), hreg x (by omega), zup_o _ _ (by omega)]
            exact hf.1 x hx
          · rw [hU4 x i (by omega), hf3.2.2 x i (by omega) (by omega), hU2 x i (by omega) (by omega) (by omega) (by omega)]
            exact hf.2 x i hx
          · rw [hr4, hWe, hre, zpow_mul, zprd_pow, zprd_app]
            have e1 : zprd sz (zfp S4 U4) = zprd sz (zfp S' U') := zprd_c (fun i hi => by
              unfold zfp
              rw [e924, pold i hi, told i hi])
            have e2 : zprd m (fun i => zfp S4 U4 (sz + i)) = zprd m (fun i => (zpc S3 U3 sz i ^ ks i) ^ ω) := zprd_c (fun i hi => by
              unfold zfp
              rw [e924, pnew i hi, hk4 i hi, Int.toNat_natCast, zpow_pow, Nat.mul_comm])
            rw [e1, e2]
            grind
          · rw [hU4 91 4 (by decide)]
            exact hsp3.1
          · by_cases hi2 : i < sz
            · rw [e924, pold i hi2, told i hi2]
              exact hG i hi2
            · obtain ⟨j, rfl⟩ : ∃ j, i = sz + j := ⟨i - sz, by omega⟩
              have hj : j < m := by omega
              rw [e924, pnew j hj, hk4 j hj]
              obtain ⟨g1, g2⟩ := hsp3.2.2 j hj
              have hdj : zdv (zpc S3 U3 sz j) w := by rw [← hsp3.2.1]; exact zprd_dv hj
              have h1 := hk1 j hj
              have h2 := hks j hj
              have h3 : ω * ks j ≤ ω * (zlen co (S' 144) - 1) := Nat.mul_le_mul_left ω h2
              have h4' : 1 * 1 ≤ ω * ks j := Nat.mul_le_mul hω h1
              exact ⟨g1, g2, zsq_dv hwsq hdj, hK3 j hj, by omega, by omega⟩
          · rw [hr4]
            have e1 : zprd (sz + m) (fun i => S4 (U4 92 (i : Int))) = zprd sz (fun i => S' (U' 92 (i : Int))) * w := by
              rw [zprd_app, ← hsp3.2.1]
              rw [zprd_c (f := fun i : Nat => S4 (U4 92 (i : Int))) (g := fun i : Nat => S' (U' 92 (i : Int))) (fun i hi => by rw [e924, pold i hi])]
              rw [zprd_c (f := fun i : Nat => S4 (U4 92 ((sz + i : Nat) : Int))) (g := zpc S3 U3 sz) (fun i hi => by rw [e924, pnew i hi])]
            rw [e1]
            have h1 := zM_len I (a := zprd sz (fun i => S' (U' 92 (i : Int)))) (b := w) (by intro e; rw [e, zL_0 I] at hlp; omega) hw0
            have h2 : ω * (zlen co r1 - 1) + (zlen co w - 1) ≤ ω * (zlen co (S' 144) - 1) := by
              have h3 : ω * (zlen co r1 - 1 + (zlen co w - 1)) ≤ ω * (zlen co (S' 144) - 1) := Nat.mul_le_mul_left ω (by omega)
              have h5 : 1 * (zlen co w - 1) ≤ ω * (zlen co w - 1) := Nat.mul_le_mul_right _ hω
              rw [Nat.mul_add] at h3
              omega
            omega
        -- the columns
        have cols : ∀ (s c m : Nat) (S3 : Int → R) (U3 : zD), c + s = 24 → 1 ≤ c → (∀ x, zlen co (S3 x) ≤ 25) → zEU U3 → zPR U3 → zFs sz S2 U2 S3 U3 → zSp co w sz m S3 U3 → zKD p co C w n ρ U3 → (∀ k, 1 ≤ k → k < c → k < n → zpv U3 k = -1 → ∃ e, zev p co w n k U3 e ∧ ∀ i, i < m → ∃ x : Int, zdv (zpc S3 U3 sz i) (e - C x)) → zj E d 0 58 111 [(2, 91), (2, a), (0, (ω : Int)), (0, (τ : Int)), (0, (sz : Int)), (0, (sz : Int) + ((n : Int) - (ρ : Int))), (0, (c : Int))] [] T (zS p inv co S3 U3) Q := by
          intro s
          induction s with
          | zero =>
            intro c m S3 U3 hc hc1 hS3 hE3 hP3 hf3 hsp3 hK3 hcol
            refine z58_111 _ _ _ _ _ _ _ ⟨zin_n (by omega), fun _ => ⟨by omega, zX_k hT, ?_⟩, fun h => by omega⟩
            exact leave S3 U3 m c _ hS3 hE3 hP3 hf3 hsp3 (zK_all I hK3 hw0 hwsq hsp3.2.1 (fun i hi => (hsp3.2.2 i hi).2) (fun k k1 kn kp => hcol k k1 (by have := hK3.2.1; omega) kn kp))
          | succ s ihs =>
            intro c m S3 U3 hc hc1 hS3 hE3 hP3 hf3 hsp3 hK3 hcol
            have hl3 := zprd_len I (g := zpc S3 U3 sz) (n := m) (fun i hi => (hsp3.2.2 i hi).2)
            rw [hsp3.2.1] at hl3
            have hρ := hK3.2.2.2.2.1.1
            have hn24 := hK3.2.1
            have hgz : zin ((sz : Int) + ((n : Int) - (ρ : Int))) := by unfold zin; omega
            have h43 : U3 91 4 = ((sz + m : Nat) : Int) := hsp3.1
            refine z58_111 _ _ _ _ _ _ _ ⟨zin_n (by omega), fun h => by omega, fun _ => ⟨zX_ob hT, by rw [zX4, h43]; exact zin_n (by omega), hgz, fun h => ⟨by omega, zX_k hT, ?_⟩, fun h => ⟨by omega, zX_k hT, ?_⟩⟩⟩
            · rw [zX4, h43] at h
              exact leave S3 U3 m c _ hS3 hE3 hP3 hf3 hsp3 (zK_cnt I hK3 hw0 hwsq hsp3.2.1 (fun i hi => (hsp3.2.2 i hi).2) (by omega))
            · refine c73 I hT hS3 (w := w) (n := n) (ρ := ρ) (c0 := c) (fs := sz) (m0 := m) (by omega) hE3 hP3 hK3 hw0 hwsq hsp3 (by omega) (by omega) hgz (fun S4 U4 m' hS4 hE4 hP4 hf4 hsp4 hmm hrf hor => ?_)
              have hK4 : zKD p co C w n ρ U4 := zKD_k hK3 (hf4.2.2 91 7 (by decide) (by omega)) (fun i => hf4.2.2 94 i (by decide) (by omega)) (fun i => hf4.2.2 95 i (by decide) (by omega))
              have hpv : ∀ k, zpv U4 k = zpv U3 k := fun k => hf4.2.2 95 _ (by decide) (by omega)
              have hzev : ∀ k e, zev p co w n k U3 e → zev p co w n k U4 e := fun k e h => ⟨h.1, h.2.1, fun j b1 b2 b3 => h.2.2.1 j b1 b2 (by rw [← hpv]; exact b3), h.2.2.2⟩
              have hf34 := zFs_t hf3 hf4
              have hl4 := zprd_len I (g := zpc S4 U4 sz) (n := m') (fun i hi => (hsp4.2.2 i hi).2)
              rw [hsp4.2.1] at hl4
              -- done early
              by_cases hearly : (sz : Int) + ((n : Int) - (ρ : Int)) ≤ ((sz + m' : Nat) : Int)
              · have h44 : U4 91 4 = ((sz + m' : Nat) : Int) := hsp4.1
                have hall := zK_cnt I hK4 hw0 hwsq hsp4.2.1 (fun i hi => (hsp4.2.2 i hi).2) (by omega)
                by_cases hc24 : c + 1 ≥ 24
                · refine z58_111 _ _ _ _ _ _ _ ⟨by unfold zin; omega, fun _ => ⟨by omega, zX_k hT, ?_⟩, fun h => by omega⟩
                  exact leave S4 U4 m' (c + 1) _ hS4 hE4 hP4 hf34 hsp4 hall
                · refine z58_111 _ _ _ _ _ _ _ ⟨by unfold zin; omega, fun h => by omega, fun _ => ⟨zX_ob hT, by rw [zX4, h44]; exact zin_n (by omega), hgz, fun h => ⟨by omega, zX_k hT, ?_⟩, fun h => ?_⟩⟩
                  · exact leave S4 U4 m' (c + 1) _ hS4 hE4 hP4 hf34 hsp4 hall
                  · rw [zX4, h44] at h
                    omega
              · refine ihs (c + 1) m' S4 U4 (by omega) (by omega) hS4 hE4 hP4 hf34 hsp4 hK4 (fun k k1 kc kn kp => ?_)
                rw [hpv] at kp
                by_cases ek : k = c
                · subst ek
                  rcases hor with ⟨e, b1, b2, b3, b4⟩ | h | h | h
                  · exact ⟨e, hzev _ _ b3, b4⟩
                  · exact absurd h hearly
                  · omega
                  · exact absurd kp h
                · obtain ⟨e, b1, b2⟩ := hcol k k1 (by omega) kn kp
                  refine ⟨e, hzev _ _ b1, fun i hi => ?_⟩
                  obtain ⟨j, hj, hd⟩ := hrf i hi
                  obtain ⟨x, hx⟩ := b2 j hj
                  exact ⟨x, zdv_trans hd hx⟩
        have hsp0 : zSp co w sz 1 S2 U2 := by
          refine ⟨h42, ?_, fun i hi => ?_⟩
          · show (1 : R) * zpc S2 U2 sz 0 = w
            unfold zpc
            rw [Nat.add_zero, e92, hSw]
            grind
          · have : i = 0 := by omega
            subst this
            unfold zpc
            rw [Nat.add_zero, e92, hSw]
            exact ⟨hwm, hw2⟩
        exact cols 23 1 1 S2 U2 (by omega) (by omega) hS2 hE2 hP2 (zFs_r _ _ _) hsp0 hK (fun k k1 kc => by omega)
      · -- a pth root
        rw [zup_s] at h0
        subst h0
        refine c59 I hT hS1 (by omega) (fun k hk => ⟨zX_ob hT, by rw [zX0]; exact zF_k hT, ?_⟩)
        rw [n144] at hk
        rw [zX0]
        have hroot := zroot_of I hv hk
        have hk0 : k ≠ 0 := by
          rintro rfl
          obtain ⟨pn, hpn⟩ := zpp I
          rw [hpn] at hroot
          exact zmon_ne I hm (by rw [hroot]; grind)
        have hkm := zmon_root I hm hroot hk0
        have hkl := zlen_pow I hk0 p.toNat
        rw [← hroot, hPn] at hkl
        obtain ⟨kd, hkd⟩ := zL_pos I hk0
        have hk2 : 2 * (zlen co k - 1) ≤ P * (zlen co k - 1) := Nat.mul_le_mul_right _ hP2
        have hkd1 : 1 ≤ zlen co k - 1 := by
          by_cases h : zlen co k - 1 = 0
          · rw [h, Nat.mul_zero] at hkl; omega
          · omega
        have hk25 : zlen co k ≤ 25 := by omega
        have hS2 := zup_l (zup_l hS1 (q := 146) hk25) (q := 144) hk25
        refine c12 I hT hS2 ?_
        rw [zup_up]
        have hS3 := zup_l (zup_l hS' (q := 146) hk25) (q := 144) hk25
        have e144 : zup (zup S' 146 k) 144 k 144 = k := zup_s _ _ _
        have eold : ∀ i : Nat, i < 24 → zup (zup S' 146 k) 144 k (U' 92 (i : Int)) = S' (U' 92 (i : Int)) := fun i hi => by
          have := hP'.1 (i : Int) (by omega) (by omega)
          rw [zup_o _ _ (by omega), zup_o _ _ (by omega)]
        have eω : (ω : Int) * p = ((ω * P : Nat) : Int) := by rw [hpP, Int.natCast_mul]
        rw [eω]
        refine ih (τ + 1) (ω * P) sz _ U' w4 w5 w6 hw4 hw5 hw6 (by rw [e144]; omega) (by omega) hS3 hE' hP' ⟨fun x hx => by rw [zup_o _ _ (by omega), zup_o _ _ (by omega)]; exact hf.1 x hx, hf.2⟩ (by rw [e144]; exact hkm) ?_ h4 ?_ (fun i hi => by rw [eold i (by omega)]; exact hG i hi) ?_
        · rw [e144, hWe]
          have e1 : zprd sz (zfp (zup (zup S' 146 k) 144 k) U') = zprd sz (zfp S' U') := zprd_c (fun i hi => by
            unfold zfp
            rw [eold i (by omega)])
          rw [e1]
          conv => lhs; rw [hroot]
          rw [zpow_pow, hPn, Nat.mul_comm]
        · have : 1 * 1 ≤ ω * P := Nat.mul_le_mul hω (by omega)
          omega
        · rw [e144]
          rw [zprd_c (f := fun i : Nat => zup (zup S' 146 k) 144 k (U' 92 (i : Int))) (g := fun i : Nat => S' (U' 92 (i : Int))) (fun i hi => eold i (by omega))]
          have : ω * P * (zlen co k - 1) = ω * (zlen co (S' 144) - 1) := by
            rw [hkl, Nat.add_sub_cancel, Nat.mul_assoc]
          omega
  -- the beginning
  obtain ⟨m1, m2, m3⟩ := zmonic I (S a)
  have hrg := zR_rng I (S a) (zlen co (S a) - 1)
  obtain ⟨la, hla⟩ := zL_pos I ha0
  have htop := zL_top I hla
  have hiv := zR_inv I (c := co (S a) (zlen co (S a) - 1)) (by rw [hla, Nat.add_sub_cancel]; have := zR_rng I (S a) la; omega) hrg.2
  have hWm : zmon co W := by
    rw [← hW]
    rcases m1 with h | h
    · exfalso
      obtain ⟨q, hq⟩ := m3
      rw [h] at hq
      exact ha0 (by rw [hq]; grind)
    · exact h
  have hWl : zlen co W ≤ 25 := by rw [← hW]; exact zL_smul I _ (hS a)
  refine e58 _ _ ⟨zX_ob hT, by omega, ?_, ?_⟩
  · rw [zXu4, zX8]; exact zP_k hT q144
  rw [zXu4, zX8]
  refine c25 I hT hS (U := zu U 91 4 0) q144 ha (by omega) ⟨zX_ob hT, by rw [zX8]; exact zP_k hT q144, ?_⟩
  rw [zX8, zX0]
  have hS1 := zup_l hS (q := 144) (hS a)
  refine c36 I hT hS1 q144 ⟨zF_k hT, ?_⟩
  rw [zup_s]
  refine c37 I hT hS1 hrg.1 hrg.2 ⟨zP_k hT q144, ?_⟩
  refine c40 I hT hS1 (by omega) q144 (by omega) hiv.2.1 ?_
  rw [zup_s, zup_up, hW]
  have hS2 := zup_l hS (q := 144) hWl
  have e0 : S a = S a := rfl
  refine key 24 0 1 0 _ (zu U 91 4 0) (9, 0) (9, 0) (9, 0) rfl rfl rfl (by rw [zup_s]; omega) (by omega) hS2 ?_ (zPR_e (fun i => rfl) hP) ⟨fun x hx => by rw [zup_o _ _ (by omega)], fun x i hx => ?_⟩ (by rw [zup_s]; exact hWm) ?_ ?_ (Nat.le_refl _) (fun i hi => by omega) ?_
  · exact ⟨fun i b1 b2 => hE.1 i b1 b2, fun i j b1 b2 b3 b4 b5 => hE.2 i j b1 b2 b3 b4 b5⟩
  · unfold zu
    rw [if_neg (by omega)]
  · rw [zup_s]
    show W = W ^ 1 * 1
    grind
  · unfold zu
    exact if_pos ⟨rfl, rfl⟩
  · rw [zup_s]
    show 1 * (zlen co W - 1) + zlen co (1 : R) ≤ 25
    rw [zL_1 I]
    obtain ⟨k, h1, h2⟩ := hWm
    omega
