/-! Contracts: the reduced form, the filled grid, how many parts, the vectors. -/
def zpv (U : zD) (k : Nat) : Int := U 95 (k : Int)
def zG2 (U U' : zD) : Prop := ∀ a i : Int, a ≠ 94 → a ≠ 95 → U' a i = U a i
theorem zG2_f {U U1 U2 : zD} (h : zG2 U U1) (h2 : zGf U1 U2) : zG2 U U2 := fun a i h4 h5 => (h2 a i h4).trans (h a i h4 h5)
theorem zG2_u {U U1 : zD} (h : zG2 U U1) (i x : Int) : zG2 U (zu U1 95 i x) := fun a j h4 h5 => by
  unfold zu
  rw [if_neg (by omega)]
  exact h a j h4 h5
theorem zgr_95 (U : zD) (i x : Int) (l c : Nat) : zgr (zu U 95 i x) l c = zgr U l c := by
  unfold zgr zu
  exact if_neg (fun h => absurd h.1 (by decide))
theorem zpv_u (U : zD) (c k : Nat) (x : Int) : zpv (zu U 95 (c : Int) x) k = if k = c then x else zpv U k := by
  unfold zpv zu
  by_cases h : k = c
  · subst h
    rw [if_pos ⟨rfl, rfl⟩, if_pos rfl]
  · rw [if_neg (by omega), if_neg h]
theorem zpv_f {U U' : zD} (h : zGf U U') (k : Nat) : zpv U' k = zpv U k := h 95 _ (by decide)
theorem c65 {R : Type} [Lean.Grind.CommRing R] {p : Int} {inv : Int → Int} {co : R → Nat → Int} {X : R} {C : Int → R} (I : zIf R p inv co X C) {E : List (List Int)} {d : Nat} {T : zT} {S : Int → R} {U : zD} {Q : Int → zT → zD → Prop} (hT : zTT T) (hS : ∀ a, zlen co (S a) ≤ 25) {n : Nat} (hd : 3 ≤ d) (hn : U 91 7 = (n : Int)) (hn24 : n ≤ 24) (hG : ∀ l k, l < n → k < n → 0 ≤ zgr U l k ∧ zgr U l k < p)
    (hQ : ∀ U' ρ, zG2 U U' → (∀ l k, l < n → k < n → 0 ≤ zgr U' l k ∧ zgr U' l k < p) → zRR n n ρ (fun l k => C (zgr U' l k)) (zpv U') → (∀ v : Nat → R, zsol n (fun l k => C (zgr U' l k)) v ↔ zsol n (fun l k => C (zgr U l k)) v) → Q (ρ : Int) T (zS p inv co S U')) : zc E d 1 65 [(2, 91)] T (zS p inv co S U) Q := by
  have hp := zR_p I
  have key : ∀ (m c ρ : Nat) (U' : zD) (w : zv_V), zs_wide w = false → c + m = n → ρ ≤ c → zG2 U U' → (∀ l k, l < n → k < n → 0 ≤ zgr U' l k ∧ zgr U' l k < p) → zRR n c ρ (fun l k => C (zgr U' l k)) (zpv U') → (∀ v : Nat → R, zsol n (fun l k => C (zgr U' l k)) v ↔ zsol n (fun l k => C (zgr U l k)) v) → zj E d 1 65 4 [(2, 91), (0, (ρ : Int)), (0, (c : Int)), w] [] T (zS p inv co S U') Q := by
    intro m
    induction m with
    | zero =>
      intro c ρ U' w hw hc hρ hf hG' hR hs
      have h7 : U' 91 7 = (n : Int) := by rw [hf 91 7 (by decide) (by decide), hn]
      refine z65_4 _ _ _ _ hw ⟨zX_ob hT, zin_n (by omega), by rw [zX7, h7]; exact zin_n (by omega), fun _ => ?_, fun h => ?_⟩
      · have : c = n := by omega
        subst this
        exact hQ U' ρ hf hG' hR hs
      · rw [zX7, h7] at h
        omega
    | succ m ih =>
      intro c ρ U' w hw hc hρ hf hG' hR hs
      have h7 : U' 91 7 = (n : Int) := by rw [hf 91 7 (by decide) (by decide), hn]
      refine z65_4 _ _ _ _ hw ⟨zX_ob hT, zin_n (by omega), by rw [zX7, h7]; exact zin_n (by omega), fun h => ?_, fun _ => ⟨by omega, zX_k hT, ?_⟩⟩
      · rw [zX7, h7] at h
        omega
      · refine c66 I hT hS (U := U') (by omega) h7 hn24 (by omega) (by omega) hG' (fun hz => ?_) (fun a ha han hne => ?_)
        · -- no pivot
          refine ⟨zin_c (by decide), fun h => absurd h (by decide), fun _ => ⟨zX_k hT, ?_⟩⟩
          refine c68 I hT hS (by omega) ⟨fun _ => ?_, fun h => absurd h (by decide)⟩
          refine ih (c + 1) ρ _ _ rfl (by omega) (by omega) (zG2_u hf _ _) (fun l k hl hk => by rw [zgr_95]; exact hG' l k hl hk) ?_ (fun v => by simp only [zgr_95]; exact hs v)
          simp only [zgr_95]
          refine zRR_none hR (fun k hk => by rw [zpv_u, if_neg (by omega)]) (by rw [zpv_u, if_pos rfl]) (fun l hl hr => ?_)
          show C (zgr U' l c) = 0
          rw [hz l hr hl, zR_C0 I]
        · -- a pivot in the line a
          refine ⟨zin_n (by omega), fun _ => ⟨zX_k hT, ?_⟩, fun h => by omega⟩
          refine c68 I hT hS (by omega) ⟨fun h => by omega, fun _ => ⟨zX_k hT, ?_⟩⟩
          have h71 : zu U' 95 (c : Int) (ρ : Int) 91 7 = (n : Int) := h7
          refine c69 I hT hS (U := zu U' 95 (c : Int) (ρ : Int)) (by omega) h71 hn24 han (by omega) (fun U1 hf1 hU1 => ⟨zX_ob hT, zX_k hT, ?_⟩)
          simp only [zgr_95] at hU1
          have h72 : U1 91 7 = (n : Int) := by rw [hf1 91 7 (by decide), h71]
          have hG1 : ∀ l k, l < n → k < n → 0 ≤ zgr U1 l k ∧ zgr U1 l k < p := fun l k hl hk => by
            rw [hU1 l k hl hk]
            split
            · exact hG' ρ k (by omega) hk
            · split
              · exact hG' a k han hk
              · exact hG' l k hl hk
          have hpc : zgr U1 ρ c = zgr U' a c := by
            rw [hU1 ρ c (by omega) (by omega)]
            by_cases e : ρ = a
            · rw [if_pos e, e]
            · rw [if_neg e, if_pos rfl]
          have hg := hG' a c han (by omega)
          obtain ⟨i0, i1, i2⟩ := zR_inv I (c := zgr U' a c) (by omega) hg.2
          refine c67 I hT hS (by omega) (by omega) ⟨by rw [zX0]; exact zF_k hT, ?_⟩
          rw [zX0, hpc]
          refine c37 I hT hS hg.1 hg.2 ⟨zX_k hT, ?_⟩
          refine c70 I hT hS (U := U1) (by omega) h72 hn24 (by omega) (by omega) i1 hG1 (fun U2 hf2 hU2 => ⟨zX_k hT, ?_⟩)
          have h73 : U2 91 7 = (n : Int) := by rw [hf2 91 7 (by decide), h72]
          have hG2 : ∀ l k, l < n → k < n → 0 ≤ zgr U2 l k ∧ zgr U2 l k < p := fun l k hl hk => by
            rw [hU2 l k hl hk]
            split
            · exact zmodr I _
            · exact hG1 l k hl hk
          refine c71 I hT hS (U := U2) (by omega) h73 hn24 (by omega) (by omega) hG2 (fun U3 hf3 hG3 hU3 => ?_)
          have cu := zC_unit I (c := zgr U' a c) (by omega) hg.2
          have hB : ∀ l k, l < n → k < n → C (zgr U1 l k) = if l = a then C (zgr U' ρ k) else if l = ρ then C (zgr U' a k) else C (zgr U' l k) := fun l k hl hk => by
            rw [hU1 l k hl hk]
            split
            · rfl
            · split <;> rfl
          have hD : ∀ l k, l < n → k < n → C (zgr U2 l k) = if l = ρ then C (inv (zgr U' a c)) * C (zgr U1 l k) else C (zgr U1 l k) := fun l k hl hk => by
            rw [hU2 l k hl hk]
            split
            · rw [zR_Cmod I, zR_Cmul I]; grind
            · rfl
          refine ih (c + 1) (ρ + 1) U3 _ rfl (by omega) (by omega) (zG2_f (zG2_f (zG2_f (zG2_u hf _ _) hf1) hf2) hf3) hG3 ?_ (fun v => ?_)
          · refine zRR_piv (A := fun l k => C (zgr U' l k)) (B := fun l k => C (zgr U1 l k)) (D := fun l k => C (zgr U2 l k)) (x := C (inv (zgr U' a c))) hR (by omega) han ha (by omega) (fun k hk => ?_) ?_ hB hD (by show C (inv (zgr U' a c)) * C (zgr U1 ρ c) = 1; rw [hpc]; exact cu) hU3
            · rw [zpv_f hf3, zpv_f hf2, zpv_f hf1, zpv_u, if_neg (by omega)]
            · rw [zpv_f hf3, zpv_f hf2, zpv_f hf1, zpv_u, if_pos rfl]
          · rw [← hs v]
            rw [zsol_clear (a := ρ) (A := fun l k => C (zgr U2 l k)) (m := fun l => C (zgr U2 l c)) (by omega) hU3]
            rw [zsol_scale (a := ρ) (A := fun l k => C (zgr U1 l k)) (c := C (inv (zgr U' a c))) (d := C (zgr U' a c)) (by omega) (by grind) hD]
            exact zsol_swap han (by omega) hB
  exact e65 _ (key n 0 0 U (9, 0) rfl (by omega) (Nat.le_refl _) (fun _ _ _ _ => rfl) hG (zRR_0 _ _ _) (fun v => Iff.rfl))
theorem c63 {R : Type} [Lean.Grind.CommRing R] {p : Int} {inv : Int → Int} {co : R → Nat → Int} {X : R} {C : Int → R} (I : zIf R p inv co X C) {E : List (List Int)} {d : Nat} {T : zT} {S : Int → R} {U : zD} {Q : Int → zT → zD → Prop} (hT : zTT T) (hS : ∀ a, zlen co (S a) ≤ 25) {a : Int} {n : Nat} (hd : 2 ≤ d) (ha : zPq a = true) (hne : a ≠ 150) (hn : U 91 7 = (n : Int)) (hn1 : 1 ≤ n) (hn24 : n ≤ 24) (hl : zlen co (S a) = n + 1)
    (hQ : ∀ (U' : zD) (v : R) (rk : Nat → R), zGf U U' → zlen co v ≤ n → (∀ k, k < n → zdv (S a) (X ^ (k * p.toNat) - rk k) ∧ zlen co (rk k) ≤ n) → (∀ l k, l < n → k < n → 0 ≤ zgr U' l k ∧ zgr U' l k < p) → (∀ l k, l < n → k < n → C (zgr U' l k) = C (co (rk k) l - if l = k then 1 else 0)) → Q 0 T (zS p inv co (zup S 150 v) U')) : zc E d 0 63 [(2, 91), (2, a)] T (zS p inv co S U) Q := by
  have hp := zR_p I
  have key : ∀ (m c : Nat) (U' : zD) (r : R) (rk : Nat → R) (w3 w4 : zv_V), zs_wide w3 = false → zs_wide w4 = false → c + m = n → zGf U U' → zlen co r ≤ n → zdv (S a) (X ^ (c * p.toNat) - r) → (∀ k, k < c → zdv (S a) (X ^ (k * p.toNat) - rk k) ∧ zlen co (rk k) ≤ n) → (∀ l k, l < n → k < c → 0 ≤ zgr U' l k ∧ zgr U' l k < p ∧ C (zgr U' l k) = C (co (rk k) l - if l = k then 1 else 0)) → zj E d 0 63 10 [(2, 91), (2, a), (0, (c : Int)), w3, w4] [] T (zS p inv co (zup S 150 r) U') Q := by
    intro m
    induction m with
    | zero =>
      intro c U' r rk w3 w4 hw3 hw4 hc hf hr hdv hrk hU
      have h7 : U' 91 7 = (n : Int) := by rw [hf 91 7 (by decide), hn]
      have hcn : c = n := by omega
      subst hcn
      refine z63_10 _ _ _ _ _ hw3 hw4 ⟨zX_ob hT, zin_n (by omega), by rw [zX7, h7]; exact zin_n (by omega), fun _ => ?_, fun h => ?_⟩
      · exact hQ U' r rk hf hr hrk (fun l k hl hk => ⟨(hU l k hl hk).1, (hU l k hl hk).2.1⟩) (fun l k hl hk => (hU l k hl hk).2.2)
      · rw [zX7, h7] at h
        omega
    | succ m ih =>
      intro c U' r rk w3 w4 hw3 hw4 hc hf hr hdv hrk hU
      have h7 : U' 91 7 = (n : Int) := by rw [hf 91 7 (by decide), hn]
      have hS1 := zup_l hS (q := 150) (v := r) (by omega)
      have ea : ∀ x : R, zup S 150 x a = S a := fun x => zup_o _ _ hne
      -- times x, p times
      have k72 : ∀ (j i : Nat) (U1 : zD) (r1 : R) (w : zv_V), zs_wide w = false → i + j = p.toNat → zGf U U1 → zlen co r1 ≤ n → zdv (S a) (X ^ (c * p.toNat + i) - r1) → (∀ k, k < c + 1 → zdv (S a) (X ^ (k * p.toNat) - (if k = c then r else rk k)) ∧ zlen co (if k = c then r else rk k) ≤ n) → (∀ l k, l < n → k < c + 1 → 0 ≤ zgr U1 l k ∧ zgr U1 l k < p ∧ C (zgr U1 l k) = C (co (if k = c then r else rk k) l - if l = k then 1 else 0)) → zj E d 0 63 72 [(2, 91), (2, a), (0, (c : Int)), (0, (i : Int)), w] [] T (zS p inv co (zup S 150 r1) U1) Q := by
        intro j
        induction j with
        | zero =>
          intro i U1 r1 w hw hi hf1 hr1 hd1 hrk1 hU1
          have hS2 := zup_l hS (q := 150) (v := r1) (by omega)
          refine z63_72 _ _ _ _ _ hw ⟨zX_ob hT, by omega, by rw [zX0]; exact zF_k hT, ?_⟩
          rw [zX0]
          refine c12 I hT hS2 ⟨zin_n (by omega), by unfold zin; omega, fun _ => ?_, fun h => by omega⟩
          have e : (c + 1) * p.toNat = c * p.toNat + i := by rw [Nat.add_mul, Nat.one_mul]; omega
          exact ih (c + 1) U1 r1 _ _ _ rfl hw (by omega) hf1 hr1 (by rw [e]; exact hd1) hrk1 hU1
        | succ j ihj =>
          intro i U1 r1 w hw hi hf1 hr1 hd1 hrk1 hU1
          have hS2 := zup_l hS (q := 150) (v := r1) (by omega)
          refine z63_72 _ _ _ _ _ hw ⟨zX_ob hT, by omega, by rw [zX0]; exact zF_k hT, ?_⟩
          rw [zX0]
          refine c12 I hT hS2 ⟨zin_n (by omega), by unfold zin; omega, fun h => by omega, fun _ => ⟨zX_ob hT, ?_, ?_⟩⟩
          · rw [zXb]; exact zP_k hT q150
          rw [zXb]
          refine c54 I hT hS2 (by omega) q150 ha hne (by rw [zup_s, ea]; omega) (fun t r2 e1 e2 => ?_)
          rw [zup_s, ea] at e1
          rw [ea] at e2
          rw [zup_up]
          refine ihj (i + 1) U1 r2 w hw (by omega) hf1 (by omega) ?_ hrk1 hU1
          obtain ⟨y, hy⟩ := hd1
          refine ⟨X * y + t, ?_⟩
          have e3 : X ^ (c * p.toNat + (i + 1)) = X * X ^ (c * p.toNat + i) := by
            have : c * p.toNat + (i + 1) = (c * p.toNat + i) + 1 := by omega
            rw [this]
            grind
          rw [e3]
          grind
      -- the column
      have k20 : ∀ (j l0 : Nat) (U1 : zD) (w : zv_V), zs_wide w = false → l0 + j = n → zGf U U1 → (∀ l k, l < n → k < c → zgr U1 l k = zgr U' l k) → (∀ l, l < l0 → zgr U1 l c = (co r l - if l = c then 1 else 0) % p) → zj E d 0 63 20 [(2, 91), (2, a), (0, (c : Int)), (0, (l0 : Int)), w] [] T (zS p inv co (zup S 150 r) U1) Q := by
        intro j
        induction j with
        | zero =>
          intro l0 U1 w hw hl0 hf1 hold hnew
          have h71 : U1 91 7 = (n : Int) := by rw [hf1 91 7 (by decide), hn]
          refine z63_20 _ _ _ _ _ hw ⟨zX_ob hT, zin_n (by omega), by rw [zX7, h71]; exact zin_n (by omega), fun _ => ?_, fun h => ?_⟩
          · refine k72 p.toNat 0 U1 r w hw (by omega) hf1 hr hdv (fun k hk => ?_) (fun l k hl hk => ?_)
            · by_cases e : k = c
              · subst e
                rw [if_pos rfl]
                exact ⟨hdv, hr⟩
              · rw [if_neg e]
                exact hrk k (by omega)
            · by_cases e : k = c
              · subst e
                rw [if_pos rfl, hnew l (by omega), zR_Cmod I]
                have := zmodr I (co r l - if l = k then 1 else 0)
                exact ⟨this.1, this.2, rfl⟩
              · rw [if_neg e, hold l k hl (by omega)]
                exact hU l k hl (by omega)
          · rw [zX7, h71] at h
            omega
        | succ j ihj =>
          intro l0 U1 w hw hl0 hf1 hold hnew
          have h71 : U1 91 7 = (n : Int) := by rw [hf1 91 7 (by decide), hn]
          have hrg := zR_rng I r l0
          have step : ∀ (x : Int) (w' : zv_V), zs_wide w' = false → x = (co r l0 - if l0 = c then 1 else 0) % p → zj E d 0 63 20 [(2, 91), (2, a), (0, (c : Int)), (0, ((l0 + 1 : Nat) : Int)), w'] [] T (zS p inv co (zup S 150 r) (zu U1 94 ((l0 : Int) * 24 + (c : Int)) x)) Q := by
            intro x w' hw' hx
            refine ihj (l0 + 1) _ w' hw' (by omega) (zGf_u hf1 _ _) (fun l k hl hk => ?_) (fun l hl => ?_)
            · rw [zgr_u _ _ _ _ _ _ (by omega) (by omega), if_neg (by omega)]
              exact hold l k hl hk
            · rw [zgr_u _ _ _ _ _ _ (by omega) (by omega)]
              by_cases e : l = l0
              · subst e
                rw [if_pos ⟨rfl, rfl⟩]
                exact hx
              · rw [if_neg (by omega)]
                exact hnew l (by omega)
          refine z63_20 _ _ _ _ _ hw ⟨zX_ob hT, zin_n (by omega), by rw [zX7, h71]; exact zin_n (by omega), fun h => ?_, fun _ => ⟨zin_n (by omega), fun h => ⟨by omega, ?_, ?_⟩, fun h => ⟨by omega, ?_, ?_⟩⟩⟩
          · rw [zX7, h71] at h
            omega
          · rw [zXb]; exact zP_k hT q150
          · rw [zXb, zX0]
            refine c19 I hT hS1 q150 (by omega) (by omega) ⟨zF_k hT, ?_⟩
            rw [zup_s, zat_n]
            refine c31 I hT hS1 (by unfold zin; omega) ⟨zX_k hT, ?_⟩
            refine c64 I hT hS1 (by omega) (by omega) ?_
            exact step _ _ rfl (by rw [if_neg (by omega)])
          · rw [zXb]; exact zP_k hT q150
          · rw [zXb, zX0]
            refine c19 I hT hS1 q150 (by omega) (by omega) ⟨zF_k hT, ?_⟩
            rw [zup_s, zat_n]
            refine c31 I hT hS1 (by unfold zin; omega) ⟨zX_k hT, ?_⟩
            refine c64 I hT hS1 (by omega) (by omega) ?_
            exact step _ _ rfl (by rw [if_pos (by omega)])
      refine z63_10 _ _ _ _ _ hw3 hw4 ⟨zX_ob hT, zin_n (by omega), by rw [zX7, h7]; exact zin_n (by omega), fun h => ?_, fun _ => ?_⟩
      · rw [zX7, h7] at h
        omega
      · exact k20 n 0 U' w4 hw4 (by omega) hf (fun l k hl hk => rfl) (fun l hl => by omega)
  refine e63 _ _ ⟨zX_ob hT, by omega, by rw [zXb]; exact zP_k hT q150, ?_⟩
  rw [zXb]
  refine c46 I hT hS (by omega) q150 (by omega) (by omega) ?_
  refine key n 0 U (C 1) (fun _ => 0) (9, 0) (9, 0) rfl rfl (by omega) (zGf_r U) (by have := zL_C I 1; omega) ?_ (fun k hk => by omega) (fun l k hl hk => by omega)
  rw [Nat.zero_mul, zR_C1 I]
  exact ⟨0, by grind⟩
/-- what the grid in its reduced form tells of f: n columns, ρ pivots -/
def zKD {R : Type} [Lean.Grind.CommRing R] (p : Int) (co : R → Nat → Int) (C : Int → R) (f : R) (n ρ : Nat) (U : zD) : Prop :=
  zlen co f = n + 1 ∧ n ≤ 24 ∧ 1 ≤ n ∧ U 91 7 = (n : Int) ∧ zRR n n ρ (fun l k => C (zgr U l k)) (zpv U) ∧ (∀ l k, l < n → k < n → 0 ≤ zgr U l k ∧ zgr U l k < p) ∧
  ∀ V : R, zlen co V ≤ n → (zdv f (V ^ p.toNat - V) ↔ zsol n (fun l k => C (zgr U l k)) (fun k => C (co V k)))
theorem c62 {R : Type} [Lean.Grind.CommRing R] {p : Int} {inv : Int → Int} {co : R → Nat → Int} {X : R} {C : Int → R} (I : zIf R p inv co X C) {E : List (List Int)} {d : Nat} {T : zT} {S : Int → R} {U : zD} {Q : Int → zT → zD → Prop} (hT : zTT T) (hS : ∀ a, zlen co (S a) ≤ 25) {a : Int} {n : Nat} (hd : 4 ≤ d) (ha : zPq a = true) (hne : a ≠ 150) (hn1 : 1 ≤ n) (hn24 : n ≤ 24) (hl : zlen co (S a) = n + 1)
    (hQ : ∀ (U' : zD) (v : R) (ρ : Nat), (∀ x i, x ≠ 94 → x ≠ 95 → ¬ (x = 91 ∧ i = 7) → U' x i = U x i) → zlen co v ≤ n → zKD p co C (S a) n ρ U' → ρ ≤ n → Q ((n : Int) - (ρ : Int)) T (zS p inv co (zup S 150 v) U')) : zc E d 1 62 [(2, 91), (2, a)] T (zS p inv co S U) Q := by
  refine e62 _ _ ⟨by omega, zP_k hT ha, ?_⟩
  refine c21 I hT hS ha ⟨zX_ob hT, zX_k hT, ?_⟩
  rw [hl, show (((n + 1 : Nat) : Int) - 1) = (n : Int) by omega, zXu7]
  have h71 : zu U 91 7 (n : Int) 91 7 = (n : Int) := by unfold zu; exact if_pos ⟨rfl, rfl⟩
  refine c63 I hT hS (U := zu U 91 7 (n : Int)) (by omega) ha hne h71 hn1 hn24 hl (fun U1 v rk hf1 hv hrk hG1 hU1 => ⟨zX_ob hT, zX_k hT, ?_⟩)
  have h72 : U1 91 7 = (n : Int) := by rw [hf1 91 7 (by decide), h71]
  have hS1 := zup_l hS (q := 150) (v := v) (by omega)
  refine c65 I hT hS1 (by omega) h72 hn24 hG1 (fun U2 ρ hf2 hG2 hR hs => ?_)
  rw [zX7, h72]
  have h73 : U2 91 7 = (n : Int) := by rw [hf2 91 7 (by decide) (by decide), h72]
  refine hQ U2 v ρ (fun x i h4 h5 h6 => ?_) hv ⟨hl, hn24, hn1, h73, hR, hG2, fun V hV => ?_⟩ hR.1
  · rw [hf2 x i h4 h5, hf1 x i h4]
    unfold zu
    rw [if_neg h6]
  · rw [hs, zgrid_ker I hl hrk hU1 V hV]
/-! what follows of it -/
theorem zKD_free {R : Type} [Lean.Grind.CommRing R] {p : Int} {inv : Int → Int} {co : R → Nat → Int} {X : R} {C : Int → R} (I : zIf R p inv co X C) {f : R} {n ρ : Nat} {U : zD} (h : zKD p co C f n ρ U) (V : R) (hV : zlen co V ≤ n) (hk : zdv f (V ^ p.toNat - V)) (h0 : ∀ k, k < n → decide (zpv U k = -1) = true → co V k = 0) : V = 0 := by
  obtain ⟨h1, h2, h3, h4, h5, h6, h7⟩ := h
  have hs := (h7 V hV).mp hk
  have hz := zRR_free h5 hs (fun k hk2 hp => by show C (co V k) = 0; rw [h0 k hk2 (by simpa using hp), zR_C0 I])
  refine zR_ext I (fun k => ?_)
  rw [zR_zero I]
  by_cases hkn : k < n
  · have h8 : C (co V k) = C 0 := by rw [zR_C0 I]; exact hz k hkn
    have := zR_Cinj I h8
    rw [zR_mod I] at this
    simpa using this
  · exact zL_hi I (by omega)
theorem zKD_cnt {R : Type} [Lean.Grind.CommRing R] {p : Int} {inv : Int → Int} {co : R → Nat → Int} {X : R} {C : Int → R} (I : zIf R p inv co X C) {f : R} {n ρ : Nat} {U : zD} (h : zKD p co C f n ρ U) : ρ + zfc (fun k => decide (zpv U k = -1)) n = n := h.2.2.2.2.1.2.2.2.2.2.1
theorem zKD_0 {R : Type} [Lean.Grind.CommRing R] {p : Int} {inv : Int → Int} {co : R → Nat → Int} {X : R} {C : Int → R} (I : zIf R p inv co X C) {f : R} {n ρ : Nat} {U : zD} (h : zKD p co C f n ρ U) : zpv U 0 = -1 := by
  obtain ⟨h1, h2, h3, h4, h5, h6, h7⟩ := h
  obtain ⟨r1, r2, r3, r4, r5, r6, r7⟩ := h5
  rcases r2 0 (by omega) with e | e
  · exact e
  · exfalso
    have hone : zdv f ((1 : R) ^ p.toNat - 1) := by
      have e1 : ∀ m : Nat, (1 : R) ^ m = 1 := by
        intro m
        induction m with
        | zero => grind
        | succ m ih =>
          have : (1 : R) ^ (m + 1) = 1 ^ m * 1 := by grind
          rw [this, ih]; grind
      rw [e1]
      exact ⟨0, by grind⟩
    have hs := (h7 1 (by rw [zL_1 I]; omega)).mp hone (zpv U 0).toNat (by omega)
    rw [zsum_one (j := 0) (by omega) (fun k hk hk0 => by
      show C _ * C (co 1 k) = 0
      rw [zR_one I, if_neg hk0, zR_C0 I]; grind)] at hs
    have h8 := (r3 0 (by omega) e.1).1
    have h9 : C (co (1 : R) 0) = 1 := by rw [zR_one I, if_pos rfl, zR_C1 I]
    have h10 : C (zgr U (zpv U 0).toNat 0) * C (co (1 : R) 0) = 0 := hs
    rw [h9] at h10
    have h11 : C (zgr U (zpv U 0).toNat 0) = 1 := h8
    rw [h11] at h10
    exact zR_1ne0 I (by grind)
/-- the vector of a column without a pivot -/
def zev {R : Type} [Lean.Grind.CommRing R] (p : Int) (co : R → Nat → Int) (f : R) (n c : Nat) (U : zD) (v : R) : Prop :=
  zlen co v ≤ n ∧ co v c = 1 ∧ (∀ k, k < n → k ≠ c → zpv U k = -1 → co v k = 0) ∧ zdv f (v ^ p.toNat - v)
theorem c74 {R : Type} [Lean.Grind.CommRing R] {p : Int} {inv : Int → Int} {co : R → Nat → Int} {X : R} {C : Int → R} (I : zIf R p inv co X C) {E : List (List Int)} {d : Nat} {T : zT} {S : Int → R} {U : zD} {Q : Int → zT → zD → Prop} (hT : zTT T) (hS : ∀ a, zlen co (S a) ≤ 25) {f : R} {n ρ c : Nat} (hd : 2 ≤ d) (hK : zKD p co C f n ρ U) (hc : c < 24)
    (hQ0 : (n ≤ c ∨ zpv U c ≠ -1) → Q 0 T (zS p inv co S U)) (hQ0' : ∀ v : R, zlen co v ≤ 25 → (n ≤ c ∨ zpv U c ≠ -1) → Q 0 T (zS p inv co (zup S 150 v) U))
    (hQ1 : ∀ v : R, c < n → zpv U c = -1 → zev p co f n c U v → Q 1 T (zS p inv co (zup S 150 v) U)) : zc E d 1 74 [(2, 91), (0, (c : Int))] T (zS p inv co S U) Q := by
  have hp := zR_p I
  obtain ⟨h1, h2, h3, h4, h5, h6, h7⟩ := hK
  have hpv : ∀ k, k < n → zpv U k = -1 ∨ (0 ≤ zpv U k ∧ zpv U k < n) := fun k hk => by
    rcases h5.2.1 k hk with e | e
    · exact Or.inl e
    · exact Or.inr ⟨e.1, by have := h5.1; omega⟩
  by_cases hcn : c < n
  · by_cases hcp : zpv U c = -1
    · have key : ∀ (m k : Nat) (v : R), k + m = n → zlen co v ≤ n → (∀ j, co v j = if j = c then 1 else if j < k ∧ zpv U j ≠ -1 then (if zgr U (zpv U j).toNat c = 0 then 0 else p - zgr U (zpv U j).toNat c) else 0) → zj E d 1 74 37 [(2, 91), (0, (c : Int)), (0, (k : Int))] [] T (zS p inv co (zup S 150 v) U) Q := by
        intro m
        induction m with
        | zero =>
          intro k v hk hvl hv
          refine z74_37 _ _ _ ⟨zX_ob hT, zin_n (by omega), by rw [zX7, h4]; exact zin_n (by omega), fun _ => ?_, fun h => ?_⟩
          · have hkn : k = n := by omega
            subst hkn
            refine hQ1 v hcn hcp ⟨hvl, by rw [hv, if_pos rfl], fun j hj hjc hpj => by rw [hv, if_neg hjc, if_neg (by simp [hpj])], (h7 v hvl).mpr ?_⟩
            refine zRR_vec h5 hcn hcp (by show C (co v c) = 1; rw [hv, if_pos rfl, zR_C1 I]) (fun j hj hjc hpj => by show C (co v j) = 0; rw [hv, if_neg hjc, if_neg (by simp [hpj]), zR_C0 I]) (fun j hj hpj => ?_)
            show C (co v j) = - C (zgr U (zpv U j).toNat c)
            have hjc : j ≠ c := by rintro rfl; omega
            rw [hv, if_neg hjc, if_pos ⟨hj, by omega⟩]
            split
            · next h => rw [h, zR_C0 I]; grind
            · rw [zR_Csub I, zR_Cp I]; grind
          · rw [zX7, h4] at h
            omega
        | succ m ih =>
          intro k v hk hvl hv
          have hS1 := zup_l hS (q := 150) (v := v) (by omega)
          refine z74_37 _ _ _ ⟨zX_ob hT, zin_n (by omega), by rw [zX7, h4]; exact zin_n (by omega), fun h => ?_, fun _ => ⟨by omega, zX_k hT, ?_⟩⟩
          · rw [zX7, h4] at h
            omega
          · refine c75 I hT hS1 (by omega) ?_
            have hpk := hpv k (by omega)
            have e95 : U 95 (k : Int) = zpv U k := rfl
            rw [e95]
            refine ⟨by unfold zin; omega, fun h => ?_, fun h => ⟨zX_ob hT, zX_k hT, ?_⟩⟩
            · refine ih (k + 1) v (by omega) hvl (fun j => ?_)
              rw [hv]
              by_cases e : j = k
              · subst e
                simp [h]
              · have : j < k + 1 ↔ j < k := by omega
                simp only [this]
            · have hpk2 : 0 ≤ zpv U k ∧ zpv U k < n := by
                rcases hpk with e | e
                · exact absurd e h
                · exact e
              have hkc : k ≠ c := by rintro rfl; exact h hcp
              refine c75 I hT hS1 (by omega) ⟨zX_k hT, ?_⟩
              rw [e95]
              have et : zpv U k = (((zpv U k).toNat : Nat) : Int) := by omega
              rw [et]
              have hrl : (zpv U k).toNat < n := by omega
              have hg := h6 (zpv U k).toNat c hrl hcn
              refine c67 I hT hS1 (by omega) hc ⟨by rw [zX0]; exact zF_k hT, ?_⟩
              rw [zX0]
              refine c28 I hT hS1 hg.1 hg.2 ⟨by rw [zXb]; exact zP_k hT q150, ?_⟩
              rw [zXb]
              obtain ⟨v2, hv2⟩ := zbuild I 25 (fun j => if j = c then 1 else if j < k + 1 ∧ zpv U j ≠ -1 then (if zgr U (zpv U j).toNat c = 0 then 0 else p - zgr U (zpv U j).toNat c) else 0) (fun j => by
                split
                · omega
                · split
                  · next hjj =>
                    have := h6 (zpv U j).toNat c (by have := hpv j (by omega); omega) hcn
                    split <;> omega
                  · omega) (fun j hj => by rw [if_neg (by omega), if_neg (by omega)])
              have hv2l : zlen co v2 ≤ n := zL_le I (fun j hj => by rw [hv2, if_neg (by omega), if_neg (by omega)])
              refine c32 I hT hS1 q150 (v := v2) (by omega) (fun j => ?_) ?_
              · rw [hv2, zup_s, hv]
                by_cases e : j = k
                · subst e
                  rw [if_neg hkc, if_pos ⟨by omega, h⟩, if_pos rfl]
                · have : j < k + 1 ↔ j < k := by omega
                  rw [if_neg e]
                  simp only [this]
              · rw [zup_up]
                exact ih (k + 1) v2 (by omega) hv2l hv2
      refine e74 _ _ ⟨zX_ob hT, zin_n (by omega), by rw [zX7, h4]; exact zin_n (by omega), fun h => ?_, fun _ => ⟨by omega, zX_k hT, ?_⟩⟩
      · rw [zX7, h4] at h
        omega
      · refine c75 I hT hS hc ?_
        have e95 : U 95 (c : Int) = -1 := hcp
        rw [e95]
        refine ⟨zin_c (by decide), fun _ => ⟨zX_ob hT, by rw [zXb]; exact zP_k hT q150, ?_⟩, fun h => absurd rfl h⟩
        rw [zXb]
        have hS1 := zup_l hS (q := 150) (v := (0 : R)) (by rw [zL_0 I]; omega)
        refine c13 I hT hS q150 ⟨zX_ob hT, by rw [zXb]; exact zP_k hT q150, ?_⟩
        rw [zXb]
        obtain ⟨v2, hv2⟩ := zbuild I 25 (fun j => if j = c then 1 else 0) (fun j => by split <;> omega) (fun j hj => if_neg (by omega))
        refine c32 I hT hS1 q150 (v := v2) (by omega) (fun j => by rw [hv2, zup_s, zR_zero I]) ?_
        rw [zup_up]
        refine key n 0 v2 (by omega) (zL_le I (fun j hj => by rw [hv2, if_neg (by omega)])) (fun j => ?_)
        rw [hv2]
        simp
    · refine e74 _ _ ⟨zX_ob hT, zin_n (by omega), by rw [zX7, h4]; exact zin_n (by omega), fun h => ?_, fun _ => ⟨by omega, zX_k hT, ?_⟩⟩
      · rw [zX7, h4] at h
        omega
      · refine c75 I hT hS hc ?_
        have e95 : U 95 (c : Int) = zpv U c := rfl
        have := hpv c hcn
        rw [e95]
        exact ⟨by unfold zin; omega, fun h => absurd h hcp, fun _ => hQ0 (Or.inr hcp)⟩
  · refine e74 _ _ ⟨zX_ob hT, zin_n (by omega), by rw [zX7, h4]; exact zin_n (by omega), fun _ => hQ0 (Or.inl (by omega)), fun h => ?_⟩
    rw [zX7, h4] at h
    omega
