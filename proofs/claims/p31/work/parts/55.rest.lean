/-! Contracts: factor, part, take, isIrreducible. -/
theorem c83 {R : Type} [Lean.Grind.CommRing R] {p : Int} {inv : Int → Int} {co : R → Nat → Int} {X : R} {C : Int → R} (I : zIf R p inv co X C) {E : List (List Int)} {d : Nat} {T : zT} {S : Int → R} {U : zD} {Q : Int → zT → zD → Prop} (hT : zTT T) (hS : ∀ a, zlen co (S a) ≤ 25) {n : Nat} (hn : U 91 4 = (n : Int)) (hQ : Q (n : Int) T (zS p inv co S U)) : zc E d 1 83 [(2, 91)] T (zS p inv co S U) Q :=
  e83 _ ⟨zX_ob hT, by rw [zX4, hn]; exact hQ⟩
theorem k57 {R : Type} [Lean.Grind.CommRing R] {p : Int} {inv : Int → Int} {co : R → Nat → Int} {X : R} {C : Int → R} (I : zIf R p inv co X C) {E : List (List Int)} {d : Nat} {T : zT} {S : Int → R} {U : zD} {Q : Int → zT → zD → Prop} (hT : zTT T) (hok : zOK co S U) {a : Int} (hd : 7 ≤ d) (a0 : 0 ≤ a) (a1 : a < 10) (ha0 : S (4 + 2 * a) ≠ 0)
    (hQ : ∀ S' U' (sz : Nat), zOK co S' U' → zFg S U S' U' → U' 91 4 = (sz : Int) → sz ≤ 24 → C (inv (co (S (4 + 2 * a)) (zlen co (S (4 + 2 * a)) - 1))) * S (4 + 2 * a) = zprd sz (zfp S' U') → (∀ i : Nat, i < sz → zGd p co C (S' (U' 92 (i : Int))) (U' 93 (i : Int))) → Q (sz : Int) T (zS p inv co S' U')) : zc E d 1 57 [(2, 0), (0, a)] T (zS p inv co S U) Q := by
  have hS := hok.1
  have qa := zreg_q a0 a1
  refine e57 _ _ ⟨by omega, zO_k hT, ?_⟩
  refine c17 I hT hS a0 a1 ⟨zP_k hT qa, ?_⟩
  refine c34 I hT hS qa (fun _ => ⟨zin_0, fun _ => ⟨zO_ob hT, by rw [zS07]; exact zX_k hT, ?_⟩, fun h => absurd rfl h⟩) (fun h => absurd h ha0)
  rw [zS07]
  refine c58 I hT hS (by omega) hok.2.1 hok.2.2 qa (by omega) ha0 (fun S' U' sz hok' hf h4 hsz hW hG => ⟨zO_ob hT, by rw [zS07]; exact zX_k hT, ?_⟩)
  rw [zS07]
  exact c83 I hT hok'.1 h4 (hQ S' U' sz hok' hf h4 hsz hW hG)
theorem c85 {R : Type} [Lean.Grind.CommRing R] {p : Int} {inv : Int → Int} {co : R → Nat → Int} {X : R} {C : Int → R} (I : zIf R p inv co X C) {E : List (List Int)} {d : Nat} {T : zT} {S : Int → R} {U : zD} {Q : Int → zT → zD → Prop} (hT : zTT T) (hS : ∀ a, zlen co (S a) ≤ 25) {n k : Nat} (hd : 1 ≤ d) (hn : U 91 4 = (n : Int)) (hk : k < n) (hn24 : n ≤ 24) (hQ : Q 0 T (zS p inv co S U)) : zc E d 0 85 [(2, 0), (0, (k : Int))] T (zS p inv co S U) Q := by
  refine e85 _ _ ⟨zin_n (by omega), fun h => by omega, fun _ => ⟨zO_ob hT, by omega, by rw [zS07]; exact zX_k hT, ?_⟩⟩
  rw [zS07]
  exact c83 I hT hS hn ⟨zin_n (by omega), fun _ => hQ, fun h => by omega⟩
theorem c86 {R : Type} [Lean.Grind.CommRing R] {p : Int} {inv : Int → Int} {co : R → Nat → Int} {X : R} {C : Int → R} (I : zIf R p inv co X C) {E : List (List Int)} {d : Nat} {T : zT} {S : Int → R} {U : zD} {Q : Int → zT → zD → Prop} (hT : zTT T) (hS : ∀ a, zlen co (S a) ≤ 25) {k : Nat} (hk : k < 24) (hQ : Q (U 93 (k : Int)) T (zS p inv co S U)) : zc E d 1 86 [(2, 91), (0, (k : Int))] T (zS p inv co S U) Q := by
  have h93 := zX_93 hT
  refine e86 _ _ ⟨zin_n (by omega), fun h => by omega, fun _ => ⟨zX_ob hT, ?_, ?_, fun _ => ⟨?_, ?_⟩, fun h => ?_⟩⟩
  · rw [zX3]; exact h93.1
  · rw [zX3, h93.2]; exact zin_c (by decide)
  · rw [zX3]
    exact ⟨h93.1, by omega, by rw [h93.2]; omega, by rw [h93.2]; decide⟩
  · rw [zX3, zX93]; exact hQ
  · rw [zX3, h93.2] at h
    omega
theorem k84 {R : Type} [Lean.Grind.CommRing R] {p : Int} {inv : Int → Int} {co : R → Nat → Int} {X : R} {C : Int → R} (I : zIf R p inv co X C) {E : List (List Int)} {d : Nat} {T : zT} {S : Int → R} {U : zD} {Q : Int → zT → zD → Prop} (hT : zTT T) (hS : ∀ a, zlen co (S a) ≤ 25) {n k : Nat} (hd : 2 ≤ d) (hn : U 91 4 = (n : Int)) (hk : k < n) (hn24 : n ≤ 24) (hQ : Q (U 93 (k : Int)) T (zS p inv co S U)) : zc E d 1 84 [(2, 0), (0, (k : Int)), (0, 1)] T (zS p inv co S U) Q := by
  refine e84 _ _ _ ⟨by omega, zO_k hT, ?_⟩
  refine c85 I hT hS (by omega) hn hk hn24 ⟨zin_c (by decide), fun h => absurd h (by decide), fun _ => ⟨fun _ => ⟨fun _ => ⟨zO_ob hT, by rw [zS07]; exact zX_k hT, ?_⟩, fun h => absurd h (by decide)⟩, fun h => absurd h (by decide)⟩⟩
  rw [zS07]
  exact c86 I hT hS (by omega) hQ
theorem k87 {R : Type} [Lean.Grind.CommRing R] {p : Int} {inv : Int → Int} {co : R → Nat → Int} {X : R} {C : Int → R} (I : zIf R p inv co X C) {E : List (List Int)} {d : Nat} {T : zT} {S : Int → R} {U : zD} {Q : Int → zT → zD → Prop} (hT : zTT T) (hok : zOK co S U) {n k : Nat} {to : Int} (hd : 2 ≤ d) (hn : U 91 4 = (n : Int)) (hk : k < n) (hn24 : n ≤ 24) (t0 : 0 ≤ to) (t1 : to < 10)
    (hQ : zOK co (zup S (4 + 2 * to) (S (U 92 (k : Int)))) U → Q ((zlen co (S (U 92 (k : Int))) : Int) - 1) T (zS p inv co (zup S (4 + 2 * to) (S (U 92 (k : Int)))) U)) : zc E d 1 87 [(2, 0), (0, (k : Int)), (0, to)] T (zS p inv co S U) Q := by
  have hS := hok.1
  have qt := zreg_q t0 t1
  have qk := zPR_q hok.2.2 (i := (k : Int)) (by omega) (by omega)
  have bk := hok.2.2.1 (k : Int) (by omega) (by omega)
  refine e87 _ _ _ ⟨by omega, zO_k hT, ?_⟩
  refine c85 I hT hS (by omega) hn hk hn24 ⟨zO_k hT, ?_⟩
  refine c17 I hT hS t0 t1 ⟨zO_ob hT, by rw [zS07]; exact zX_k hT, ?_⟩
  rw [zS07]
  refine c76 I hT hS hok.2.2 (by omega) ⟨zP_k hT qt, ?_⟩
  refine c25 I hT hS qt qk (by omega) ⟨zP_k hT qt, ?_⟩
  have hok' := zOK_u hok (q := 4 + 2 * to) (hS (U 92 (k : Int)))
  refine c21 I hT hok'.1 qt ?_
  rw [zup_s]
  exact hQ hok'
theorem zev_ex {R : Type} [Lean.Grind.CommRing R] {p : Int} {inv : Int → Int} {co : R → Nat → Int} {X : R} {C : Int → R} (I : zIf R p inv co X C) {f : R} {n ρ c : Nat} {U : zD} (hK : zKD p co C f n ρ U) (hcn : c < n) (hcp : zpv U c = -1) : ∃ v, zev p co f n c U v := by
  have hp := zR_p I
  obtain ⟨h1, h2, h3, h4, h5, h6, h7⟩ := hK
  have hpv : ∀ k, k < n → zpv U k = -1 ∨ (0 ≤ zpv U k ∧ zpv U k < n) := fun k hk => by
    rcases h5.2.1 k hk with e | e
    · exact Or.inl e
    · exact Or.inr ⟨e.1, by have := h5.1; omega⟩
  obtain ⟨v, hv⟩ := zbuild I n (fun j => if j = c then 1 else if j < n ∧ zpv U j ≠ -1 then (if zgr U (zpv U j).toNat c = 0 then 0 else p - zgr U (zpv U j).toNat c) else 0) (fun j => by
    split
    · omega
    · split
      · next hjj =>
        have := h6 (zpv U j).toNat c (by have := hpv j (by omega); omega) hcn
        split <;> omega
      · omega) (fun j hj => by rw [if_neg (by omega), if_neg (by omega)])
  have hvl : zlen co v ≤ n := zL_le I (fun j hj => by rw [hv, if_neg (by omega), if_neg (by omega)])
  refine ⟨v, hvl, by rw [hv, if_pos rfl], fun j hj hjc hpj => by rw [hv, if_neg hjc, if_neg (by simp [hpj])], (h7 v hvl).mpr ?_⟩
  refine zRR_vec h5 hcn hcp (by show C (co v c) = 1; rw [hv, if_pos rfl, zR_C1 I]) (fun j hj hjc hpj => by show C (co v j) = 0; rw [hv, if_neg hjc, if_neg (by simp [hpj]), zR_C0 I]) (fun j hj hpj => ?_)
  show C (co v j) = - C (zgr U (zpv U j).toNat c)
  have hjc : j ≠ c := by rintro rfl; omega
  rw [hv, if_neg hjc, if_pos ⟨hj, by omega⟩]
  split
  · next h => rw [h, zR_C0 I]; grind
  · rw [zR_Csub I, zR_Cp I]; grind
theorem zfc_1 {fr : Nat → Bool} (h0 : fr 0 = true) : ∀ n : Nat, 1 ≤ n → (∀ k, 1 ≤ k → k < n → fr k = false) → zfc fr n = 1 := by
  intro n
  induction n with
  | zero => intro h; omega
  | succ n ih =>
    intro _ h
    show zfc fr n + (if fr n then 1 else 0) = 1
    by_cases hn : n = 0
    · subst hn
      rw [h0]
      rfl
    · rw [ih (by omega) (fun k a b => h k a (by omega)), h n (by omega) (by omega)]
      rfl
/-- one part alone where the kernel is the numbers -/
theorem zK_one {R : Type} [Lean.Grind.CommRing R] {p : Int} {inv : Int → Int} {co : R → Nat → Int} {X : R} {C : Int → R} (I : zIf R p inv co X C) {f : R} {n ρ : Nat} {U : zD} (hK : zKD p co C f n ρ U) (hk : zK p C f) : (n : Int) - (ρ : Int) = 1 := by
  have hc := zKD_cnt I hK
  have h0 := zKD_0 I hK
  have hn1 := hK.2.2.1
  have : zfc (fun k => decide (zpv U k = -1)) n = 1 := by
    refine zfc_1 (by simp [h0]) n hn1 (fun k k1 kn => ?_)
    by_cases hp : zpv U k = -1
    · exfalso
      obtain ⟨v, v1, v2, v3, v4⟩ := zev_ex I hK kn hp
      obtain ⟨c, hc⟩ := hk v v4
      have hl := zL_sub I (a := v) (b := C c) (n := n) v1 (by have := zL_C I c; omega)
      have h5 := zdv_small I hc (by have := hK.1; omega)
      have h6 : co (v - C c) k = 0 := by rw [h5, zR_zero I]
      have hpp := zR_p I
      rw [zR_sub I, v2, zR_C I, if_neg (by omega), Int.sub_zero, Int.emod_eq_of_lt (by omega) (by omega)] at h6
      omega
    · simp [hp]
  omega
theorem k88 {R : Type} [Lean.Grind.CommRing R] {p : Int} {inv : Int → Int} {co : R → Nat → Int} {X : R} {C : Int → R} (I : zIf R p inv co X C) {E : List (List Int)} {d : Nat} {T : zT} {S : Int → R} {U : zD} {Q : Int → zT → zD → Prop} (hT : zTT T) (hok : zOK co S U) {a : Int} (hd : 7 ≤ d) (a0 : 0 ≤ a) (a1 : a < 10) (hm : zmon co (S (4 + 2 * a))) (h2 : 2 ≤ zlen co (S (4 + 2 * a))) (hsq : zsq co (S (4 + 2 * a))) (hK : zK p C (S (4 + 2 * a)))
    (hQ : ∀ S' U', zOK co S' U' → zKp S U S' U' → Q 1 T (zS p inv co S' U')) : zc E d 1 88 [(2, 0), (0, a)] T (zS p inv co S U) Q := by
  have hS := hok.1
  have qa := zreg_q a0 a1
  have hl := hS (4 + 2 * a)
  refine e88 _ _ ⟨zO_ob hT, by omega, zO_k hT, ?_⟩
  refine c17 I hT hS a0 a1 ⟨by rw [zS07]; exact zX_k hT, ?_⟩
  rw [zS07]
  have done : ∀ S' U', zOK co S' U' → zKp S U S' U' → (fun x6 T6 D6 => (x6 = 0 ∨ x6 = 1) ∧ Q x6 T6 D6) 1 T (zS p inv co S' U') := fun S' U' h1 h2 => ⟨Or.inr rfl, hQ S' U' h1 h2⟩
  refine e89 _ _ ⟨by omega, zP_k hT qa, ?_⟩
  refine c21 I hT hS qa ⟨zin_h hl, fun h => ⟨zX_ob hT, by rw [zX9]; exact zP_k hT q146, ?_⟩, fun h => ⟨zP_k hT qa, ?_⟩⟩
  · rw [zX9]
    refine c42 I hT hS (by omega) q146 qa (by omega) (fun v hv => ⟨zX_ob hT, by rw [zX1]; exact zE_k hT, ?_⟩)
    rw [zX1, zX9]
    have hv25 : zlen co v ≤ 25 := zde_len I hv (by omega)
    have hS1 := zup_l hS (q := 146) hv25
    have ea : zup S 146 v (4 + 2 * a) = S (4 + 2 * a) := zup_o _ _ (by omega)
    refine c33 I hT hS1 (by omega) hok.2.1 qa q146 (by omega) (by decide) (fun S2 U2 hf hS2 hE2 hg hgm => ⟨zX_ob hT, by rw [zX1]; exact zE_k hT, ?_⟩)
    rw [zX1]
    rw [ea, zup_s] at hg
    have hr3 := zEU_q hE2 3 (by omega) (by omega)
    have hgl := zsq_gcd I h2 hsq hK hv hg
    refine c41 I hT hS2 hE2 ⟨zP_k hT hr3, ?_⟩
    refine c21 I hT hS2 hr3 ⟨zin_h (hS2 _), fun _ => ⟨zX_ob hT, by rw [zX8]; exact zP_k hT q144, ?_⟩, fun h => by omega⟩
    rw [zX8]
    have ea2 : S2 (4 + 2 * a) = S (4 + 2 * a) := by rw [hf.1 _ (by omega), ea]
    refine c25 I hT hS2 q144 qa (by omega) ⟨zX_ob hT, zX_k hT, ?_⟩
    rw [zX8, ea2]
    have hS3 := zup_l hS2 (q := 144) hl
    obtain ⟨n, hn⟩ : ∃ n, zlen co (S (4 + 2 * a)) = n + 1 := ⟨zlen co (S (4 + 2 * a)) - 1, by omega⟩
    refine c62 I hT hS3 (n := n) (by omega) q144 (by decide) (by omega) (by omega) (by rw [zup_s]; exact hn) (fun U3 w ρ hf3 hw hKD hρ => ?_)
    rw [zup_s] at hKD
    rw [zK_one I hKD hK]
    have hkp : zKp S U (zup (zup S2 144 (S (4 + 2 * a))) 150 w) U3 := by
      refine ⟨fun x hx => ?_, fun x i hx => ?_⟩
      · rw [zup_o _ _ (by omega), zup_o _ _ (by omega), hf.1 x (by omega), zup_o _ _ (by omega)]
      · rw [hf3 x i (by omega) (by omega) (by omega)]
        exact hf.2 x i (by omega)
    refine ⟨zin_c (by decide), fun h => absurd rfl h, fun _ => done _ _ ⟨zup_l hS3 (by omega), ?_, zPR_k hkp hok.2.2⟩ hkp⟩
    exact ⟨fun i b1 b2 => by rw [hf3 74 i (by decide) (by decide) (by omega)]; exact hE2.1 i b1 b2, fun i j b1 b2 b3 b4 b5 => by rw [hf3 74 i (by decide) (by decide) (by omega), hf3 74 j (by decide) (by decide) (by omega)]; exact hE2.2 i j b1 b2 b3 b4 b5⟩
  · refine c21 I hT hS qa ⟨zin_h hl, fun h => by omega, fun _ => done S U hok (zKp_r S U)⟩
