/-! Contracts: what polynomials are made of others. -/
theorem zup_l {R : Type} {co : R → Nat → Int} {S : Int → R} (hS : ∀ a, zlen co (S a) ≤ 25) {q : Int} {v : R} (hv : zlen co v ≤ 25) : ∀ a, zlen co (zup S q v a) ≤ 25 := by
  intro a
  unfold zup
  split
  · exact hv
  · exact hS a
theorem zat_n {R : Type} (co : R → Nat → Int) (a : R) (k : Nat) : zat co a (k : Int) = co a k := by
  unfold zat
  rw [if_neg (by omega), Int.toNat_natCast]
theorem zat_r {R : Type} [Lean.Grind.CommRing R] {p : Int} {inv : Int → Int} {co : R → Nat → Int} {X : R} {C : Int → R} (I : zIf R p inv co X C) (a : R) (k : Int) : 0 ≤ zat co a k ∧ zat co a k < p := by
  have hp := zR_p I
  unfold zat
  split
  · omega
  · exact zR_rng I _ _
theorem c27 {R : Type} [Lean.Grind.CommRing R] {p : Int} {inv : Int → Int} {co : R → Nat → Int} {X : R} {C : Int → R} (I : zIf R p inv co X C) {E : List (List Int)} {d : Nat} {T : zT} {S : Int → R} {U : zD} {Q : Int → zT → zD → Prop} (hT : zTT T) (hS : ∀ a, zlen co (S a) ≤ 25) {q b : Int} (hd : 1 ≤ d) (hq : zPq q = true) (hb : zPq b = true) (hne : b ≠ q) (hQ : Q 0 T (zS p inv co (zup S q (S q - S b)) U)) : zc E d 0 27 [(2, q), (2, b)] T (zS p inv co S U) Q := by
  have hp := zR_p I
  refine e27 _ _ ⟨zP_ob hT hq, by omega, ?_, ?_⟩
  · rw [zS_f0 hq]; exact zF_k hT
  · rw [zS_f0 hq]
    refine c28 I hT hS (by omega) (by omega) ⟨zP_k hT hq, ?_⟩
    rw [if_neg (by decide)]
    refine c26 I hT hS (s := 0) hq hb hne (by omega) (by omega) (by omega) (fun _ => by have := hS b; omega) ?_
    have e : S q + C (p - 1) * (X ^ 0 * S b) = S q - S b := by rw [zR_Csub I, zR_Cp I, zR_C1 I]; grind
    rw [e]
    exact hQ
theorem c46 {R : Type} [Lean.Grind.CommRing R] {p : Int} {inv : Int → Int} {co : R → Nat → Int} {X : R} {C : Int → R} (I : zIf R p inv co X C) {E : List (List Int)} {d : Nat} {T : zT} {S : Int → R} {U : zD} {Q : Int → zT → zD → Prop} (hT : zTT T) (hS : ∀ a, zlen co (S a) ≤ 25) {q c : Int} (hd : 1 ≤ d) (hq : zPq q = true) (h0 : 0 ≤ c) (h1 : c < p) (hQ : Q 0 T (zS p inv co (zup S q (C c)) U)) : zc E d 0 46 [(2, q), (0, c)] T (zS p inv co S U) Q := by
  refine e46 _ _ ⟨by omega, zP_k hT hq, ?_⟩
  refine c13 I hT hS hq ⟨zP_k hT hq, ?_⟩
  have hS1 := zup_l hS (q := q) (v := (0 : R)) (by rw [zL_0 I]; omega)
  refine c32 I hT hS1 (k := 0) (v := C c) hq (by omega) (fun j => ?_) ?_
  · rw [zR_C I, zup_s, zR_zero I, Int.emod_eq_of_lt h0 h1]
  · rw [zup_up]
    exact hQ
theorem c29 {R : Type} [Lean.Grind.CommRing R] {p : Int} {inv : Int → Int} {co : R → Nat → Int} {X : R} {C : Int → R} (I : zIf R p inv co X C) {E : List (List Int)} {d : Nat} {T : zT} {S : Int → R} {U : zD} {Q : Int → zT → zD → Prop} (hT : zTT T) (hS : ∀ a, zlen co (S a) ≤ 25) {q a b : Int} (hd : 1 ≤ d) (hq : zPq q = true) (ha : zPq a = true) (hb : zPq b = true) (hqa : a ≠ q) (hqb : b ≠ q) (hl : S a ≠ 0 → S b ≠ 0 → zlen co (S a) + zlen co (S b) ≤ 26) (hQ : Q 0 T (zS p inv co (zup S q (S a * S b)) U)) : zc E d 0 29 [(2, q), (2, a), (2, b)] T (zS p inv co S U) Q := by
  have hp := zR_p I
  have hla := hS a
  have hlb := hS b
  have hl2 : ∀ k, k < zlen co (S a) → S b ≠ 0 → zlen co (S b) + k ≤ 25 := by
    intro k hk hb0
    have := hl (by intro h; rw [h, zL_0 I] at hk; omega) hb0
    omega
  have hX : ∀ k, k ≤ zlen co (S a) → zlen co (zsum k (fun j => C (co (S a) j) * X ^ j) * S b) ≤ 25 := by
    intro k hk
    by_cases hb0 : S b = 0
    · have : zsum k (fun j => C (co (S a) j) * X ^ j) * S b = 0 := by rw [hb0]; grind
      rw [this, zL_0 I]
      omega
    · by_cases hk0 : k = 0
      · subst hk0
        have : zsum 0 (fun j => C (co (S a) j) * X ^ j) * S b = 0 := by show (0 : R) * S b = 0; grind
        rw [this, zL_0 I]
        omega
      · obtain ⟨n, hn⟩ := zL_pos I hb0
        have h1 := hl2 (k - 1) (by omega) hb0
        have h2 : zlen co (zsum k (fun j => C (co (S a) j) * X ^ j)) ≤ (k - 1) + 1 := zsum_len I (fun j hj => zL_smul I _ (zL_le I (fun i hi => by
          have : X ^ j = X ^ j * 1 := by grind
          rw [this, zR_pow I, zR_one I]
          split
          · rfl
          · exact if_neg (by omega))))
        have := zM_le I h2 (show zlen co (S b) ≤ n + 1 by omega)
        omega
  have key : ∀ (n k : Nat), k + n = zlen co (S a) → zj E d 0 29 6 [(2, q), (2, a), (2, b), (0, (k : Int))] [] T (zS p inv co (zup S q (zsum k (fun j => C (co (S a) j) * X ^ j) * S b)) U) Q := by
    intro n
    induction n with
    | zero =>
      intro k hk
      refine z29_6 _ _ _ _ ⟨zP_ob hT ha, by unfold zin; omega, ?_, fun _ => ?_, fun h => ?_⟩
      · rw [zS_f2 ha, zup_o _ _ hqa]; exact zin_h hla
      · have := zsum_rep I k (S a) (by omega)
        rw [← this]
        exact hQ
      · rw [zS_f2 ha, zup_o _ _ hqa] at h
        omega
    | succ n ih =>
      intro k hk
      have hS1 := zup_l hS (q := q) (hX k (by omega))
      refine z29_6 _ _ _ _ ⟨zP_ob hT ha, by unfold zin; omega, ?_, fun h => ?_, fun _ => ⟨by omega, zP_k hT ha, ?_⟩⟩
      · rw [zS_f2 ha, zup_o _ _ hqa]; exact zin_h hla
      · rw [zS_f2 ha, zup_o _ _ hqa] at h
        omega
      · refine c19 I hT hS1 ha (by omega) (by omega) ⟨zP_k hT hq, ?_⟩
        rw [zup_o _ _ hqa, zat_n]
        have hr := zR_rng I (S a) k
        refine c26 I hT hS1 hq hb hqb hr.1 hr.2 (by omega) (fun h => ?_) ?_
        · rw [zup_o _ _ hqb] at h ⊢
          exact hl2 k (by omega) h
        · rw [zup_s, zup_up, zup_o _ _ hqb]
          have e : zsum k (fun j => C (co (S a) j) * X ^ j) * S b + C (co (S a) k) * (X ^ k * S b) = zsum (k + 1) (fun j => C (co (S a) j) * X ^ j) * S b := by
            show _ = (zsum k _ + C (co (S a) k) * X ^ k) * S b
            grind
          rw [e]
          exact ih (k + 1) (by omega)
  refine e29 _ _ _ ⟨by omega, zP_k hT hq, ?_⟩
  refine c13 I hT hS hq ?_
  have h := key (zlen co (S a)) 0 (by omega)
  have e : zsum 0 (fun j => C (co (S a) j) * X ^ j) * S b = 0 := by show (0 : R) * S b = 0; grind
  rw [e] at h
  exact h
theorem c40 {R : Type} [Lean.Grind.CommRing R] {p : Int} {inv : Int → Int} {co : R → Nat → Int} {X : R} {C : Int → R} (I : zIf R p inv co X C) {E : List (List Int)} {d : Nat} {T : zT} {S : Int → R} {U : zD} {Q : Int → zT → zD → Prop} (hT : zTT T) (hS : ∀ a, zlen co (S a) ≤ 25) {q c : Int} (hd : 1 ≤ d) (hq : zPq q = true) (h0 : 0 ≤ c) (h1 : c < p) (hQ : Q 0 T (zS p inv co (zup S q (C c * S q)) U)) : zc E d 0 40 [(2, q), (0, c)] T (zS p inv co S U) Q := by
  have hp := zR_p I
  have hl := hS q
  have key : ∀ (n k : Nat) (v : R), k + n = zlen co (S q) → (∀ j, co v j = if j < k then (c * co (S q) j) % p else co (S q) j) → zj E d 0 40 7 [(2, q), (0, c), (0, (zlen co (S q) : Int) - 1), (0, (k : Int))] [] T (zS p inv co (zup S q v) U) Q := by
    intro n
    induction n with
    | zero =>
      intro k v hk hv
      refine z40_7 _ _ _ _ ⟨by unfold zin; omega, zin_h hl, fun _ => ?_, fun h => by omega⟩
      have e : v = C c * S q := zR_ext I (fun j => by
        rw [hv, zR_smul I]
        split
        · rfl
        · rw [zL_hi I (a := S q) (by omega)]; simp)
      rw [e]
      exact hQ
    | succ n ih =>
      intro k v hk hv
      have hvl : zlen co v ≤ 25 := zL_le I (fun j hj => by
        rw [hv, zL_hi I (a := S q) (by omega)]; simp)
      have hS1 := zup_l hS (q := q) hvl
      obtain ⟨v2, hv2⟩ := zbuild I 25 (fun j => if j < k + 1 then (c * co (S q) j) % p else co (S q) j) (fun j => by
        split
        · exact zmodr I _
        · exact zR_rng I _ _) (fun j hj => by
        show (if _ then _ else _) = _
        rw [zL_hi I (a := S q) (by omega)]; simp)
      refine z40_7 _ _ _ _ ⟨by unfold zin; omega, zin_h hl, fun h => by omega, fun _ => ⟨zP_ob hT hq, by omega, zP_k hT hq, ?_⟩⟩
      refine c19 I hT hS1 hq (by omega) (by omega) ⟨?_, ?_⟩
      · rw [zS_f0 hq]; exact zF_k hT
      · rw [zup_s, zat_n, zS_f0 hq]
        have hr := zR_rng I v k
        have e1 : co v k = co (S q) k := by rw [hv, if_neg (by omega)]
        refine c38 I hT hS1 hr.1 (by omega) h0 (by omega) ⟨zP_k hT hq, ?_⟩
        refine c32 I hT hS1 hq (v := v2) (by omega) (fun j => ?_) ?_
        · rw [hv2, zup_s]
          show (if _ then _ else _) = _
          by_cases e : j = k
          · subst e
            rw [if_pos (by omega), if_pos rfl, e1, Int.mul_comm]
          · rw [if_neg e, hv]
            by_cases e2 : j < k
            · rw [if_pos e2, if_pos (by omega)]
            · rw [if_neg e2, if_neg (by omega)]
        · rw [zup_up]
          exact ih (k + 1) v2 (by omega) hv2
  refine e40 _ _ ⟨zP_ob hT hq, ?_⟩
  rw [zS_f2 hq]
  have h := key (zlen co (S q)) 0 (S q) (by omega) (fun j => by rw [if_neg (by omega)])
  rw [zup_same] at h
  exact h
theorem c42 {R : Type} [Lean.Grind.CommRing R] {p : Int} {inv : Int → Int} {co : R → Nat → Int} {X : R} {C : Int → R} (I : zIf R p inv co X C) {E : List (List Int)} {d : Nat} {T : zT} {S : Int → R} {U : zD} {Q : Int → zT → zD → Prop} (hT : zTT T) (hS : ∀ a, zlen co (S a) ≤ 25) {q a : Int} (hd : 1 ≤ d) (hq : zPq q = true) (ha : zPq a = true) (hqa : a ≠ q) (hQ : ∀ v, zde p co (S a) v → Q 0 T (zS p inv co (zup S q v) U)) : zc E d 0 42 [(2, q), (2, a)] T (zS p inv co S U) Q := by
  have hp := zR_p I
  have hl := hS a
  have key : ∀ (n k : Nat) (v : R), k + n = zlen co (S a) → (∀ j, co v j = if j < k then (((j : Int) + 1) * co (S a) (j + 1)) % p else 0) → zj E d 0 42 6 [(2, q), (2, a), (0, (k : Int) + 1)] [] T (zS p inv co (zup S q v) U) Q := by
    intro n
    induction n with
    | zero =>
      intro k v hk hv
      refine z42_6 _ _ _ ⟨zP_ob hT ha, by unfold zin; omega, ?_, fun _ => ?_, fun h => ?_⟩
      · rw [zS_f2 ha, zup_o _ _ hqa]; exact zin_h hl
      · refine hQ v (fun j => ?_)
        rw [hv]
        split
        · rfl
        · rw [zL_hi I (a := S a) (by omega)]; simp
      · rw [zS_f2 ha, zup_o _ _ hqa] at h
        omega
    | succ n ih =>
      intro k v hk hv
      by_cases hlast : k + 1 = zlen co (S a)
      · refine z42_6 _ _ _ ⟨zP_ob hT ha, by unfold zin; omega, ?_, fun _ => ?_, fun h => ?_⟩
        · rw [zS_f2 ha, zup_o _ _ hqa]; exact zin_h hl
        · refine hQ v (fun j => ?_)
          rw [hv]
          split
          · rfl
          · rw [zL_hi I (a := S a) (by omega)]; simp
        · rw [zS_f2 ha, zup_o _ _ hqa] at h
          omega
      · have hvl : zlen co v ≤ 25 := zL_le I (fun j hj => by rw [hv, if_neg (by omega)])
        have hS1 := zup_l hS (q := q) hvl
        obtain ⟨v2, hv2⟩ := zbuild I 25 (fun j => if j < k + 1 then (((j : Int) + 1) * co (S a) (j + 1)) % p else 0) (fun j => by
          split
          · exact zmodr I _
          · omega) (fun j hj => if_neg (by omega))
        refine z42_6 _ _ _ ⟨zP_ob hT ha, by unfold zin; omega, ?_, fun h => ?_, fun _ => ⟨zP_ob hT hq, by omega, zP_k hT ha, ?_⟩⟩
        · rw [zS_f2 ha, zup_o _ _ hqa]; exact zin_h hl
        · rw [zS_f2 ha, zup_o _ _ hqa] at h
          omega
        · refine c19 I hT hS1 ha (by omega) (by omega) ⟨?_, ?_⟩
          · rw [zS_f0 hq]; exact zF_k hT
          · have e0 : (k : Int) + 1 = ((k + 1 : Nat) : Int) := by omega
            rw [zup_o _ _ hqa, e0, zat_n, zS_f0 hq]
            have hr := zR_rng I (S a) (k + 1)
            refine c38 I hT hS1 (by omega) (by omega) hr.1 (by omega) ⟨zP_k hT hq, ?_⟩
            have e1 : ((k + 1 : Nat) : Int) - 1 = (k : Int) := by omega
            rw [e1]
            refine c32 I hT hS1 hq (v := v2) (by omega) (fun j => ?_) ?_
            · rw [hv2, zup_s]
              show (if _ then _ else _) = _
              by_cases e : j = k
              · subst e
                rw [if_pos (by omega), if_pos rfl, e0]
              · rw [if_neg e, hv]
                by_cases e2 : j < k
                · rw [if_pos e2, if_pos (by omega)]
                · rw [if_neg e2, if_neg (by omega)]
            · rw [zup_up]
              have h := ih (k + 1) v2 (by omega) hv2
              rw [← e0] at h ⊢
              exact h
  refine e42 _ _ ⟨by omega, zP_k hT hq, ?_⟩
  refine c13 I hT hS hq ?_
  exact key (zlen co (S a)) 0 0 (by omega) (fun j => by rw [zR_zero I, if_neg (by omega)])
/-- one step of dividing -/
theorem zred1 {R : Type} [Lean.Grind.CommRing R] {p : Int} {inv : Int → Int} {co : R → Nat → Int} {X : R} {C : Int → R} (I : zIf R p inv co X C) {m cur : R} {t l : Nat} (hl : zlen co m = l + 1) (hc : zlen co cur ≤ t + l + 1) : zlen co (cur + C (if (co cur (t + l) * inv (co m l)) % p = 0 then 0 else p - (co cur (t + l) * inv (co m l)) % p) * (X ^ t * m)) ≤ t + l ∧ C (if (co cur (t + l) * inv (co m l)) % p = 0 then 0 else p - (co cur (t + l) * inv (co m l)) % p) = - C ((co cur (t + l) * inv (co m l)) % p) := by
  have hp := zR_p I
  have e0 : C (if (co cur (t + l) * inv (co m l)) % p = 0 then 0 else p - (co cur (t + l) * inv (co m l)) % p) = - C ((co cur (t + l) * inv (co m l)) % p) := by
    split
    · next h => rw [h, zR_C0 I]; grind
    · rw [zR_Csub I, zR_Cp I]; grind
  refine ⟨?_, e0⟩
  rw [e0, zR_Cmod I]
  refine zL_lt I (zL_add I hc ?_) ?_
  · have : -C (co cur (t + l) * inv (co m l)) * (X ^ t * m) = - (C (co cur (t + l) * inv (co m l)) * (X ^ t * m)) := by grind
    rw [this]
    exact zL_neg I (zL_smul I _ (zL_le I (fun k hk => by
      rw [zR_pow I]
      split
      · rfl
      · exact zL_hi I (by omega))))
  · have : cur + -C (co cur (t + l) * inv (co m l)) * (X ^ t * m) = cur - C (co cur (t + l) * inv (co m l)) * (X ^ t * m) := by grind
    rw [this, zR_sub I, zR_smul I, zR_pow I, if_neg (by omega), Nat.add_sub_cancel_left, Int.sub_emod_emod]
    have hB := zR_rng I m l
    have tB := zL_top I hl
    have e1 := zC_unit I (c := co m l) (by omega) hB.2
    have e2 : C (co cur (t + l) - co cur (t + l) * inv (co m l) * co m l) = C 0 := by
      rw [zR_Csub I, zR_Cmul I, zR_Cmul I, zR_C0 I]
      grind
    have := zR_Cinj I e2
    simpa using this
theorem c35n {R : Type} [Lean.Grind.CommRing R] {p : Int} {inv : Int → Int} {co : R → Nat → Int} {X : R} {C : Int → R} (I : zIf R p inv co X C) {E : List (List Int)} {d : Nat} {T : zT} {S : Int → R} {U : zD} {Q : Int → zT → zD → Prop} (hT : zTT T) (hS : ∀ a, zlen co (S a) ≤ 25) {q b : Int} (hd : 1 ≤ d) (hq : zPq q = true) (hb : zPq b = true) (hne : b ≠ q) (hb0 : S b ≠ 0) (hQ : ∀ qq r, S q = qq * S b + r → zlen co r < zlen co (S b) → Q 0 T (zS p inv co (zup S q r) U)) : zc E d 0 35 [(2, q), (2, b), (2, -1)] T (zS p inv co S U) Q := by
  have hp := zR_p I
  have hlq := hS q
  have hlb := hS b
  obtain ⟨l, hl⟩ := zL_pos I hb0
  have hB := zR_rng I (S b) l
  have tB := zL_top I hl
  have hinv := zR_inv I (c := co (S b) l) (by omega) hB.2
  have key : ∀ (n : Nat) (t : Int) (w : zv_V) (qq cur : R), zs_wide w = false → t + 1 = n → n + l ≤ 25 → S q = qq * S b + cur → zlen co cur ≤ n + l → zlen co cur ≤ 25 → zj E d 0 35 23 [(2, q), (2, b), (2, -1), (0, inv (co (S b) l)), (0, t), w] [] T (zS p inv co (zup S q cur) U) Q := by
    intro n
    induction n with
    | zero =>
      intro t w qq cur hw ht hn he hc hc25
      refine z35_23 _ _ _ _ _ _ hw ⟨by unfold zin; omega, fun _ => hQ qq cur he (by omega), fun h => by omega⟩
    | succ n ih =>
      intro t w qq cur hw ht hn he hc hc25
      have hS1 := zup_l hS (q := q) hc25
      have et : t = (n : Int) := by omega
      subst et
      obtain ⟨r1, r2⟩ := zred1 I (m := S b) (cur := cur) (t := n) hl (by omega)
      refine z35_23 _ _ _ _ _ _ hw ⟨by unfold zin; omega, fun h => by omega, fun _ => ⟨zP_ob hT hb, ?_, fun h => ?_, fun _ => ⟨zP_ob hT hq, by omega, zP_k hT hq, ?_⟩⟩⟩
      · rw [zS_f2 hb, zup_o _ _ hne]; exact zin_h hlb
      · rw [zS_f2 hb, zup_o _ _ hne] at h
        omega
      · rw [zS_f2 hb, zup_o _ _ hne]
        have e1 : (n : Int) + ((zlen co (S b) : Int) - 1) = ((n + l : Nat) : Int) := by omega
        rw [e1]
        refine c19 I hT hS1 hq (by omega) (by omega) ⟨?_, ?_⟩
        · rw [zS_f0 hq]; exact zF_k hT
        · rw [zup_s, zat_n, zS_f0 hq]
          have hr := zR_rng I cur (n + l)
          refine c38 I hT hS1 hr.1 (by omega) (by omega) (by omega) ⟨fun _ => ⟨zP_ob hT hq, ?_, ?_⟩, fun h => absurd rfl h⟩
          · rw [zS_f0 hq]; exact zF_k hT
          · rw [zS_f0 hq]
            have hr2 := zmodr I (co cur (n + l) * inv (co (S b) l))
            refine c28 I hT hS1 hr2.1 hr2.2 ⟨zP_k hT hq, ?_⟩
            refine c26 I hT hS1 hq hb hne (by split <;> omega) (by split <;> omega) (by omega) (fun _ => by rw [zup_o _ _ hne]; omega) ?_
            rw [zup_s, zup_up, zup_o _ _ hne]
            refine ih ((n : Int) + -1) _ (qq + C ((co cur (n + l) * inv (co (S b) l)) % p) * X ^ n) _ rfl (by omega) (by omega) ?_ r1 (by omega)
            rw [r2]
            grind
  refine e35 _ _ _ ⟨zP_ob hT hq, by omega, zP_k hT hb, ?_⟩
  refine c36 I hT hS hb ⟨?_, ?_⟩
  · rw [zS_f0 hq]; exact zF_k hT
  · rw [zS_f0 hq, hl, Nat.add_sub_cancel]
    refine c37 I hT hS hB.1 hB.2 ⟨zP_ob hT hq, zP_ob hT hb, ?_⟩
    rw [zS_f2 hq, zS_f2 hb]
    have e0 : S q = 0 * S b + S q := by grind
    by_cases hlt : zlen co (S q) < zlen co (S b)
    · refine z35_23 _ _ _ _ _ _ rfl ⟨by unfold zin; omega, fun _ => ?_, fun h => by omega⟩
      have := hQ 0 (S q) e0 hlt
      rw [zup_same] at this
      exact this
    · have h := key (zlen co (S q) - l) ((zlen co (S q) : Int) - 1 - ((zlen co (S b) : Int) - 1)) (9, 0) 0 (S q) rfl (by omega) (by omega) e0 (by omega) hlq
      rw [zup_same] at h
      exact h
theorem c35q {R : Type} [Lean.Grind.CommRing R] {p : Int} {inv : Int → Int} {co : R → Nat → Int} {X : R} {C : Int → R} (I : zIf R p inv co X C) {E : List (List Int)} {d : Nat} {T : zT} {S : Int → R} {U : zD} {Q : Int → zT → zD → Prop} (hT : zTT T) (hS : ∀ a, zlen co (S a) ≤ 25) {q b u : Int} (hd : 1 ≤ d) (hq : zPq q = true) (hb : zPq b = true) (hu : zPq u = true) (hne : b ≠ q) (huq : u ≠ q) (hub : u ≠ b) (hb0 : S b ≠ 0) (hu0 : S u = 0) (hQ : ∀ qq r, S q = qq * S b + r → zlen co r < zlen co (S b) → zlen co qq ≤ 25 → Q 0 T (zS p inv co (zup (zup S u qq) q r) U)) : zc E d 0 35 [(2, q), (2, b), (2, u)] T (zS p inv co S U) Q := by
  have hp := zR_p I
  have hlq := hS q
  have hlb := hS b
  have hu1 : u ≠ -1 := by have := zPq_0 hu; omega
  obtain ⟨l, hl⟩ := zL_pos I hb0
  have hB := zR_rng I (S b) l
  have tB := zL_top I hl
  have hinv := zR_inv I (c := co (S b) l) (by omega) hB.2
  have key : ∀ (n : Nat) (t : Int) (w : zv_V) (qq cur : R), zs_wide w = false → t + 1 = n → n + l ≤ 25 → S q = qq * S b + cur → zlen co cur ≤ n + l → zlen co cur ≤ 25 → zlen co qq ≤ 25 → (∀ j, j < n → co qq j = 0) → zj E d 0 35 23 [(2, q), (2, b), (2, u), (0, inv (co (S b) l)), (0, t), w] [] T (zS p inv co (zup (zup S u qq) q cur) U) Q := by
    intro n
    induction n with
    | zero =>
      intro t w qq cur hw ht hn he hc hc25 hq25 hq0
      refine z35_23 _ _ _ _ _ _ hw ⟨by unfold zin; omega, fun _ => hQ qq cur he (by omega) hq25, fun h => by omega⟩
    | succ n ih =>
      intro t w qq cur hw ht hn he hc hc25 hq25 hq0
      have hS1 := zup_l (zup_l hS (q := u) hq25) (q := q) hc25
      have et : t = (n : Int) := by omega
      subst et
      obtain ⟨r1, r2⟩ := zred1 I (m := S b) (cur := cur) (t := n) hl (by omega)
      have ebm : zup (zup S u qq) q cur b = S b := by rw [zup_o _ _ hne, zup_o _ _ (Ne.symm hub)]
      refine z35_23 _ _ _ _ _ _ hw ⟨by unfold zin; omega, fun h => by omega, fun _ => ⟨zP_ob hT hb, ?_, fun h => ?_, fun _ => ⟨zP_ob hT hq, by omega, zP_k hT hq, ?_⟩⟩⟩
      · rw [zS_f2 hb, ebm]; exact zin_h hlb
      · rw [zS_f2 hb, ebm] at h
        omega
      · rw [zS_f2 hb, ebm]
        have e1 : (n : Int) + ((zlen co (S b) : Int) - 1) = ((n + l : Nat) : Int) := by omega
        rw [e1]
        refine c19 I hT hS1 hq (by omega) (by omega) ⟨?_, ?_⟩
        · rw [zS_f0 hq]; exact zF_k hT
        · rw [zup_s, zat_n, zS_f0 hq]
          have hr := zR_rng I cur (n + l)
          have hr2 := zmodr I (co cur (n + l) * inv (co (S b) l))
          refine c38 I hT hS1 hr.1 (by omega) (by omega) (by omega) ⟨fun h => absurd h hu1, fun _ => ⟨zP_k hT hu, ?_⟩⟩
          have hx : ∀ j, co (C ((co cur (n + l) * inv (co (S b) l)) % p) * X ^ n) j = if j = n then (co cur (n + l) * inv (co (S b) l)) % p else 0 := by
            intro j
            have : X ^ n = X ^ n * 1 := by grind
            rw [zR_smul I, this, zR_pow I, zR_one I]
            by_cases h1 : j < n
            · rw [if_pos h1, if_neg (by omega)]; simp
            · by_cases h2 : j = n
              · subst h2; simp
              · rw [if_neg h1, if_neg (by omega), if_neg h2]; simp
          have hv : ∀ j, co (qq + C ((co cur (n + l) * inv (co (S b) l)) % p) * X ^ n) j = if j = n then (co cur (n + l) * inv (co (S b) l)) % p else co qq j := by
            intro j
            rw [zR_add I, hx]
            by_cases h2 : j = n
            · subst h2
              rw [if_pos rfl, if_pos rfl, hq0 j (by omega), Int.zero_add, Int.emod_emod]
            · rw [if_neg h2, if_neg h2, Int.add_zero, zR_mod I]
          have hv25 : zlen co (qq + C ((co cur (n + l) * inv (co (S b) l)) % p) * X ^ n) ≤ 25 := zL_le I (fun j hj => by
            rw [hv, if_neg (by omega)]
            exact zL_hi I (by omega))
          refine c32 I hT hS1 hu (v := qq + C ((co cur (n + l) * inv (co (S b) l)) % p) * X ^ n) (by omega) (fun j => ?_) ⟨zP_ob hT hq, ?_, ?_⟩
          · rw [zup_o _ _ huq, zup_s]
            exact hv j
          · rw [zS_f0 hq]; exact zF_k hT
          · rw [zS_f0 hq, zup_cm _ _ _ (Ne.symm huq), zup_up]
            have hS2 := zup_l (zup_l hS (q := u) hv25) (q := q) hc25
            refine c28 I hT hS2 hr2.1 hr2.2 ⟨zP_k hT hq, ?_⟩
            have ebm2 : zup (zup S u (qq + C ((co cur (n + l) * inv (co (S b) l)) % p) * X ^ n)) q cur b = S b := by rw [zup_o _ _ hne, zup_o _ _ (Ne.symm hub)]
            refine c26 I hT hS2 hq hb hne (by split <;> omega) (by split <;> omega) (by omega) (fun _ => by rw [ebm2]; omega) ?_
            rw [ebm2, zup_s, zup_up]
            refine ih ((n : Int) + -1) _ _ _ rfl (by omega) (by omega) ?_ r1 (by omega) hv25 (fun j hj => by rw [hv, if_neg (by omega)]; exact hq0 j (by omega))
            rw [r2]
            grind
  refine e35 _ _ _ ⟨zP_ob hT hq, by omega, zP_k hT hb, ?_⟩
  refine c36 I hT hS hb ⟨?_, ?_⟩
  · rw [zS_f0 hq]; exact zF_k hT
  · rw [zS_f0 hq, hl, Nat.add_sub_cancel]
    refine c37 I hT hS hB.1 hB.2 ⟨zP_ob hT hq, zP_ob hT hb, ?_⟩
    rw [zS_f2 hq, zS_f2 hb]
    have e0 : S q = 0 * S b + S q := by grind
    have e9 : zup (zup S u (0 : R)) q (S q) = S := by
      rw [← hu0, zup_same, zup_same]
    by_cases hlt : zlen co (S q) < zlen co (S b)
    · refine z35_23 _ _ _ _ _ _ rfl ⟨by unfold zin; omega, fun _ => ?_, fun h => by omega⟩
      have := hQ 0 (S q) e0 hlt (by rw [zL_0 I]; omega)
      rw [e9] at this
      exact this
    · have h := key (zlen co (S q) - l) ((zlen co (S q) : Int) - 1 - ((zlen co (S b) : Int) - 1)) (9, 0) 0 (S q) rfl (by omega) (by omega) e0 (by omega) hlq (by rw [zL_0 I]; omega) (fun j _ => zR_zero I j)
      rw [e9] at h
      exact h
