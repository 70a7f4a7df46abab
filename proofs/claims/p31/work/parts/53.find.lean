/-! Contracts: sorting and finding the factors. -/
theorem c81 {R : Type} [Lean.Grind.CommRing R] {p : Int} {inv : Int → Int} {co : R → Nat → Int} {X : R} {C : Int → R} (I : zIf R p inv co X C) {E : List (List Int)} {d : Nat} {T : zT} {S : Int → R} {U : zD} {Q : Int → zT → zD → Prop} (hT : zTT T) (hS : ∀ a, zlen co (S a) ≤ 25) {a b : Int} (hd : 1 ≤ d) (ha : zPq a = true) (hb : zPq b = true) (h0 : Q 0 T (zS p inv co S U)) (h1 : Q 1 T (zS p inv co S U)) : zc E d 1 81 [(2, a), (2, b)] T (zS p inv co S U) Q := by
  have hp := zR_p I
  have hla := hS a
  have hlb := hS b
  have key : ∀ n : Nat, n ≤ 25 → zj E d 1 81 33 [(2, a), (2, b), (0, (n : Int) - 1)] [] T (zS p inv co S U) Q := by
    intro n
    induction n with
    | zero => intro _; exact z81_33 _ _ _ ⟨zin_c (by decide), fun _ => h0, fun h => absurd h (by decide)⟩
    | succ n ih =>
      intro hn
      have e0 : ((n + 1 : Nat) : Int) - 1 = (n : Int) := by omega
      have ra := zR_rng I (S a) n
      have rb := zR_rng I (S b) n
      rw [e0]
      refine z81_33 _ _ _ ⟨zin_n (by omega), fun h => by omega, fun _ => ⟨by omega, zP_k hT ha, ?_⟩⟩
      refine c19 I hT hS ha (by omega) (by omega) ⟨zP_k hT hb, ?_⟩
      refine c19 I hT hS hb (by omega) (by omega) ?_
      rw [zat_n, zat_n]
      refine ⟨by unfold zin; omega, by unfold zin; omega, fun _ => ?_, fun _ => ⟨zP_k hT ha, ?_⟩⟩
      · have := ih (by omega)
        rw [show ((n : Int) - 1) = (n : Int) + -1 by omega] at this
        exact this
      · refine c19 I hT hS ha (by omega) (by omega) ⟨zP_k hT hb, ?_⟩
        refine c19 I hT hS hb (by omega) (by omega) ?_
        rw [zat_n, zat_n]
        exact ⟨by unfold zin; omega, by unfold zin; omega, fun _ => h0, fun _ => h1⟩
  refine e81 _ _ ⟨zP_ob hT ha, zP_ob hT hb, by rw [zS_f2 ha]; exact zin_h hla, by rw [zS_f2 hb]; exact zin_h hlb, fun _ => ?_, fun _ => ⟨fun _ => h0, fun _ => h1⟩⟩
  rw [zS_f2 ha]
  exact key (zlen co (S a)) hla
/-- two parts changed about -/
def zsw (U : zD) (a b : Int) : zD := zu (zu (zu (zu U 92 a (U 92 b)) 92 b (U 92 a)) 93 a (U 93 b)) 93 b (U 93 a)
theorem zsw_92 (U : zD) (a b k : Int) : zsw U a b 92 k = if k = b then U 92 a else if k = a then U 92 b else U 92 k := by
  unfold zsw zu
  by_cases h1 : k = b
  · subst h1; simp
  · by_cases h2 : k = a
    · subst h2; simp [h1]
    · simp [h1, h2]
theorem zsw_93 (U : zD) (a b k : Int) : zsw U a b 93 k = if k = b then U 93 a else if k = a then U 93 b else U 93 k := by
  unfold zsw zu
  by_cases h1 : k = b
  · subst h1; simp
  · by_cases h2 : k = a
    · subst h2; simp [h1]
    · simp [h1, h2]
theorem zsw_o (U : zD) (a b x k : Int) (h2 : x ≠ 92) (h3 : x ≠ 93) : zsw U a b x k = U x k := by
  unfold zsw zu
  simp [h2, h3]
theorem zsw_P {U : zD} (h : zPR U) {a b : Int} (ha : 0 ≤ a ∧ a < 24) (hb : 0 ≤ b ∧ b < 24) : zPR (zsw U a b) := by
  constructor
  · intro i h0 h24
    rw [zsw_92]
    split
    · exact h.1 a ha.1 ha.2
    · split
      · exact h.1 b hb.1 hb.2
      · exact h.1 i h0 h24
  · intro i j a1 a2 a3 a4 a5
    rw [zsw_92, zsw_92]
    split
    · split
      · omega
      · split
        · exact h.2 a b ha.1 ha.2 hb.1 hb.2 (by omega)
        · exact h.2 a j ha.1 ha.2 a3 a4 (by omega)
    · split
      · split
        · exact h.2 b a hb.1 hb.2 ha.1 ha.2 (by omega)
        · split
          · omega
          · exact h.2 b j hb.1 hb.2 a3 a4 (by omega)
      · split
        · exact h.2 i a a1 a2 ha.1 ha.2 (by omega)
        · split
          · exact h.2 i b a1 a2 hb.1 hb.2 (by omega)
          · exact h.2 i j a1 a2 a3 a4 a5
theorem c82 {R : Type} [Lean.Grind.CommRing R] {p : Int} {inv : Int → Int} {co : R → Nat → Int} {X : R} {C : Int → R} (I : zIf R p inv co X C) {E : List (List Int)} {d : Nat} {T : zT} {S : Int → R} {U : zD} {Q : Int → zT → zD → Prop} (hT : zTT T) (hS : ∀ a, zlen co (S a) ≤ 25) {a b : Nat} (hP : zPR U) (ha : a < 24) (hb : b < 24) (hab : a ≠ b) (hQ : Q 0 T (zS p inv co S (zsw U (a : Int) (b : Int)))) : zc E d 0 82 [(2, 91), (0, (a : Int)), (0, (b : Int))] T (zS p inv co S U) Q := by
  have h92 := zX_92 hT
  have h93 := zX_93 hT
  have ba := hP.1 (a : Int) (by omega) (by omega)
  have bb := hP.1 (b : Int) (by omega) (by omega)
  have qa := zPR_q hP (i := (a : Int)) (by omega) (by omega)
  have qb := zPR_q hP (i := (b : Int)) (by omega) (by omega)
  refine e82 _ _ _ ⟨zin_n (by omega), fun h => by omega, fun _ => ⟨zin_n (by omega), fun h => by omega, fun _ => ⟨zX_ob hT, ?_, ?_, fun h => ?_, fun _ => ⟨fun _ => ?_, fun h => ?_⟩⟩⟩⟩
  · rw [zX2]; exact h92.1
  · rw [zX2, h92.2]; exact zin_c (by decide)
  · rw [zX2, h92.2] at h
    omega
  · have r92 : ∀ k : Nat, k < 24 → zar T 92 52 (k : Int) := fun k hk => ⟨h92.1, by omega, by rw [h92.2]; omega, by rw [h92.2]; decide⟩
    have r93 : ∀ k : Nat, k < 24 → zar T 93 50 (k : Int) := fun k hk => ⟨h93.1, by omega, by rw [h93.2]; omega, by rw [h93.2]; decide⟩
    rw [zX2, zX92, zX92, zXu92, zX2, zXu92, zX3, zX93, zX93, zXu93, zX3, zXu93]
    refine ⟨r92 a ha, by omega, r92 b hb, by omega, zP_k hT qb, r92 b hb, zP_k hT qa, r93 a ha, r93 b hb, r93 b hb, ?_⟩
    exact hQ
  · rw [zX2, h92.2] at h
    omega
theorem c80 {R : Type} [Lean.Grind.CommRing R] {p : Int} {inv : Int → Int} {co : R → Nat → Int} {X : R} {C : Int → R} (I : zIf R p inv co X C) {E : List (List Int)} {d : Nat} {T : zT} {S : Int → R} {U : zD} {Q : Int → zT → zD → Prop} (hT : zTT T) (hS : ∀ a, zlen co (S a) ≤ 25) {sz : Nat} (hd : 2 ≤ d) {P : zD → Prop} (h4 : ∀ U', P U' → U' 91 4 = (sz : Int)) (hsz : sz ≤ 24) (hPR : ∀ U', P U' → zPR U') (hsw : ∀ U' (i : Nat), P U' → 0 < i → i < sz → P (zsw U' (i : Int) ((i : Int) - 1))) (h0 : P U)
    (hQ : ∀ U', P U' → Q 0 T (zS p inv co S U')) : zc E d 0 80 [(2, 91)] T (zS p inv co S U) Q := by
  have inner : ∀ (j : Nat), j < sz → (∀ U' : zD, ∀ w : zv_V, zs_wide w = false → P U' → zj E d 0 80 2 [(2, 91), (0, (j : Int) + 1), w] [] T (zS p inv co S U') Q) → ∀ (i : Nat) (U' : zD), i ≤ j → P U' → zj E d 0 80 12 [(2, 91), (0, (j : Int)), (0, (i : Int))] [] T (zS p inv co S U') Q := by
    intro j hj hnext i
    induction i with
    | zero =>
      intro U' hi hU
      exact z80_12 _ _ _ ⟨zin_c (by decide), fun _ => hnext U' _ rfl hU, fun h => absurd h (by decide)⟩
    | succ i ih =>
      intro U' hi hU
      have hP := hPR U' hU
      refine z80_12 _ _ _ ⟨zin_n (by omega), fun h => by omega, fun _ => ⟨by omega, zX_k hT, ?_⟩⟩
      refine c76 I hT hS hP (by omega) ⟨zX_k hT, ?_⟩
      have e1 : ((i + 1 : Nat) : Int) - 1 = (i : Int) := by omega
      rw [e1]
      refine c76 I hT hS hP (i := i) (by omega) ⟨zP_k hT (zPR_q hP (by omega) (by omega)), ?_⟩
      refine c81 I hT hS (by omega) (zPR_q hP (by omega) (by omega)) (zPR_q hP (by omega) (by omega)) ⟨zin_0, fun _ => hnext U' _ rfl hU, fun h => absurd rfl h⟩ ⟨zin_c (by decide), fun h => absurd h (by decide), fun _ => ⟨zX_k hT, ?_⟩⟩
      refine c82 I hT hS hP (a := i + 1) (b := i) (by omega) (by omega) (by omega) ?_
      have h2 := hsw U' (i + 1) hU (by omega) (by omega)
      rw [e1] at h2
      have h3 := ih _ (by omega) h2
      rw [show ((i + 1 : Nat) : Int) + -1 = (i : Int) by omega]
      exact h3
  have outer : ∀ (t j : Nat) (U' : zD) (w : zv_V), zs_wide w = false → sz ≤ j + t → j ≤ 25 → P U' → zj E d 0 80 2 [(2, 91), (0, (j : Int)), w] [] T (zS p inv co S U') Q := by
    intro t
    induction t with
    | zero =>
      intro j U' w hw hj hj2 hU
      have e4 := h4 U' hU
      refine z80_2 _ _ _ hw ⟨zX_ob hT, zin_n (by omega), by rw [zX4, e4]; exact zin_n (by omega), fun _ => hQ U' hU, fun h => ?_⟩
      rw [zX4, e4] at h
      omega
    | succ t ih =>
      intro j U' w hw hj hj2 hU
      have e4 := h4 U' hU
      by_cases hjs : sz ≤ j
      · refine z80_2 _ _ _ hw ⟨zX_ob hT, zin_n (by omega), by rw [zX4, e4]; exact zin_n (by omega), fun _ => hQ U' hU, fun h => ?_⟩
        rw [zX4, e4] at h
        omega
      · refine z80_2 _ _ _ hw ⟨zX_ob hT, zin_n (by omega), by rw [zX4, e4]; exact zin_n (by omega), fun h => ?_, fun _ => ?_⟩
        · rw [zX4, e4] at h
          omega
        · exact inner j (by omega) (fun U2 w2 hw2 hU2 => ih (j + 1) U2 w2 hw2 (by omega) (by omega) hU2) j U' (Nat.le_refl _) hU
  exact e80 _ (outer sz 1 U (9, 0) rfl (by omega) (by omega) h0)
/-! the kernel's data, where the grid stays -/
theorem zKD_k {R : Type} [Lean.Grind.CommRing R] {p : Int} {co : R → Nat → Int} {C : Int → R} {f : R} {n ρ : Nat} {U U' : zD} (h : zKD p co C f n ρ U) (e7 : U' 91 7 = U 91 7) (e94 : ∀ i, U' 94 i = U 94 i) (e95 : ∀ i, U' 95 i = U 95 i) : zKD p co C f n ρ U' := by
  have eg : ∀ l k, zgr U' l k = zgr U l k := fun l k => e94 _
  have ep : zpv U' = zpv U := by funext k; exact e95 _
  obtain ⟨h1, h2, h3, h4, h5, h6, h7⟩ := h
  refine ⟨h1, h2, h3, by rw [e7, h4], ?_, fun l k hl hk => by rw [eg]; exact h6 l k hl hk, fun V hV => ?_⟩
  · rw [ep]
    simp only [eg]
    exact h5
  · simp only [eg]
    exact h7 V hV
theorem zKD_w {R : Type} [Lean.Grind.CommRing R] {p : Int} {inv : Int → Int} {co : R → Nat → Int} {X : R} {C : Int → R} (I : zIf R p inv co X C) {f : R} {n ρ : Nat} {U : zD} (h : zKD p co C f n ρ U) (V : R) (hV : zlen co V ≤ n) (hk : zdv f (V ^ p.toNat - V)) {es : Nat → R} (hes : ∀ k, k < n → zpv U k = -1 → zev p co f n k U (es k)) : V = zsum n (fun k => if zpv U k = -1 then C (co V k) * es k else 0) := by
  have hfn : ∀ k, (fun k => if zpv U k = -1 then C (co V k) * es k else 0) k = C (if zpv U k = -1 then co V k else 0) * (if zpv U k = -1 then es k else 0) := fun k => by
    by_cases e : zpv U k = -1
    · simp [e]
    · simp [e, zR_C0 I]
      grind
  have hW : zlen co (zsum n (fun k => if zpv U k = -1 then C (co V k) * es k else 0)) ≤ n := zsum_len I (fun k hk2 => by
    split
    · next e => exact zL_smul I _ (hes k hk2 e).1
    · rw [zL_0 I]; omega)
  have hWk : zdv f ((zsum n (fun k => if zpv U k = -1 then C (co V k) * es k else 0)) ^ p.toNat - zsum n (fun k => if zpv U k = -1 then C (co V k) * es k else 0)) := by
    rw [zsum_c (fun k _ => hfn k)]
    refine zker_sum I (fun k hk2 => ?_)
    split
    · next e => exact (hes k hk2 e).2.2.2
    · obtain ⟨m, hm⟩ := zpp I
      rw [hm]
      exact ⟨0, by grind⟩
  have hdiff := zKD_free I h (V - zsum n (fun k => if zpv U k = -1 then C (co V k) * es k else 0)) (zL_sub I hV hW) (by
    rw [zfrob_sub I]
    have := zdv_sub hk hWk
    have e : ∀ a b c d : R, a - b - (c - d) = a - c - (b - d) := by intro a b c d; grind
    rw [e] at this
    exact this) (fun k hk2 hfr => by
    have hfk : zpv U k = -1 := by simpa using hfr
    rw [zR_sub I, zsum_co I _ n k (fun j => if j = k then co V k else 0) (fun j hj => by
      by_cases e : zpv U j = -1
      · rw [if_pos e, zR_smul I]
        by_cases ejk : j = k
        · subst ejk
          rw [(hes j hj e).2.1, if_pos rfl, Int.mul_one]
        · rw [(hes j hj e).2.2.1 k hk2 (Ne.symm ejk) hfk, if_neg ejk]; simp
      · rw [if_neg e, zR_zero I]
        by_cases ejk : j = k
        · subst ejk; exact absurd hfk e
        · rw [if_neg ejk]; simp)]
    rw [zsum_one (j := k) hk2 (fun j hj hjk => if_neg hjk), if_pos rfl, Int.sub_emod_emod]
    simp)
  grind
/-- all parts' kernels are the numbers, where each vector is one by each part -/
theorem zK_all {R : Type} [Lean.Grind.CommRing R] {p : Int} {inv : Int → Int} {co : R → Nat → Int} {X : R} {C : Int → R} (I : zIf R p inv co X C) {w : R} {n ρ m : Nat} {U : zD} {g : Nat → R} (h : zKD p co C w n ρ U) (hw0 : w ≠ 0) (hsq : zsq co w) (hg : zprd m g = w) (hg2 : ∀ i, i < m → 2 ≤ zlen co (g i)) (hv : ∀ k, 1 ≤ k → k < n → zpv U k = -1 → ∃ e, zev p co w n k U e ∧ ∀ i, i < m → ∃ x : Int, zdv (g i) (e - C x)) : ∀ i, i < m → zK p C (g i) := by
  intro i hi
  obtain ⟨m', rfl⟩ : ∃ k, m = k + 1 := ⟨m - 1, by omega⟩
  have e := zprd_skip g i m' (by omega)
  rw [hg] at e
  have hgi : g i ≠ 0 := by intro h0; have := hg2 i hi; rw [h0, zL_0 I] at this; omega
  have hcp : zcp (g i) (zprd m' (fun j => g (zskip i j))) := zcp_of I hgi (fun t t1 t2 => hsq t (by rw [e]; exact zdv_mm t1 t2))
  have h0 := zKD_0 I h
  have hn1 := h.2.2.1
  -- the vectors
  have hex : ∀ k, ∃ v : R, (k < n → zpv U k = -1 → zev p co w n k U v ∧ ∃ x : Int, zdv (g i) (v - C x)) := by
    intro k
    by_cases hk : k < n ∧ zpv U k = -1
    · by_cases hk0 : k = 0
      · refine ⟨1, fun _ _ => ⟨⟨by rw [zL_1 I]; omega, by rw [zR_one I, if_pos hk0], fun j hj hjk _ => by rw [zR_one I, if_neg (by omega)], ?_⟩, 1, ?_⟩⟩
        · have e1 : ∀ m : Nat, (1 : R) ^ m = 1 := by
            intro m
            induction m with
            | zero => grind
            | succ m ih =>
              have : (1 : R) ^ (m + 1) = 1 ^ m * 1 := by grind
              rw [this, ih]; grind
          rw [e1]
          exact ⟨0, by grind⟩
        · rw [zR_C1 I]
          exact ⟨0, by grind⟩
      · obtain ⟨v, v1, v2⟩ := hv k (by omega) hk.1 hk.2
        exact ⟨v, fun _ _ => ⟨v1, v2 i hi⟩⟩
    · exact ⟨0, fun a b => absurd ⟨a, b⟩ hk⟩
  have hch : ∃ es : Nat → R, ∀ k, k < n → zpv U k = -1 → zev p co w n k U (es k) ∧ ∃ x : Int, zdv (g i) (es k - C x) := ⟨fun k => Classical.choose (hex k), fun k a b => Classical.choose_spec (hex k) a b⟩
  obtain ⟨es, hes⟩ := hch
  refine zK_A I e hw0 hcp (fun V hV hk => ?_)
  have hVn : zlen co V ≤ n := by have := h.1; omega
  have hVe := zKD_w I h V hVn hk (fun k a b => (hes k a b).1)
  have key : ∀ j, j ≤ n → ∃ c : Int, zdv (g i) (zsum j (fun k => if zpv U k = -1 then C (co V k) * es k else 0) - C c) := by
    intro j
    induction j with
    | zero => intro _; exact ⟨0, by rw [zR_C0 I]; exact ⟨0, by show (0 : R) - 0 = g i * 0; grind⟩⟩
    | succ j ih =>
      intro hj
      obtain ⟨c, hc⟩ := ih (by omega)
      by_cases e2 : zpv U j = -1
      · obtain ⟨x, hx⟩ := (hes j (by omega) e2).2
        refine ⟨c + co V j * x, ?_⟩
        show zdv (g i) (zsum j _ + (if zpv U j = -1 then C (co V j) * es j else 0) - C (c + co V j * x))
        rw [if_pos e2, zR_Cadd I, zR_Cmul I]
        have := zdv_add hc (zdv_mul (C (co V j)) hx)
        have e3 : ∀ a b : R, a + C (co V j) * es j - (b + C (co V j) * C x) = a - b + C (co V j) * (es j - C x) := by intro a b; grind
        rw [e3]
        exact this
      · refine ⟨c, ?_⟩
        show zdv (g i) (zsum j _ + (if zpv U j = -1 then C (co V j) * es j else 0) - C c)
        rw [if_neg e2]
        have e3 : ∀ a b : R, a + 0 - b = a - b := by intro a b; grind
        rw [e3]
        exact hc
  obtain ⟨c, hc⟩ := key n (Nat.le_refl _)
  exact ⟨c, by rw [hVe]; exact hc⟩
/-- the same, where there are as many parts as dimensions -/
theorem zK_cnt {R : Type} [Lean.Grind.CommRing R] {p : Int} {inv : Int → Int} {co : R → Nat → Int} {X : R} {C : Int → R} (I : zIf R p inv co X C) {w : R} {n ρ m : Nat} {U : zD} {g : Nat → R} (h : zKD p co C w n ρ U) (hw0 : w ≠ 0) (hsq : zsq co w) (hg : zprd m g = w) (hg2 : ∀ i, i < m → 2 ≤ zlen co (g i)) (hm : n ≤ ρ + m) : ∀ i, i < m → zK p C (g i) := by
  have hc := zKD_cnt I h
  refine zK_B I (w := w) (n := n) (fr := fun k => decide (zpv U k = -1)) (gs := fun i => zprd (m - 1) (fun j => g (zskip i j))) h.1 (by omega) (fun i hi => ?_) (fun i j hi hj hji => ?_) (fun V hV hk h0 => zKD_free I h V hV hk h0)
  · obtain ⟨m', rfl⟩ : ∃ k, m = k + 1 := ⟨m - 1, by omega⟩
    have e := zprd_skip g i m' (by omega)
    rw [hg] at e
    have hgi : g i ≠ 0 := by intro h0; have := hg2 i hi; rw [h0, zL_0 I] at this; omega
    exact ⟨e, zcp_of I hgi (fun t t1 t2 => hsq t (by rw [e]; exact zdv_mm t1 t2)), hg2 i hi⟩
  · obtain ⟨m', rfl⟩ : ∃ k, m = k + 1 := ⟨m - 1, by omega⟩
    have : ∃ k, k < m' ∧ zskip i k = j := by
      by_cases hji : j < i
      · exact ⟨j, by omega, if_pos hji⟩
      · refine ⟨j - 1, by omega, ?_⟩
        simp only [zskip]
        rw [if_neg (by omega)]
        omega
    obtain ⟨k, hk, ek⟩ := this
    have := zprd_dv (g := fun i' => g (zskip i i')) hk
    simp only [ek] at this
    exact this
