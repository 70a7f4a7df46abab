/-! The law's own helpers: degree, has, fill, times. -/
theorem c94 {R : Type} [Lean.Grind.CommRing R] {p : Int} {inv : Int → Int} {co : R → Nat → Int} {X : R} {C : Int → R} (I : zIf R p inv co X C) {E : List (List Int)} {d : Nat} {Q : Int → zT → zD → Prop} {l : List R} {A : List (Int × R)} {N : Nat} {T : zT} {D : zD} (h : zLs p inv co l A N T D) {q : Int} {f : R} (ha : (q, f) ∈ A) (hQ : Q ((zlen co f : Int) - 1) T D) : zc E d 1 94 [(2, q)] T D Q := by
  obtain ⟨h1, h2, h3, h4, h5, h6⟩ := zLs_at h ha
  have hp := zR_p I
  have key : ∀ n : Nat, zlen co f ≤ n → n ≤ 60 → zj E d 1 94 5 [(2, q), (0, (n : Int) - 1)] [] T D Q := by
    intro n
    induction n with
    | zero =>
      intro hn _
      refine z94_5 _ _ ⟨by unfold zin; omega, fun _ => ?_, fun hh => by omega⟩
      rwa [show ((0 : Nat) : Int) - 1 = (zlen co f : Int) - 1 by omega]
    | succ n ih =>
      intro hn h60
      have e : ((n + 1 : Nat) : Int) - 1 = (n : Int) := by omega
      rw [e]
      have hr := zR_rng I f n
      have e5 := h5 (n : Int) (by omega) (by omega)
      rw [Int.toNat_natCast] at e5
      refine z94_5 _ _ ⟨by unfold zin; omega, fun hh => by omega, fun _ => ⟨h6 _ (by omega) (by omega), by rw [e5]; unfold zin; omega, fun hne => ?_, fun h0 => ?_⟩⟩
      · rw [e5] at hne
        have := zL_gt I hne
        rwa [show (n : Int) = (zlen co f : Int) - 1 by omega]
      · rw [e5] at h0
        exact ih (zL_lt I hn h0) (by omega)
  refine e94 _ ⟨h1, ?_⟩
  rw [h2]
  exact key 60 (by omega) (Nat.le_refl _)
theorem l20 {R : Type} [Lean.Grind.CommRing R] {p : Int} {inv : Int → Int} {co : R → Nat → Int} {X : R} {C : Int → R} (I : zIf R p inv co X C) {E : List (List Int)} {d : Nat} {Q : Int → zT → zD → Prop} {l : List R} {A : List (Int × R)} {N : Nat} {T : zT} {D : zD} (h : zLs p inv co l A N T D) (hd : 1 ≤ d) {r : Int} (r0 : 0 ≤ r) (r1 : r < 10) (hQ : Q ((zlen co (l.getD r.toNat 0) : Int) - 1) T D) : zc E d 1 20 [(2, 0), (0, r)] T D Q := by
  obtain ⟨S, U, rfl, hT, hok, h10, hl, hA⟩ := h
  rw [← hl r r0 r1] at hQ
  exact c20 I (zLT_T hT) hok.1 hd r0 r1 hQ
theorem l16 {R : Type} [Lean.Grind.CommRing R] {p : Int} {inv : Int → Int} {co : R → Nat → Int} {X : R} {C : Int → R} (I : zIf R p inv co X C) {E : List (List Int)} {d : Nat} {Q : Int → zT → zD → Prop} {l : List R} {A : List (Int × R)} {N : Nat} {T : zT} {D : zD} (h : zLs p inv co l A N T D) (hd : 1 ≤ d) {r : Int} {k : Nat} (r0 : 0 ≤ r) (r1 : r < 10) (hk : k < 25) (hQ : Q (co (l.getD r.toNat 0) k) T D) : zc E d 1 16 [(2, 0), (0, r), (0, (k : Int))] T D Q := by
  obtain ⟨S, U, rfl, hT, hok, h10, hl, hA⟩ := h
  rw [← hl r r0 r1] at hQ
  exact c16 I (zLT_T hT) hok.1 hd r0 r1 hk hQ
theorem zLs_len {R : Type} [Lean.Grind.CommRing R] {p : Int} {inv : Int → Int} {co : R → Nat → Int} {l : List R} {A : List (Int × R)} {N : Nat} {T : zT} {D : zD} (h : zLs p inv co l A N T D) {r : Int} (r0 : 0 ≤ r) (r1 : r < 10) : zlen co (l.getD r.toNat 0) ≤ 25 := by
  obtain ⟨S, U, rfl, hT, hok, h10, hl, hA⟩ := h
  rw [← hl r r0 r1]
  exact hok.1 _
theorem c95 {R : Type} [Lean.Grind.CommRing R] {p : Int} {inv : Int → Int} {co : R → Nat → Int} {X : R} {C : Int → R} (I : zIf R p inv co X C) {E : List (List Int)} {d : Nat} {Q : Int → zT → zD → Prop} {l : List R} {A : List (Int × R)} {N : Nat} {T : zT} {D : zD} (h : zLs p inv co l A N T D) (hd : 2 ≤ d) {r q : Int} {f : R} (r0 : 0 ≤ r) (r1 : r < 10) (ha : (q, f) ∈ A) (e : l.getD r.toNat 0 = f) (hQ : Q 1 T D) : zc E d 1 95 [(2, 0), (0, r), (2, q)] T D Q := by
  obtain ⟨h1, h2, h3, h4, h5, h6⟩ := zLs_at h ha
  have hp := zR_p I
  have key : ∀ m n : Nat, n + m = 25 → zj E d 1 95 16 [(2, 0), (0, r), (2, q), (0, (n : Int))] [] T D Q := by
    intro m
    induction m with
    | zero =>
      intro n hn
      exact z95_16 _ _ _ _ ⟨by unfold zin; omega, fun _ => hQ, fun hh => by omega⟩
    | succ m ih =>
      intro n hn
      refine z95_16 _ _ _ _ ⟨by unfold zin; omega, fun hh => by omega, fun _ => ⟨by omega, zLs_k h, ?_⟩⟩
      refine l16 I h (by omega) r0 r1 (by omega) ?_
      have e5 := h5 (n : Int) (by omega) (by omega)
      rw [Int.toNat_natCast] at e5
      have hr := zR_rng I f n
      rw [e, e5]
      exact ⟨h6 _ (by omega) (by omega), by unfold zin; omega, by unfold zin; omega, fun _ => ih (n + 1) (by omega), fun hh => absurd rfl hh⟩
  refine e95 _ _ _ ⟨by omega, zLs_k h, ?_⟩
  refine l20 I h (by omega) r0 r1 ?_
  refine c94 I h ha ?_
  rw [e]
  exact ⟨by unfold zin; omega, by unfold zin; omega, fun _ => key 25 0 (by omega), fun hh => absurd rfl hh⟩
/-- a coefficient set, with a register and a row alike -/
theorem l93 {R : Type} [Lean.Grind.CommRing R] {p : Int} {inv : Int → Int} {co : R → Nat → Int} {X : R} {C : Int → R} (I : zIf R p inv co X C) {E : List (List Int)} {d : Nat} {Q : Int → zT → zD → Prop} {l : List R} {A : List (Int × R)} {N : Nat} {T : zT} {D : zD} (h : zLs p inv co l A N T D) (hd : 1 ≤ d) {r c : Int} {k : Nat} {v : R} (r0 : 0 ≤ r) (r1 : r < 10) (hk : k < 25) (c0 : 0 ≤ c) (c1 : c < p) (hv : ∀ j, co v j = if j = k then c else co (l.getD r.toNat 0) j) (hQ : ∀ x D', zLs p inv co (l.set r.toNat v) A N T D' → Q x T D') : zc E d 1 93 [(2, 0), (0, r), (0, (k : Int)), (0, c)] T D Q := by
  have hp := zR_p I
  obtain ⟨S, U, rfl, hT, hok, h10, hl, hA⟩ := h
  have hvl : zlen co v ≤ 25 := zL_le I (fun j hj => by
    rw [hv, if_neg (by omega), ← hl r r0 r1]
    exact zL_hi I (by have := hok.1 (4 + 2 * r); omega))
  refine c93 I (zLT_T hT) hok.1 (v := v) hd r0 r1 hk (by unfold zin; omega) (fun j => ?_) (hQ _ _ (zLs_s hT h10 hl hA r0 r1 (zOK_u hok hvl) (zKp_r _ _)))
  rw [hv j, hl r r0 r1, Int.emod_eq_of_lt c0 c1]
theorem c92 {R : Type} [Lean.Grind.CommRing R] {p : Int} {inv : Int → Int} {co : R → Nat → Int} {X : R} {C : Int → R} (I : zIf R p inv co X C) {E : List (List Int)} {d : Nat} {Q : Int → zT → zD → Prop} {sc : List Int} (hsc : E[0]? = some sc) (hsl : sc.length ≤ 2147483647) {l : List R} {A : List (Int × R)} {N : Nat} {T : zT} {D : zD} (h : zLs p inv co l A N T D) (hd : 2 ≤ d) {r fr : Int} (r0 : 0 ≤ r) (r1 : r < 10) (f0 : 0 ≤ fr) (f1 : fr ≤ 100) (hz : l.getD r.toNat 0 = 0)
    (hQ : ∀ T' D' f, zlen co f ≤ 8 → zLs p inv co (l.set r.toNat f) (((T.length : Int), f) :: A) (N + 1) T' D' → Q (T.length : Int) T' D') : zc E d 2 92 [(2, 0), (0, r), (2, (-2)), (0, fr), (0, 7), (0, p)] T D Q := by
  have hp := zR_p I
  obtain ⟨h', h158, hne⟩ := zLs_n I h
  generalize hq : (T.length : Int) = q at h' h158 hne hQ
  have key : ∀ (m n : Nat) (dg : Int) (f : R) (T : zT) (D : zD), n + m = 25 → dg ≤ 7 → -1 ≤ dg → zlen co f ≤ 8 → zlen co f ≤ n → zLs p inv co (l.set r.toNat f) ((q, f) :: A) (N + 1) T D → zj E d 2 92 25 [(2, 0), (0, r), (2, (-2)), (0, fr), (0, 7), (0, p), (2, q), (0, dg), (0, (n : Int))] [] T D Q := by
    intro m
    induction m with
    | zero =>
      intro n dg f T D hn hd1 hd2 hf8 hfn hs
      exact z92_25 _ _ _ _ _ _ _ _ ⟨by unfold zin; omega, fun _ => ⟨by omega, hQ T D f hf8 hs⟩, fun hh => by omega⟩
    | succ m ih =>
      intro n dg f T D hn hd1 hd2 hf8 hfn hs
      have h10 : l.length = 10 := by
        obtain ⟨S, U, -, -, -, h10, -⟩ := h
        exact h10
      have hg : ∀ v : R, (l.set r.toNat v).getD r.toNat 0 = v := fun v => by
        rw [List.getD_eq_getElem?_getD, List.getElem?_set, if_pos rfl, if_pos (by omega)]
        rfl
      have step : ∀ (T : zT) (D : zD) (x : Int), zLs p inv co (l.set r.toNat f) ((q, f) :: A) (N + 1) T D → 0 ≤ x → x < p → (dg < (n : Int) → x = 0) →
          zc E (d - 1) 1 93 [(2, 0), (0, r), (0, (n : Int)), (0, (zu D q (n : Int) x) q (n : Int))] T (zu D q (n : Int) x) (fun x9 T9 D9 => zj E d 2 92 25 [(2, 0), (0, r), (2, (-2)), (0, fr), (0, 7), (0, p), (2, q), (0, dg), (0, (n : Int) + 1)] [] T9 D9 Q) := by
        intro T D x hs x0 x1 hx
        obtain ⟨v, hv⟩ := zbuild I 25 (fun j => if j = n then x else co f j) (fun j => by
          split
          · omega
          · exact zR_rng I f j) (fun j hj => by
          rw [if_neg (by omega)]
          exact zL_hi I (by omega))
        have hvn : zlen co v ≤ n + 1 := zL_le I (fun j hj => by
          rw [hv, if_neg (by omega)]
          exact zL_hi I (by omega))
        have hv8 : zlen co v ≤ 8 := zL_le I (fun j hj => by
          rw [hv]
          split
          · exact hx (by omega)
          · exact zL_hi I (by omega))
        have e : (zu D q (n : Int) x) q (n : Int) = x := if_pos ⟨rfl, rfl⟩
        rw [e]
        refine l93 I (zLs_w I hs hne (f' := v) (by omega) hv) (v := v) (by omega) r0 r1 (by omega) x0 x1 (fun j => by rw [hv j, hg]) (fun x9 D9 h9 => ?_)
        rw [List.set_set] at h9
        exact ih (n + 1) dg v T D9 (by omega) hd1 hd2 hv8 hvn h9
      have har : ∀ (T : zT) (D : zD), zLs p inv co (l.set r.toNat f) ((q, f) :: A) (N + 1) T D → zar T q 50 (n : Int) := fun T D hs => (zLs_at hs List.mem_cons_self).2.2.2.2.2 _ (by omega) (by omega)
      refine z92_25 _ _ _ _ _ _ _ _ ⟨by unfold zin; omega, fun hh => by omega, fun _ => ⟨by unfold zin; omega, fun hle => ⟨by omega, ?_⟩, fun hgt => ⟨har T D hs, by omega, zLs_k hs, step T D 0 hs (by omega) (by omega) (fun _ => rfl)⟩⟩⟩
      have et : (n : Int).tmod 4 = (n : Int) % 4 := Int.tmod_eq_emod_of_nonneg (by omega)
      refine c91 hsc hsl (by rw [et]; omega) (by rw [et]; omega) (fun v => ?_)
      refine c90 (by omega) (by omega) (fun x x0 x1 => ?_)
      exact ⟨har T D hs, zLs_k hs, step T D x hs x0 x1 (fun hh => by omega)⟩
  have e : l.set r.toNat 0 = l := by
    apply List.ext_getElem?
    intro i
    rw [List.getElem?_set]
    by_cases hi : r.toNat = i
    · subst hi
      rw [if_pos rfl]
      rw [List.getD_eq_getElem?_getD] at hz
      cases hc : l[r.toNat]? with
      | none =>
        rw [if_neg]
        intro hh
        rw [List.getElem?_eq_getElem hh] at hc
        cases hc
      | some y =>
        rw [hc] at hz
        rw [if_pos (List.getElem?_eq_some_iff.mp hc).1]
        exact congrArg some hz.symm
    · rw [if_neg hi]
  refine e92 _ _ _ _ _ ⟨by omega, ?_⟩
  refine c91 hsc hsl f0 (by omega) (fun v => ?_)
  refine c90 (by decide) (by decide) (fun x x0 x1 => ?_)
  rw [hq]
  refine key 25 0 (x - 1) 0 _ _ (by omega) (by omega) (by omega) (by rw [zL_0 I]; omega) (by rw [zL_0 I]; omega) ?_
  rw [e]
  exact h'
