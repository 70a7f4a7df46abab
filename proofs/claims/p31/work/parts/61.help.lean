/-! The law's own helpers: its rows and what they hold. -/
theorem zi_pos (v : Int) : 0 ≤ zi_and v 2147483647 ∧ zi_and v 2147483647 ≤ 2147483647 := by
  show 0 ≤ ((Int32.ofInt v).toBitVec &&& (Int32.ofInt 2147483647).toBitVec).toInt ∧ ((Int32.ofInt v).toBitVec &&& (Int32.ofInt 2147483647).toBitVec).toInt ≤ 2147483647
  have h1 := (((Int32.ofInt v).toBitVec &&& (Int32.ofInt 2147483647).toBitVec)).toInt_lt
  refine ⟨?_, by omega⟩
  rw [BitVec.toInt_eq_msb_cond, BitVec.msb_and, show (Int32.ofInt 2147483647).toBitVec.msb = false from rfl, Bool.and_false]
  exact Int.natCast_nonneg _
theorem c90 {E : List (List Int)} {d : Nat} {T : zT} {D : zD} {Q : Int → zT → zD → Prop} {v n : Int} (h0 : 0 < n) (h1 : n ≤ 2147483647) (hQ : ∀ r, 0 ≤ r → r < n → Q r T D) : zc E d 1 90 [(0, v), (0, n)] T D Q := by
  have h := zi_pos v
  have e := Int.tmod_eq_emod_of_nonneg h.1 (b := n)
  refine e90 _ _ ⟨by unfold zin; omega, h0, h1, ?_⟩
  rw [e]
  exact hQ _ (Int.emod_nonneg _ (by omega)) (Int.emod_lt_of_pos _ h0)
theorem c91 {E : List (List Int)} {d : Nat} {T : zT} {D : zD} {Q : Int → zT → zD → Prop} {sc : List Int} (hsc : E[0]? = some sc) (hl : sc.length ≤ 2147483647) {k : Int} (h0 : 0 ≤ k) (h1 : k ≤ 1000) (hQ : ∀ v, Q v T D) : zc E d 1 91 [(2, (-2)), (0, k)] T D Q :=
  e91 hsc _ ⟨by unfold zin; omega, by unfold zin; omega, fun _ => hQ _, fun h => ⟨h0, h, by omega, hQ _⟩⟩
def zAr {R : Type} (co : R → Nat → Int) (T : zT) (U : zD) (q : Int) (f : R) : Prop := zk T q = 50 ∧ zn T q = 60 ∧ 158 ≤ q ∧ zlen co f ≤ 25 ∧ ∀ j : Int, 0 ≤ j → j < 60 → U q j = co f j.toNat
def zLT (N : Nat) (T : zT) : Prop := ∃ T1, T = zT0 ++ T1 ∧ (∀ t ∈ T1, t = ((50, 60) : Nat × Nat)) ∧ T1.length ≤ N
/-- the law's memory: ten registers and some rows -/
def zLs {R : Type} [Lean.Grind.CommRing R] (p : Int) (inv : Int → Int) (co : R → Nat → Int) (l : List R) (A : List (Int × R)) (N : Nat) (T : zT) (D : zD) : Prop :=
  ∃ S U, D = zS p inv co S U ∧ zLT N T ∧ zOK co S U ∧ l.length = 10 ∧ (∀ r : Int, 0 ≤ r → r < 10 → S (4 + 2 * r) = l.getD r.toNat 0) ∧ ∀ a ∈ A, zAr co T U a.1 a.2
theorem zLT_T {N : Nat} {T : zT} (h : zLT N T) : zTT T := by
  obtain ⟨T1, e, -⟩ := h
  exact ⟨T1, e⟩
theorem zLT_len {N : Nat} {T : zT} (h : zLT N T) : 158 ≤ T.length := by
  obtain ⟨T1, rfl, -⟩ := h
  rw [List.length_append, zT0_len]
  omega
theorem zLT_a {N : Nat} {T : zT} (h : zLT N T) : zLT (N + 1) (T ++ [(50, 60)]) := by
  obtain ⟨T1, rfl, h1, h2⟩ := h
  refine ⟨T1 ++ [(50, 60)], by rw [List.append_assoc], fun t ht => ?_, by simp; omega⟩
  rcases List.mem_append.mp ht with h | h
  · exact h1 t h
  · exact List.mem_singleton.mp h
theorem zLs_k {R : Type} [Lean.Grind.CommRing R] {p : Int} {inv : Int → Int} {co : R → Nat → Int} {l : List R} {A : List (Int × R)} {N : Nat} {T : zT} {D : zD} (h : zLs p inv co l A N T D) : zk T 0 = 7 := by
  obtain ⟨S, U, rfl, hT, -⟩ := h
  exact zO_k (zLT_T hT)
theorem zk_lt {T : zT} {q : Int} {k : Nat} (h : zk T q = k) (h99 : k ≠ 99) : 0 ≤ q ∧ q < T.length := by
  unfold zk at h
  split at h
  · next h0 =>
    cases e : T[q.toNat]? with
    | none => rw [e] at h; exact absurd h.symm h99
    | some t =>
      have := (List.getElem?_eq_some_iff.mp e).1
      omega
  · exact absurd h.symm h99
theorem zk_app {T t : zT} {q : Int} (h0 : 0 ≤ q) (h1 : q < T.length) : zk (T ++ t) q = zk T q ∧ zn (T ++ t) q = zn T q := by
  unfold zk zn
  rw [if_pos h0, if_pos h0, if_pos h0, if_pos h0, List.getElem?_append_left (by omega)]
  exact ⟨rfl, rfl⟩
theorem zkN {T : zT} {k n : Nat} : zk (T ++ [(k, n)]) (T.length : Int) = k ∧ zn (T ++ [(k, n)]) (T.length : Int) = n := by
  unfold zk zn
  rw [if_pos (by omega), if_pos (by omega), Int.toNat_natCast, List.getElem?_append_right (Nat.le_refl _), Nat.sub_self]
  exact ⟨rfl, rfl⟩
theorem zAr_a {R : Type} {co : R → Nat → Int} {T t : zT} {U U' : zD} {q : Int} {f : R} (h : zAr co T U q f) (hU : ∀ i, U' q i = U q i) : zAr co (T ++ t) U' q f := by
  obtain ⟨h1, h2, h3, h4, h5⟩ := h
  have hq := zk_lt h1 (by decide)
  have e := zk_app (t := t) hq.1 hq.2
  exact ⟨e.1.trans h1, e.2.trans h2, h3, h4, fun j a b => (hU j).trans (h5 j a b)⟩
theorem zAr_u {R : Type} {co : R → Nat → Int} {T : zT} {U U' : zD} {q : Int} {f : R} (h : zAr co T U q f) (hU : ∀ i, U' q i = U q i) : zAr co T U' q f := by
  obtain ⟨h1, h2, h3, h4, h5⟩ := h
  exact ⟨h1, h2, h3, h4, fun j a b => (hU j).trans (h5 j a b)⟩
theorem zOK_hi {R : Type} {co : R → Nat → Int} {S : Int → R} {U U' : zD} (h : zOK co S U) (hU : ∀ a i, a < 158 → U' a i = U a i) : zOK co S U' := by
  obtain ⟨h1, ⟨h2, h3⟩, h4, h5⟩ := h
  refine ⟨h1, ⟨fun i a b => ?_, fun i j a1 a2 a3 a4 a5 => ?_⟩, fun i a b => ?_, fun i j a1 a2 a3 a4 a5 => ?_⟩
  · rw [hU _ _ (by decide)]; exact h2 i a b
  · rw [hU _ _ (by decide), hU _ _ (by decide)]; exact h3 i j a1 a2 a3 a4 a5
  · rw [hU _ _ (by decide)]; exact h4 i a b
  · rw [hU _ _ (by decide), hU _ _ (by decide)]; exact h5 i j a1 a2 a3 a4 a5
theorem zMu_hi {a : Int} (i : Int) (h : 158 ≤ a) : zMu a i = true := by
  unfold zMu
  simp only [Bool.or_eq_true, Bool.and_eq_true, decide_eq_true_eq]
  omega
theorem zS_new {R : Type} {p : Int} {inv : Int → Int} {co : R → Nat → Int} {S : Int → R} {U : zD} {n : Nat} {l : List Int} (h : 158 ≤ n) : znew (zS p inv co S U) n l = zS p inv co S (znew U n l) := by
  funext a i
  by_cases ha : a = (n : Int)
  · have e : znew U n l a i = l.getD i.toNat 0 := by unfold znew; exact if_pos ha
    rw [zS_mu (zMu_hi i (by omega)) (by omega), e]
    unfold znew
    exact if_pos ha
  · have e1 : znew (zS p inv co S U) n l a i = zS p inv co S U a i := by unfold znew; exact if_neg ha
    have e2 : ∀ b j, b ≠ (n : Int) → znew U n l b j = U b j := fun b j hb => by unfold znew; exact if_neg hb
    rw [e1]
    unfold zS
    rw [e2 a i ha]
/-- a new row -/
theorem zLs_n {R : Type} [Lean.Grind.CommRing R] {p : Int} {inv : Int → Int} {co : R → Nat → Int} {X : R} {C : Int → R} (I : zIf R p inv co X C) {l : List R} {A : List (Int × R)} {N : Nat} {T : zT} {D : zD} (h : zLs p inv co l A N T D) :
    zLs p inv co l (((T.length : Int), 0) :: A) (N + 1) (T ++ [(50, 60)]) (znew D T.length (List.replicate 60 0)) ∧ (158 : Int) ≤ T.length ∧ ∀ a ∈ A, a.1 ≠ (T.length : Int) := by
  obtain ⟨S, U, rfl, hT, hok, h10, hl, hA⟩ := h
  have hlen := zLT_len hT
  have hne : ∀ a ∈ A, a.1 ≠ (T.length : Int) := fun a ha => by
    have := (zk_lt (hA a ha).1 (by decide)).2
    omega
  have hz : ∀ b j, b ≠ (T.length : Int) → znew U T.length (List.replicate 60 0) b j = U b j := fun b j hb => by unfold znew; exact if_neg hb
  refine ⟨⟨S, znew U T.length (List.replicate 60 0), zS_new hlen, zLT_a hT, zOK_hi hok (fun a i ha => hz a i (by omega)), h10, hl, fun a ha => ?_⟩, by omega, hne⟩
  rcases List.mem_cons.mp ha with rfl | ha
  · refine ⟨zkN.1, zkN.2, by show (158 : Int) ≤ T.length; omega, by show zlen co (0 : R) ≤ 25; rw [zL_0 I]; omega, fun j j0 j1 => ?_⟩
    show znew U T.length (List.replicate 60 0) (T.length : Int) j = co (0 : R) j.toNat
    have e : znew U T.length (List.replicate 60 0) (T.length : Int) j = (List.replicate 60 (0 : Int)).getD j.toNat 0 := by unfold znew; exact if_pos rfl
    rw [e, zR_zero I, List.getD_eq_getElem?_getD, List.getElem?_replicate]
    split <;> rfl
  · exact zAr_a (hA a ha) (fun i => hz _ i (hne a ha))
/-- a row's place, written -/
theorem zLs_w {R : Type} [Lean.Grind.CommRing R] {p : Int} {inv : Int → Int} {co : R → Nat → Int} {X : R} {C : Int → R} (I : zIf R p inv co X C) {l : List R} {A : List (Int × R)} {N : Nat} {T : zT} {D : zD} {q : Int} {f f' : R} {k : Nat} {x : Int} (h : zLs p inv co l ((q, f) :: A) N T D) (hne : ∀ a ∈ A, a.1 ≠ q) (hk : k < 25) (hf : ∀ j, co f' j = if j = k then x else co f j) :
    zLs p inv co l ((q, f') :: A) N T (zu D q (k : Int) x) := by
  obtain ⟨S, U, rfl, hT, hok, h10, hl, hA⟩ := h
  obtain ⟨a1, a2, a3, a4, a5⟩ := hA (q, f) List.mem_cons_self
  have hz : ∀ b j, b ≠ q → zu U q (k : Int) x b j = U b j := fun b j hb => by unfold zu; exact if_neg (fun hh => hb hh.1)
  refine ⟨S, zu U q (k : Int) x, zS_zu (zMu_hi _ a3) (by show q ≠ 2; have : (158 : Int) ≤ q := a3; omega), hT, zOK_hi hok (fun a i ha => hz a i (by have : (158 : Int) ≤ q := a3; omega)), h10, hl, fun a ha => ?_⟩
  rcases List.mem_cons.mp ha with rfl | ha
  · refine ⟨a1, a2, a3, zL_le I (fun j hj => ?_), fun j j0 j1 => ?_⟩
    · rw [hf, if_neg (by omega)]
      exact zL_hi I (by have : zlen co f ≤ 25 := a4; omega)
    · show zu U q (k : Int) x q j = co f' j.toNat
      rw [hf]
      by_cases e : j = (k : Int)
      · rw [if_pos (by omega)]
        unfold zu
        exact if_pos ⟨rfl, e⟩
      · rw [if_neg (by omega), ← a5 j j0 j1]
        unfold zu
        exact if_neg (fun hh => e hh.2)
  · exact zAr_u (hA a (List.mem_cons_of_mem _ ha)) (fun i => hz _ i (hne a ha))
theorem zLs_at {R : Type} [Lean.Grind.CommRing R] {p : Int} {inv : Int → Int} {co : R → Nat → Int} {l : List R} {A : List (Int × R)} {N : Nat} {T : zT} {D : zD} (h : zLs p inv co l A N T D) {q : Int} {f : R} (ha : (q, f) ∈ A) :
    zk T q = 50 ∧ zn T q = 60 ∧ 158 ≤ q ∧ zlen co f ≤ 25 ∧ (∀ j : Int, 0 ≤ j → j < 60 → D q j = co f j.toNat) ∧ ∀ j : Int, 0 ≤ j → j < 60 → zar T q 50 j := by
  obtain ⟨S, U, rfl, hT, hok, h10, hl, hA⟩ := h
  obtain ⟨a1, a2, a3, a4, a5⟩ := hA _ ha
  refine ⟨a1, a2, a3, a4, fun j j0 j1 => ?_, fun j j0 j1 => ⟨a1, j0, ?_, ?_⟩⟩
  · rw [zS_mu (zMu_hi j a3) (by have : (158 : Int) ≤ q := a3; show q ≠ 2; omega)]
    exact a5 j j0 j1
  · rw [show zn T q = 60 from a2]; exact j1
  · rw [show zn T q = 60 from a2]; decide
/-- after a call: one register is new -/
theorem zLs_s {R : Type} [Lean.Grind.CommRing R] {p : Int} {inv : Int → Int} {co : R → Nat → Int} {l : List R} {A : List (Int × R)} {N : Nat} {T : zT} {S S' : Int → R} {U U' : zD} {to : Int} {v : R} (hT : zLT N T) (h10 : l.length = 10) (hl : ∀ r : Int, 0 ≤ r → r < 10 → S (4 + 2 * r) = l.getD r.toNat 0) (hA : ∀ a ∈ A, zAr co T U a.1 a.2) (t0 : 0 ≤ to) (t1 : to < 10) (hok : zOK co S' U') (hk : zKp (zup S (4 + 2 * to) v) U S' U') : zLs p inv co (l.set to.toNat v) A N T (zS p inv co S' U') := by
  refine ⟨S', U', rfl, hT, hok, by rw [List.length_set, h10], fun r r0 r1 => ?_, fun a ha => zAr_u (hA a ha) (fun i => hk.2 _ _ ?_)⟩
  · rw [hk.1 _ (by omega), List.getD_eq_getElem?_getD, List.getElem?_set]
    by_cases e : r = to
    · subst e
      rw [zup_s, if_pos rfl, if_pos (by omega)]
      rfl
    · rw [zup_o _ _ (by omega), if_neg (by omega), hl r r0 r1, List.getD_eq_getElem?_getD]
  · have : (158 : Int) ≤ a.1 := (hA a ha).2.2.1
    omega
