/-! Judgements over the walk (zs_exec): the heap as a function D over a shape T; what a frame comes to. -/
abbrev zT : Type := List (Nat × Nat)
abbrev zD : Type := Int → Int → Int
def zqC (k l : Nat) (f : Int → Int) : zv_C := (k, (List.range l).map (fun j : Nat => f (j : Int)))
def zqH (T : zT) (D : zD) : zv_H := T.mapIdx (fun a t => zqC t.1 t.2 (D (a : Int)))
def zk (T : zT) (q : Int) : Nat := if 0 ≤ q then ((T[q.toNat]?).getD (99, 0)).1 else 99
def zn (T : zT) (q : Int) : Int := if 0 ≤ q then (((T[q.toNat]?).getD (99, 0)).2 : Int) else 0
def zu (D : zD) (q i x : Int) : zD := fun a j => if a = q ∧ j = i then x else D a j
def zin (x : Int) : Prop := -2147483648 ≤ x ∧ x ≤ 2147483647
/-- an object of the class k with n fields -/
def zob (T : zT) (q : Int) (k : Nat) (n : Int) : Prop := zk T q = k ∧ zn T q = n
/-- a place of an array -/
def zar (T : zT) (q : Int) (k : Nat) (i : Int) : Prop := zk T q = k ∧ 0 ≤ i ∧ i < zn T q ∧ zn T q ≤ 2147483647
def zrv (rt : Nat) (x : Int) (h : zv_H) : zv_R := match rt with
  | 0 => (0, (0, 0), h)
  | 1 => (1, (0, x), h)
  | _ => (1, (2, x), h)
def zj (E : List (List Int)) (d rt y pc : Nat) (ls st : List zv_V) (T : zT) (D : zD) (Q : Int → zT → zD → Prop) : Prop :=
  ∃ f x T' D', zs_exec E f d (y, pc, ls, st, zqH T D) = some (zrv rt x (zqH T' D')) ∧ Q x T' D'
def zc (E : List (List Int)) (d rt t : Nat) (as : List zv_V) (T : zT) (D : zD) (Q : Int → zT → zD → Prop) : Prop :=
  ∃ ls, zs_entry t as (zqH T D) = some (t, 0, ls, [], zqH T D) ∧ zj E d rt t 0 ls [] T D Q
theorem zs_more {E : List (List Int)} : ∀ (f f' d d' : Nat) (fr : zv_F) (r : zv_R), zs_exec E f d fr = some r → f ≤ f' → d ≤ d' → zs_exec E f' d' fr = some r := by
  intro f
  induction f with
  | zero => intro f' d d' fr r h; cases h
  | succ f ih =>
    intro f' d d' fr r h hf hd
    obtain ⟨f', rfl⟩ : ∃ k, f' = k + 1 := ⟨f' - 1, by omega⟩
    unfold zs_exec at h ⊢
    cases hs : zs_step E fr with
    | none => rw [hs] at h; cases h
    | some S =>
      rw [hs] at h
      match S, h with
      | .inl fr', h => exact ih f' d d' fr' r h (by omega) hd
      | .inr (.inr r'), h => exact h
      | .inr (.inl (t, as, g)), h =>
        match d, d', h, hd with
        | 0, _, h, _ => cases h
        | d + 1, d' + 1, h, hd =>
          simp only at h ⊢
          cases he : zs_entry t as g.2.2.2.2 with
          | none => rw [he] at h; cases h
          | some fr' =>
            rw [he] at h
            simp only at h ⊢
            cases hx : zs_exec E f d fr' with
            | none => rw [hx] at h; cases h
            | some r' =>
              rw [hx] at h
              rw [ih f' d d' fr' r' hx (by omega) (by omega)]
              simp only at h ⊢
              cases hb : zs_back r' g with
              | none => rw [hb] at h; cases h
              | some g' =>
                rw [hb] at h
                simp only at h ⊢
                exact ih f' (d + 1) (d' + 1) g' r h (by omega) (by omega)
theorem zj_d {E d d' rt y pc ls st T D Q} (hd : d ≤ d') (h : zj E d rt y pc ls st T D Q) : zj E d' rt y pc ls st T D Q := by
  obtain ⟨f, x, T', D', h, hq⟩ := h
  exact ⟨f, x, T', D', zs_more f f d d' _ _ h (Nat.le_refl _) hd, hq⟩
theorem zc_d {E d d' rt t as T D Q} (hd : d ≤ d') (h : zc E d rt t as T D Q) : zc E d' rt t as T D Q := by
  obtain ⟨ls, h1, h2⟩ := h
  exact ⟨ls, h1, zj_d hd h2⟩
theorem zj_mono {E d rt y pc ls st T D} {Q Q' : Int → zT → zD → Prop} (h : zj E d rt y pc ls st T D Q) (hq : ∀ x T D, Q x T D → Q' x T D) : zj E d rt y pc ls st T D Q' := by
  obtain ⟨f, x, T', D', h, h'⟩ := h
  exact ⟨f, x, T', D', h, hq _ _ _ h'⟩
theorem zc_mono {E d rt t as T D} {Q Q' : Int → zT → zD → Prop} (h : zc E d rt t as T D Q) (hq : ∀ x T D, Q x T D → Q' x T D) : zc E d rt t as T D Q' := by
  obtain ⟨ls, h1, h2⟩ := h
  exact ⟨ls, h1, zj_mono h2 hq⟩
/-- a step within a method -/
theorem zj_nx {E d rt y pc pc' ls ls' st st' T T' D D' Q} (e : zs_step E (y, pc, ls, st, zqH T D) = some (.inl (y, pc', ls', st', zqH T' D'))) (k : zj E d rt y pc' ls' st' T' D' Q) : zj E d rt y pc ls st T D Q := by
  obtain ⟨f, x, T1, D1, h, hq⟩ := k
  refine ⟨f + 1, x, T1, D1, ?_, hq⟩
  unfold zs_exec
  rw [e]
  exact h
theorem zj_ret {E d rt y pc ls st T D Q} (x : Int) (e : zs_step E (y, pc, ls, st, zqH T D) = some (.inr (.inr (zrv rt x (zqH T D))))) (k : Q x T D) : zj E d rt y pc ls st T D Q := by
  refine ⟨1, x, T, D, ?_, k⟩
  unfold zs_exec
  rw [e]
def zpush (rt : Nat) (x : Int) (st : List zv_V) : List zv_V := match rt with
  | 0 => st
  | 1 => (0, x) :: st
  | _ => (2, x) :: st
theorem zs_backrv {rt : Nat} {x : Int} {H : zv_H} {y pc : Nat} {ls st : List zv_V} {H' : zv_H} : zs_back (zrv rt x H) (y, pc, ls, st, H') = some (y, pc, ls, zpush rt x st, H) := by
  match rt with
  | 0 => rfl
  | 1 => rfl
  | n + 2 => rfl
theorem zj_call {E d rt rt' y pc t as ls st st' T D Q} (hd : 0 < d) (e : zs_step E (y, pc, ls, st, zqH T D) = some (.inr (.inl (t, as, (y, pc + 3, ls, st', zqH T D))))) (k : zc E (d - 1) rt' t as T D (fun x T' D' => zj E d rt y (pc + 3) ls (zpush rt' x st') T' D' Q)) : zj E d rt y pc ls st T D Q := by
  obtain ⟨ls1, he, f, x, T1, D1, h1, f2, x2, T2, D2, h2, hq⟩ := k
  obtain ⟨d, rfl⟩ : ∃ k, d = k + 1 := ⟨d - 1, by omega⟩
  refine ⟨max f f2 + 1, x2, T2, D2, ?_, hq⟩
  unfold zs_exec
  rw [e]
  simp only [he]
  rw [zs_more f (max f f2) d d _ _ h1 (Nat.le_max_left _ _) (Nat.le_refl _)]
  simp only [zs_backrv]
  exact zs_more f2 (max f f2) (d + 1) (d + 1) _ _ h2 (Nat.le_max_right _ _) (Nat.le_refl _)
theorem zc_of {E d rt t as ls T D Q} (e : ∀ h, zs_entry t as h = some (t, 0, ls, [], h)) (k : zj E d rt t 0 ls [] T D Q) : zc E d rt t as T D Q := ⟨ls, e _, k⟩
/-! the heap: what stands in it, what a writing makes of it -/
theorem zqH_len (T : zT) (D : zD) : (zqH T D).length = T.length := by simp [zqH]
theorem zq_get {T : zT} {D : zD} {q : Int} {k : Nat} (hk : zk T q = k) (h99 : k ≠ 99) : zh_at (zqH T D) q = some (zqC k (zn T q).toNat (D q)) ∧ 0 ≤ q ∧ ∃ l : Nat, T[q.toNat]? = some (k, l) ∧ zn T q = l := by
  unfold zk at hk
  by_cases h0 : 0 ≤ q
  · rw [if_pos h0] at hk
    cases ht : T[q.toNat]? with
    | none => rw [ht] at hk; exact absurd hk.symm h99
    | some t =>
      obtain ⟨k', l⟩ := t
      rw [ht] at hk
      obtain rfl : k' = k := hk
      have hn : zn T q = l := by simp [zn, h0, ht]
      refine ⟨?_, h0, l, rfl, hn⟩
      unfold zh_at
      rw [decide_eq_true h0]
      show (zqH T D)[q.toNat]? = _
      rw [zqH, List.getElem?_mapIdx, ht, hn]
      show some (zqC k' l (D ((q.toNat : Nat) : Int))) = _
      rw [Int.toNat_of_nonneg h0]
      rfl
  · rw [if_neg h0] at hk
    exact absurd hk.symm h99
theorem zqC_set {k l : Nat} {f : Int → Int} {j : Nat} {x : Int} (hj : j < l) : (k, (zqC k l f).2.set j x) = zqC k l (fun i => if i = (j : Int) then x else f i) := by
  unfold zqC
  congr 1
  apply List.ext_getElem?
  intro i
  by_cases hi : i < l
  · rw [List.getElem?_set]
    by_cases hij : j = i
    · subst hij
      simp [hj]
    · rw [if_neg hij]
      have : ¬ ((i : Int) = (j : Int)) := by omega
      simp [hi, this]
  · simp [hi]
theorem zq_set {T : zT} {D : zD} {q : Int} {k l j : Nat} {x : Int} (h0 : 0 ≤ q) (ht : T[q.toNat]? = some (k, l)) (hj : j < l) : (zqH T D).set q.toNat (k, (zqC k l (D q)).2.set j x) = zqH T (zu D q (j : Int) x) := by
  apply List.ext_getElem?
  intro i
  rw [List.getElem?_set]
  by_cases hi : q.toNat = i
  · rw [if_pos hi]
    subst hi
    rw [zqC_set hj]
    have hlt : q.toNat < (zqH T D).length := by rw [zqH_len]; exact (List.getElem?_eq_some_iff.mp ht).1
    rw [if_pos hlt, zqH, List.getElem?_mapIdx, ht]
    show some _ = some (zqC k l _)
    rw [Int.toNat_of_nonneg h0]
    congr 2
    funext i
    simp [zu]
  · rw [if_neg hi, zqH, zqH, List.getElem?_mapIdx, List.getElem?_mapIdx]
    cases hti : T[i]? with
    | none => rfl
    | some t =>
      have e : D (i : Int) = zu D q (j : Int) x (i : Int) := by
        funext j'
        have : ¬ ((i : Int) = q) := by omega
        simp [zu, this]
      show some (zqC t.1 t.2 (D (i : Int))) = some (zqC t.1 t.2 (zu D q (j : Int) x (i : Int)))
      rw [← e]
theorem zqC_get {k l : Nat} {f : Int → Int} {j : Nat} (hj : j < l) : (zqC k l f).2[j]? = some (f j) := by simp [zqC, hj]
theorem zqC_getD {k l : Nat} {f : Int → Int} {j : Nat} (hj : j < l) : (zqC k l f).2.getD j 0 = f j := by simp [zqC, hj]
theorem zqC_len {k l : Nat} {f : Int → Int} : (zqC k l f).2.length = l := by simp [zqC]
theorem zi_ixok {i : Int} {l : Nat} (h0 : 0 ≤ i) (hl : i < l) (hm : (l : Int) ≤ 2147483647) : zi_ix i l = some i.toNat := by
  have e : (Int32.ofInt i).toInt = i := Int32.toInt_ofInt_of_le (by omega) (by omega)
  have e2 : (Int32.ofInt i).toNatClampNeg = i.toNat := by
    show (Int32.ofInt i).toInt.toNat = _
    rw [e]
  have e3 : ¬ (Int32.ofInt i < 0) := by
    rw [Int32.lt_iff_toInt_lt, e]
    show ¬ i < 0
    omega
  unfold zi_ix
  rw [e2, decide_eq_false e3, decide_eq_true (show i.toNat < l by omega)]
  rfl
theorem zq_eq {T : zT} {D D' : zD} (h : ∀ a : Int, 0 ≤ a → a < T.length → ∀ i : Int, 0 ≤ i → i < zn T a → D a i = D' a i) : zqH T D = zqH T D' := by
  apply List.ext_getElem?
  intro i
  rw [zqH, zqH, List.getElem?_mapIdx, List.getElem?_mapIdx]
  cases ht : T[i]? with
  | none => rfl
  | some t =>
    have hl := (List.getElem?_eq_some_iff.mp ht).1
    have e : (List.range t.2).map (fun j : Nat => D (i : Int) (j : Int)) = (List.range t.2).map (fun j : Nat => D' (i : Int) (j : Int)) := by
      apply List.map_congr_left
      intro j hj
      refine h i (by omega) (by omega) j (by omega) ?_
      have : zn T (i : Int) = t.2 := by simp [zn, ht]
      rw [this]
      have := List.mem_range.mp hj
      omega
    show some (t.1, (List.range t.2).map (fun j : Nat => D (i : Int) (j : Int))) = some (t.1, (List.range t.2).map (fun j : Nat => D' (i : Int) (j : Int)))
    rw [e]
theorem zj_eq {E d rt y pc ls st T D D' Q} (h : zqH T D = zqH T D') (k : zj E d rt y pc ls st T D' Q) : zj E d rt y pc ls st T D Q := by
  unfold zj at k ⊢
  rw [h]
  exact k
/-- what stands in the heap alone counts -/
theorem zj_ext {E d rt y pc ls st T D} {Q : Int → zT → zD → Prop} (k : zj E d rt y pc ls st T D (fun x T D => ∃ D', zqH T D = zqH T D' ∧ Q x T D')) : zj E d rt y pc ls st T D Q := by
  obtain ⟨f, x, T1, D1, h, D2, e, hq⟩ := k
  exact ⟨f, x, T1, D2, by rw [h, e], hq⟩
theorem zc_ext {E d rt t as T D} {Q : Int → zT → zD → Prop} (k : zc E d rt t as T D (fun x T D => ∃ D', zqH T D = zqH T D' ∧ Q x T D')) : zc E d rt t as T D Q := by
  obtain ⟨ls, h1, h2⟩ := k
  exact ⟨ls, h1, zj_ext h2⟩
theorem zc_eq {E d rt t as T D D' Q} (h : zqH T D = zqH T D') (k : zc E d rt t as T D' Q) : zc E d rt t as T D Q := by
  unfold zc zj at k ⊢
  rw [h]
  exact k
