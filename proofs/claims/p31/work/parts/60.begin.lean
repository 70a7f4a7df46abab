/-! The constructor, run; and begin. -/
theorem zs_insE {E : List (List Int)} {y pc len a b : Nat} {v : Int} {ls st : List zv_V} {h : zv_H} {ins : Instr} {S : zv_S} (hz : zs_ins [] y pc ls st h ins len a b v = some S) : zs_ins E y pc ls st h ins len a b v = some S := by
  cases ins
  case iaload =>
    simp only [zs_ins] at hz ⊢
    obtain ⟨i, r, e1, hz1⟩ := zo_1_inv hz
    subst e1
    obtain ⟨q, r2, e2, hz2⟩ := zo_1_inv hz1
    subst e2
    show (cond (decide (0 ≤ q)) _ _) = _
    by_cases hq : 0 ≤ q
    · rw [decide_eq_true hq] at hz2 ⊢
      exact hz2
    · rw [decide_eq_false hq] at hz2
      have : (zo_g (decide (q ≤ -2)) (zo_o (([] : List (List Int))[(-q - 2).toNat]?) fun l => zo_o (zi_ix i l.length) fun j => zs_nx y (pc + 1) ls ((0, l.getD j 0) :: r2) h)) = some S := hz2
      rw [List.getElem?_nil] at this
      obtain ⟨-, h2⟩ := zo_g_inv this
      cases h2
  case arraylength =>
    simp only [zs_ins] at hz ⊢
    obtain ⟨q, r2, e2, hz2⟩ := zo_1_inv hz
    subst e2
    show (cond (decide (0 ≤ q)) _ _) = _
    by_cases hq : 0 ≤ q
    · rw [decide_eq_true hq] at hz2 ⊢
      exact hz2
    · rw [decide_eq_false hq] at hz2
      have : (zo_g (decide (q ≤ -2)) (zo_o (([] : List (List Int))[(-q - 2).toNat]?) fun l => zs_nx y (pc + 1) ls ((0, (l.length : Int)) :: r2) h)) = some S := hz2
      rw [List.getElem?_nil] at this
      obtain ⟨-, h2⟩ := zo_g_inv this
      cases h2
  all_goals exact hz
theorem zs_stepN {E : List (List Int)} {fr : zv_F} {S : zv_S} (h : zs_step [] fr = some S) : zs_step E fr = some S := by
  obtain ⟨y, pc, ls, st, hp⟩ := fr
  have h1 : (zo_o (zt_at y pc) fun e => match e with | (ins, len, a, b, _, v) => zs_ins [] y pc ls st hp ins len a b v) = some S := h
  show (zo_o (zt_at y pc) fun e => match e with | (ins, len, a, b, _, v) => zs_ins E y pc ls st hp ins len a b v) = some S
  obtain ⟨⟨ins, len, a, b, w, v⟩, he, h2⟩ := zo_o_inv h1
  rw [he]
  exact zs_insE h2
theorem zs_execN {E : List (List Int)} : ∀ (f d : Nat) (fr : zv_F) (r : zv_R), zs_exec [] f d fr = some r → zs_exec E f d fr = some r := by
  intro f
  induction f with
  | zero => intro d fr r h; cases h
  | succ f ih =>
    intro d fr r h
    unfold zs_exec at h ⊢
    cases hs : zs_step [] fr with
    | none => rw [hs] at h; cases h
    | some S =>
      rw [hs] at h
      rw [zs_stepN hs]
      match S, h with
      | .inl fr', h => exact ih d fr' r h
      | .inr (.inr r'), h => exact h
      | .inr (.inl (t, as, g)), h =>
        match d, h with
        | 0, h => cases h
        | d + 1, h =>
          simp only at h ⊢
          cases he : zs_entry t as g.2.2.2.2 with
          | none => rw [he] at h; cases h
          | some fr' =>
            rw [he] at h
            simp only at h ⊢
            cases hx : zs_exec [] f d fr' with
            | none => rw [hx] at h; cases h
            | some r' =>
              rw [hx] at h
              rw [ih d fr' r' hx]
              simp only at h ⊢
              cases hb : zs_back r' g with
              | none => rw [hb] at h; cases h
              | some g' =>
                rw [hb] at h
                simp only at h ⊢
                exact ih (d + 1) g' r h
def zCt0 : zv_F := (0, 0, [(2, 0), (9, 0)], [], [(7, [-1, -1, -1, -1, -1, -1, -1, -1, -1, -1, -1])])
theorem zctor0 : zs_exec [] 4000 2 zCt0 = some (0, (0, 0), zH0) := by decide +kernel
theorem zqH_of (H : zv_H) : zqH (H.map (fun c => (c.1, c.2.length))) (fun a i => ((H[a.toNat]?).getD (0, [])).2.getD i.toNat 0) = H := by
  apply List.ext_getElem?
  intro i
  rw [zqH, List.getElem?_mapIdx, List.getElem?_map]
  cases hi : H[i]? with
  | none => rfl
  | some c =>
    obtain ⟨k, l⟩ := c
    have e : (List.range l.length).map (fun j : Nat => ((H[((i : Int)).toNat]?).getD (0, [])).2.getD ((j : Int)).toNat 0) = l := by
      rw [Int.toNat_natCast, hi]
      apply List.ext_getElem?
      intro j
      by_cases hj : j < l.length
      · simp [hj]
      · simp [hj]
    show some (k, (List.range l.length).map (fun j : Nat => ((H[((i : Int)).toNat]?).getD (0, [])).2.getD ((j : Int)).toNat 0)) = some (k, l)
    rw [e]
theorem c0 {E : List (List Int)} {d : Nat} {D : zD} {Q : Int → zT → zD → Prop} (hd : 2 ≤ d) (hQ : Q 0 zT0 zCo) : zc E d 0 0 [(2, 0)] [(7, 11)] (znew D 0 [-1, -1, -1, -1, -1, -1, -1, -1, -1, -1, -1]) Q := by
  refine ⟨[(2, 0), (9, 0)], rfl, 4000, 0, zT0, zCo, ?_, hQ⟩
  have e : zqH [(7, 11)] (znew D 0 [-1, -1, -1, -1, -1, -1, -1, -1, -1, -1, -1]) = [(7, [-1, -1, -1, -1, -1, -1, -1, -1, -1, -1, -1])] := rfl
  have e2 : zqH zT0 zCo = zH0 := zqH_of zH0
  rw [e, e2]
  exact zs_more 4000 4000 2 d _ _ (zs_execN _ _ _ _ zctor0) (Nat.le_refl _) hd
/-! begin -/
theorem zprime : ∀ p ∈ ([2, 3, 5, 7, 11, 13, 31, 97] : List Int), (List.range 100).all (fun d => decide ((d : Int) < 2) || decide (p ≤ (d : Int)) || decide (p.tmod (d : Int) ≠ 0)) = true := by decide +kernel
theorem c11 {R : Type} [Lean.Grind.CommRing R] {p : Int} {inv : Int → Int} {co : R → Nat → Int} {X : R} {C : Int → R} (I : zIf R p inv co X C) {E : List (List Int)} {d : Nat} {T : zT} {D : zD} {Q : Int → zT → zD → Prop} (hQ : Q 1 T D) : zc E d 1 11 [(0, p)] T D Q := by
  have hp := zR_p I
  have key : ∀ (m k : Nat), (k : Int) + m = p → 2 ≤ k → zj E d 1 11 15 [(0, p), (0, (k : Int))] [] T D Q := by
    intro m
    induction m with
    | zero =>
      intro k hk h2
      exact z11_15 _ _ ⟨zin_n (by omega), by unfold zin; omega, fun _ => hQ, fun h => by omega⟩
    | succ m ih =>
      intro k hk h2
      have h3 := List.all_eq_true.mp (zprime p I.1) k (List.mem_range.mpr (by omega))
      simp only [Bool.or_eq_true, decide_eq_true_eq] at h3
      have h4 : p.tmod (k : Int) ≠ 0 := by
        rcases h3 with (h | h) | h
        · omega
        · omega
        · exact h
      have h5 := zi_tz (x := p) (y := (k : Int)) (by unfold zin; omega) (by omega)
      have h6 := Int.tmod_lt_of_pos p (show 0 < (k : Int) by omega)
      have h7 := Int.tmod_nonneg (k : Int) (show 0 ≤ p by omega)
      refine z11_15 _ _ ⟨zin_n (by omega), by unfold zin; omega, fun h => by omega, fun _ => ⟨by omega, by omega, by unfold zin; omega, fun _ => ?_, fun h => absurd h h4⟩⟩
      exact ih (k + 1) (by omega) (by omega)
  refine e11 _ ⟨by unfold zin; omega, fun h => by omega, fun _ => ⟨fun _ => ?_, fun h => by omega⟩⟩
  exact key (p.toNat - 2) 2 (by omega) (by omega)
theorem zinv_u {R : Type} [Lean.Grind.CommRing R] {p : Int} {inv : Int → Int} {co : R → Nat → Int} {X : R} {C : Int → R} (I : zIf R p inv co X C) {c e : Int} (c0 : 0 < c) (c1 : c < p) (e0 : 0 < e) (e1 : e < p) (h : (c * e) % p = 1) : e = inv c := by
  obtain ⟨i0, i1, i2⟩ := zR_inv I c0 c1
  have hp := zR_p I
  have h1 : C (c * e) = C (c * inv c) := zR_Ceq I (by rw [h, i2])
  rw [zR_Cmul I, zR_Cmul I] at h1
  have h2 := zC_unit I c0 c1
  have h3 : C e = C (inv c) := by grind
  have := zR_Cinj I h3
  rw [Int.emod_eq_of_lt (by omega) e1, Int.emod_eq_of_lt (by omega) i1] at this
  exact this
/-- the table of inverses up to c, and of c those up to e -/
def zti (p : Int) (inv : Int → Int) (D : zD) (c e : Int) : zD := fun a i => if a = 1 ∧ i = 0 then p else if a = 2 ∧ 1 ≤ i ∧ (i < c ∨ (i = c ∧ 0 < inv c ∧ inv c < e)) then inv i else D a i
theorem c2 {R : Type} [Lean.Grind.CommRing R] {p : Int} {inv : Int → Int} {co : R → Nat → Int} {X : R} {C : Int → R} (I : zIf R p inv co X C) {E : List (List Int)} {d : Nat} {T : zT} {D : zD} {Q : Int → zT → zD → Prop} (hT : zTT T) (h11 : D 1 1 = 2) (hQ : Q 0 T (fun a i => if a = 1 ∧ i = 0 then p else if a = 2 ∧ 1 ≤ i ∧ i < p then inv i else D a i)) : zc E d 0 2 [(2, 1), (0, p)] T D Q := by
  have hp := zR_p I
  have hF := zF_inv hT
  have t11 : ∀ c e : Int, zti p inv D c e 1 1 = 2 := fun c e => by
    unfold zti
    rw [if_neg (by omega), if_neg (by omega), h11]
  have inner : ∀ (c : Nat), 1 ≤ c → (c : Int) < p → (∀ w, zs_wide w = false → zj E d 0 2 7 [(2, 1), (0, p), (0, (c : Int) + 1), w] [] T (zti p inv D ((c : Int) + 1) 1) Q) → ∀ (m e : Nat), (e : Int) + m = p → 1 ≤ e → zj E d 0 2 23 [(2, 1), (0, p), (0, (c : Int)), (0, (e : Int))] [] T (zti p inv D (c : Int) (e : Int)) Q := by
    intro c hc1 hcp hnext
    obtain ⟨i0, i1, i2⟩ := zR_inv I (c := (c : Int)) (by omega) hcp
    intro m
    induction m with
    | zero =>
      intro e he he1
      refine z2_23 _ _ _ _ ⟨zin_n (by omega), by unfold zin; omega, fun _ => ?_, fun h => by omega⟩
      have e1 : zti p inv D (c : Int) (e : Int) = zti p inv D ((c : Int) + 1) 1 := by
        funext a i
        unfold zti
        by_cases h1 : a = 1 ∧ i = 0
        · rw [if_pos h1, if_pos h1]
        · rw [if_neg h1, if_neg h1]
          by_cases h2 : a = 2 ∧ 1 ≤ i ∧ i < (c : Int) + 1
          · rw [if_pos (c := a = 2 ∧ 1 ≤ i ∧ (i < (c : Int) + 1 ∨ _)) ⟨h2.1, h2.2.1, Or.inl h2.2.2⟩, if_pos ⟨h2.1, h2.2.1, by omega⟩]
          · rw [if_neg (by omega), if_neg (by omega)]
      rw [e1]
      exact hnext _ rfl
    | succ m ih =>
      intro e he he1
      have hm := zmulb (a := (c : Int)) (b := (e : Int)) (by omega) (by omega) (by omega) (by omega)
      have hr := zmodr I ((c : Int) * (e : Int))
      have et : ((c : Int) * (e : Int)).tmod p = ((c : Int) * (e : Int)) % p := Int.tmod_eq_emod_of_nonneg hm.1
      refine z2_23 _ _ _ _ ⟨zin_n (by omega), by unfold zin; omega, fun h => by omega, fun _ => ⟨by unfold zin; omega, by omega, by omega, by rw [et]; unfold zin; omega, fun h => ?_, fun h => ⟨zF_ob hT, ?_, ?_⟩⟩⟩
      · have hne : inv (c : Int) ≠ (e : Int) := by
          intro e1
          apply h
          rw [et, ← e1]
          exact i2
        have e1 : zti p inv D (c : Int) (e : Int) = zti p inv D (c : Int) ((e + 1 : Nat) : Int) := by
          funext a i
          unfold zti
          by_cases h1 : a = 1 ∧ i = 0
          · rw [if_pos h1, if_pos h1]
          · rw [if_neg h1, if_neg h1]
            by_cases h2 : a = 2 ∧ 1 ≤ i ∧ (i < (c : Int) ∨ (i = (c : Int) ∧ 0 < inv (c : Int) ∧ inv (c : Int) < (e : Int)))
            · rw [if_pos h2, if_pos ⟨h2.1, h2.2.1, by omega⟩]
            · rw [if_neg h2, if_neg (by omega)]
        rw [e1]
        exact ih (e + 1) (by omega) (by omega)
      · rw [t11]
        exact ⟨hF.1, by omega, by rw [hF.2]; omega, by rw [hF.2]; decide⟩
      · rw [et] at h
        have hinv := zinv_u I (c := (c : Int)) (e := (e : Int)) (by omega) hcp (by omega) (by omega) h
        rw [t11]
        have e1 : zu (zti p inv D (c : Int) (e : Int)) 2 (c : Int) (e : Int) = zti p inv D (c : Int) ((e + 1 : Nat) : Int) := by
          funext a i
          unfold zu zti
          by_cases h1 : a = 2 ∧ i = (c : Int)
          · rw [if_pos h1, if_neg (by omega), if_pos ⟨h1.1, by omega, Or.inr ⟨h1.2, i0, by omega⟩⟩, h1.2, ← hinv]
          · rw [if_neg h1]
            by_cases h2 : a = 1 ∧ i = 0
            · rw [if_pos h2, if_pos h2]
            · rw [if_neg h2, if_neg h2]
              by_cases h3 : a = 2 ∧ 1 ≤ i ∧ i < (c : Int)
              · rw [if_pos ⟨h3.1, h3.2.1, Or.inl h3.2.2⟩, if_pos ⟨h3.1, h3.2.1, Or.inl h3.2.2⟩]
              · rw [if_neg (by omega), if_neg (by omega)]
        rw [e1]
        exact ih (e + 1) (by omega) (by omega)
  have key : ∀ (m c : Nat) (w : zv_V), zs_wide w = false → (c : Int) + m = p → 1 ≤ c → zj E d 0 2 7 [(2, 1), (0, p), (0, (c : Int)), w] [] T (zti p inv D (c : Int) 1) Q := by
    intro m
    induction m with
    | zero =>
      intro c w hw hc hc1
      refine z2_7 _ _ _ _ hw ⟨zin_n (by omega), by unfold zin; omega, fun _ => ?_, fun h => by omega⟩
      have e : zti p inv D (c : Int) 1 = (fun a i => if a = 1 ∧ i = 0 then p else if a = 2 ∧ 1 ≤ i ∧ i < p then inv i else D a i) := by
        funext a i
        unfold zti
        by_cases h1 : a = 1 ∧ i = 0
        · rw [if_pos h1, if_pos h1]
        · rw [if_neg h1, if_neg h1]
          by_cases h2 : a = 2 ∧ 1 ≤ i ∧ i < p
          · rw [if_pos h2, if_pos ⟨h2.1, h2.2.1, Or.inl (by omega)⟩]
          · rw [if_neg h2, if_neg (by omega)]
      rw [e]
      exact hQ
    | succ m ih =>
      intro c w hw hc hc1
      refine z2_7 _ _ _ _ hw ⟨zin_n (by omega), by unfold zin; omega, fun h => by omega, fun _ => ⟨zF_ob hT, by rw [t11]; exact hF.1, by rw [t11, hF.2]; exact zin_c (by decide), fun h => ?_, fun _ => ?_⟩⟩
      · rw [t11, hF.2] at h
        omega
      · exact inner c hc1 (by omega) (fun w' hw' => ih (c + 1) w' hw' (by omega) (by omega)) (p.toNat - 1) 1 (by omega) (by omega)
  refine e2 _ _ ⟨zF_ob hT, ?_⟩
  have h := key (p.toNat - 1) 1 (9, 0) rfl (by omega) (by omega)
  have e : zti p inv D ((1 : Nat) : Int) 1 = zu D 1 0 p := by
    funext a i
    unfold zti zu
    by_cases h1 : a = 1 ∧ i = 0
    · rw [if_pos h1, if_pos h1]
    · rw [if_neg h1, if_neg h1, if_neg (by omega)]
  rw [e] at h
  exact h
theorem zCo_P : (List.range 158).all (fun a => !zPq (a : Int) || (decide (zCo (a : Int) 0 = 1) && decide (zCo (a : Int) 1 = (a : Int) + 1) && decide (zCo (a : Int) 2 = -1) && (List.range 25).all (fun i => decide (zCo ((a : Int) + 1) (i : Int) = 0)))) = true := by decide +kernel
theorem zCo_73 : (List.range 97).all (fun i => decide (zCo 73 (i : Int) = -1)) = true := by decide +kernel
theorem zCo_92 : (List.range 24).all (fun i => decide (zCo 92 (i : Int) = 96 + 2 * (i : Int))) = true := by decide +kernel
theorem zT0_2 : zT0[2]? = some (50, 97) := by decide +kernel
theorem zPT {T : zT} (hT : zTT T) : zob T 72 2 3 ∧ zk T 73 = 50 ∧ zn T 73 = 97 := ⟨zTT_k hT (by decide) (by decide) (by decide +kernel), zTT_k hT (by decide) (by decide) (by decide +kernel)⟩
theorem zu_same {D : zD} {q i x : Int} (h : D q i = x) : zu D q i x = D := by
  funext a j
  unfold zu
  by_cases e : a = q ∧ j = i
  · rw [if_pos e, e.1, e.2, h]
  · rw [if_neg e]
theorem c14 {R : Type} [Lean.Grind.CommRing R] {p : Int} {inv : Int → Int} {co : R → Nat → Int} {X : R} {C : Int → R} (I : zIf R p inv co X C) {E : List (List Int)} {d : Nat} {T : zT} {S : Int → R} {U : zD} {Q : Int → zT → zD → Prop} (hT : zTT T) (hS : ∀ a, zlen co (S a) ≤ 25) (hd : 1 ≤ d) (hQ : Q 0 T (zS p inv co S U)) : zc E d 0 14 [(2, 72)] T (zS p inv co S U) Q := by
  obtain ⟨p1, p2, p3⟩ := zPT hT
  have e72 : zS p inv co S U 72 1 = 73 := rfl
  have e722 : zS p inv co S U 72 2 = 0 := rfl
  have e73 : ∀ k : Nat, k < 97 → zS p inv co S U 73 (k : Int) = -1 := fun k hk => by
    have := of_decide_eq_true (List.all_eq_true.mp zCo_73 k (List.mem_range.mpr hk))
    have h2 : zS p inv co S U 73 (k : Int) = zCo 73 (k : Int) := rfl
    rw [h2]
    exact this
  have key : ∀ (m k : Nat), k + m = 97 → zj E (d - 1) 0 7 5 [(2, 73), (0, -1), (0, (k : Int)), (0, zn T 73)] [] T (zS p inv co S U) (fun x3 T3 D3 => zob T3 72 2 3 ∧ Q 0 T3 (zu D3 72 2 0)) := by
    intro m
    induction m with
    | zero =>
      intro k hk
      rw [p3]
      exact z7_5 _ _ _ _ ⟨zin_n (by omega), zin_c (by decide), fun _ => ⟨p1, by rw [zu_same e722]; exact hQ⟩, fun h => by omega⟩
    | succ m ih =>
      intro k hk
      have h := ih (k + 1) (by omega)
      rw [p3] at h ⊢
      refine z7_5 _ _ _ _ ⟨zin_n (by omega), zin_c (by decide), fun h => by omega, fun _ => ⟨⟨p2, by omega, by rw [p3]; omega, by rw [p3]; decide⟩, ?_⟩⟩
      rw [zu_same (e73 k (by omega))]
      exact h
  refine e14 _ ⟨p1, by omega, ?_⟩
  rw [e72]
  exact e7 _ _ ⟨p2, key 97 0 (by omega)⟩
theorem c10 {R : Type} [Lean.Grind.CommRing R] {p : Int} {inv : Int → Int} {co : R → Nat → Int} {X : R} {C : Int → R} (I : zIf R p inv co X C) {E : List (List Int)} {d : Nat} {Q : Int → zT → zD → Prop} (hd : 3 ≤ d) (hQ : ∀ U, zOK co (fun _ => (0 : R)) U → Q 7 zT0 (zS p inv co (fun _ => (0 : R)) U)) : zc E d 1 10 [(2, 0), (0, p)] zT0 zCo Q := by
  have hp := zR_p I
  have hT : zTT zT0 := ⟨[], by rw [List.append_nil]⟩
  have hS : ∀ a : Int, zlen co ((fun _ => (0 : R)) a) ≤ 25 := fun _ => by show zlen co (0 : R) ≤ 25; rw [zL_0 I]; omega
  have h0p : zCo 0 0 = 1 := by decide +kernel
  have hfp : zCo 1 0 = 7 := by decide +kernel
  have hE : zEU zCo := by
    constructor
    · intro i h3 h8
      have : i = 3 ∨ i = 4 ∨ i = 5 ∨ i = 6 ∨ i = 7 ∨ i = 8 := by omega
      rcases this with rfl | rfl | rfl | rfl | rfl | rfl <;> decide +kernel
    · intro i j h3 h8 j3 j8 hij
      have a1 : i = 3 ∨ i = 4 ∨ i = 5 ∨ i = 6 ∨ i = 7 ∨ i = 8 := by omega
      have a2 : j = 3 ∨ j = 4 ∨ j = 5 ∨ j = 6 ∨ j = 7 ∨ j = 8 := by omega
      rcases a1 with rfl | rfl | rfl | rfl | rfl | rfl <;> rcases a2 with rfl | rfl | rfl | rfl | rfl | rfl <;> first | exact absurd rfl hij | decide +kernel
  have e92 : ∀ i : Int, 0 ≤ i → i < 24 → zCo 92 i = 96 + 2 * i := fun i h0 h24 => by
    have := of_decide_eq_true (List.all_eq_true.mp zCo_92 i.toNat (List.mem_range.mpr (by omega)))
    rw [Int.toNat_of_nonneg h0] at this
    exact this
  have hPR : zPR zCo := ⟨fun i h0 h24 => by rw [e92 i h0 h24]; omega, fun i j a1 a2 a3 a4 a5 => by rw [e92 i a1 a2, e92 j a3 a4]; omega⟩
  -- the heap behind choose
  have heq : zqH zT0 (fun a i => if a = 1 ∧ i = 0 then p else if a = 2 ∧ 1 ≤ i ∧ i < p then inv i else zCo a i) = zqH zT0 (zS p inv co (fun _ => (0 : R)) zCo) := by
    refine zq_eq (fun a ha0 ha1 i hi0 hi => ?_)
    rw [zT0_len] at ha1
    have hz : ∀ b : Int, 0 ≤ b → b < 158 → zPq b = true → zCo b 0 = 1 ∧ zCo b 1 = b + 1 ∧ zCo b 2 = -1 ∧ ∀ k : Nat, k < 25 → zCo (b + 1) (k : Int) = 0 := fun b b0 b1 hb => by
      have h1 := List.all_eq_true.mp zCo_P b.toNat (List.mem_range.mpr (by omega))
      rw [Int.toNat_of_nonneg b0, hb] at h1
      simp only [Bool.not_true, Bool.false_or, Bool.and_eq_true, decide_eq_true_eq] at h1
      exact ⟨h1.1.1.1, h1.1.1.2, h1.1.2, fun k hk => of_decide_eq_true (List.all_eq_true.mp h1.2 k (List.mem_range.mpr hk))⟩
    by_cases hq : zPq a = true
    · have hna := (zPq_iff a).mp hq
      obtain ⟨z0, z1, z2, z3⟩ := hz a ha0 (by omega) hq
      rw [(zP_ob hT hq).2] at hi
      show (if _ then _ else if _ then _ else _) = _
      rw [if_neg (by omega), if_neg (by omega)]
      have : i = 0 ∨ i = 1 ∨ i = 2 := by omega
      rcases this with rfl | rfl | rfl
      · rw [zS_f0 hq, z0]
      · rw [zS_f1 hq, z1]
      · rw [zS_f2 hq, z2, zL_0 I]; rfl
    · by_cases hq2 : zPq (a - 1) = true
      · have hna := (zPq_iff (a - 1)).mp hq2
        obtain ⟨z0, z1, z2, z3⟩ := hz (a - 1) (by omega) (by omega) hq2
        have ea : a - 1 + 1 = a := by omega
        have hn := zP_rn hT hq2
        have hrow := zS_row (p := p) (inv := inv) (co := co) (S := fun _ => (0 : R)) (U := zCo) hq2 i
        rw [ea] at hn hrow z3
        rw [hn] at hi
        rw [hrow, zR_zero I]
        show (if _ then _ else if _ then _ else _) = _
        rw [if_neg (by omega), if_neg (by omega)]
        have := z3 i.toNat (by omega)
        rw [Int.toNat_of_nonneg hi0] at this
        exact this
      · unfold zS
        rw [if_neg hq, if_neg hq2]
        by_cases h1 : a = 1 ∧ i = 0
        · rw [if_pos h1, if_pos h1]
        · rw [if_neg h1, if_neg h1]
          by_cases h2 : a = 2 ∧ 0 ≤ i ∧ i < p
          · rw [if_pos h2]
            by_cases h3 : i = 0
            · subst h3
              rw [if_neg (by omega), h2.1, I.2.1.1]
              decide +kernel
            · rw [if_pos ⟨h2.1, by omega, h2.2.2⟩]
          · rw [if_neg h2, if_neg (by omega)]
            split <;> rfl
  refine e10 _ _ ⟨by omega, ?_⟩
  refine c11 I ⟨zin_c (by decide), fun _ => ⟨zO_ob hT, by rw [h0p]; exact zF_k hT, ?_⟩, fun h => absurd h (by decide)⟩
  rw [h0p]
  refine e12 _ ⟨zF_ob hT, zO_ob hT, by rw [h0p]; exact zF_k hT, ?_⟩
  rw [h0p, hfp]
  refine c2 I hT (by decide +kernel) ?_
  refine zj_eq heq ?_
  have key : ∀ (m k : Nat), k + m = 10 → zj E d 1 10 35 [(2, 0), (0, p), (0, 7), (0, (k : Int))] [] zT0 (zS p inv co (fun _ => (0 : R)) zCo) Q := by
    intro m
    induction m with
    | zero =>
      intro k hk
      have hr := zO_r hT
      refine z10_35 _ _ _ _ ⟨zO_ob hT, by rw [zS01]; exact hr.1, zin_n (by omega), by rw [zS01, hr.2]; exact zin_c (by decide), fun _ => ⟨by omega, ?_, ?_⟩, fun h => ?_⟩
      · have : zS p inv co (fun _ => (0 : R)) zCo 0 5 = 72 := rfl
        rw [this]
        exact (zPT hT).1.1
      · have : zS p inv co (fun _ => (0 : R)) zCo 0 5 = 72 := rfl
        rw [this]
        refine c14 I hT hS (by omega) ⟨zO_ob hT, by rw [zS07]; exact zX_k hT, ?_⟩
        rw [zS07]
        refine e15 _ ⟨zX_ob hT, ?_⟩
        rw [zXu4]
        refine hQ _ ⟨hS, ?_, ?_⟩
        · exact ⟨fun i a b => hE.1 i a b, fun i j a1 a2 a3 a4 a5 => hE.2 i j a1 a2 a3 a4 a5⟩
        · exact zPR_e (fun i => rfl) hPR
      · rw [zS01, hr.2] at h
        omega
    | succ m ih =>
      intro k hk
      have hr := zO_r hT
      have hq := zreg_q (r := (k : Int)) (by omega) (by omega)
      have e3 : zS p inv co (fun _ => (0 : R)) zCo 3 (k : Int) = 4 + 2 * (k : Int) := zS_reg (by omega) (by omega)
      refine z10_35 _ _ _ _ ⟨zO_ob hT, by rw [zS01]; exact hr.1, zin_n (by omega), by rw [zS01, hr.2]; exact zin_c (by decide), fun h => ?_, fun _ => ⟨?_, ?_, by omega, ?_, ?_⟩⟩
      · rw [zS01, hr.2] at h
        omega
      · rw [zS01]
        exact ⟨hr.1, by omega, by rw [hr.2]; omega, by rw [hr.2]; decide⟩
      · rw [zS01, e3]; omega
      · rw [zS01, e3]; exact zP_k hT hq
      · rw [zS01, e3]
        refine c13 I hT hS hq ?_
        have : zup (fun _ => (0 : R)) (4 + 2 * (k : Int)) 0 = (fun _ => (0 : R)) := by
          funext a
          unfold zup
          split <;> rfl
        rw [this]
        exact ih (k + 1) (by omega)
  exact key 10 0 (by omega)
