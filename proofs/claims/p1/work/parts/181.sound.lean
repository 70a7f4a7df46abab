/-! What the walk over all scripts says, each script's own walk does. -/
theorem zs_more {E : List (List Int)} : ∀ (f : Nat) {f' d : Nat} {fr : zv_F} {r : zv_R}, zs_exec E f d fr = some r → f ≤ f' → zs_exec E f' d fr = some r := by
  intro f
  induction f with
  | zero => intro f' d fr r h _; cases h
  | succ f ih =>
    intro f' d fr r h hf
    obtain ⟨f', rfl⟩ : ∃ g, f' = g + 1 := ⟨f' - 1, by omega⟩
    have hf' : f ≤ f' := by omega
    rw [zs_exec] at h ⊢
    cases hs : zs_step E fr with
    | none => rw [hs] at h; cases h
    | some S =>
      rw [hs] at h
      match S, h with
      | .inl fr', h => exact ih h hf'
      | .inr (.inr r'), h => exact h
      | .inr (.inl (t, as, g)), h =>
        cases d with
        | zero => cases h
        | succ d =>
          simp only at h ⊢
          cases he : zs_entry t as g.2.2.2.2 with
          | none => rw [he] at h; cases h
          | some fr' =>
            rw [he] at h
            simp only at h ⊢
            cases hc : zs_exec E f d fr' with
            | none => rw [hc] at h; cases h
            | some r' =>
              rw [hc] at h
              rw [ih hc hf']
              simp only at h ⊢
              cases hb : zs_back r' g with
              | none => rw [hb] at h; exact h
              | some g' =>
                rw [hb] at h
                exact ih h hf'
section
variable {s : Nat → Int}
theorem zy_locals (as : List zv_V) : zs_locals (as.map (zy_v s)) = (zs_locals as).map (zy_v s) := by
  induction as with
  | nil => rfl
  | cons v r ih =>
    show cond (zs_wide v) (zy_v s v :: (9, 0) :: zs_locals (r.map (zy_v s))) (zy_v s v :: zs_locals (r.map (zy_v s))) = (cond (zs_wide v) (v :: (9, 0) :: zs_locals r) (v :: zs_locals r)).map (zy_v s)
    rw [ih]
    cases zs_wide v with
    | false => rfl
    | true =>
      show zy_v s v :: (9, 0) :: _ = zy_v s v :: zy_v s (9, 0) :: _
      rw [zy_v9]
theorem zy_entry {t : Nat} {as : List zv_V} {h : zv_H} {fr : zv_F} (e : zs_entry t as h = some fr) : zs_entry t (as.map (zy_v s)) (zy_h s h) = some (zy_fr s fr) := by
  unfold zs_entry at e ⊢
  obtain ⟨m, hm, e1⟩ := zo_o_inv e
  rw [hm]
  obtain ⟨m1, m2, ml, m4⟩ := m
  obtain ⟨g, e2⟩ := zo_g_inv e1
  cases e2
  have hl : (zs_locals (as.map (zy_v s))).length = (zs_locals as).length := by rw [zy_locals, List.length_map]
  show zo_g (Nat.ble (zs_locals (as.map (zy_v s))).length ml && !Nat.beq t zk_law) (some (t, 0, zs_locals (as.map (zy_v s)) ++ List.replicate (ml - (zs_locals (as.map (zy_v s))).length) (9, 0), [], zy_h s h)) = some (t, 0, (zs_locals as ++ List.replicate (ml - (zs_locals as).length) (9, 0)).map (zy_v s), [], zy_h s h)
  rw [hl, g, zy_locals, List.map_append, List.map_replicate, zy_v9]
  rfl
theorem zy_hand {y t : Nat} {ls : List zv_V} {h : zv_H} : zs_hand y t (ls.map (zy_v s)) (zy_h s h) = (zs_hand y t ls h).map (zy_fr s) := by
  have key : ∀ (a len : Nat), zo_g (Nat.blt a (ls.map (zy_v s)).length && zs_pok (ls.map (zy_v s)) a) (some (y, t + len, (ls.map (zy_v s)).set a (9, 0), [], zy_h s h)) = (zo_g (Nat.blt a ls.length && zs_pok ls a) (some (y, t + len, ls.set a (9, 0), [], h))).map (zy_fr s) := by
    intro a len
    rw [List.length_map, zy_pok]
    cases (Nat.blt a ls.length && zs_pok ls a) with
    | false => rfl
    | true =>
      show some (y, t + len, (ls.map (zy_v s)).set a (9, 0), ([] : List zv_V), zy_h s h) = some (y, t + len, (ls.set a (9, 0)).map (zy_v s), [], zy_h s h)
      rw [List.map_set, zy_v9]
  unfold zs_hand
  cases zt_at y t with
  | none => rfl
  | some it =>
    obtain ⟨ins, len, a, rest⟩ := it
    cases ins with
    | astore_n n => exact key a len
    | astore n => exact key a len
    | _ => rfl
theorem zy_back {r : zv_R} {g : zv_F} : zs_back (zy_r s r) (zy_fr s g) = (zs_back r g).map (zy_fr s) := by
  obtain ⟨k, v, h⟩ := r
  obtain ⟨y, pc, ls, st, hh⟩ := g
  match k with
  | 0 => rfl
  | 1 => rfl
  | 2 =>
    show (zo_o (zh_pick (zh_find zh_tabs y) (pc - 3) v.1) fun t => zs_hand y t (ls.map (zy_v s)) (zy_h s h)) = (zo_o (zh_pick (zh_find zh_tabs y) (pc - 3) v.1) fun t => zs_hand y t ls h).map (zy_fr s)
    cases zh_pick (zh_find zh_tabs y) (pc - 3) v.1 with
    | none => rfl
    | some t => exact zy_hand
  | k + 3 => rfl
theorem zy_normi {e : zy_E} (hm : zy_mod s e) (x : Int) : zy_f s (zy_norm e x) = zy_f s x := by
  unfold zy_norm
  split
  · rename_i i heq
    have h1 := hm.1 i
    show zy_f s (cond (decide ((zy_iv e i).1 = (zy_iv e i).2) && zy_nt (zy_iv e i).1) (zy_iv e i).1 x) = _
    cases hb : (decide ((zy_iv e i).1 = (zy_iv e i).2) && zy_nt (zy_iv e i).1) with
    | false => rfl
    | true =>
      have hb2 := Bool.and_eq_true_iff.mp hb
      have hd := of_decide_eq_true hb2.1
      rw [cond_true, zy_raw heq, zy_ntf hb2.2]
      omega
  · rfl
theorem zy_nrmi {e : zy_E} (hm : zy_mod s e) (ins : Instr) (S : zv_S) : zy_S s (zy_nrm e ins S) = zy_S s S := by
  unfold zy_nrm
  split
  · split
    · rename_i y pc ls v st h
      show zy_S s (.inl (y, pc, ls, (v.1, zy_norm e v.2) :: st, h)) = _
      show Sum.inl (y, pc, ls.map (zy_v s), (v.1, zy_f s (zy_norm e v.2)) :: st.map (zy_v s), zy_h s h) = _
      rw [zy_normi hm]
      rfl
    · rfl
  · rfl
theorem zy_stepi {e : zy_E} {E : List (List Int)} {fr : zv_F} {l : List (zy_E × zv_S)} (hm : zy_mod s e) (h32 : ∀ i, -2147483648 ≤ s i ∧ s i ≤ 2147483647) (hz : zy_step E e fr = some l) : ∃ p ∈ l, zy_mod s p.1 ∧ zs_step (E.map (fun l => List.map (zy_f s) l)) (zy_fr s fr) = some (zy_S s p.2) := by
  obtain ⟨y, pc, ls, st, h⟩ := fr
  unfold zy_step at hz
  show ∃ p ∈ l, zy_mod s p.1 ∧ (zo_o (zt_at y pc) fun e => match e with
    | (ins, len, a, b, _, v) => zs_ins (E.map (fun l => List.map (zy_f s) l)) y pc (ls.map (zy_v s)) (st.map (zy_v s)) (zy_h s h) ins len a b v) = some (zy_S s p.2)
  simp only at hz
  cases ht : zt_at y pc with
  | none => rw [ht] at hz; cases hz
  | some q =>
    obtain ⟨ins, len, a, b, w, v⟩ := q
    rw [ht] at hz
    show ∃ p ∈ l, zy_mod s p.1 ∧ zs_ins (E.map (fun l => List.map (zy_f s) l)) y pc (ls.map (zy_v s)) (st.map (zy_v s)) (zy_h s h) ins len a b v = some (zy_S s p.2)
    rcases zy_ci hz with ⟨hok, hz⟩ | ⟨-, hz⟩
    · cases hi : zs_ins E y pc ls st h ins len a b v with
      | none => rw [hi] at hz; cases hz
      | some S =>
        rw [hi] at hz
        rcases zy_ci hz with ⟨-, hz⟩ | ⟨hp, hz⟩
        · cases hz
        · cases hz
          refine ⟨_, .head _, hm, ?_⟩
          rw [zy_nrmi hm]
          refine zy_plain hok S hi (fun hn => ?_)
          rw [hn] at hp
          cases hq : zy_post S with
          | true => rfl
          | false => rw [hq] at hp; cases hp
    · exact zy_speci hm h32 hz
theorem zy_all1i {α : Type} {l : List α} {p : α → Bool} (h : zy_all1 l p = true) : ∀ x ∈ l, p x = true := by
  induction l with
  | nil => intro x hx; cases hx
  | cons x r ih =>
    cases r with
    | nil =>
      intro z hz
      cases hz with
      | head => exact h
      | tail _ hz => cases hz
    | cons z r =>
      rcases hb : p x with _ | _
      · have h2 : cond (p x) (zy_all1 (z :: r) p) false = true := h
        rw [hb] at h2
        cases h2
      · have h2 : cond (p x) (zy_all1 (z :: r) p) false = true := h
        rw [hb] at h2
        intro w hw
        cases hw with
        | head => exact hb
        | tail _ hw => exact ih h2 w hw
theorem zy_sound {E : List (List Int)} {hp : zv_F → Bool} {hs : List zy_E} (h32 : ∀ i, -2147483648 ≤ s i ∧ s i ≤ 2147483647) (hhs : ∃ e ∈ hs, zy_mod s e) : ∀ (n d : Nat) (e : zy_E) (fr : zv_F) (k : zy_E → zv_R → Bool), zy_mod s e → zy_exec E hp hs n d e fr k = true → ∃ f r e', zy_mod s e' ∧ k e' r = true ∧ zs_exec (E.map (fun l => List.map (zy_f s) l)) f d (zy_fr s fr) = some (zy_r s r) := by
  intro n
  induction n with
  | zero => intro d e fr k _ h; cases h
  | succ n ih =>
    intro d e0 fr k hm0 h
    have h' : zy_body E hp hs (zy_exec E hp hs n) d e0 fr k = true := h
    unfold zy_body at h'
    have hex : ∃ e ∈ cond (hp fr) hs [e0], zy_mod s e := by
      cases hp fr with
      | true => exact hhs
      | false => exact ⟨e0, .head _, hm0⟩
    obtain ⟨e, he, hm⟩ := hex
    have h1 := zy_all1i h' e he
    cases hz : zy_step E e fr with
    | none => rw [hz] at h1; cases h1
    | some l =>
      rw [hz] at h1
      obtain ⟨p, hp1, hp2, hp3⟩ := zy_stepi hm h32 hz
      have h2 := zy_all1i h1 p hp1
      obtain ⟨e1, S⟩ := p
      match S, hp3, h2 with
      | .inl fr', hp3, h2 =>
        obtain ⟨f, r, e', k1, k2, k3⟩ := ih d e1 fr' k hp2 h2
        refine ⟨f + 1, r, e', k1, k2, ?_⟩
        rw [zs_exec, hp3]
        exact k3
      | .inr (.inr r), hp3, h2 =>
        refine ⟨1, r, e1, hp2, h2, ?_⟩
        rw [zs_exec, hp3]
        rfl
      | .inr (.inl (t, as, g)), hp3, h2 =>
        cases d with
        | zero => cases h2
        | succ d =>
          simp only at h2
          cases hent : zs_entry t as g.2.2.2.2 with
          | none => rw [hent] at h2; cases h2
          | some fr1 =>
            rw [hent] at h2
            obtain ⟨f1, r1, e2, k1, k2, k3⟩ := ih d e1 fr1 _ hp2 h2
            have hent' := zy_entry (s := s) hent
            have hbk := zy_back (s := s) (r := r1) (g := g)
            cases hb : zs_back r1 g with
            | none =>
              rw [hb] at k2 hbk
              rcases zy_ci (α := Unit) (b := (Nat.beq r1.1 2 && List.isEmpty (zh_find zh_tabs g.1) && !zm_ini g.1)) (A := some ()) (B := none) (q := ()) (by
                cases hc : (Nat.beq r1.1 2 && List.isEmpty (zh_find zh_tabs g.1) && !zm_ini g.1) with
                | true => rfl
                | false => simp only [hc] at k2; cases k2) with ⟨hc, -⟩ | ⟨-, hc⟩
              · simp only [hc, cond_true] at k2
                refine ⟨f1 + 1, r1, e2, k1, k2, ?_⟩
                rw [zs_exec, hp3]
                show (match zs_entry t (as.map (zy_v s)) (zy_h s g.2.2.2.2) with
                  | none => none
                  | some fr' => match zs_exec (E.map (fun l => List.map (zy_f s) l)) f1 d fr' with
                    | none => none
                    | some r => match zs_back r (zy_fr s g) with
                      | none => cond (Nat.beq r.1 2 && List.isEmpty (zh_find zh_tabs (zy_fr s g).1) && !zm_ini (zy_fr s g).1) (some r) none
                      | some g' => zs_exec (E.map (fun l => List.map (zy_f s) l)) f1 (d + 1) g') = _
                rw [hent']
                simp only
                rw [k3]
                simp only
                rw [hbk]
                show cond (Nat.beq r1.1 2 && List.isEmpty (zh_find zh_tabs g.1) && !zm_ini g.1) (some (zy_r s r1)) none = _
                rw [hc]
                rfl
              · cases hc
            | some g' =>
              rw [hb] at k2 hbk
              obtain ⟨f2, r2, e3, k4, k5, k6⟩ := ih (d + 1) e2 g' k k1 k2
              refine ⟨max f1 f2 + 1, r2, e3, k4, k5, ?_⟩
              rw [zs_exec, hp3]
              show (match zs_entry t (as.map (zy_v s)) (zy_h s g.2.2.2.2) with
                | none => none
                | some fr' => match zs_exec (E.map (fun l => List.map (zy_f s) l)) (max f1 f2) d fr' with
                  | none => none
                  | some r => match zs_back r (zy_fr s g) with
                    | none => cond (Nat.beq r.1 2 && List.isEmpty (zh_find zh_tabs (zy_fr s g).1) && !zm_ini (zy_fr s g).1) (some r) none
                    | some g' => zs_exec (E.map (fun l => List.map (zy_f s) l)) (max f1 f2) (d + 1) g') = _
              rw [hent']
              simp only
              rw [zs_more f1 k3 (Nat.le_max_left ..)]
              simp only
              rw [hbk]
              exact zs_more f2 k6 (Nat.le_max_right ..)
end
