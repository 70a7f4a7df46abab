/-! Contract: splitting by one vector. -/
def zpc {R : Type} (S : Int → R) (U : zD) (fs i : Nat) : R := S (U 92 ((fs + i : Nat) : Int))
/-- the pieces from fs on, whose product is w -/
def zSp {R : Type} [Lean.Grind.CommRing R] (co : R → Nat → Int) (w : R) (fs m : Nat) (S : Int → R) (U : zD) : Prop :=
  U 91 4 = ((fs + m : Nat) : Int) ∧ zprd m (zpc S U fs) = w ∧ ∀ i, i < m → zmon co (zpc S U fs i) ∧ 2 ≤ zlen co (zpc S U fs i)
def zFs {R : Type} (fs : Nat) (S : Int → R) (U : zD) (S' : Int → R) (U' : zD) : Prop :=
  (∀ x, x = 144 ∨ (4 ≤ x ∧ x ≤ 22) → S' x = S x) ∧ (∀ i : Nat, i < fs → S' (U 92 (i : Int)) = S (U 92 (i : Int))) ∧ (∀ x i, x ≠ 74 → ¬ (x = 91 ∧ i = 4) → U' x i = U x i)
theorem zFs_r {R : Type} (fs : Nat) (S : Int → R) (U : zD) : zFs fs S U S U := ⟨fun _ _ => rfl, fun _ _ => rfl, fun _ _ _ _ => rfl⟩
theorem zFs_t {R : Type} {fs : Nat} {S S1 S2 : Int → R} {U U1 U2 : zD} (h1 : zFs fs S U S1 U1) (h2 : zFs fs S1 U1 S2 U2) : zFs fs S U S2 U2 :=
  ⟨fun x hx => (h2.1 x hx).trans (h1.1 x hx), fun i hi => by
    have e : U1 92 (i : Int) = U 92 (i : Int) := h1.2.2 92 _ (by decide) (by omega)
    have := h2.2.1 i hi
    rw [e] at this
    exact this.trans (h1.2.1 i hi), fun x i h h' => (h2.2.2 x i h h').trans (h1.2.2 x i h h')⟩
theorem zFs_v {R : Type} {fs : Nat} {S S1 : Int → R} {U U1 : zD} (h1 : zFs fs S U S1 U1) (hP : zPR U) (hfs : fs ≤ 24) (v : R) : zFs fs S U (zup S1 150 v) U1 :=
  ⟨fun x hx => by rw [zup_o _ _ (by omega)]; exact h1.1 x hx, fun i hi => by
    have := hP.1 (i : Int) (by omega) (by omega)
    rw [zup_o _ _ (by omega)]
    exact h1.2.1 i hi, h1.2.2⟩
theorem zFs_a {R : Type} {fs : Nat} {S S1 : Int → R} {U U1 : zD} (h : zFr S U S1 U1) (hP : zPR U) (hfs : fs ≤ 24) : zFs fs S U S1 U1 :=
  ⟨fun x hx => h.1 x (by omega), fun i hi => by
    have := hP.1 (i : Int) (by omega) (by omega)
    exact h.1 _ (by omega), fun x i h1 _ => h.2 x i h1⟩
theorem zFs_b {R : Type} {fs i n : Nat} {S S1 : Int → R} {U U1 : zD} {g k : R} {y : Int} (h : zFr (zup (zup S (U 92 (n : Int)) g) (U 92 (i : Int)) k) (zu U 91 4 y) S1 U1) (hP : zPR U) (hi : fs ≤ i) (hin : i < n) (hn : n < 24) : zFs fs S U S1 U1 := by
  have bi := hP.1 (i : Int) (by omega) (by omega)
  have bn := hP.1 (n : Int) (by omega) (by omega)
  refine ⟨fun x hx => ?_, fun j hj => ?_, fun x j h1 h2 => ?_⟩
  · rw [h.1 x (by omega), zup_o _ _ (by omega), zup_o _ _ (by omega)]
  · have bj := hP.1 (j : Int) (by omega) (by omega)
    have n1 := hP.2 (j : Int) (i : Int) (by omega) (by omega) (by omega) (by omega) (by omega)
    have n2 := hP.2 (j : Int) (n : Int) (by omega) (by omega) (by omega) (by omega) (by omega)
    rw [h.1 _ (by omega), zup_o _ _ n1, zup_o _ _ n2]
  · rw [h.2 x j h1]
    unfold zu
    rw [if_neg h2]
theorem c73 {R : Type} [Lean.Grind.CommRing R] {p : Int} {inv : Int → Int} {co : R → Nat → Int} {X : R} {C : Int → R} (I : zIf R p inv co X C) {E : List (List Int)} {d : Nat} {T : zT} {S : Int → R} {U : zD} {Q : Int → zT → zD → Prop} (hT : zTT T) (hS : ∀ a, zlen co (S a) ≤ 25) {w : R} {n ρ c0 fs m0 : Nat} {goal : Int} (hd : 4 ≤ d) (hE : zEU U) (hP : zPR U) (hK : zKD p co C w n ρ U) (hw0 : w ≠ 0) (hsq : zsq co w) (hsp : zSp co w fs m0 S U) (hcap : fs + zlen co w ≤ 25) (hc0 : c0 < 24) (hg : zin goal)
    (hQ : ∀ S' U' m, (∀ x, zlen co (S' x) ≤ 25) → zEU U' → zPR U' → zFs fs S U S' U' → zSp co w fs m S' U' → m0 ≤ m → (∀ i, i < m → ∃ j, j < m0 ∧ zdv (zpc S' U' fs i) (zpc S U fs j)) → ((∃ e, c0 < n ∧ zpv U c0 = -1 ∧ zev p co w n c0 U e ∧ ∀ i, i < m → ∃ x : Int, zdv (zpc S' U' fs i) (e - C x)) ∨ goal ≤ ((fs + m : Nat) : Int) ∨ n ≤ c0 ∨ zpv U c0 ≠ -1) → Q 0 T (zS p inv co S' U')) :
    zc E d 0 73 [(2, 91), (0, (c0 : Int)), (0, (fs : Int)), (0, goal)] T (zS p inv co S U) Q := by
  have hp := zR_p I
  have hwl := zprd_len I (g := zpc S U fs) (n := m0) (fun i hi => (hsp.2.2 i hi).2)
  rw [hsp.2.1] at hwl
  have h4 : U 91 4 = ((fs + m0 : Nat) : Int) := hsp.1
  -- nothing to split by
  have hno : ∀ v : R, zlen co v ≤ 25 → (n ≤ c0 ∨ zpv U c0 ≠ -1) → Q 0 T (zS p inv co (zup S 150 v) U) := fun v hv h => by
    have e : ∀ i, i < m0 → zpc (zup S 150 v) U fs i = zpc S U fs i := fun i hi => by
      unfold zpc
      have := hP.1 ((fs + i : Nat) : Int) (by omega) (by omega)
      rw [zup_o _ _ (by omega)]
    refine hQ _ U m0 (zup_l hS hv) hE hP (zFs_v (zFs_r fs S U) hP (by omega) v) ⟨h4, ?_, fun i hi => ?_⟩ (Nat.le_refl _) (fun i hi => ⟨i, hi, by rw [e i hi]; exact zdv_refl _⟩) (Or.inr (Or.inr h))
    · rw [zprd_c e]; exact hsp.2.1
    · rw [e i hi]; exact hsp.2.2 i hi
  have hno0 : (n ≤ c0 ∨ zpv U c0 ≠ -1) → Q 0 T (zS p inv co S U) := fun h =>
    hQ S U m0 hS hE hP (zFs_r fs S U) hsp (Nat.le_refl _) (fun i hi => ⟨i, hi, zdv_refl _⟩) (Or.inr (Or.inr h))
  -- the loop over the numbers
  have key : ∀ (e : R), c0 < n → zpv U c0 = -1 → zev p co w n c0 U e → ∀ (t c m : Nat) (S' : Int → R) (U' : zD) (w5 w6 : zv_V), zs_wide w5 = false → zs_wide w6 = false → c + t = p.toNat → (∀ x, zlen co (S' x) ≤ 25) → zEU U' → zPR U' → zFs fs S U S' U' → zSp co w fs m S' U' → m0 ≤ m → (∀ i, i < m → ∃ j, j < m0 ∧ zdv (zpc S' U' fs i) (zpc S U fs j)) → S' 150 = e - C (c : Int) → (∀ i, i < m → ∀ c' : Nat, c' < c → zPP C (zpc S' U' fs i) e (c' : Int)) → zj E d 0 73 12 [(2, 91), (0, (c0 : Int)), (0, (fs : Int)), (0, goal), (0, (c : Int)), w5, w6] [] T (zS p inv co S' U') Q := by
    intro e hcn hcp he t
    induction t with
    | zero =>
      intro c m S' U' w5 w6 hw5 hw6 hct hS' hE' hP' hf hsp' hm hrf hv hpp
      refine z73_12 _ _ _ _ _ _ _ hw5 hw6 ⟨zX_ob hT, by omega, by rw [zX0]; exact zF_k hT, ?_⟩
      rw [zX0]
      refine c12 I hT hS' ⟨zin_n (by omega), by unfold zin; omega, fun _ => ?_, fun h => by omega⟩
      refine hQ S' U' m hS' hE' hP' hf hsp' hm hrf (Or.inl ⟨e, hcn, hcp, he, fun i hi => ?_⟩)
      have hd1 : zdv (zpc S' U' fs i) w := by rw [← hsp'.2.1]; exact zprd_dv hi
      obtain ⟨c', c1, c2⟩ := zroot_ex I (f := zpc S' U' fs i) (y := e) (hsp'.2.2 i hi).2 (zdv_trans hd1 he.2.2.2)
      rcases hpp i hi c' (by omega) with h | h
      · exact ⟨c', h⟩
      · exact absurd h c2
    | succ t ih =>
      intro c m S' U' w5 w6 hw5 hw6 hct hS' hE' hP' hf hsp' hm hrf hv hpp
      have hl' := zprd_len I (g := zpc S' U' fs) (n := m) (fun i hi => (hsp'.2.2 i hi).2)
      rw [hsp'.2.1] at hl'
      have h4' : U' 91 4 = ((fs + m : Nat) : Int) := hsp'.1
      refine z73_12 _ _ _ _ _ _ _ hw5 hw6 ⟨zX_ob hT, by omega, by rw [zX0]; exact zF_k hT, ?_⟩
      rw [zX0]
      refine c12 I hT hS' ⟨zin_n (by omega), by unfold zin; omega, fun h => by omega, fun _ => ⟨zX_ob hT, by rw [zX4, h4']; exact zin_n (by omega), hg, fun h => ?_, fun _ => ?_⟩⟩
      · rw [zX4, h4'] at h
        exact hQ S' U' m hS' hE' hP' hf hsp' hm hrf (Or.inr (Or.inl h))
      -- the loop over the pieces
      have key2 : ∀ (s i m' : Nat) (S1 : Int → R) (U1 : zD), i + s = m → m ≤ m' → (∀ x, zlen co (S1 x) ≤ 25) → zEU U1 → zPR U1 → zFs fs S U S1 U1 → zSp co w fs m' S1 U1 → (∀ i, i < m' → ∃ j, j < m0 ∧ zdv (zpc S1 U1 fs i) (zpc S U fs j)) → S1 150 = e - C (c : Int) → (∀ i, i < m' → ∀ c' : Nat, c' < c → zPP C (zpc S1 U1 fs i) e (c' : Int)) → (∀ j, j < m' → (j < i ∨ m ≤ j) → zPP C (zpc S1 U1 fs j) e (c : Int)) → zj E d 0 73 41 [(2, 91), (0, (c0 : Int)), (0, (fs : Int)), (0, goal), (0, (c : Int)), (0, ((fs + m : Nat) : Int)), (0, ((fs + i : Nat) : Int))] [] T (zS p inv co S1 U1) Q := by
        intro s
        induction s with
        | zero =>
          intro i m' S1 U1 hi hmm hS1 hE1 hP1 hf1 hsp1 hrf1 hv1 hpp1 hpc1
          have hv25 : zlen co (S1 150 - C 1) ≤ 25 := zL_sub I (hS1 150) (by have := zL_C I 1; omega)
          refine z73_41 _ _ _ _ _ _ _ ⟨zin_n (by omega), zin_n (by omega), fun _ => ⟨zX_ob hT, by omega, by rw [zXb]; exact zP_k hT q150, ?_⟩, fun h => by omega⟩
          rw [zXb, zX0]
          refine c19 I hT hS1 (k := 0) q150 (by omega) (by omega) ⟨zF_k hT, ?_⟩
          have ez : zat co (S1 150) 0 = co (S1 150) 0 := rfl
          rw [ez]
          have hrg := zR_rng I (S1 150) 0
          refine c31 I hT hS1 (by unfold zin; omega) ⟨zP_k hT q150, ?_⟩
          refine c32 I hT hS1 (k := 0) (v := S1 150 - C 1) q150 (by omega) (fun j => ?_) ?_
          · rw [zR_sub I, zR_C I]
            by_cases ej : j = 0
            · subst ej
              rw [if_pos rfl, if_pos rfl, Int.sub_emod_emod]
            · rw [if_neg ej, if_neg ej, Int.sub_zero, zR_mod I]
          · have epc : ∀ j, j < m' → zpc (zup S1 150 (S1 150 - C 1)) U1 fs j = zpc S1 U1 fs j := fun j hj => by
              unfold zpc
              have hl1 := zprd_len I (g := zpc S1 U1 fs) (n := m') (fun i hi => (hsp1.2.2 i hi).2)
              rw [hsp1.2.1] at hl1
              have := hP1.1 ((fs + j : Nat) : Int) (by omega) (by omega)
              rw [zup_o _ _ (by omega)]
            refine ih (c + 1) m' _ U1 _ _ rfl rfl (by omega) (zup_l hS1 hv25) hE1 hP1 (zFs_v hf1 hP (by omega) _) ⟨hsp1.1, by rw [zprd_c epc]; exact hsp1.2.1, fun j hj => by rw [epc j hj]; exact hsp1.2.2 j hj⟩ (by omega) (fun j hj => by rw [epc j hj]; exact hrf1 j hj) ?_ (fun j hj c' hc' => ?_)
            · rw [zup_s, hv1, show ((c + 1 : Nat) : Int) = (c : Int) + 1 by omega, zR_Cadd I]
              grind
            · rw [epc j hj]
              by_cases ec : c' = c
              · subst ec
                exact hpc1 j hj (by omega)
              · exact hpp1 j hj c' (by omega)
        | succ s ihs =>
          intro i m' S1 U1 hi hmm hS1 hE1 hP1 hf1 hsp1 hrf1 hv1 hpp1 hpc1
          have hl1 := zprd_len I (g := zpc S1 U1 fs) (n := m') (fun i hi => (hsp1.2.2 i hi).2)
          rw [hsp1.2.1] at hl1
          have him : i < m' := by omega
          obtain ⟨hmi, hli⟩ := hsp1.2.2 i him
          have hdi : zdv (zpc S1 U1 fs i) w := by rw [← hsp1.2.1]; exact zprd_dv him
          have hsi := zsq_dv hsq hdi
          refine z73_41 _ _ _ _ _ _ _ ⟨zin_n (by omega), zin_n (by omega), fun h => by omega, fun _ => ⟨by omega, zX_k hT, ?_⟩⟩
          refine c76 I hT hS1 hP1 (i := fs + i) (by omega) ⟨zX_k hT, ?_⟩
          refine c77 I hT hS1 (i := fs + i) (n := fs + m') (by omega) hE1 hP1 hsp1.1 (by omega) (fun h3 => ?_) (by omega) hmi (fun S2 U2 hS2 hE2 hP2 hf2 hno => ?_) (fun S2 U2 g h hS2 hE2 hP2 hf2 x1 x2 x3 x4 x5 x6 x7 => ?_)
          · have := zprd_len2 I (g := zpc S1 U1 fs) (n := m') (fun i hi => (hsp1.2.2 i hi).2) him h3
            rw [hsp1.2.1] at this
            omega
          · -- not split
            have e92 : ∀ j, U2 92 j = U1 92 j := fun j => hf2.2 92 j (by decide)
            have epc : ∀ j, j < m' → zpc S2 U2 fs j = zpc S1 U1 fs j := fun j hj => by
              unfold zpc
              have := hP1.1 ((fs + j : Nat) : Int) (by omega) (by omega)
              rw [e92]
              exact hf2.1 _ (by omega)
            have hthis : zPP C (zpc S1 U1 fs i) e (c : Int) := by
              rcases hno with h2 | ⟨g, g1, g2⟩
              · obtain ⟨g, g1⟩ := zgcd_ex I _ (zpc S1 U1 fs i) (e - C (c : Int)) (Nat.le_refl _)
                refine zPP_no I (zmon_ne I hmi) g1 ?_
                have h2' : zlen co (zpc S1 U1 fs i) ≤ 2 := h2
                omega
              · rw [hv1] at g1
                exact zPP_no I (zmon_ne I hmi) g1 g2
            refine ihs (i + 1) m' S2 U2 (by omega) hmm hS2 hE2 hP2 (zFs_t hf1 (zFs_a hf2 hP1 (by omega))) ⟨by rw [hf2.2 91 4 (by decide)]; exact hsp1.1, by rw [zprd_c epc]; exact hsp1.2.1, fun j hj => by rw [epc j hj]; exact hsp1.2.2 j hj⟩ (fun j hj => by rw [epc j hj]; exact hrf1 j hj) (by rw [hf2.1 150 (by omega)]; exact hv1) (fun j hj c' hc' => by rw [epc j hj]; exact hpp1 j hj c' hc') (fun j hj hh => ?_)
            rw [epc j hj]
            by_cases ej : j = i
            · subst ej; exact hthis
            · exact hpc1 j hj (by omega)
          · -- split
            have e92 : ∀ j, U2 92 j = U1 92 j := fun j => by rw [hf2.2 92 j (by decide)]; rfl
            have bm := hP1.1 ((fs + m' : Nat) : Int) (by omega) (by omega)
            have bi := hP1.1 ((fs + i : Nat) : Int) (by omega) (by omega)
            have epc : ∀ j, j < m' → zpc S2 U2 fs j = if j = i then h else zpc S1 U1 fs j := fun j hj => by
              unfold zpc
              have bj := hP1.1 ((fs + j : Nat) : Int) (by omega) (by omega)
              rw [e92, hf2.1 _ (by omega)]
              by_cases ej : j = i
              · subst ej
                rw [if_pos rfl, zup_s]
              · rw [if_neg ej, zup_o _ _ (hP1.2 _ _ (by omega) (by omega) (by omega) (by omega) (by omega)), zup_o _ _ (hP1.2 _ _ (by omega) (by omega) (by omega) (by omega) (by omega))]
            have epm : zpc S2 U2 fs m' = g := by
              unfold zpc
              rw [e92, hf2.1 _ (by omega), zup_o _ _ (hP1.2 _ _ (by omega) (by omega) (by omega) (by omega) (by omega)), zup_s]
            have hgd : zdv g (zpc S1 U1 fs i) := ⟨h, by show S1 _ = _; rw [x1]; grind⟩
            have hhd : zdv h (zpc S1 U1 fs i) := ⟨g, x1⟩
            have x2' : zgcd (zpc S1 U1 fs i) (e - C (c : Int)) g := by rw [← hv1]; exact x2
            obtain ⟨p1, p2⟩ := zPP_split I (zmon_ne I hmi) hsi x1 x2'
            have all : ∀ (P : R → Prop), P g → P h → (∀ j, j < m' → j ≠ i → P (zpc S1 U1 fs j)) → ∀ j, j < m' + 1 → P (zpc S2 U2 fs j) := by
              intro P hPg hPh hPo j hj
              by_cases ej : j = m'
              · rw [ej, epm]; exact hPg
              · rw [epc j (by omega)]
                by_cases ei : j = i
                · rw [if_pos ei]; exact hPh
                · rw [if_neg ei]; exact hPo j (by omega) ei
            refine ihs (i + 1) (m' + 1) S2 U2 (by omega) (by omega) hS2 hE2 hP2 (zFs_t hf1 (zFs_b hf2 hP1 (by omega) (by omega) x7)) ⟨?_, ?_, ?_⟩ ?_ ?_ (fun j hj c' hc' => ?_) (fun j hj hh => ?_)
            · rw [hf2.2 91 4 (by decide)]
              unfold zu
              rw [if_pos ⟨rfl, rfl⟩]
              rfl
            · rw [zprd_two (f := zpc S1 U1 fs) him x1 epc epm]; exact hsp1.2.1
            · exact all (fun f => zmon co f ∧ 2 ≤ zlen co f) ⟨x3, x5⟩ ⟨x4, x6⟩ (fun j hj _ => hsp1.2.2 j hj)
            · obtain ⟨j0, y1, y2⟩ := hrf1 i him
              exact all (fun f => ∃ j, j < m0 ∧ zdv f (zpc S U fs j)) ⟨j0, y1, zdv_trans hgd y2⟩ ⟨j0, y1, zdv_trans hhd y2⟩ (fun j hj _ => hrf1 j hj)
            · have bb := hf2.1 150 (by omega)
              rw [bb, zup_o _ _ (by omega), zup_o _ _ (by omega)]
              exact hv1
            · exact all (fun f => zPP C f e (c' : Int)) (zPP_sub (hpp1 i him c' hc') hgd) (zPP_sub (hpp1 i him c' hc') hhd) (fun j hj _ => hpp1 j hj c' hc') j hj
            · by_cases ej : j = m'
              · rw [ej, epm]; exact p1
              · rw [epc j (by omega)]
                by_cases ei : j = i
                · rw [if_pos ei]; exact p2
                · rw [if_neg ei]; exact hpc1 j (by omega) (by omega)
      rw [zX4, h4']
      have := key2 m 0 m S' U' (by omega) (Nat.le_refl _) hS' hE' hP' hf hsp' hrf hv hpp (fun j hj hh => by omega)
      exact this
  refine e73 _ _ _ _ ⟨by omega, zX_k hT, ?_⟩
  refine c74 I hT hS (f := w) (by omega) hK hc0 (fun h => ⟨zin_0, fun h' => absurd rfl h', fun _ => hno0 h⟩) (fun v hv h => ⟨zin_0, fun h' => absurd rfl h', fun _ => hno v hv h⟩) (fun v h1 h2 h3 => ⟨zin_c (by decide), fun _ => ?_, fun h => absurd h (by decide)⟩)
  have hv25 : zlen co v ≤ 25 := by have := h3.1; have := hK.2.1; omega
  have epc : ∀ i, i < m0 → zpc (zup S 150 v) U fs i = zpc S U fs i := fun i hi => by
    unfold zpc
    have := hP.1 ((fs + i : Nat) : Int) (by omega) (by omega)
    rw [zup_o _ _ (by omega)]
  refine key v h1 h2 h3 p.toNat 0 m0 _ U (9, 0) (9, 0) rfl rfl (by omega) (zup_l hS hv25) hE hP (zFs_v (zFs_r fs S U) hP (by omega) v) ⟨h4, by rw [zprd_c epc]; exact hsp.2.1, fun i hi => by rw [epc i hi]; exact hsp.2.2 i hi⟩ (Nat.le_refl _) (fun i hi => ⟨i, hi, by rw [epc i hi]; exact zdv_refl _⟩) ?_ (fun i hi c' hc' => by omega)
  rw [zup_s]
  have : C ((0 : Nat) : Int) = 0 := zR_C0 I
  rw [this]
  grind
