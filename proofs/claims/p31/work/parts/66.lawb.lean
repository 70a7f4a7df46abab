/-! The law, from the factors on. -/
theorem zLf_n {R : Type} [Lean.Grind.CommRing R] {p : Int} {inv : Int → Int} {co : R → Nat → Int} {X : R} {C : Int → R} (I : zIf R p inv co X C) {n : Nat} {F : Nat → R} {t : Nat → Int} {l : List R} {A : List (Int × R)} {N : Nat} {T : zT} {D : zD} (h : zLf p inv co n F t l A N T D) :
    zLf p inv co n F t l (((T.length : Int), 0) :: A) (N + 1) (T ++ [(50, 60)]) (znew D T.length (List.replicate 60 0)) ∧ (158 : Int) ≤ T.length ∧ ∀ a ∈ A, a.1 ≠ (T.length : Int) := by
  obtain ⟨S, U, rfl, hT, hok, h10, hl, hA, h4, h24, hF⟩ := h
  have hlen := zLT_len hT
  have hne : ∀ a ∈ A, a.1 ≠ (T.length : Int) := fun a ha => by
    have := (zk_lt (hA a ha).1 (by decide)).2
    omega
  have hz : ∀ b j, b ≠ (T.length : Int) → znew U T.length (List.replicate 60 0) b j = U b j := fun b j hb => by unfold znew; exact if_neg hb
  refine ⟨⟨S, znew U T.length (List.replicate 60 0), zS_new hlen, zLT_a hT, zOK_hi hok (fun a i ha => hz a i (by omega)), h10, hl, fun a ha => ?_, (hz 91 4 (by omega)).trans h4, h24, fun i hi => ⟨by rw [hz 92 _ (by omega)]; exact (hF i hi).1, by rw [hz 93 _ (by omega)]; exact (hF i hi).2⟩⟩, by omega, hne⟩
  rcases List.mem_cons.mp ha with rfl | ha
  · refine ⟨zkN.1, zkN.2, by show (158 : Int) ≤ T.length; omega, by show zlen co (0 : R) ≤ 25; rw [zL_0 I]; omega, fun j j0 j1 => ?_⟩
    show znew U T.length (List.replicate 60 0) (T.length : Int) j = co (0 : R) j.toNat
    have e : znew U T.length (List.replicate 60 0) (T.length : Int) j = (List.replicate 60 (0 : Int)).getD j.toNat 0 := by unfold znew; exact if_pos rfl
    rw [e, zR_zero I, List.getD_eq_getElem?_getD, List.getElem?_replicate]
    split <;> rfl
  · exact zAr_a (hA a ha) (fun i => hz _ i (hne a ha))

theorem zLf_w {R : Type} [Lean.Grind.CommRing R] {p : Int} {inv : Int → Int} {co : R → Nat → Int} {X : R} {C : Int → R} (I : zIf R p inv co X C) {n : Nat} {F : Nat → R} {t : Nat → Int} {l : List R} {A : List (Int × R)} {N : Nat} {T : zT} {D : zD} {q : Int} {f f' : R} {k : Nat} {x : Int} (h : zLf p inv co n F t l ((q, f) :: A) N T D) (hne : ∀ a ∈ A, a.1 ≠ q) (hk : k < 25) (hf : ∀ j, co f' j = if j = k then x else co f j) :
    zLf p inv co n F t l ((q, f') :: A) N T (zu D q (k : Int) x) := by
  obtain ⟨S, U, rfl, hT, hok, h10, hl, hA, h4, h24, hF⟩ := h
  obtain ⟨a1, a2, a3, a4, a5⟩ := hA (q, f) List.mem_cons_self
  have hz : ∀ b j, b ≠ q → zu U q (k : Int) x b j = U b j := fun b j hb => by unfold zu; exact if_neg (fun hh => hb hh.1)
  refine ⟨S, zu U q (k : Int) x, zS_zu (zMu_hi _ a3) (by show q ≠ 2; have : (158 : Int) ≤ q := a3; omega), hT, zOK_hi hok (fun a i ha => hz a i (by have : (158 : Int) ≤ q := a3; omega)), h10, hl, fun a ha => ?_, (hz 91 4 (by have : (158 : Int) ≤ q := a3; omega)).trans h4, h24, fun i hi => ⟨by rw [hz 92 _ (by have : (158 : Int) ≤ q := a3; omega)]; exact (hF i hi).1, by rw [hz 93 _ (by have : (158 : Int) ≤ q := a3; omega)]; exact (hF i hi).2⟩⟩
  rcases List.mem_cons.mp ha with rfl | ha
  · refine ⟨a1, a2, a3, zL_le I (fun j hj => ?_), fun j j0 j1 => ?_⟩
    · rw [hf, if_neg (by omega)]
      exact zL_hi I (by have : zlen co f ≤ 25 := a4; omega)
    · show zu U q (k : Int) x q j = co f' j.toNat
      rw [hf]
      by_cases e : j = (k : Int)
      · rw [if_pos (by omega)]
        unfold zu
        exact if_pos ⟨rfl, e⟩
      · rw [if_neg (by omega), ← a5 j j0 j1]
        unfold zu
        exact if_neg (fun hh => e hh.2)
  · exact zAr_u (hA a (List.mem_cons_of_mem _ ha)) (fun i => hz _ i (hne a ha))

theorem c96f {R : Type} [Lean.Grind.CommRing R] {p : Int} {inv : Int → Int} {co : R → Nat → Int} {X : R} {C : Int → R} (I : zIf R p inv co X C) {nn : Nat} {F : Nat → R} {t : Nat → Int} {E : List (List Int)} {d : Nat} {Q : Int → zT → zD → Prop} {l : List R} {A : List (Int × R)} {N : Nat} {T : zT} {D : zD} (h : zLf p inv co nn F t l A N T D) (hd : 1 ≤ d) {q1 q2 : Int} {f g : R} (h1 : (q1, f) ∈ A) (h2 : (q2, g) ∈ A) (hfg : zlen co f + zlen co g ≤ 26)
    (hQ : ∀ T' D', zLf p inv co nn F t l (((T.length : Int), f * g) :: A) (N + 1) T' D' → Q (T.length : Int) T' D') : zc E d 2 96 [(2, q1), (2, q2), (0, p)] T D Q := by
  have hp := zR_p I
  obtain ⟨h', h158, hne⟩ := zLf_n I h
  generalize hq : (T.length : Int) = q at h' h158 hne hQ
  have m1 : ∀ m : R, (q1, f) ∈ (q, m) :: A := fun m => List.mem_cons_of_mem _ h1
  have m2 : ∀ m : R, (q2, g) ∈ (q, m) :: A := fun m => List.mem_cons_of_mem _ h2
  have fl := (zLs_at (zLf_s h) h1).2.2.2.1
  have gl := (zLs_at (zLf_s h) h2).2.2.2.1
  have inner : ∀ (m j i : Nat) (lo gl : R) (D : zD) (T : zT), j + m = zlen co g → i < zlen co f → zlow co g j gl →
      zLf p inv co nn F t l ((q, lo * g + C (co f i) * (X ^ i * gl)) :: A) (N + 1) T D →
      (∀ T D, zLf p inv co nn F t l ((q, (lo + C (co f i) * X ^ i) * g) :: A) (N + 1) T D → zj E d 2 96 8 [(2, q1), (2, q2), (0, p), (2, q), (0, (i : Int) + 1), (0, (zlen co g : Int))] [] T D Q) →
      zj E d 2 96 20 [(2, q1), (2, q2), (0, p), (2, q), (0, (i : Int)), (0, (j : Int))] [] T D Q := by
    intro m
    induction m with
    | zero =>
      intro j i lo gl D T hj hi hgl hs hK
      obtain rfl : j = zlen co g := by omega
      refine z96_20 _ _ _ _ _ _ ⟨by omega, ?_⟩
      refine c94 I (zLf_s hs) (m2 _) ⟨by unfold zin; omega, by unfold zin; omega, fun _ => hK T D ?_, fun hh => by omega⟩
      rw [zlow_e I hgl (Nat.le_refl _)] at hs
      rw [show (lo + C (co f i) * X ^ i) * g = lo * g + C (co f i) * (X ^ i * g) by grind]
      exact hs
    | succ m ih =>
      intro j i lo gl D T hj hi hgl hs hK
      refine z96_20 _ _ _ _ _ _ ⟨by omega, ?_⟩
      have hq0 := zLs_at (zLf_s hs) List.mem_cons_self
      have hq1 := zLs_at (zLf_s hs) (m1 _)
      have hq2 := zLs_at (zLf_s hs) (m2 _)
      have e0 : D q ((i : Int) + (j : Int)) = co (lo * g + C (co f i) * (X ^ i * gl)) (i + j) := by
        rw [hq0.2.2.2.2.1 _ (by omega) (by omega)]
        congr 1
      have e1 : D q1 (i : Int) = co f i := by
        rw [hq1.2.2.2.2.1 _ (by omega) (by omega)]
        congr 1
      have e2 : D q2 (j : Int) = co g j := by
        rw [hq2.2.2.2.2.1 _ (by omega) (by omega)]
        congr 1
      have b1 := zR_rng I f i
      have b2 := zR_rng I g j
      have b0 := zR_rng I (lo * g + C (co f i) * (X ^ i * gl)) (i + j)
      have bm := zmulb (a := co f i) (b := co g j) b1.1 (by omega) b2.1 (by omega)
      refine c94 I (zLf_s hs) (m2 _) ⟨by unfold zin; omega, by unfold zin; omega, fun hh => by omega, fun _ => ⟨hq0.2.2.2.2.2 _ (by omega) (by omega), hq1.2.2.2.2.2 _ (by omega) (by omega), hq2.2.2.2.2.2 _ (by omega) (by omega), ?_, by omega, by omega, ?_⟩⟩
      · rw [e0, e1, e2]
        unfold zin
        omega
      · rw [e0, e1, e2, Int.tmod_eq_emod_of_nonneg (by omega)]
        refine ih (j + 1) i lo (gl + C (co g j) * X ^ j) _ T (by omega) hi (zlow_s I hgl) ?_ hK
        have ev : lo * g + C (co f i) * (X ^ i * (gl + C (co g j) * X ^ j)) = (lo * g + C (co f i) * (X ^ i * gl)) + C (co f i * co g j) * X ^ (i + j) := by
          rw [zpw, zR_Cmul I]
          grind
        rw [ev]
        refine zLf_w I (k := i + j) hs hne (by omega) (fun k => ?_)
        exact zcoX I _ _ _ _
  have outer : ∀ (m i : Nat) (lo : R) (D : zD) (T : zT) (w : zv_V), zs_wide w = false → i + m = zlen co f → zlow co f i lo → zLf p inv co nn F t l ((q, lo * g) :: A) (N + 1) T D → zj E d 2 96 8 [(2, q1), (2, q2), (0, p), (2, q), (0, (i : Int)), w] [] T D Q := by
    intro m
    induction m with
    | zero =>
      intro i lo D T w hw hi hlo hs
      obtain rfl : i = zlen co f := by omega
      refine z96_8 _ _ _ _ _ w hw ⟨by omega, ?_⟩
      rw [zlow_e I hlo (Nat.le_refl _)] at hs
      exact c94 I (zLf_s hs) (m1 _) ⟨by unfold zin; omega, by unfold zin; omega, fun _ => ⟨by omega, hQ T D hs⟩, fun hh => by omega⟩
    | succ m ih =>
      intro i lo D T w hw hi hlo hs
      refine z96_8 _ _ _ _ _ w hw ⟨by omega, ?_⟩
      refine c94 I (zLf_s hs) (m1 _) ⟨by unfold zin; omega, by unfold zin; omega, fun hh => by omega, fun _ => ?_⟩
      have e : lo * g = lo * g + C (co f i) * (X ^ i * 0) := by grind
      rw [e] at hs
      refine inner (zlen co g) 0 i lo 0 D T (by omega) (by omega) (zlow_0 I g) hs (fun T D hs => ?_)
      exact ih (i + 1) _ D T _ rfl (by omega) (zlow_s I hlo) hs
  refine e96 _ _ _ ?_
  rw [hq]
  refine outer (zlen co f) 0 0 _ _ _ rfl (by omega) (zlow_0 I f) ?_
  rw [show (0 : R) * g = 0 by grind]
  exact h'

theorem zLf_sub {R : Type} [Lean.Grind.CommRing R] {p : Int} {inv : Int → Int} {co : R → Nat → Int} {n : Nat} {F : Nat → R} {t : Nat → Int} {l : List R} {A A' : List (Int × R)} {N N' : Nat} {T : zT} {D : zD} (h : zLf p inv co n F t l A N T D) (hA' : ∀ a ∈ A', a ∈ A) (hN : N ≤ N') : zLf p inv co n F t l A' N' T D := by
  obtain ⟨S, U, e, ⟨T1, e1, e2, e3⟩, hok, h10, hl, hA, hr⟩ := h
  exact ⟨S, U, e, ⟨T1, e1, e2, by omega⟩, hok, h10, hl, fun a ha => hA a (hA' a ha), hr⟩
theorem zLT_le {N N' : Nat} {T : zT} (h : zLT N T) (hN : N ≤ N') : zLT N' T := by
  obtain ⟨T1, e1, e2, e3⟩ := h
  exact ⟨T1, e1, e2, by omega⟩
theorem zdv_prd {R : Type} [Lean.Grind.CommRing R] (g : Nat → R) {k : Nat} : ∀ m : Nat, zdv (zprd k g) (zprd (k + m) g) := by
  intro m
  induction m with
  | zero => exact zdv_refl _
  | succ m ih => exact zdv_mulr _ ih
theorem zdv_pw {R : Type} [Lean.Grind.CommRing R] (a : R) {i t : Nat} (h : i ≤ t) : zdv (a ^ i) (a ^ t) := by
  obtain ⟨m, rfl⟩ : ∃ m, t = i + m := ⟨t - i, by omega⟩
  rw [zpw]
  exact zdv_mulr _ (zdv_refl _)
theorem law_h {R : Type} [Lean.Grind.CommRing R] {p : Int} {inv : Int → Int} {co : R → Nat → Int} {X : R} {C : Int → R} (I : zIf R p inv co X C) {E : List (List Int)} {d : Nat} (hd : 8 ≤ d) {Q : Int → zT → zD → Prop} (hQ : ∀ T D, zLT 700 T → Q 1 T D) {q3 q4 q5 : Int} {f g h : R} (lf : zlen co f ≤ 8) (lg : zlen co g ≤ 8) {w7 : zv_V} (hw7 : zs_wide w7 = false) {l6 : Int} {x3 x4 x5 x6 x7 x8 x9 : R} {T : zT} {D : zD} (hs : zLs p inv co [f, g, h, x3, x4, x5, x6, x7, x8, x9] [(q3, f), (q4, g), (q5, h)] 3 T D) : zj E d 1 97 648 [(2, (-2)), (2, 0), (0, p), (2, q3), (2, q4), (2, q5), (0, l6), w7, (9, 0), (9, 0), (9, 0), (9, 0)] [] T D Q := by
  have hp := zR_p I
  refine z97_648 _ _ _ _ _ _ w7 hw7 ⟨by omega, zLs_k hs, l22_2 I hs (by omega) (by decide) (by decide) (by decide) (by decide) (by decide) (by decide) (by show zlen co f + zlen co g ≤ 26; omega) (fun D hs => ?_)⟩
  change zLs p inv co [f, g, h, x3, x4, x5, f * g, x7, x8, x9] [(q3, f), (q4, g), (q5, h)] 3 T D at hs
  have hlw : f * g ≠ 0 → zlen co (f * g) ≤ 15 := fun hw => by
    have := zM_len I (a := f) (b := g) (fun e => hw (by rw [e]; grind)) (fun e => hw (by rw [e]; grind))
    omega
  generalize hw : f * g = w at hs hlw
  have m3 : (q3, f) ∈ [(q3, f), (q4, g), (q5, h)] := List.mem_cons_self
  have m4 : (q4, g) ∈ [(q3, f), (q4, g), (q5, h)] := List.mem_cons_of_mem _ List.mem_cons_self
  have hwl := zLs_len hs (r := 6) (by decide) (by decide)
  change zlen co w ≤ 25 at hwl
  have hT := zLs_d hs
  refine z97_658 _ _ _ _ _ _ w7 hw7 ⟨by omega, zLs_k hs, l20 I hs (by omega) (by decide) (by decide) ?_⟩
  show zin ((zlen co w : Int) - 1) ∧ ((zlen co w : Int) - 1 ≥ 0 → _) ∧ ((zlen co w : Int) - 1 < 0 → _)
  refine ⟨by unfold zin; omega, fun hh => ?_, fun hh => ?_⟩
  case refine_2 =>
    have hw0 : w = 0 := zL_eq0 I (by omega)
    refine z97_667 _ _ _ _ _ _ w7 hw7 ⟨by omega, c94 I hs m3 ⟨by unfold zin; omega, fun _ => hQ _ _ (zLT_le hT (by decide)), fun hf => ?_⟩⟩
    refine z97_674 _ _ _ _ _ _ w7 hw7 ⟨by omega, c94 I hs m4 ⟨by unfold zin; omega, fun hg => ?_, fun _ => hQ _ _ (zLT_le hT (by decide))⟩⟩
    rw [hw0] at hw
    rcases zM_0 I hw with e | e
    · rw [e, zL_0 I] at hf
      omega
    · rw [e, zL_0 I] at hg
      omega
  case refine_1 =>
    have hw0 : w ≠ 0 := fun e => by
      rw [e, zL_0 I] at hh
      omega
    have hw15 := hlw hw0
    refine z97_688 _ _ _ _ _ _ w7 hw7 ⟨by omega, zLs_k hs, l57 I hs (by omega) (by decide) (by decide) hw0 (fun D n F t hs he hG => ?_)⟩
    change C (inv (co w (zlen co w - 1))) * w = _ at he
    have hln : ∃ m, zlen co w = m + 1 := ⟨zlen co w - 1, by omega⟩
    obtain ⟨m, hm⟩ := hln
    have hlead := zL_top I hm
    have hlr := zR_rng I w m
    have hu := zC_unit I (c := co w m) (by omega) hlr.2
    rw [hm, show m + 1 - 1 = m by omega] at he
    have hwp : w = C (co w m) * zprd n (fun i => F i ^ (t i).toNat) := by
      rw [← he]
      have : C (co w m) * (C (inv (co w m)) * w) = (C (inv (co w m)) * C (co w m)) * w := by grind
      rw [this, hu]
      grind
    have hn24 : n ≤ 24 := by
      obtain ⟨S, U, -, -, -, -, -, -, -, h24, -⟩ := hs
      exact h24
    generalize hc : co w m = c at hwp hlr hlead
    -- the rows
    obtain ⟨hs1, h158, hne⟩ := zLf_n I hs
    refine z97_696 _ _ _ _ _ _ _ ?_
    generalize hq8 : (T.length : Int) = q8 at hs1 h158 hne
    refine z97_702 _ _ _ _ _ _ _ _ ⟨by omega, zLs_k (zLf_s hs1), l20 I (zLf_s hs1) (by omega) (by decide) (by decide) ⟨zLs_k (zLf_s hs1), ?_⟩⟩
    show zc E (d - 1) 1 16 [(2, 0), (0, 6), (0, (zlen co w : Int) - 1)] _ _ _
    rw [show (zlen co w : Int) - 1 = (m : Int) by omega]
    refine l16 I (zLf_s hs1) (by omega) (by decide) (by decide) (by omega) ⟨(zLs_at (zLf_s hs1) List.mem_cons_self).2.2.2.2.2 0 (by decide) (by decide), ?_⟩
    have hs2 := zLf_w I (k := 0) (x := c) (f' := C c) hs1 hne (by decide) (fun j => by
      rw [zR_C I, zR_zero I, Int.emod_eq_of_lt hlr.1 hlr.2])
    show zj E d 1 97 718 _ [] _ (zu _ q8 0 (co w m)) Q
    rw [hc]
    change zLf p inv co n F t [f, g, h, x3, x4, x5, w, x7, x8, x9] [(q8, C c), (q3, f), (q4, g), (q5, h)] 4 _ (zu _ q8 0 c) at hs2
    refine z97_718 _ _ _ _ _ _ _ _ ?_
    have loop : ∀ (mm k : Nat) (q8 : Int) (x7 x8 x9 : R) (w10 w11 : zv_V) (T : zT) (D : zD), k + mm = n → zs_wide w10 = false → zs_wide w11 = false →
        zLf p inv co n F t [f, g, h, x3, x4, x5, w, x7, x8, x9] [(q8, C c * zprd k (fun i => F i ^ (t i).toNat)), (q3, f), (q4, g), (q5, h)] (4 + 25 * k) T D →
        zj E d 1 97 721 [(2, (-2)), (2, 0), (0, p), (2, q3), (2, q4), (2, q5), (0, l6), (0, (n : Int)), (2, q8), (0, (k : Int)), w10, w11] [] T D Q := by
      intro mm
      induction mm with
      | zero =>
        intro k q8 x7 x8 x9 w10 w11 T D hk hw10 hw11 hs
        obtain rfl : k = n := by omega
        rw [← hwp] at hs
        refine z97_721 _ _ _ _ _ _ _ _ _ w10 w11 hw10 hw11 ⟨by unfold zin; omega, by unfold zin; omega, fun _ => ?_, fun hh => by omega⟩
        refine z97_864 _ _ _ _ _ _ _ _ _ w10 w11 hw10 hw11 ⟨by omega, c95 I (zLf_s hs) (by omega) (by decide) (by decide) List.mem_cons_self rfl ⟨by unfold zin; omega, fun hh => absurd hh (by decide), fun _ => ?_⟩⟩
        have m5 : (q5, h) ∈ [(q8, w), (q3, f), (q4, g), (q5, h)] := by simp
        refine z97_875 _ _ _ _ _ _ _ _ _ w10 w11 hw10 hw11 ⟨by omega, c95 I (zLf_s hs) (by omega) (by decide) (by decide) m5 rfl ⟨by unfold zin; omega, fun hh => absurd hh (by decide), fun _ => hQ _ _ (zLT_le (zLs_d (zLf_s hs)) (by omega))⟩⟩
      | succ mm ih =>
        intro k q8 x7 x8 x9 w10 w11 T D hk hw10 hw11 hs
        have hkn : k < n := by omega
        have hGk := hG k hkn
        have hFm := hGk.1
        have hF0 := zmon_ne I hFm
        have hF2 := hGk.2.1
        have ht1 := hGk.2.2.2.2.1
        have ht24 := hGk.2.2.2.2.2
        -- what is multiplied up to now divides the whole
        have hdv : ∀ i : Nat, i + 1 ≤ (t k).toNat → zlen co (C c * zprd k (fun i => F i ^ (t i).toNat) * F k ^ i) + zlen co (F k) ≤ 16 := by
          intro i hi
          have d1 : zdv (C c * (zprd k (fun i => F i ^ (t i).toNat) * F k ^ (i + 1))) w := by
            rw [hwp]
            refine zdv_mm (zdv_refl _) (zdv_trans (zdv_mm (zdv_refl _) (zdv_pw (F k) hi)) ?_)
            have := zdv_prd (fun i => F i ^ (t i).toNat) (k := k + 1) mm
            rw [show k + 1 + mm = n by omega] at this
            exact this
          have e1 : C c * (zprd k (fun i => F i ^ (t i).toNat) * F k ^ (i + 1)) = (C c * zprd k (fun i => F i ^ (t i).toNat) * F k ^ i) * F k := by
            rw [zpw, show F k ^ 1 = F k by grind]
            grind
          rw [e1] at d1
          have hl := zdv_len I d1 hw0
          have hz : C c * zprd k (fun i => F i ^ (t i).toNat) * F k ^ i ≠ 0 := fun e => by
            rw [e] at d1
            obtain ⟨z, hz⟩ := d1
            exact hw0 (by rw [hz]; grind)
          have := zM_len I hz hF0
          omega
        have hFw : zdv (F k) (f * g) := by
          rw [hw, hwp]
          refine zdv_mul _ (zdv_trans ?_ (zprd_dv (g := fun i => F i ^ (t i).toNat) hkn))
          have := zdv_pw (F k) (i := 1) (t := (t k).toNat) (by omega)
          rwa [show F k ^ 1 = F k by grind] at this
        refine z97_721 _ _ _ _ _ _ _ _ _ w10 w11 hw10 hw11 ⟨by unfold zin; omega, by unfold zin; omega, fun hh => by omega, fun _ => ?_⟩
        refine z97_728 _ _ _ _ _ _ _ _ _ w10 w11 hw10 hw11 ⟨by omega, zLs_k (zLf_s hs), l87 I hs (by omega) hkn (by decide) (by decide) (fun D hs => ?_)⟩
        change zLf p inv co n F t [f, g, h, x3, x4, x5, w, F k, x8, x9] _ _ T D at hs
        have hFl := zLs_len (zLf_s hs) (r := 7) (by decide) (by decide)
        change zlen co (F k) ≤ 25 at hFl
        obtain ⟨hs1, h158', hne⟩ := zLf_n I hs
        refine z97_737 _ _ _ _ _ _ _ _ _ w10 w11 hw10 hw11 ?_
        generalize hq10 : (T.length : Int) = q10 at hs1 h158' hne
        refine z97_743 _ _ _ _ _ _ _ _ _ _ w11 hw11 ?_
        -- the inner part, once its coefficients are read
        have rest : ∀ (l11 : Int) (T : zT) (D : zD), zLf p inv co n F t [f, g, h, x3, x4, x5, w, F k, x8, x9] ((q10, F k) :: (q8, C c * zprd k (fun i => F i ^ (t i).toNat)) :: [(q3, f), (q4, g), (q5, h)]) (4 + 25 * k + 1) T D → zj E d 1 97 772 [(2, (-2)), (2, 0), (0, p), (2, q3), (2, q4), (2, q5), (0, l6), (0, (n : Int)), (2, q8), (0, (k : Int)), (2, q10), (0, l11)] [] T D Q := by
          intro l11 T D hs
          refine z97_772 _ _ _ _ _ _ _ _ _ _ _ ⟨by omega, zLs_k (zLf_s hs), l88 I hs (by omega) (by decide) (by decide) (t1 := t k) hGk (fun D hs => ?_)⟩
          refine ⟨by unfold zin; omega, fun hh => absurd hh (by decide), fun _ => ?_⟩
          obtain ⟨b, hb1, hb2⟩ := hFm
          have hat := zLs_at (zLf_s hs) List.mem_cons_self
          have hat5 := hat.2.2.2.2.1 (b : Int) (by omega) (by omega)
          rw [Int.toNat_natCast, hb2] at hat5
          refine z97_781 _ _ _ _ _ _ _ _ _ _ _ ⟨by omega, c94 I (zLf_s hs) List.mem_cons_self ?_⟩
          rw [show (zlen co (F k) : Int) - 1 = (b : Int) by omega, hat5]
          refine ⟨hat.2.2.2.2.2 _ (by omega) (by omega), by unfold zin; omega, fun _ => ?_, fun hh => absurd rfl hh⟩
          -- the powers of the factor
          have mult : ∀ (T : zT) (D : zD) (x8 x9 : R), zLf p inv co n F t [f, g, h, x3, x4, x5, w, F k, x8, x9] ((q10, F k) :: (q8, C c * zprd k (fun i => F i ^ (t i).toNat)) :: [(q3, f), (q4, g), (q5, h)]) (4 + 25 * k + 1) T D → zj E d 1 97 827 [(2, (-2)), (2, 0), (0, p), (2, q3), (2, q4), (2, q5), (0, l6), (0, (n : Int)), (2, q8), (0, (k : Int)), (2, q10), (0, l11)] [] T D Q := by
            intro T D x8 x9 hs
            have inner : ∀ (mi i : Nat) (q8 : Int) (T : zT) (D : zD), i + mi = (t k).toNat → zLf p inv co n F t [f, g, h, x3, x4, x5, w, F k, x8, x9] ((q8, C c * zprd k (fun i => F i ^ (t i).toNat) * F k ^ i) :: (q10, F k) :: [(q3, f), (q4, g), (q5, h)]) (4 + 25 * k + 1 + i) T D → zj E d 1 97 830 [(2, (-2)), (2, 0), (0, p), (2, q3), (2, q4), (2, q5), (0, l6), (0, (n : Int)), (2, q8), (0, (k : Int)), (2, q10), (0, (i : Int))] [] T D Q := by
              intro mi
              induction mi with
              | zero =>
                intro i q8 T D hi hs
                refine z97_830 _ _ _ _ _ _ _ _ _ _ _ ⟨by omega, zLs_k (zLf_s hs), l84 I hs (by omega) hkn ⟨by unfold zin; omega, by unfold zin; omega, fun _ => ?_, fun hh => by omega⟩⟩
                refine z97_858 _ _ _ _ _ _ _ _ _ _ _ ?_
                refine ih (k + 1) q8 (F k) x8 x9 _ _ T D (by omega) rfl rfl ?_
                have e : C c * zprd (k + 1) (fun i => F i ^ (t i).toNat) = C c * zprd k (fun i => F i ^ (t i).toNat) * F k ^ i := by
                  rw [show i = (t k).toNat by omega]
                  show C c * (zprd k (fun i => F i ^ (t i).toNat) * F k ^ (t k).toNat) = _
                  grind
                rw [e]
                exact zLf_sub hs (fun a ha => by
                  simp only [List.mem_cons] at ha ⊢
                  rcases ha with ha | ha
                  · exact Or.inl ha
                  · exact Or.inr (Or.inr ha)) (by omega)
              | succ mi ih2 =>
                intro i q8 T D hi hs
                refine z97_830 _ _ _ _ _ _ _ _ _ _ _ ⟨by omega, zLs_k (zLf_s hs), l84 I hs (by omega) hkn ⟨by unfold zin; omega, by unfold zin; omega, fun hh => by omega, fun _ => ?_⟩⟩
                refine z97_842 _ _ _ _ _ _ _ _ _ _ _ ⟨by omega, c96f I hs (by omega) List.mem_cons_self (List.mem_cons_of_mem _ List.mem_cons_self) (by have := hdv i (by omega); omega) (fun T' D' hs => ?_)⟩
                have e : C c * zprd k (fun i => F i ^ (t i).toNat) * F k ^ i * F k = C c * zprd k (fun i => F i ^ (t i).toNat) * F k ^ (i + 1) := by
                  rw [zpw, show F k ^ 1 = F k by grind]
                  grind
                rw [e] at hs
                exact ih2 (i + 1) _ T' D' (by omega) (zLf_sub hs (fun a ha => by
                  simp only [List.mem_cons] at ha ⊢
                  rcases ha with ha | ha
                  · exact Or.inl ha
                  · exact Or.inr (Or.inr ha)) (by omega))
            refine z97_827 _ _ _ _ _ _ _ _ _ _ _ (inner (t k).toNat 0 q8 T D (by omega) (zLf_sub hs (fun a ha => ?_) (by omega)))
            rw [show C c * zprd k (fun i => F i ^ (t i).toNat) * F k ^ 0 = C c * zprd k (fun i => F i ^ (t i).toNat) by grind] at ha
            simp only [List.mem_cons] at ha ⊢
            rcases ha with ha | ha | ha
            · exact Or.inr (Or.inl ha)
            · exact Or.inl ha
            · exact Or.inr (Or.inr ha)
          have hno : ∀ {a qq rr : R}, a = qq * F k + rr → zlen co rr < zlen co (F k) → ((zlen co rr : Int) - 1 ≠ -1) → ¬ zdv (F k) a := by
            intro a qq rr e1 e2 e3 e4
            have : zdv (F k) rr := by
              have e5 : rr = a - qq * F k := by rw [e1]; grind
              rw [e5]
              exact zdv_sub e4 (zdv_mul _ (zdv_refl _))
            have := zdv_small I this e2
            rw [this, zL_0 I] at e3
            exact e3 rfl
          refine z97_795 _ _ _ _ _ _ _ _ _ _ _ ⟨by omega, zLs_k (zLf_s hs), l43f I hs (by omega) (by decide) (by decide) (by decide) (by decide) (by decide) (by decide) (by decide) (by decide) (by decide) hF0 (fun D qq rr he1 hr1 hs => ?_)⟩
          change f = qq * F k + rr at he1
          change zlen co rr < zlen co (F k) at hr1
          change zLf p inv co n F t [f, g, h, x3, x4, x5, w, F k, qq, rr] _ _ T D at hs
          refine ⟨by unfold zin; omega, fun _ => mult T D qq rr hs, fun h1 => ?_⟩
          refine z97_810 _ _ _ _ _ _ _ _ _ _ _ ⟨by omega, zLs_k (zLf_s hs), l43f I hs (by omega) (by decide) (by decide) (by decide) (by decide) (by decide) (by decide) (by decide) (by decide) (by decide) hF0 (fun D qq2 rr2 he2 hr2 hs => ?_)⟩
          change g = qq2 * F k + rr2 at he2
          change zlen co rr2 < zlen co (F k) at hr2
          change zLf p inv co n F t [f, g, h, x3, x4, x5, w, F k, qq2, rr2] _ _ T D at hs
          refine ⟨by unfold zin; omega, fun _ => mult T D qq2 rr2 hs, fun h2 => ?_⟩
          rcases zK_prime I hF2 hGk.2.2.1 hGk.2.2.2.1 hFw with e | e
          · exact absurd e (hno he1 hr1 h1)
          · exact absurd e (hno he2 hr2 h2)
        have read : ∀ (mi i : Nat) (v : R) (T : zT) (D : zD), i + mi = 25 → zlow co (F k) i v → zLf p inv co n F t [f, g, h, x3, x4, x5, w, F k, x8, x9] ((q10, v) :: (q8, C c * zprd k (fun i => F i ^ (t i).toNat)) :: [(q3, f), (q4, g), (q5, h)]) (4 + 25 * k + 1) T D → zj E d 1 97 746 [(2, (-2)), (2, 0), (0, p), (2, q3), (2, q4), (2, q5), (0, l6), (0, (n : Int)), (2, q8), (0, (k : Int)), (2, q10), (0, (i : Int))] [] T D Q := by
          intro mi
          induction mi with
          | zero =>
            intro i v T D hi hv hs
            rw [zlow_e I hv (by omega)] at hs
            exact z97_746 _ _ _ _ _ _ _ _ _ _ _ ⟨by unfold zin; omega, fun _ => rest _ T D hs, fun hh => by omega⟩
          | succ mi ih3 =>
            intro i v T D hi hv hs
            refine z97_746 _ _ _ _ _ _ _ _ _ _ _ ⟨by unfold zin; omega, fun hh => by omega, fun _ => ⟨by omega, zLs_k (zLf_s hs), l16 I (zLf_s hs) (by omega) (by decide) (by decide) (by omega) ⟨(zLs_at (zLf_s hs) List.mem_cons_self).2.2.2.2.2 _ (by omega) (by omega), ?_⟩⟩⟩
            refine ih3 (i + 1) (v + C (co (F k) i) * X ^ i) T _ (by omega) (zlow_s I hv) ?_
            refine zLf_w I (k := i) (x := co (F k) i) hs hne (by omega) (fun j => ?_)
            have e0 : co v i = 0 := by rw [hv i, if_neg (by omega)]
            rw [zcoX I, e0, Int.zero_add, zR_mod I]
        exact read 25 0 0 _ _ (by omega) (zlow_0 I _) hs1
    exact loop n 0 q8 x7 x8 x9 _ _ _ _ (by omega) rfl rfl (by
      rw [show C c * zprd 0 (fun i => F i ^ (t i).toNat) = C c by show C c * 1 = C c; grind]
      exact hs2)
