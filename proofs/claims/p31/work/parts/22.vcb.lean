/-! Conditions of methods, by program (wip/tools/vcg.py). -/
theorem z31_0 {E : List (List Int)} {d : Nat} {T : zT} {D : zD} {Q : Int → zT → zD → Prop}  (l0 : Int) (l1 : Int) 
  (H : zob T l0 1 2 ∧ zin (D l0 0) ∧ (((D l0 0) ≥ 2 → 0 < (D l0 0) ∧ (D l0 0) ≤ 2147483647 ∧ zin (((Int32.ofInt l1).toInt).tmod (D l0 0)) ∧ (((((Int32.ofInt l1).toInt).tmod (D l0 0)) ≥ 0 → Q (((Int32.ofInt l1).toInt).tmod (D l0 0)) T D) ∧ ((((Int32.ofInt l1).toInt).tmod (D l0 0)) < 0 → Q ((((Int32.ofInt l1).toInt).tmod (D l0 0)) + (D l0 0)) T D))) ∧ ((D l0 0) < 2 → Q 0 T D))) :
  zj E d 1 31 0 [(2, l0), (0, l1), (9, 0)] [] T D Q := by
  refine zr_aload_n rfl rfl ?_
  obtain ⟨h1, H⟩ := H
  refine zr_getfield (n := 2) rfl h1 (by decide) rfl (by decide) ?_
  refine zr_iconst rfl ?_
  obtain ⟨h2, H⟩ := H
  refine zr_icmp_ge rfl h2 (zin_c (by decide)) (fun hc => ?_) (fun hc => ?_)
  · replace H := H.1 hc
    refine zr_iload_n rfl rfl ?_
    refine zr_aload_n rfl rfl ?_
    refine zr_getfield (n := 2) rfl h1 (by decide) rfl (by decide) ?_
    obtain ⟨h3, H⟩ := H
    obtain ⟨h4, H⟩ := H
    refine zr_iremN rfl h3 h4 ?_
    refine zr_istore_n rfl rfl ?_
    show zj _ _ _ _ _ [(2, l0), (0, l1), (0, (((Int32.ofInt l1).toInt).tmod (D l0 0)))] [] _ _ _
    refine zr_iload_n rfl rfl ?_
    obtain ⟨h5, H⟩ := H
    refine zr_if_ge rfl h5 (fun hc => ?_) (fun hc => ?_)
    · replace H := H.1 hc
      refine zr_iload_n rfl rfl ?_
      exact zr_ireturn rfl rfl rfl H
    · replace H := H.2 hc
      refine zr_iload_n rfl rfl ?_
      refine zr_aload_n rfl rfl ?_
      refine zr_getfield (n := 2) rfl h1 (by decide) rfl (by decide) ?_
      refine zr_iadd rfl ?_
      refine zr_goto rfl ?_
      exact zr_ireturn rfl rfl rfl H
  · replace H := H.2 hc
    refine zr_iconst rfl ?_
    exact zr_ireturn rfl rfl rfl H
theorem e31 {E : List (List Int)} {d : Nat} {T : zT} {D : zD} {Q : Int → zT → zD → Prop}  (l0 : Int) (l1 : Int) 
  (H : zob T l0 1 2 ∧ zin (D l0 0) ∧ (((D l0 0) ≥ 2 → 0 < (D l0 0) ∧ (D l0 0) ≤ 2147483647 ∧ zin (((Int32.ofInt l1).toInt).tmod (D l0 0)) ∧ (((((Int32.ofInt l1).toInt).tmod (D l0 0)) ≥ 0 → Q (((Int32.ofInt l1).toInt).tmod (D l0 0)) T D) ∧ ((((Int32.ofInt l1).toInt).tmod (D l0 0)) < 0 → Q ((((Int32.ofInt l1).toInt).tmod (D l0 0)) + (D l0 0)) T D))) ∧ ((D l0 0) < 2 → Q 0 T D))) :
  zc E d 1 31 [(2, l0), (0, l1)] T D Q :=
  zc_of (ls := [(2, l0), (0, l1), (9, 0)]) (fun _ => rfl) (z31_0  l0 l1 H)
theorem z32_0 {E : List (List Int)} {d : Nat} {T : zT} {D : zD} {Q : Int → zT → zD → Prop}  (l0 : Int) (l1 : Int) (l2 : Int) 
  (H : zin l1 ∧ ((l1 < 0 → Q 0 T D) ∧ (l1 ≥ 0 → zob T l0 3 3 ∧ zk T (D l0 1) = 50 ∧ zin (zn T (D l0 1)) ∧ ((l1 < (zn T (D l0 1)) → zar T (D l0 1) 50 l1 ∧ zin l2 ∧ ((l2 = 0 → zj E d 0 32 38 [(2, l0), (0, l1), (0, l2)] [] T (zu D (D l0 1) l1 l2) Q) ∧ (l2 ≠ 0 → zin ((zu D (D l0 1) l1 l2) l0 2) ∧ ((l1 ≤ ((zu D (D l0 1) l1 l2) l0 2) → zj E d 0 32 38 [(2, l0), (0, l1), (0, l2)] [] T (zu D (D l0 1) l1 l2) Q) ∧ (l1 > ((zu D (D l0 1) l1 l2) l0 2) → zj E d 0 32 38 [(2, l0), (0, l1), (0, l2)] [] T (zu (zu D (D l0 1) l1 l2) l0 2 l1) Q))))) ∧ (l1 ≥ (zn T (D l0 1)) → Q 0 T D))))) :
  zj E d 0 32 0 [(2, l0), (0, l1), (0, l2)] [] T D Q := by
  refine zr_iload_n rfl rfl ?_
  obtain ⟨h1, H⟩ := H
  refine zr_if_lt rfl h1 (fun hc => ?_) (fun hc => ?_)
  · replace H := H.1 hc
    exact zr_return rfl rfl rfl H
  · replace H := H.2 hc
    refine zr_iload_n rfl rfl ?_
    refine zr_aload_n rfl rfl ?_
    obtain ⟨h2, H⟩ := H
    refine zr_getfield (n := 3) rfl h2 (by decide) rfl (by decide) ?_
    obtain ⟨h3, H⟩ := H
    refine zr_arraylength rfl (Or.inl h3) ?_
    obtain ⟨h4, H⟩ := H
    refine zr_icmp_lt rfl h1 h4 (fun hc => ?_) (fun hc => ?_)
    · replace H := H.1 hc
      refine zr_aload_n rfl rfl ?_
      refine zr_getfield (n := 3) rfl h2 (by decide) rfl (by decide) ?_
      refine zr_iload_n rfl rfl ?_
      refine zr_iload_n rfl rfl ?_
      obtain ⟨h5, H⟩ := H
      refine zr_iastore rfl h5 ?_
      refine zr_iload_n rfl rfl ?_
      obtain ⟨h6, H⟩ := H
      refine zr_if_eq rfl h6 (fun hc => ?_) (fun hc => ?_)
      · replace H := H.1 hc
        exact H
      · replace H := H.2 hc
        refine zr_iload_n rfl rfl ?_
        refine zr_aload_n rfl rfl ?_
        refine zr_getfield (n := 3) rfl h2 (by decide) rfl (by decide) ?_
        obtain ⟨h7, H⟩ := H
        refine zr_icmp_le rfl h1 h7 (fun hc => ?_) (fun hc => ?_)
        · replace H := H.1 hc
          exact H
        · replace H := H.2 hc
          refine zr_aload_n rfl rfl ?_
          refine zr_iload_n rfl rfl ?_
          refine zr_putfield (n := 3) (t := 0) rfl h2 (by decide) rfl (by decide) rfl ?_
          exact H
    · replace H := H.2 hc
      exact zr_return rfl rfl rfl H
theorem e32 {E : List (List Int)} {d : Nat} {T : zT} {D : zD} {Q : Int → zT → zD → Prop}  (l0 : Int) (l1 : Int) (l2 : Int) 
  (H : zin l1 ∧ ((l1 < 0 → Q 0 T D) ∧ (l1 ≥ 0 → zob T l0 3 3 ∧ zk T (D l0 1) = 50 ∧ zin (zn T (D l0 1)) ∧ ((l1 < (zn T (D l0 1)) → zar T (D l0 1) 50 l1 ∧ zin l2 ∧ ((l2 = 0 → zj E d 0 32 38 [(2, l0), (0, l1), (0, l2)] [] T (zu D (D l0 1) l1 l2) Q) ∧ (l2 ≠ 0 → zin ((zu D (D l0 1) l1 l2) l0 2) ∧ ((l1 ≤ ((zu D (D l0 1) l1 l2) l0 2) → zj E d 0 32 38 [(2, l0), (0, l1), (0, l2)] [] T (zu D (D l0 1) l1 l2) Q) ∧ (l1 > ((zu D (D l0 1) l1 l2) l0 2) → zj E d 0 32 38 [(2, l0), (0, l1), (0, l2)] [] T (zu (zu D (D l0 1) l1 l2) l0 2 l1) Q))))) ∧ (l1 ≥ (zn T (D l0 1)) → Q 0 T D))))) :
  zc E d 0 32 [(2, l0), (0, l1), (0, l2)] T D Q :=
  zc_of (ls := [(2, l0), (0, l1), (0, l2)]) (fun _ => rfl) (z32_0  l0 l1 l2 H)
theorem z32_38 {E : List (List Int)} {d : Nat} {T : zT} {D : zD} {Q : Int → zT → zD → Prop}  (l0 : Int) (l1 : Int) (l2 : Int) 
  (H : zob T l0 3 3 ∧ zin (D l0 2) ∧ (((D l0 2) < 0 → Q 0 T D) ∧ ((D l0 2) ≥ 0 → zk T (D l0 1) = 50 ∧ zin (zn T (D l0 1)) ∧ (((D l0 2) ≥ (zn T (D l0 1)) → Q 0 T D) ∧ ((D l0 2) < (zn T (D l0 1)) → zar T (D l0 1) 50 (D l0 2) ∧ zin (D (D l0 1) (D l0 2)) ∧ (((D (D l0 1) (D l0 2)) ≠ 0 → Q 0 T D) ∧ ((D (D l0 1) (D l0 2)) = 0 → zj E d 0 32 38 [(2, l0), (0, l1), (0, l2)] [] T (zu D l0 2 ((D l0 2) - 1)) Q))))))) :
  zj E d 0 32 38 [(2, l0), (0, l1), (0, l2)] [] T D Q := by
  refine zr_aload_n rfl rfl ?_
  obtain ⟨h1, H⟩ := H
  refine zr_getfield (n := 3) rfl h1 (by decide) rfl (by decide) ?_
  obtain ⟨h2, H⟩ := H
  refine zr_if_lt rfl h2 (fun hc => ?_) (fun hc => ?_)
  · replace H := H.1 hc
    exact zr_return rfl rfl rfl H
  · replace H := H.2 hc
    refine zr_aload_n rfl rfl ?_
    refine zr_getfield (n := 3) rfl h1 (by decide) rfl (by decide) ?_
    refine zr_aload_n rfl rfl ?_
    refine zr_getfield (n := 3) rfl h1 (by decide) rfl (by decide) ?_
    obtain ⟨h3, H⟩ := H
    refine zr_arraylength rfl (Or.inl h3) ?_
    obtain ⟨h4, H⟩ := H
    refine zr_icmp_ge rfl h2 h4 (fun hc => ?_) (fun hc => ?_)
    · replace H := H.1 hc
      exact zr_return rfl rfl rfl H
    · replace H := H.2 hc
      refine zr_aload_n rfl rfl ?_
      refine zr_getfield (n := 3) rfl h1 (by decide) rfl (by decide) ?_
      refine zr_aload_n rfl rfl ?_
      refine zr_getfield (n := 3) rfl h1 (by decide) rfl (by decide) ?_
      obtain ⟨h5, H⟩ := H
      refine zr_iaload rfl h5 ?_
      obtain ⟨h6, H⟩ := H
      refine zr_if_ne rfl h6 (fun hc => ?_) (fun hc => ?_)
      · replace H := H.1 hc
        exact zr_return rfl rfl rfl H
      · replace H := H.2 hc
        refine zr_aload_n rfl rfl ?_
        refine zr_dup rfl rfl ?_
        refine zr_getfield (n := 3) rfl h1 (by decide) rfl (by decide) ?_
        refine zr_iconst rfl ?_
        refine zr_isub rfl ?_
        refine zr_putfield (n := 3) (t := 0) rfl h1 (by decide) rfl (by decide) rfl ?_
        refine zr_goto rfl ?_
        exact H
theorem z33_0 {E : List (List Int)} {d : Nat} {T : zT} {D : zD} {Q : Int → zT → zD → Prop}  (l0 : Int) (l1 : Int) (l2 : Int) 
  (H : zob T l0 0 9 ∧ 0 < d ∧ zk T (D l0 3) = 3 ∧ zc E (d - 1) 0 25 [(2, (D l0 3)), (2, l1)] T D (fun x4 T4 D4 => zob T4 l0 0 9 ∧ zk T4 (D4 l0 4) = 3 ∧ zc E (d - 1) 0 25 [(2, (D4 l0 4)), (2, l2)] T4 D4 (fun x7 T7 D7 => zj E d 0 33 18 [(2, l0), (2, l1), (2, l2), (0, 0)] [] T7 D7 Q))) :
  zj E d 0 33 0 [(2, l0), (2, l1), (2, l2), (9, 0)] [] T D Q := by
  refine zr_aload_n rfl rfl ?_
  obtain ⟨h1, H⟩ := H
  refine zr_getfield (n := 9) rfl h1 (by decide) rfl (by decide) ?_
  refine zr_aload_n rfl rfl ?_
  obtain ⟨h2, H⟩ := H
  obtain ⟨h3, H⟩ := H
  refine zr_invokevirtual (rt2 := 0) rfl rfl rfl rfl rfl h3 (by decide) h2 (zc_mono H ?_)
  intro x4 T4 D4 H
  show zj _ _ _ _ _ [(2, l0), (2, l1), (2, l2), (9, 0)] [] _ _ _
  refine zr_aload_n rfl rfl ?_
  obtain ⟨h5, H⟩ := H
  refine zr_getfield (n := 9) rfl h5 (by decide) rfl (by decide) ?_
  refine zr_aload_n rfl rfl ?_
  obtain ⟨h6, H⟩ := H
  refine zr_invokevirtual (rt2 := 0) rfl rfl rfl rfl rfl h6 (by decide) h2 (zc_mono H ?_)
  intro x7 T7 D7 H
  show zj _ _ _ _ _ [(2, l0), (2, l1), (2, l2), (9, 0)] [] _ _ _
  refine zr_iconst rfl ?_
  refine zr_istore_n rfl rfl ?_
  show zj _ _ _ _ _ [(2, l0), (2, l1), (2, l2), (0, 0)] [] _ _ _
  exact H
theorem e33 {E : List (List Int)} {d : Nat} {T : zT} {D : zD} {Q : Int → zT → zD → Prop}  (l0 : Int) (l1 : Int) (l2 : Int) 
  (H : zob T l0 0 9 ∧ 0 < d ∧ zk T (D l0 3) = 3 ∧ zc E (d - 1) 0 25 [(2, (D l0 3)), (2, l1)] T D (fun x4 T4 D4 => zob T4 l0 0 9 ∧ zk T4 (D4 l0 4) = 3 ∧ zc E (d - 1) 0 25 [(2, (D4 l0 4)), (2, l2)] T4 D4 (fun x7 T7 D7 => zj E d 0 33 18 [(2, l0), (2, l1), (2, l2), (0, 0)] [] T7 D7 Q))) :
  zc E d 0 33 [(2, l0), (2, l1), (2, l2)] T D Q :=
  zc_of (ls := [(2, l0), (2, l1), (2, l2), (9, 0)]) (fun _ => rfl) (z33_0  l0 l1 l2 H)
theorem z33_18 {E : List (List Int)} {d : Nat} {T : zT} {D : zD} {Q : Int → zT → zD → Prop}  (l0 : Int) (l1 : Int) (l2 : Int) (l3 : Int) 
  (H : zin l3 ∧ ((l3 ≥ 1000 → zj E d 0 33 57 [(2, l0), (2, l1), (2, l2), (0, l3)] [] T D Q) ∧ (l3 < 1000 → zob T l0 0 9 ∧ 0 < d ∧ zk T (D l0 4) = 3 ∧ zc E (d - 1) 1 34 [(2, (D l0 4))] T D (fun x5 T5 D5 => zin x5 ∧ ((x5 ≠ 0 → zj E d 0 33 57 [(2, l0), (2, l1), (2, l2), (0, l3)] [] T5 D5 Q) ∧ (x5 = 0 → zob T5 l0 0 9 ∧ zk T5 (D5 l0 3) = 3 ∧ zc E (d - 1) 0 35 [(2, (D5 l0 3)), (2, (D5 l0 4)), (2, (-1))] T5 D5 (fun x9 T9 D9 => zk T9 l0 = 0 ∧ zc E (d - 1) 0 39 [(2, l0)] T9 D9 (fun x11 T11 D11 => zj E d 0 33 18 [(2, l0), (2, l1), (2, l2), (0, l3 + 1)] [] T11 D11 Q)))))))) :
  zj E d 0 33 18 [(2, l0), (2, l1), (2, l2), (0, l3)] [] T D Q := by
  refine zr_iload_n rfl rfl ?_
  refine zr_sipush rfl ?_
  obtain ⟨h1, H⟩ := H
  refine zr_icmp_ge rfl h1 (zin_c (by decide)) (fun hc => ?_) (fun hc => ?_)
  · replace H := H.1 hc
    exact H
  · replace H := H.2 hc
    refine zr_aload_n rfl rfl ?_
    obtain ⟨h2, H⟩ := H
    refine zr_getfield (n := 9) rfl h2 (by decide) rfl (by decide) ?_
    obtain ⟨h3, H⟩ := H
    obtain ⟨h4, H⟩ := H
    refine zr_invokevirtual (rt2 := 1) rfl rfl rfl rfl rfl h4 (by decide) h3 (zc_mono H ?_)
    intro x5 T5 D5 H
    show zj _ _ _ _ _ [(2, l0), (2, l1), (2, l2), (0, l3)] [(0, x5)] _ _ _
    obtain ⟨h6, H⟩ := H
    refine zr_if_ne rfl h6 (fun hc => ?_) (fun hc => ?_)
    · replace H := H.1 hc
      exact H
    · replace H := H.2 hc
      refine zr_aload_n rfl rfl ?_
      obtain ⟨h7, H⟩ := H
      refine zr_getfield (n := 9) rfl h7 (by decide) rfl (by decide) ?_
      refine zr_aload_n rfl rfl ?_
      refine zr_getfield (n := 9) rfl h7 (by decide) rfl (by decide) ?_
      refine zr_aconst_null rfl ?_
      obtain ⟨h8, H⟩ := H
      refine zr_invokevirtual (rt2 := 0) rfl rfl rfl rfl rfl h8 (by decide) h3 (zc_mono H ?_)
      intro x9 T9 D9 H
      show zj _ _ _ _ _ [(2, l0), (2, l1), (2, l2), (0, l3)] [] _ _ _
      refine zr_aload_n rfl rfl ?_
      obtain ⟨h10, H⟩ := H
      refine zr_invokevirtual (rt2 := 0) rfl rfl rfl rfl rfl h10 (by decide) h3 (zc_mono H ?_)
      intro x11 T11 D11 H
      show zj _ _ _ _ _ [(2, l0), (2, l1), (2, l2), (0, l3)] [] _ _ _
      refine zr_iinc rfl rfl rfl ?_
      show zj _ _ _ _ _ [(2, l0), (2, l1), (2, l2), (0, l3 + 1)] [] _ _ _
      refine zr_goto rfl ?_
      exact H
theorem z33_57 {E : List (List Int)} {d : Nat} {T : zT} {D : zD} {Q : Int → zT → zD → Prop}  (l0 : Int) (l1 : Int) (l2 : Int) (l3 : Int) 
  (H : zob T l0 0 9 ∧ 0 < d ∧ zk T (D l0 3) = 3 ∧ zc E (d - 1) 1 36 [(2, (D l0 3))] T D (fun x4 T4 D4 => zk T4 (D l0 0) = 1 ∧ zc E (d - 1) 1 37 [(2, (D l0 0)), (0, x4)] T4 D4 (fun x6 T6 D6 => zk T6 (D l0 3) = 3 ∧ zc E (d - 1) 0 40 [(2, (D l0 3)), (0, x6)] T6 D6 (fun x8 T8 D8 => Q 0 T8 D8)))) :
  zj E d 0 33 57 [(2, l0), (2, l1), (2, l2), (0, l3)] [] T D Q := by
  refine zr_aload_n rfl rfl ?_
  obtain ⟨h1, H⟩ := H
  refine zr_getfield (n := 9) rfl h1 (by decide) rfl (by decide) ?_
  refine zr_aload_n rfl rfl ?_
  refine zr_getfield (n := 9) rfl h1 (by decide) rfl (by decide) ?_
  refine zr_aload_n rfl rfl ?_
  refine zr_getfield (n := 9) rfl h1 (by decide) rfl (by decide) ?_
  obtain ⟨h2, H⟩ := H
  obtain ⟨h3, H⟩ := H
  refine zr_invokevirtual (rt2 := 1) rfl rfl rfl rfl rfl h3 (by decide) h2 (zc_mono H ?_)
  intro x4 T4 D4 H
  show zj _ _ _ _ _ [(2, l0), (2, l1), (2, l2), (0, l3)] [(0, x4), (2, (D l0 0)), (2, (D l0 3))] _ _ _
  obtain ⟨h5, H⟩ := H
  refine zr_invokevirtual (rt2 := 1) rfl rfl rfl rfl rfl h5 (by decide) h2 (zc_mono H ?_)
  intro x6 T6 D6 H
  show zj _ _ _ _ _ [(2, l0), (2, l1), (2, l2), (0, l3)] [(0, x6), (2, (D l0 3))] _ _ _
  obtain ⟨h7, H⟩ := H
  refine zr_invokevirtual (rt2 := 0) rfl rfl rfl rfl rfl h7 (by decide) h2 (zc_mono H ?_)
  intro x8 T8 D8 H
  show zj _ _ _ _ _ [(2, l0), (2, l1), (2, l2), (0, l3)] [] _ _ _
  exact zr_return rfl rfl rfl H
theorem z34_0 {E : List (List Int)} {d : Nat} {T : zT} {D : zD} {Q : Int → zT → zD → Prop}  (l0 : Int) 
  (H : zob T l0 3 3 ∧ zin (D l0 2) ∧ (((D l0 2) ≥ 0 → Q 0 T D) ∧ ((D l0 2) < 0 → Q 1 T D))) :
  zj E d 1 34 0 [(2, l0)] [] T D Q := by
  refine zr_aload_n rfl rfl ?_
  obtain ⟨h1, H⟩ := H
  refine zr_getfield (n := 3) rfl h1 (by decide) rfl (by decide) ?_
  obtain ⟨h2, H⟩ := H
  refine zr_if_ge rfl h2 (fun hc => ?_) (fun hc => ?_)
  · replace H := H.1 hc
    refine zr_iconst rfl ?_
    exact zr_ireturn rfl rfl rfl H
  · replace H := H.2 hc
    refine zr_iconst rfl ?_
    refine zr_goto rfl ?_
    exact zr_ireturn rfl rfl rfl H
theorem e34 {E : List (List Int)} {d : Nat} {T : zT} {D : zD} {Q : Int → zT → zD → Prop}  (l0 : Int) 
  (H : zob T l0 3 3 ∧ zin (D l0 2) ∧ (((D l0 2) ≥ 0 → Q 0 T D) ∧ ((D l0 2) < 0 → Q 1 T D))) :
  zc E d 1 34 [(2, l0)] T D Q :=
  zc_of (ls := [(2, l0)]) (fun _ => rfl) (z34_0  l0 H)
theorem z35_0 {E : List (List Int)} {d : Nat} {T : zT} {D : zD} {Q : Int → zT → zD → Prop}  (l0 : Int) (l1 : Int) (l2 : Int) 
  (H : zob T l0 3 3 ∧ 0 < d ∧ zk T l1 = 3 ∧ zc E (d - 1) 1 36 [(2, l1)] T D (fun x4 T4 D4 => zk T4 (D l0 0) = 1 ∧ zc E (d - 1) 1 37 [(2, (D l0 0)), (0, x4)] T4 D4 (fun x6 T6 D6 => zob T6 l0 3 3 ∧ zob T6 l1 3 3 ∧ zj E d 0 35 23 [(2, l0), (2, l1), (2, l2), (0, x6), (0, ((D6 l0 2) - (D6 l1 2))), (9, 0)] [] T6 D6 Q))) :
  zj E d 0 35 0 [(2, l0), (2, l1), (2, l2), (9, 0), (9, 0), (9, 0)] [] T D Q := by
  refine zr_aload_n rfl rfl ?_
  obtain ⟨h1, H⟩ := H
  refine zr_getfield (n := 3) rfl h1 (by decide) rfl (by decide) ?_
  refine zr_aload_n rfl rfl ?_
  obtain ⟨h2, H⟩ := H
  obtain ⟨h3, H⟩ := H
  refine zr_invokevirtual (rt2 := 1) rfl rfl rfl rfl rfl h3 (by decide) h2 (zc_mono H ?_)
  intro x4 T4 D4 H
  show zj _ _ _ _ _ [(2, l0), (2, l1), (2, l2), (9, 0), (9, 0), (9, 0)] [(0, x4), (2, (D l0 0))] _ _ _
  obtain ⟨h5, H⟩ := H
  refine zr_invokevirtual (rt2 := 1) rfl rfl rfl rfl rfl h5 (by decide) h2 (zc_mono H ?_)
  intro x6 T6 D6 H
  show zj _ _ _ _ _ [(2, l0), (2, l1), (2, l2), (9, 0), (9, 0), (9, 0)] [(0, x6)] _ _ _
  refine zr_istore_n rfl rfl ?_
  show zj _ _ _ _ _ [(2, l0), (2, l1), (2, l2), (0, x6), (9, 0), (9, 0)] [] _ _ _
  refine zr_aload_n rfl rfl ?_
  obtain ⟨h7, H⟩ := H
  refine zr_getfield (n := 3) rfl h7 (by decide) rfl (by decide) ?_
  refine zr_aload_n rfl rfl ?_
  obtain ⟨h8, H⟩ := H
  refine zr_getfield (n := 3) rfl h8 (by decide) rfl (by decide) ?_
  refine zr_isub rfl ?_
  refine zr_istore rfl rfl ?_
  show zj _ _ _ _ _ [(2, l0), (2, l1), (2, l2), (0, x6), (0, ((D6 l0 2) - (D6 l1 2))), (9, 0)] [] _ _ _
  exact H
theorem e35 {E : List (List Int)} {d : Nat} {T : zT} {D : zD} {Q : Int → zT → zD → Prop}  (l0 : Int) (l1 : Int) (l2 : Int) 
  (H : zob T l0 3 3 ∧ 0 < d ∧ zk T l1 = 3 ∧ zc E (d - 1) 1 36 [(2, l1)] T D (fun x4 T4 D4 => zk T4 (D l0 0) = 1 ∧ zc E (d - 1) 1 37 [(2, (D l0 0)), (0, x4)] T4 D4 (fun x6 T6 D6 => zob T6 l0 3 3 ∧ zob T6 l1 3 3 ∧ zj E d 0 35 23 [(2, l0), (2, l1), (2, l2), (0, x6), (0, ((D6 l0 2) - (D6 l1 2))), (9, 0)] [] T6 D6 Q))) :
  zc E d 0 35 [(2, l0), (2, l1), (2, l2)] T D Q :=
  zc_of (ls := [(2, l0), (2, l1), (2, l2), (9, 0), (9, 0), (9, 0)]) (fun _ => rfl) (z35_0  l0 l1 l2 H)
theorem z35_23 {E : List (List Int)} {d : Nat} {T : zT} {D : zD} {Q : Int → zT → zD → Prop}  (l0 : Int) (l1 : Int) (l2 : Int) (l3 : Int) (l4 : Int) (w5 : zv_V) (hw5 : zs_wide w5 = false)
  (H : zin l4 ∧ ((l4 < 0 → Q 0 T D) ∧ (l4 ≥ 0 → zob T l1 3 3 ∧ zin (D l1 2) ∧ (((D l1 2) < 0 → Q 0 T D) ∧ ((D l1 2) ≥ 0 → zob T l0 3 3 ∧ 0 < d ∧ zk T l0 = 3 ∧ zc E (d - 1) 1 19 [(2, l0), (0, (l4 + (D l1 2)))] T D (fun x7 T7 D7 => zk T7 (D l0 0) = 1 ∧ zc E (d - 1) 1 38 [(2, (D l0 0)), (0, x7), (0, l3)] T7 D7 (fun x9 T9 D9 => ((l2 = (-1) → zob T9 l0 3 3 ∧ zk T9 (D9 l0 0) = 1 ∧ zc E (d - 1) 1 28 [(2, (D9 l0 0)), (0, x9)] T9 D9 (fun x12 T12 D12 => zk T12 l0 = 3 ∧ zc E (d - 1) 0 26 [(2, l0), (2, l1), (0, x12), (0, l4)] T12 D12 (fun x14 T14 D14 => zj E d 0 35 23 [(2, l0), (2, l1), (2, l2), (0, l3), (0, l4 + (-1)), (0, x9)] [] T14 D14 Q))) ∧ (l2 ≠ (-1) → zk T9 l2 = 3 ∧ zc E (d - 1) 0 32 [(2, l2), (0, l4), (0, x9)] T9 D9 (fun x16 T16 D16 => zob T16 l0 3 3 ∧ zk T16 (D16 l0 0) = 1 ∧ zc E (d - 1) 1 28 [(2, (D16 l0 0)), (0, x9)] T16 D16 (fun x19 T19 D19 => zk T19 l0 = 3 ∧ zc E (d - 1) 0 26 [(2, l0), (2, l1), (0, x19), (0, l4)] T19 D19 (fun x21 T21 D21 => zj E d 0 35 23 [(2, l0), (2, l1), (2, l2), (0, l3), (0, l4 + (-1)), (0, x9)] [] T21 D21 Q)))))))))))) :
  zj E d 0 35 23 [(2, l0), (2, l1), (2, l2), (0, l3), (0, l4), w5] [] T D Q := by
  refine zr_iload rfl rfl ?_
  obtain ⟨h1, H⟩ := H
  refine zr_if_lt rfl h1 (fun hc => ?_) (fun hc => ?_)
  · replace H := H.1 hc
    exact zr_return rfl rfl rfl H
  · replace H := H.2 hc
    refine zr_aload_n rfl rfl ?_
    obtain ⟨h2, H⟩ := H
    refine zr_getfield (n := 3) rfl h2 (by decide) rfl (by decide) ?_
    obtain ⟨h3, H⟩ := H
    refine zr_if_lt rfl h3 (fun hc => ?_) (fun hc => ?_)
    · replace H := H.1 hc
      exact zr_return rfl rfl rfl H
    · replace H := H.2 hc
      refine zr_aload_n rfl rfl ?_
      obtain ⟨h4, H⟩ := H
      refine zr_getfield (n := 3) rfl h4 (by decide) rfl (by decide) ?_
      refine zr_aload_n rfl rfl ?_
      refine zr_iload rfl rfl ?_
      refine zr_aload_n rfl rfl ?_
      refine zr_getfield (n := 3) rfl h2 (by decide) rfl (by decide) ?_
      refine zr_iadd rfl ?_
      obtain ⟨h5, H⟩ := H
      obtain ⟨h6, H⟩ := H
      refine zr_invokevirtual (rt2 := 1) rfl rfl rfl rfl rfl h6 (by decide) h5 (zc_mono H ?_)
      intro x7 T7 D7 H
      show zj _ _ _ _ _ [(2, l0), (2, l1), (2, l2), (0, l3), (0, l4), w5] [(0, x7), (2, (D l0 0))] _ _ _
      refine zr_iload_n rfl rfl ?_
      obtain ⟨h8, H⟩ := H
      refine zr_invokevirtual (rt2 := 1) rfl rfl rfl rfl rfl h8 (by decide) h5 (zc_mono H ?_)
      intro x9 T9 D9 H
      show zj _ _ _ _ _ [(2, l0), (2, l1), (2, l2), (0, l3), (0, l4), w5] [(0, x9)] _ _ _
      refine zr_istore rfl rfl ?_
      show zj _ _ _ _ _ [(2, l0), (2, l1), (2, l2), (0, l3), (0, l4), (0, x9)] [] _ _ _
      refine zr_aload_n rfl rfl ?_
      refine zr_ifnull rfl (fun hc => ?_) (fun hc => ?_)
      · replace H := H.1 hc
        refine zr_aload_n rfl rfl ?_
        refine zr_aload_n rfl rfl ?_
        refine zr_aload_n rfl rfl ?_
        obtain ⟨h10, H⟩ := H
        refine zr_getfield (n := 3) rfl h10 (by decide) rfl (by decide) ?_
        refine zr_iload rfl rfl ?_
        obtain ⟨h11, H⟩ := H
        refine zr_invokevirtual (rt2 := 1) rfl rfl rfl rfl rfl h11 (by decide) h5 (zc_mono H ?_)
        intro x12 T12 D12 H
        show zj _ _ _ _ _ [(2, l0), (2, l1), (2, l2), (0, l3), (0, l4), (0, x9)] [(0, x12), (2, l1), (2, l0)] _ _ _
        refine zr_iload rfl rfl ?_
        obtain ⟨h13, H⟩ := H
        refine zr_invokevirtual (rt2 := 0) rfl rfl rfl rfl rfl h13 (by decide) h5 (zc_mono H ?_)
        intro x14 T14 D14 H
        show zj _ _ _ _ _ [(2, l0), (2, l1), (2, l2), (0, l3), (0, l4), (0, x9)] [] _ _ _
        refine zr_iinc rfl rfl rfl ?_
        show zj _ _ _ _ _ [(2, l0), (2, l1), (2, l2), (0, l3), (0, l4 + (-1)), (0, x9)] [] _ _ _
        refine zr_goto rfl ?_
        exact H
      · replace H := H.2 hc
        refine zr_aload_n rfl rfl ?_
        refine zr_iload rfl rfl ?_
        refine zr_iload rfl rfl ?_
        obtain ⟨h15, H⟩ := H
        refine zr_invokevirtual (rt2 := 0) rfl rfl rfl rfl rfl h15 (by decide) h5 (zc_mono H ?_)
        intro x16 T16 D16 H
        show zj _ _ _ _ _ [(2, l0), (2, l1), (2, l2), (0, l3), (0, l4), (0, x9)] [] _ _ _
        refine zr_aload_n rfl rfl ?_
        refine zr_aload_n rfl rfl ?_
        refine zr_aload_n rfl rfl ?_
        obtain ⟨h17, H⟩ := H
        refine zr_getfield (n := 3) rfl h17 (by decide) rfl (by decide) ?_
        refine zr_iload rfl rfl ?_
        obtain ⟨h18, H⟩ := H
        refine zr_invokevirtual (rt2 := 1) rfl rfl rfl rfl rfl h18 (by decide) h5 (zc_mono H ?_)
        intro x19 T19 D19 H
        show zj _ _ _ _ _ [(2, l0), (2, l1), (2, l2), (0, l3), (0, l4), (0, x9)] [(0, x19), (2, l1), (2, l0)] _ _ _
        refine zr_iload rfl rfl ?_
        obtain ⟨h20, H⟩ := H
        refine zr_invokevirtual (rt2 := 0) rfl rfl rfl rfl rfl h20 (by decide) h5 (zc_mono H ?_)
        intro x21 T21 D21 H
        show zj _ _ _ _ _ [(2, l0), (2, l1), (2, l2), (0, l3), (0, l4), (0, x9)] [] _ _ _
        refine zr_iinc rfl rfl rfl ?_
        show zj _ _ _ _ _ [(2, l0), (2, l1), (2, l2), (0, l3), (0, l4 + (-1)), (0, x9)] [] _ _ _
        refine zr_goto rfl ?_
        exact H
theorem z36_0 {E : List (List Int)} {d : Nat} {T : zT} {D : zD} {Q : Int → zT → zD → Prop}  (l0 : Int) 
  (H : zob T l0 3 3 ∧ zin (D l0 2) ∧ (((D l0 2) < 0 → Q 0 T D) ∧ ((D l0 2) ≥ 0 → zk T (D l0 1) = 50 ∧ zin (zn T (D l0 1)) ∧ (((D l0 2) < (zn T (D l0 1)) → zar T (D l0 1) 50 (D l0 2) ∧ Q (D (D l0 1) (D l0 2)) T D) ∧ ((D l0 2) ≥ (zn T (D l0 1)) → Q 0 T D))))) :
  zj E d 1 36 0 [(2, l0)] [] T D Q := by
  refine zr_aload_n rfl rfl ?_
  obtain ⟨h1, H⟩ := H
  refine zr_getfield (n := 3) rfl h1 (by decide) rfl (by decide) ?_
  obtain ⟨h2, H⟩ := H
  refine zr_if_lt rfl h2 (fun hc => ?_) (fun hc => ?_)
  · replace H := H.1 hc
    refine zr_iconst rfl ?_
    refine zr_goto rfl ?_
    exact zr_ireturn rfl rfl rfl H
  · replace H := H.2 hc
    refine zr_aload_n rfl rfl ?_
    refine zr_getfield (n := 3) rfl h1 (by decide) rfl (by decide) ?_
    refine zr_aload_n rfl rfl ?_
    refine zr_getfield (n := 3) rfl h1 (by decide) rfl (by decide) ?_
    obtain ⟨h3, H⟩ := H
    refine zr_arraylength rfl (Or.inl h3) ?_
    obtain ⟨h4, H⟩ := H
    refine zr_icmp_lt rfl h2 h4 (fun hc => ?_) (fun hc => ?_)
    · replace H := H.1 hc
      refine zr_aload_n rfl rfl ?_
      refine zr_getfield (n := 3) rfl h1 (by decide) rfl (by decide) ?_
      refine zr_aload_n rfl rfl ?_
      refine zr_getfield (n := 3) rfl h1 (by decide) rfl (by decide) ?_
      obtain ⟨h5, H⟩ := H
      refine zr_iaload rfl h5 ?_
      exact zr_ireturn rfl rfl rfl H
    · replace H := H.2 hc
      refine zr_iconst rfl ?_
      refine zr_goto rfl ?_
      exact zr_ireturn rfl rfl rfl H
theorem e36 {E : List (List Int)} {d : Nat} {T : zT} {D : zD} {Q : Int → zT → zD → Prop}  (l0 : Int) 
  (H : zob T l0 3 3 ∧ zin (D l0 2) ∧ (((D l0 2) < 0 → Q 0 T D) ∧ ((D l0 2) ≥ 0 → zk T (D l0 1) = 50 ∧ zin (zn T (D l0 1)) ∧ (((D l0 2) < (zn T (D l0 1)) → zar T (D l0 1) 50 (D l0 2) ∧ Q (D (D l0 1) (D l0 2)) T D) ∧ ((D l0 2) ≥ (zn T (D l0 1)) → Q 0 T D))))) :
  zc E d 1 36 [(2, l0)] T D Q :=
  zc_of (ls := [(2, l0)]) (fun _ => rfl) (z36_0  l0 H)
theorem z37_0 {E : List (List Int)} {d : Nat} {T : zT} {D : zD} {Q : Int → zT → zD → Prop}  (l0 : Int) (l1 : Int) 
  (H : zin l1 ∧ ((l1 < 0 → Q 0 T D) ∧ (l1 ≥ 0 → zob T l0 1 2 ∧ zk T (D l0 1) = 50 ∧ zin (zn T (D l0 1)) ∧ ((l1 < (zn T (D l0 1)) → zar T (D l0 1) 50 l1 ∧ Q (D (D l0 1) l1) T D) ∧ (l1 ≥ (zn T (D l0 1)) → Q 0 T D))))) :
  zj E d 1 37 0 [(2, l0), (0, l1)] [] T D Q := by
  refine zr_iload_n rfl rfl ?_
  obtain ⟨h1, H⟩ := H
  refine zr_if_lt rfl h1 (fun hc => ?_) (fun hc => ?_)
  · replace H := H.1 hc
    refine zr_iconst rfl ?_
    refine zr_goto rfl ?_
    exact zr_ireturn rfl rfl rfl H
  · replace H := H.2 hc
    refine zr_iload_n rfl rfl ?_
    refine zr_aload_n rfl rfl ?_
    obtain ⟨h2, H⟩ := H
    refine zr_getfield (n := 2) rfl h2 (by decide) rfl (by decide) ?_
    obtain ⟨h3, H⟩ := H
    refine zr_arraylength rfl (Or.inl h3) ?_
    obtain ⟨h4, H⟩ := H
    refine zr_icmp_lt rfl h1 h4 (fun hc => ?_) (fun hc => ?_)
    · replace H := H.1 hc
      refine zr_aload_n rfl rfl ?_
      refine zr_getfield (n := 2) rfl h2 (by decide) rfl (by decide) ?_
      refine zr_iload_n rfl rfl ?_
      obtain ⟨h5, H⟩ := H
      refine zr_iaload rfl h5 ?_
      exact zr_ireturn rfl rfl rfl H
    · replace H := H.2 hc
      refine zr_iconst rfl ?_
      refine zr_goto rfl ?_
      exact zr_ireturn rfl rfl rfl H
theorem e37 {E : List (List Int)} {d : Nat} {T : zT} {D : zD} {Q : Int → zT → zD → Prop}  (l0 : Int) (l1 : Int) 
  (H : zin l1 ∧ ((l1 < 0 → Q 0 T D) ∧ (l1 ≥ 0 → zob T l0 1 2 ∧ zk T (D l0 1) = 50 ∧ zin (zn T (D l0 1)) ∧ ((l1 < (zn T (D l0 1)) → zar T (D l0 1) 50 l1 ∧ Q (D (D l0 1) l1) T D) ∧ (l1 ≥ (zn T (D l0 1)) → Q 0 T D))))) :
  zc E d 1 37 [(2, l0), (0, l1)] T D Q :=
  zc_of (ls := [(2, l0), (0, l1)]) (fun _ => rfl) (z37_0  l0 l1 H)
theorem z38_0 {E : List (List Int)} {d : Nat} {T : zT} {D : zD} {Q : Int → zT → zD → Prop}  (l0 : Int) (l1 : Int) (l2 : Int) 
  (H : zob T l0 1 2 ∧ zin (D l0 0) ∧ (((D l0 0) ≥ 2 → zin (l1 * l2) ∧ 0 < (D l0 0) ∧ (D l0 0) ≤ 2147483647 ∧ Q ((l1 * l2).tmod (D l0 0)) T D) ∧ ((D l0 0) < 2 → Q 0 T D))) :
  zj E d 1 38 0 [(2, l0), (0, l1), (0, l2)] [] T D Q := by
  refine zr_aload_n rfl rfl ?_
  obtain ⟨h1, H⟩ := H
  refine zr_getfield (n := 2) rfl h1 (by decide) rfl (by decide) ?_
  refine zr_iconst rfl ?_
  obtain ⟨h2, H⟩ := H
  refine zr_icmp_ge rfl h2 (zin_c (by decide)) (fun hc => ?_) (fun hc => ?_)
  · replace H := H.1 hc
    refine zr_iload_n rfl rfl ?_
    refine zr_iload_n rfl rfl ?_
    refine zr_imul rfl ?_
    refine zr_aload_n rfl rfl ?_
    refine zr_getfield (n := 2) rfl h1 (by decide) rfl (by decide) ?_
    obtain ⟨h3, H⟩ := H
    obtain ⟨h4, H⟩ := H
    obtain ⟨h5, H⟩ := H
    refine zr_irem rfl h3 h4 h5 ?_
    exact zr_ireturn rfl rfl rfl H
  · replace H := H.2 hc
    refine zr_iconst rfl ?_
    refine zr_goto rfl ?_
    exact zr_ireturn rfl rfl rfl H
theorem e38 {E : List (List Int)} {d : Nat} {T : zT} {D : zD} {Q : Int → zT → zD → Prop}  (l0 : Int) (l1 : Int) (l2 : Int) 
  (H : zob T l0 1 2 ∧ zin (D l0 0) ∧ (((D l0 0) ≥ 2 → zin (l1 * l2) ∧ 0 < (D l0 0) ∧ (D l0 0) ≤ 2147483647 ∧ Q ((l1 * l2).tmod (D l0 0)) T D) ∧ ((D l0 0) < 2 → Q 0 T D))) :
  zc E d 1 38 [(2, l0), (0, l1), (0, l2)] T D Q :=
  zc_of (ls := [(2, l0), (0, l1), (0, l2)]) (fun _ => rfl) (z38_0  l0 l1 l2 H)
theorem z39_0 {E : List (List Int)} {d : Nat} {T : zT} {D : zD} {Q : Int → zT → zD → Prop}  (l0 : Int) 
  (H : zob T l0 0 9 ∧ Q 0 T (zu (zu D l0 3 (D l0 4)) l0 4 (D l0 3))) :
  zj E d 0 39 0 [(2, l0), (9, 0)] [] T D Q := by
  refine zr_aload_n rfl rfl ?_
  obtain ⟨h1, H⟩ := H
  refine zr_getfield (n := 9) rfl h1 (by decide) rfl (by decide) ?_
  refine zr_astore_n rfl rfl ?_
  show zj _ _ _ _ _ [(2, l0), (2, (D l0 3))] [] _ _ _
  refine zr_aload_n rfl rfl ?_
  refine zr_aload_n rfl rfl ?_
  refine zr_getfield (n := 9) rfl h1 (by decide) rfl (by decide) ?_
  refine zr_putfield (n := 9) (t := 2) rfl h1 (by decide) rfl (by decide) rfl ?_
  refine zr_aload_n rfl rfl ?_
  refine zr_aload_n rfl rfl ?_
  refine zr_putfield (n := 9) (t := 2) rfl h1 (by decide) rfl (by decide) rfl ?_
  exact zr_return rfl rfl rfl H
theorem e39 {E : List (List Int)} {d : Nat} {T : zT} {D : zD} {Q : Int → zT → zD → Prop}  (l0 : Int) 
  (H : zob T l0 0 9 ∧ Q 0 T (zu (zu D l0 3 (D l0 4)) l0 4 (D l0 3))) :
  zc E d 0 39 [(2, l0)] T D Q :=
  zc_of (ls := [(2, l0), (9, 0)]) (fun _ => rfl) (z39_0  l0 H)
theorem z40_0 {E : List (List Int)} {d : Nat} {T : zT} {D : zD} {Q : Int → zT → zD → Prop}  (l0 : Int) (l1 : Int) 
  (H : zob T l0 3 3 ∧ zj E d 0 40 7 [(2, l0), (0, l1), (0, (D l0 2)), (0, 0)] [] T D Q) :
  zj E d 0 40 0 [(2, l0), (0, l1), (9, 0), (9, 0)] [] T D Q := by
  refine zr_aload_n rfl rfl ?_
  obtain ⟨h1, H⟩ := H
  refine zr_getfield (n := 3) rfl h1 (by decide) rfl (by decide) ?_
  refine zr_istore_n rfl rfl ?_
  show zj _ _ _ _ _ [(2, l0), (0, l1), (0, (D l0 2)), (9, 0)] [] _ _ _
  refine zr_iconst rfl ?_
  refine zr_istore_n rfl rfl ?_
  show zj _ _ _ _ _ [(2, l0), (0, l1), (0, (D l0 2)), (0, 0)] [] _ _ _
  exact H
theorem e40 {E : List (List Int)} {d : Nat} {T : zT} {D : zD} {Q : Int → zT → zD → Prop}  (l0 : Int) (l1 : Int) 
  (H : zob T l0 3 3 ∧ zj E d 0 40 7 [(2, l0), (0, l1), (0, (D l0 2)), (0, 0)] [] T D Q) :
  zc E d 0 40 [(2, l0), (0, l1)] T D Q :=
  zc_of (ls := [(2, l0), (0, l1), (9, 0), (9, 0)]) (fun _ => rfl) (z40_0  l0 l1 H)
theorem z40_7 {E : List (List Int)} {d : Nat} {T : zT} {D : zD} {Q : Int → zT → zD → Prop}  (l0 : Int) (l1 : Int) (l2 : Int) (l3 : Int) 
  (H : zin l3 ∧ zin l2 ∧ ((l3 > l2 → Q 0 T D) ∧ (l3 ≤ l2 → zob T l0 3 3 ∧ 0 < d ∧ zk T l0 = 3 ∧ zc E (d - 1) 1 19 [(2, l0), (0, l3)] T D (fun x6 T6 D6 => zk T6 (D l0 0) = 1 ∧ zc E (d - 1) 1 38 [(2, (D l0 0)), (0, x6), (0, l1)] T6 D6 (fun x8 T8 D8 => zk T8 l0 = 3 ∧ zc E (d - 1) 0 32 [(2, l0), (0, l3), (0, x8)] T8 D8 (fun x10 T10 D10 => zj E d 0 40 7 [(2, l0), (0, l1), (0, l2), (0, l3 + 1)] [] T10 D10 Q)))))) :
  zj E d 0 40 7 [(2, l0), (0, l1), (0, l2), (0, l3)] [] T D Q := by
  refine zr_iload_n rfl rfl ?_
  refine zr_iload_n rfl rfl ?_
  obtain ⟨h1, H⟩ := H
  obtain ⟨h2, H⟩ := H
  refine zr_icmp_gt rfl h1 h2 (fun hc => ?_) (fun hc => ?_)
  · replace H := H.1 hc
    exact zr_return rfl rfl rfl H
  · replace H := H.2 hc
    refine zr_aload_n rfl rfl ?_
    refine zr_iload_n rfl rfl ?_
    refine zr_aload_n rfl rfl ?_
    obtain ⟨h3, H⟩ := H
    refine zr_getfield (n := 3) rfl h3 (by decide) rfl (by decide) ?_
    refine zr_aload_n rfl rfl ?_
    refine zr_iload_n rfl rfl ?_
    obtain ⟨h4, H⟩ := H
    obtain ⟨h5, H⟩ := H
    refine zr_invokevirtual (rt2 := 1) rfl rfl rfl rfl rfl h5 (by decide) h4 (zc_mono H ?_)
    intro x6 T6 D6 H
    show zj _ _ _ _ _ [(2, l0), (0, l1), (0, l2), (0, l3)] [(0, x6), (2, (D l0 0)), (0, l3), (2, l0)] _ _ _
    refine zr_iload_n rfl rfl ?_
    obtain ⟨h7, H⟩ := H
    refine zr_invokevirtual (rt2 := 1) rfl rfl rfl rfl rfl h7 (by decide) h4 (zc_mono H ?_)
    intro x8 T8 D8 H
    show zj _ _ _ _ _ [(2, l0), (0, l1), (0, l2), (0, l3)] [(0, x8), (0, l3), (2, l0)] _ _ _
    obtain ⟨h9, H⟩ := H
    refine zr_invokevirtual (rt2 := 0) rfl rfl rfl rfl rfl h9 (by decide) h4 (zc_mono H ?_)
    intro x10 T10 D10 H
    show zj _ _ _ _ _ [(2, l0), (0, l1), (0, l2), (0, l3)] [] _ _ _
    refine zr_iinc rfl rfl rfl ?_
    show zj _ _ _ _ _ [(2, l0), (0, l1), (0, l2), (0, l3 + 1)] [] _ _ _
    refine zr_goto rfl ?_
    exact H
theorem z41_0 {E : List (List Int)} {d : Nat} {T : zT} {D : zD} {Q : Int → zT → zD → Prop}  (l0 : Int) 
  (H : zob T l0 0 9 ∧ -1 ≤ (D l0 3) ∧ Q (D l0 3) T D) :
  zj E d 2 41 0 [(2, l0)] [] T D Q := by
  refine zr_aload_n rfl rfl ?_
  obtain ⟨h1, H⟩ := H
  refine zr_getfield (n := 9) rfl h1 (by decide) rfl (by decide) ?_
  obtain ⟨h2, H⟩ := H
  exact zr_areturn rfl rfl rfl h2 H
theorem e41 {E : List (List Int)} {d : Nat} {T : zT} {D : zD} {Q : Int → zT → zD → Prop}  (l0 : Int) 
  (H : zob T l0 0 9 ∧ -1 ≤ (D l0 3) ∧ Q (D l0 3) T D) :
  zc E d 2 41 [(2, l0)] T D Q :=
  zc_of (ls := [(2, l0)]) (fun _ => rfl) (z41_0  l0 H)
theorem z42_0 {E : List (List Int)} {d : Nat} {T : zT} {D : zD} {Q : Int → zT → zD → Prop}  (l0 : Int) (l1 : Int) 
  (H : 0 < d ∧ zk T l0 = 3 ∧ zc E (d - 1) 0 13 [(2, l0)] T D (fun x3 T3 D3 => zj E d 0 42 6 [(2, l0), (2, l1), (0, 1)] [] T3 D3 Q)) :
  zj E d 0 42 0 [(2, l0), (2, l1), (9, 0)] [] T D Q := by
  refine zr_aload_n rfl rfl ?_
  obtain ⟨h1, H⟩ := H
  obtain ⟨h2, H⟩ := H
  refine zr_invokevirtual (rt2 := 0) rfl rfl rfl rfl rfl h2 (by decide) h1 (zc_mono H ?_)
  intro x3 T3 D3 H
  show zj _ _ _ _ _ [(2, l0), (2, l1), (9, 0)] [] _ _ _
  refine zr_iconst rfl ?_
  refine zr_istore_n rfl rfl ?_
  show zj _ _ _ _ _ [(2, l0), (2, l1), (0, 1)] [] _ _ _
  exact H
theorem e42 {E : List (List Int)} {d : Nat} {T : zT} {D : zD} {Q : Int → zT → zD → Prop}  (l0 : Int) (l1 : Int) 
  (H : 0 < d ∧ zk T l0 = 3 ∧ zc E (d - 1) 0 13 [(2, l0)] T D (fun x3 T3 D3 => zj E d 0 42 6 [(2, l0), (2, l1), (0, 1)] [] T3 D3 Q)) :
  zc E d 0 42 [(2, l0), (2, l1)] T D Q :=
  zc_of (ls := [(2, l0), (2, l1), (9, 0)]) (fun _ => rfl) (z42_0  l0 l1 H)
theorem z42_6 {E : List (List Int)} {d : Nat} {T : zT} {D : zD} {Q : Int → zT → zD → Prop}  (l0 : Int) (l1 : Int) (l2 : Int) 
  (H : zob T l1 3 3 ∧ zin l2 ∧ zin (D l1 2) ∧ ((l2 > (D l1 2) → Q 0 T D) ∧ (l2 ≤ (D l1 2) → zob T l0 3 3 ∧ 0 < d ∧ zk T l1 = 3 ∧ zc E (d - 1) 1 19 [(2, l1), (0, l2)] T D (fun x7 T7 D7 => zk T7 (D l0 0) = 1 ∧ zc E (d - 1) 1 38 [(2, (D l0 0)), (0, l2), (0, x7)] T7 D7 (fun x9 T9 D9 => zk T9 l0 = 3 ∧ zc E (d - 1) 0 32 [(2, l0), (0, (l2 - 1)), (0, x9)] T9 D9 (fun x11 T11 D11 => zj E d 0 42 6 [(2, l0), (2, l1), (0, l2 + 1)] [] T11 D11 Q)))))) :
  zj E d 0 42 6 [(2, l0), (2, l1), (0, l2)] [] T D Q := by
  refine zr_iload_n rfl rfl ?_
  refine zr_aload_n rfl rfl ?_
  obtain ⟨h1, H⟩ := H
  refine zr_getfield (n := 3) rfl h1 (by decide) rfl (by decide) ?_
  obtain ⟨h2, H⟩ := H
  obtain ⟨h3, H⟩ := H
  refine zr_icmp_gt rfl h2 h3 (fun hc => ?_) (fun hc => ?_)
  · replace H := H.1 hc
    exact zr_return rfl rfl rfl H
  · replace H := H.2 hc
    refine zr_aload_n rfl rfl ?_
    refine zr_iload_n rfl rfl ?_
    refine zr_iconst rfl ?_
    refine zr_isub rfl ?_
    refine zr_aload_n rfl rfl ?_
    obtain ⟨h4, H⟩ := H
    refine zr_getfield (n := 3) rfl h4 (by decide) rfl (by decide) ?_
    refine zr_iload_n rfl rfl ?_
    refine zr_aload_n rfl rfl ?_
    refine zr_iload_n rfl rfl ?_
    obtain ⟨h5, H⟩ := H
    obtain ⟨h6, H⟩ := H
    refine zr_invokevirtual (rt2 := 1) rfl rfl rfl rfl rfl h6 (by decide) h5 (zc_mono H ?_)
    intro x7 T7 D7 H
    show zj _ _ _ _ _ [(2, l0), (2, l1), (0, l2)] [(0, x7), (0, l2), (2, (D l0 0)), (0, (l2 - 1)), (2, l0)] _ _ _
    obtain ⟨h8, H⟩ := H
    refine zr_invokevirtual (rt2 := 1) rfl rfl rfl rfl rfl h8 (by decide) h5 (zc_mono H ?_)
    intro x9 T9 D9 H
    show zj _ _ _ _ _ [(2, l0), (2, l1), (0, l2)] [(0, x9), (0, (l2 - 1)), (2, l0)] _ _ _
    obtain ⟨h10, H⟩ := H
    refine zr_invokevirtual (rt2 := 0) rfl rfl rfl rfl rfl h10 (by decide) h5 (zc_mono H ?_)
    intro x11 T11 D11 H
    show zj _ _ _ _ _ [(2, l0), (2, l1), (0, l2)] [] _ _ _
    refine zr_iinc rfl rfl rfl ?_
    show zj _ _ _ _ _ [(2, l0), (2, l1), (0, l2 + 1)] [] _ _ _
    refine zr_goto rfl ?_
    exact H
theorem z43_0 {E : List (List Int)} {d : Nat} {T : zT} {D : zD} {Q : Int → zT → zD → Prop}  (l0 : Int) (l1 : Int) (l2 : Int) (l3 : Int) (l4 : Int) 
  (H : 0 < d ∧ zk T l0 = 7 ∧ zc E (d - 1) 2 17 [(2, l0), (0, l1)] T D (fun x3 T3 D3 => zk T3 l0 = 7 ∧ zc E (d - 1) 2 17 [(2, l0), (0, l2)] T3 D3 (fun x5 T5 D5 => zk T5 l0 = 7 ∧ zc E (d - 1) 2 17 [(2, l0), (0, l3)] T5 D5 (fun x7 T7 D7 => zk T7 l0 = 7 ∧ zc E (d - 1) 2 17 [(2, l0), (0, l4)] T7 D7 (fun x9 T9 D9 => zin l3 ∧ zin l4 ∧ ((l3 ≠ l4 → zk T9 x5 = 3 ∧ zc E (d - 1) 1 34 [(2, x5)] T9 D9 (fun x13 T13 D13 => zin x13 ∧ ((x13 = 0 → zob T13 l0 7 11 ∧ zk T13 (D13 l0 8) = 3 ∧ zc E (d - 1) 0 25 [(2, (D13 l0 8)), (2, x3)] T13 D13 (fun x17 T17 D17 => zob T17 l0 7 11 ∧ zk T17 (D17 l0 10) = 3 ∧ zc E (d - 1) 0 13 [(2, (D17 l0 10))] T17 D17 (fun x20 T20 D20 => zob T20 l0 7 11 ∧ zk T20 (D20 l0 8) = 3 ∧ zc E (d - 1) 0 35 [(2, (D20 l0 8)), (2, x5), (2, (D20 l0 10))] T20 D20 (fun x23 T23 D23 => zob T23 l0 7 11 ∧ zk T23 x7 = 3 ∧ zc E (d - 1) 0 25 [(2, x7), (2, (D23 l0 10))] T23 D23 (fun x26 T26 D26 => zob T26 l0 7 11 ∧ zk T26 x9 = 3 ∧ zc E (d - 1) 0 25 [(2, x9), (2, (D26 l0 8))] T26 D26 (fun x29 T29 D29 => zk T29 x9 = 3 ∧ zc E (d - 1) 1 21 [(2, x9)] T29 D29 (fun x31 T31 D31 => Q x31 T31 D31))))))) ∧ (x13 ≠ 0 → False)))) ∧ (l3 = l4 → False))))))) :
  zj E d 1 43 0 [(2, l0), (0, l1), (0, l2), (0, l3), (0, l4), (9, 0), (9, 0), (9, 0), (9, 0)] [] T D Q := by
  refine zr_aload_n rfl rfl ?_
  refine zr_iload_n rfl rfl ?_
  obtain ⟨h1, H⟩ := H
  obtain ⟨h2, H⟩ := H
  refine zr_invokevirtual (rt2 := 2) rfl rfl rfl rfl rfl h2 (by decide) h1 (zc_mono H ?_)
  intro x3 T3 D3 H
  show zj _ _ _ _ _ [(2, l0), (0, l1), (0, l2), (0, l3), (0, l4), (9, 0), (9, 0), (9, 0), (9, 0)] [(2, x3)] _ _ _
  refine zr_astore rfl rfl ?_
  show zj _ _ _ _ _ [(2, l0), (0, l1), (0, l2), (0, l3), (0, l4), (2, x3), (9, 0), (9, 0), (9, 0)] [] _ _ _
  refine zr_aload_n rfl rfl ?_
  refine zr_iload_n rfl rfl ?_
  obtain ⟨h4, H⟩ := H
  refine zr_invokevirtual (rt2 := 2) rfl rfl rfl rfl rfl h4 (by decide) h1 (zc_mono H ?_)
  intro x5 T5 D5 H
  show zj _ _ _ _ _ [(2, l0), (0, l1), (0, l2), (0, l3), (0, l4), (2, x3), (9, 0), (9, 0), (9, 0)] [(2, x5)] _ _ _
  refine zr_astore rfl rfl ?_
  show zj _ _ _ _ _ [(2, l0), (0, l1), (0, l2), (0, l3), (0, l4), (2, x3), (2, x5), (9, 0), (9, 0)] [] _ _ _
  refine zr_aload_n rfl rfl ?_
  refine zr_iload_n rfl rfl ?_
  obtain ⟨h6, H⟩ := H
  refine zr_invokevirtual (rt2 := 2) rfl rfl rfl rfl rfl h6 (by decide) h1 (zc_mono H ?_)
  intro x7 T7 D7 H
  show zj _ _ _ _ _ [(2, l0), (0, l1), (0, l2), (0, l3), (0, l4), (2, x3), (2, x5), (9, 0), (9, 0)] [(2, x7)] _ _ _
  refine zr_astore rfl rfl ?_
  show zj _ _ _ _ _ [(2, l0), (0, l1), (0, l2), (0, l3), (0, l4), (2, x3), (2, x5), (2, x7), (9, 0)] [] _ _ _
  refine zr_aload_n rfl rfl ?_
  refine zr_iload rfl rfl ?_
  obtain ⟨h8, H⟩ := H
  refine zr_invokevirtual (rt2 := 2) rfl rfl rfl rfl rfl h8 (by decide) h1 (zc_mono H ?_)
  intro x9 T9 D9 H
  show zj _ _ _ _ _ [(2, l0), (0, l1), (0, l2), (0, l3), (0, l4), (2, x3), (2, x5), (2, x7), (9, 0)] [(2, x9)] _ _ _
  refine zr_astore rfl rfl ?_
  show zj _ _ _ _ _ [(2, l0), (0, l1), (0, l2), (0, l3), (0, l4), (2, x3), (2, x5), (2, x7), (2, x9)] [] _ _ _
  refine zr_iload_n rfl rfl ?_
  refine zr_iload rfl rfl ?_
  obtain ⟨h10, H⟩ := H
  obtain ⟨h11, H⟩ := H
  refine zr_icmp_ne rfl h10 h11 (fun hc => ?_) (fun hc => ?_)
  · replace H := H.1 hc
    refine zr_aload rfl rfl ?_
    obtain ⟨h12, H⟩ := H
    refine zr_invokevirtual (rt2 := 1) rfl rfl rfl rfl rfl h12 (by decide) h1 (zc_mono H ?_)
    intro x13 T13 D13 H
    show zj _ _ _ _ _ [(2, l0), (0, l1), (0, l2), (0, l3), (0, l4), (2, x3), (2, x5), (2, x7), (2, x9)] [(0, x13)] _ _ _
    obtain ⟨h14, H⟩ := H
    refine zr_if_eq rfl h14 (fun hc => ?_) (fun hc => ?_)
    · replace H := H.1 hc
      refine zr_aload_n rfl rfl ?_
      obtain ⟨h15, H⟩ := H
      refine zr_getfield (n := 11) rfl h15 (by decide) rfl (by decide) ?_
      refine zr_aload rfl rfl ?_
      obtain ⟨h16, H⟩ := H
      refine zr_invokevirtual (rt2 := 0) rfl rfl rfl rfl rfl h16 (by decide) h1 (zc_mono H ?_)
      intro x17 T17 D17 H
      show zj _ _ _ _ _ [(2, l0), (0, l1), (0, l2), (0, l3), (0, l4), (2, x3), (2, x5), (2, x7), (2, x9)] [] _ _ _
      refine zr_aload_n rfl rfl ?_
      obtain ⟨h18, H⟩ := H
      refine zr_getfield (n := 11) rfl h18 (by decide) rfl (by decide) ?_
      obtain ⟨h19, H⟩ := H
      refine zr_invokevirtual (rt2 := 0) rfl rfl rfl rfl rfl h19 (by decide) h1 (zc_mono H ?_)
      intro x20 T20 D20 H
      show zj _ _ _ _ _ [(2, l0), (0, l1), (0, l2), (0, l3), (0, l4), (2, x3), (2, x5), (2, x7), (2, x9)] [] _ _ _
      refine zr_aload_n rfl rfl ?_
      obtain ⟨h21, H⟩ := H
      refine zr_getfield (n := 11) rfl h21 (by decide) rfl (by decide) ?_
      refine zr_aload rfl rfl ?_
      refine zr_aload_n rfl rfl ?_
      refine zr_getfield (n := 11) rfl h21 (by decide) rfl (by decide) ?_
      obtain ⟨h22, H⟩ := H
      refine zr_invokevirtual (rt2 := 0) rfl rfl rfl rfl rfl h22 (by decide) h1 (zc_mono H ?_)
      intro x23 T23 D23 H
      show zj _ _ _ _ _ [(2, l0), (0, l1), (0, l2), (0, l3), (0, l4), (2, x3), (2, x5), (2, x7), (2, x9)] [] _ _ _
      refine zr_aload rfl rfl ?_
      refine zr_aload_n rfl rfl ?_
      obtain ⟨h24, H⟩ := H
      refine zr_getfield (n := 11) rfl h24 (by decide) rfl (by decide) ?_
      obtain ⟨h25, H⟩ := H
      refine zr_invokevirtual (rt2 := 0) rfl rfl rfl rfl rfl h25 (by decide) h1 (zc_mono H ?_)
      intro x26 T26 D26 H
      show zj _ _ _ _ _ [(2, l0), (0, l1), (0, l2), (0, l3), (0, l4), (2, x3), (2, x5), (2, x7), (2, x9)] [] _ _ _
      refine zr_aload rfl rfl ?_
      refine zr_aload_n rfl rfl ?_
      obtain ⟨h27, H⟩ := H
      refine zr_getfield (n := 11) rfl h27 (by decide) rfl (by decide) ?_
      obtain ⟨h28, H⟩ := H
      refine zr_invokevirtual (rt2 := 0) rfl rfl rfl rfl rfl h28 (by decide) h1 (zc_mono H ?_)
      intro x29 T29 D29 H
      show zj _ _ _ _ _ [(2, l0), (0, l1), (0, l2), (0, l3), (0, l4), (2, x3), (2, x5), (2, x7), (2, x9)] [] _ _ _
      refine zr_aload rfl rfl ?_
      obtain ⟨h30, H⟩ := H
      refine zr_invokevirtual (rt2 := 1) rfl rfl rfl rfl rfl h30 (by decide) h1 (zc_mono H ?_)
      intro x31 T31 D31 H
      show zj _ _ _ _ _ [(2, l0), (0, l1), (0, l2), (0, l3), (0, l4), (2, x3), (2, x5), (2, x7), (2, x9)] [(0, x31)] _ _ _
      exact zr_ireturn rfl rfl rfl H
    · replace H := H.2 hc
      exact H.elim
  · replace H := H.2 hc
    exact H.elim
theorem e43 {E : List (List Int)} {d : Nat} {T : zT} {D : zD} {Q : Int → zT → zD → Prop}  (l0 : Int) (l1 : Int) (l2 : Int) (l3 : Int) (l4 : Int) 
  (H : 0 < d ∧ zk T l0 = 7 ∧ zc E (d - 1) 2 17 [(2, l0), (0, l1)] T D (fun x3 T3 D3 => zk T3 l0 = 7 ∧ zc E (d - 1) 2 17 [(2, l0), (0, l2)] T3 D3 (fun x5 T5 D5 => zk T5 l0 = 7 ∧ zc E (d - 1) 2 17 [(2, l0), (0, l3)] T5 D5 (fun x7 T7 D7 => zk T7 l0 = 7 ∧ zc E (d - 1) 2 17 [(2, l0), (0, l4)] T7 D7 (fun x9 T9 D9 => zin l3 ∧ zin l4 ∧ ((l3 ≠ l4 → zk T9 x5 = 3 ∧ zc E (d - 1) 1 34 [(2, x5)] T9 D9 (fun x13 T13 D13 => zin x13 ∧ ((x13 = 0 → zob T13 l0 7 11 ∧ zk T13 (D13 l0 8) = 3 ∧ zc E (d - 1) 0 25 [(2, (D13 l0 8)), (2, x3)] T13 D13 (fun x17 T17 D17 => zob T17 l0 7 11 ∧ zk T17 (D17 l0 10) = 3 ∧ zc E (d - 1) 0 13 [(2, (D17 l0 10))] T17 D17 (fun x20 T20 D20 => zob T20 l0 7 11 ∧ zk T20 (D20 l0 8) = 3 ∧ zc E (d - 1) 0 35 [(2, (D20 l0 8)), (2, x5), (2, (D20 l0 10))] T20 D20 (fun x23 T23 D23 => zob T23 l0 7 11 ∧ zk T23 x7 = 3 ∧ zc E (d - 1) 0 25 [(2, x7), (2, (D23 l0 10))] T23 D23 (fun x26 T26 D26 => zob T26 l0 7 11 ∧ zk T26 x9 = 3 ∧ zc E (d - 1) 0 25 [(2, x9), (2, (D26 l0 8))] T26 D26 (fun x29 T29 D29 => zk T29 x9 = 3 ∧ zc E (d - 1) 1 21 [(2, x9)] T29 D29 (fun x31 T31 D31 => Q x31 T31 D31))))))) ∧ (x13 ≠ 0 → False)))) ∧ (l3 = l4 → False))))))) :
  zc E d 1 43 [(2, l0), (0, l1), (0, l2), (0, l3), (0, l4)] T D Q :=
  zc_of (ls := [(2, l0), (0, l1), (0, l2), (0, l3), (0, l4), (9, 0), (9, 0), (9, 0), (9, 0)]) (fun _ => rfl) (z43_0  l0 l1 l2 l3 l4 H)
theorem z44_0 {E : List (List Int)} {d : Nat} {T : zT} {D : zD} {Q : Int → zT → zD → Prop}  (l0 : Int) (l1 : Int) (l2 : Int) (l3 : Int) (l4 : Int) 
  (H : 0 < d ∧ zk T l0 = 7 ∧ zc E (d - 1) 2 17 [(2, l0), (0, l1)] T D (fun x3 T3 D3 => zk T3 l0 = 7 ∧ zc E (d - 1) 2 17 [(2, l0), (0, l2)] T3 D3 (fun x5 T5 D5 => zk T5 l0 = 7 ∧ zc E (d - 1) 2 17 [(2, l0), (0, l3)] T5 D5 (fun x7 T7 D7 => zk T7 l0 = 7 ∧ zc E (d - 1) 2 17 [(2, l0), (0, l4)] T7 D7 (fun x9 T9 D9 => zin l3 ∧ zin l4 ∧ ((l3 ≠ l4 → zob T9 l0 7 11 ∧ zk T9 (D9 l0 6) = 0 ∧ zc E (d - 1) 0 45 [(2, (D9 l0 6)), (2, x3), (2, x5)] T9 D9 (fun x14 T14 D14 => zob T14 l0 7 11 ∧ zk T14 (D14 l0 6) = 0 ∧ zc E (d - 1) 2 49 [(2, (D14 l0 6))] T14 D14 (fun x17 T17 D17 => zk T17 x7 = 3 ∧ zc E (d - 1) 0 25 [(2, x7), (2, x17)] T17 D17 (fun x19 T19 D19 => zob T19 l0 7 11 ∧ zk T19 (D19 l0 6) = 0 ∧ zc E (d - 1) 2 50 [(2, (D19 l0 6))] T19 D19 (fun x22 T22 D22 => zk T22 x9 = 3 ∧ zc E (d - 1) 0 25 [(2, x9), (2, x22)] T22 D22 (fun x24 T24 D24 => zob T24 l0 7 11 ∧ zk T24 (D24 l0 6) = 0 ∧ zc E (d - 1) 2 41 [(2, (D24 l0 6))] T24 D24 (fun x27 T27 D27 => zk T27 x27 = 3 ∧ zc E (d - 1) 1 21 [(2, x27)] T27 D27 (fun x29 T29 D29 => Q x29 T29 D29)))))))) ∧ (l3 = l4 → False))))))) :
  zj E d 1 44 0 [(2, l0), (0, l1), (0, l2), (0, l3), (0, l4), (9, 0), (9, 0), (9, 0), (9, 0)] [] T D Q := by
  refine zr_aload_n rfl rfl ?_
  refine zr_iload_n rfl rfl ?_
  obtain ⟨h1, H⟩ := H
  obtain ⟨h2, H⟩ := H
  refine zr_invokevirtual (rt2 := 2) rfl rfl rfl rfl rfl h2 (by decide) h1 (zc_mono H ?_)
  intro x3 T3 D3 H
  show zj _ _ _ _ _ [(2, l0), (0, l1), (0, l2), (0, l3), (0, l4), (9, 0), (9, 0), (9, 0), (9, 0)] [(2, x3)] _ _ _
  refine zr_astore rfl rfl ?_
  show zj _ _ _ _ _ [(2, l0), (0, l1), (0, l2), (0, l3), (0, l4), (2, x3), (9, 0), (9, 0), (9, 0)] [] _ _ _
  refine zr_aload_n rfl rfl ?_
  refine zr_iload_n rfl rfl ?_
  obtain ⟨h4, H⟩ := H
  refine zr_invokevirtual (rt2 := 2) rfl rfl rfl rfl rfl h4 (by decide) h1 (zc_mono H ?_)
  intro x5 T5 D5 H
  show zj _ _ _ _ _ [(2, l0), (0, l1), (0, l2), (0, l3), (0, l4), (2, x3), (9, 0), (9, 0), (9, 0)] [(2, x5)] _ _ _
  refine zr_astore rfl rfl ?_
  show zj _ _ _ _ _ [(2, l0), (0, l1), (0, l2), (0, l3), (0, l4), (2, x3), (2, x5), (9, 0), (9, 0)] [] _ _ _
  refine zr_aload_n rfl rfl ?_
  refine zr_iload_n rfl rfl ?_
  obtain ⟨h6, H⟩ := H
  refine zr_invokevirtual (rt2 := 2) rfl rfl rfl rfl rfl h6 (by decide) h1 (zc_mono H ?_)
  intro x7 T7 D7 H
  show zj _ _ _ _ _ [(2, l0), (0, l1), (0, l2), (0, l3), (0, l4), (2, x3), (2, x5), (9, 0), (9, 0)] [(2, x7)] _ _ _
  refine zr_astore rfl rfl ?_
  show zj _ _ _ _ _ [(2, l0), (0, l1), (0, l2), (0, l3), (0, l4), (2, x3), (2, x5), (2, x7), (9, 0)] [] _ _ _
  refine zr_aload_n rfl rfl ?_
  refine zr_iload rfl rfl ?_
  obtain ⟨h8, H⟩ := H
  refine zr_invokevirtual (rt2 := 2) rfl rfl rfl rfl rfl h8 (by decide) h1 (zc_mono H ?_)
  intro x9 T9 D9 H
  show zj _ _ _ _ _ [(2, l0), (0, l1), (0, l2), (0, l3), (0, l4), (2, x3), (2, x5), (2, x7), (9, 0)] [(2, x9)] _ _ _
  refine zr_astore rfl rfl ?_
  show zj _ _ _ _ _ [(2, l0), (0, l1), (0, l2), (0, l3), (0, l4), (2, x3), (2, x5), (2, x7), (2, x9)] [] _ _ _
  refine zr_iload_n rfl rfl ?_
  refine zr_iload rfl rfl ?_
  obtain ⟨h10, H⟩ := H
  obtain ⟨h11, H⟩ := H
  refine zr_icmp_ne rfl h10 h11 (fun hc => ?_) (fun hc => ?_)
  · replace H := H.1 hc
    refine zr_aload_n rfl rfl ?_
    obtain ⟨h12, H⟩ := H
    refine zr_getfield (n := 11) rfl h12 (by decide) rfl (by decide) ?_
    refine zr_aload rfl rfl ?_
    refine zr_aload rfl rfl ?_
    obtain ⟨h13, H⟩ := H
    refine zr_invokevirtual (rt2 := 0) rfl rfl rfl rfl rfl h13 (by decide) h1 (zc_mono H ?_)
    intro x14 T14 D14 H
    show zj _ _ _ _ _ [(2, l0), (0, l1), (0, l2), (0, l3), (0, l4), (2, x3), (2, x5), (2, x7), (2, x9)] [] _ _ _
    refine zr_aload rfl rfl ?_
    refine zr_aload_n rfl rfl ?_
    obtain ⟨h15, H⟩ := H
    refine zr_getfield (n := 11) rfl h15 (by decide) rfl (by decide) ?_
    obtain ⟨h16, H⟩ := H
    refine zr_invokevirtual (rt2 := 2) rfl rfl rfl rfl rfl h16 (by decide) h1 (zc_mono H ?_)
    intro x17 T17 D17 H
    show zj _ _ _ _ _ [(2, l0), (0, l1), (0, l2), (0, l3), (0, l4), (2, x3), (2, x5), (2, x7), (2, x9)] [(2, x17), (2, x7)] _ _ _
    obtain ⟨h18, H⟩ := H
    refine zr_invokevirtual (rt2 := 0) rfl rfl rfl rfl rfl h18 (by decide) h1 (zc_mono H ?_)
    intro x19 T19 D19 H
    show zj _ _ _ _ _ [(2, l0), (0, l1), (0, l2), (0, l3), (0, l4), (2, x3), (2, x5), (2, x7), (2, x9)] [] _ _ _
    refine zr_aload rfl rfl ?_
    refine zr_aload_n rfl rfl ?_
    obtain ⟨h20, H⟩ := H
    refine zr_getfield (n := 11) rfl h20 (by decide) rfl (by decide) ?_
    obtain ⟨h21, H⟩ := H
    refine zr_invokevirtual (rt2 := 2) rfl rfl rfl rfl rfl h21 (by decide) h1 (zc_mono H ?_)
    intro x22 T22 D22 H
    show zj _ _ _ _ _ [(2, l0), (0, l1), (0, l2), (0, l3), (0, l4), (2, x3), (2, x5), (2, x7), (2, x9)] [(2, x22), (2, x9)] _ _ _
    obtain ⟨h23, H⟩ := H
    refine zr_invokevirtual (rt2 := 0) rfl rfl rfl rfl rfl h23 (by decide) h1 (zc_mono H ?_)
    intro x24 T24 D24 H
    show zj _ _ _ _ _ [(2, l0), (0, l1), (0, l2), (0, l3), (0, l4), (2, x3), (2, x5), (2, x7), (2, x9)] [] _ _ _
    refine zr_aload_n rfl rfl ?_
    obtain ⟨h25, H⟩ := H
    refine zr_getfield (n := 11) rfl h25 (by decide) rfl (by decide) ?_
    obtain ⟨h26, H⟩ := H
    refine zr_invokevirtual (rt2 := 2) rfl rfl rfl rfl rfl h26 (by decide) h1 (zc_mono H ?_)
    intro x27 T27 D27 H
    show zj _ _ _ _ _ [(2, l0), (0, l1), (0, l2), (0, l3), (0, l4), (2, x3), (2, x5), (2, x7), (2, x9)] [(2, x27)] _ _ _
    obtain ⟨h28, H⟩ := H
    refine zr_invokevirtual (rt2 := 1) rfl rfl rfl rfl rfl h28 (by decide) h1 (zc_mono H ?_)
    intro x29 T29 D29 H
    show zj _ _ _ _ _ [(2, l0), (0, l1), (0, l2), (0, l3), (0, l4), (2, x3), (2, x5), (2, x7), (2, x9)] [(0, x29)] _ _ _
    exact zr_ireturn rfl rfl rfl H
  · replace H := H.2 hc
    exact H.elim
theorem e44 {E : List (List Int)} {d : Nat} {T : zT} {D : zD} {Q : Int → zT → zD → Prop}  (l0 : Int) (l1 : Int) (l2 : Int) (l3 : Int) (l4 : Int) 
  (H : 0 < d ∧ zk T l0 = 7 ∧ zc E (d - 1) 2 17 [(2, l0), (0, l1)] T D (fun x3 T3 D3 => zk T3 l0 = 7 ∧ zc E (d - 1) 2 17 [(2, l0), (0, l2)] T3 D3 (fun x5 T5 D5 => zk T5 l0 = 7 ∧ zc E (d - 1) 2 17 [(2, l0), (0, l3)] T5 D5 (fun x7 T7 D7 => zk T7 l0 = 7 ∧ zc E (d - 1) 2 17 [(2, l0), (0, l4)] T7 D7 (fun x9 T9 D9 => zin l3 ∧ zin l4 ∧ ((l3 ≠ l4 → zob T9 l0 7 11 ∧ zk T9 (D9 l0 6) = 0 ∧ zc E (d - 1) 0 45 [(2, (D9 l0 6)), (2, x3), (2, x5)] T9 D9 (fun x14 T14 D14 => zob T14 l0 7 11 ∧ zk T14 (D14 l0 6) = 0 ∧ zc E (d - 1) 2 49 [(2, (D14 l0 6))] T14 D14 (fun x17 T17 D17 => zk T17 x7 = 3 ∧ zc E (d - 1) 0 25 [(2, x7), (2, x17)] T17 D17 (fun x19 T19 D19 => zob T19 l0 7 11 ∧ zk T19 (D19 l0 6) = 0 ∧ zc E (d - 1) 2 50 [(2, (D19 l0 6))] T19 D19 (fun x22 T22 D22 => zk T22 x9 = 3 ∧ zc E (d - 1) 0 25 [(2, x9), (2, x22)] T22 D22 (fun x24 T24 D24 => zob T24 l0 7 11 ∧ zk T24 (D24 l0 6) = 0 ∧ zc E (d - 1) 2 41 [(2, (D24 l0 6))] T24 D24 (fun x27 T27 D27 => zk T27 x27 = 3 ∧ zc E (d - 1) 1 21 [(2, x27)] T27 D27 (fun x29 T29 D29 => Q x29 T29 D29)))))))) ∧ (l3 = l4 → False))))))) :
  zc E d 1 44 [(2, l0), (0, l1), (0, l2), (0, l3), (0, l4)] T D Q :=
  zc_of (ls := [(2, l0), (0, l1), (0, l2), (0, l3), (0, l4), (9, 0), (9, 0), (9, 0), (9, 0)]) (fun _ => rfl) (z44_0  l0 l1 l2 l3 l4 H)
theorem z45_0 {E : List (List Int)} {d : Nat} {T : zT} {D : zD} {Q : Int → zT → zD → Prop}  (l0 : Int) (l1 : Int) (l2 : Int) 
  (H : zob T l0 0 9 ∧ 0 < d ∧ zk T (D l0 3) = 3 ∧ zc E (d - 1) 0 25 [(2, (D l0 3)), (2, l1)] T D (fun x4 T4 D4 => zob T4 l0 0 9 ∧ zk T4 (D4 l0 5) = 3 ∧ zc E (d - 1) 0 46 [(2, (D4 l0 5)), (0, 1)] T4 D4 (fun x7 T7 D7 => zob T7 l0 0 9 ∧ zk T7 (D7 l0 7) = 3 ∧ zc E (d - 1) 0 13 [(2, (D7 l0 7))] T7 D7 (fun x10 T10 D10 => zob T10 l0 0 9 ∧ zk T10 (D10 l0 4) = 3 ∧ zc E (d - 1) 0 25 [(2, (D10 l0 4)), (2, l2)] T10 D10 (fun x13 T13 D13 => zob T13 l0 0 9 ∧ zk T13 (D13 l0 6) = 3 ∧ zc E (d - 1) 0 13 [(2, (D13 l0 6))] T13 D13 (fun x16 T16 D16 => zob T16 l0 0 9 ∧ zk T16 (D16 l0 8) = 3 ∧ zc E (d - 1) 0 46 [(2, (D16 l0 8)), (0, 1)] T16 D16 (fun x19 T19 D19 => zj E d 0 45 48 [(2, l0), (2, l1), (2, l2), (0, 0)] [] T19 D19 Q))))))) :
  zj E d 0 45 0 [(2, l0), (2, l1), (2, l2), (9, 0)] [] T D Q := by
  refine zr_aload_n rfl rfl ?_
  obtain ⟨h1, H⟩ := H
  refine zr_getfield (n := 9) rfl h1 (by decide) rfl (by decide) ?_
  refine zr_aload_n rfl rfl ?_
  obtain ⟨h2, H⟩ := H
  obtain ⟨h3, H⟩ := H
  refine zr_invokevirtual (rt2 := 0) rfl rfl rfl rfl rfl h3 (by decide) h2 (zc_mono H ?_)
  intro x4 T4 D4 H
  show zj _ _ _ _ _ [(2, l0), (2, l1), (2, l2), (9, 0)] [] _ _ _
  refine zr_aload_n rfl rfl ?_
  obtain ⟨h5, H⟩ := H
  refine zr_getfield (n := 9) rfl h5 (by decide) rfl (by decide) ?_
  refine zr_iconst rfl ?_
  obtain ⟨h6, H⟩ := H
  refine zr_invokevirtual (rt2 := 0) rfl rfl rfl rfl rfl h6 (by decide) h2 (zc_mono H ?_)
  intro x7 T7 D7 H
  show zj _ _ _ _ _ [(2, l0), (2, l1), (2, l2), (9, 0)] [] _ _ _
  refine zr_aload_n rfl rfl ?_
  obtain ⟨h8, H⟩ := H
  refine zr_getfield (n := 9) rfl h8 (by decide) rfl (by decide) ?_
  obtain ⟨h9, H⟩ := H
  refine zr_invokevirtual (rt2 := 0) rfl rfl rfl rfl rfl h9 (by decide) h2 (zc_mono H ?_)
  intro x10 T10 D10 H
  show zj _ _ _ _ _ [(2, l0), (2, l1), (2, l2), (9, 0)] [] _ _ _
  refine zr_aload_n rfl rfl ?_
  obtain ⟨h11, H⟩ := H
  refine zr_getfield (n := 9) rfl h11 (by decide) rfl (by decide) ?_
  refine zr_aload_n rfl rfl ?_
  obtain ⟨h12, H⟩ := H
  refine zr_invokevirtual (rt2 := 0) rfl rfl rfl rfl rfl h12 (by decide) h2 (zc_mono H ?_)
  intro x13 T13 D13 H
  show zj _ _ _ _ _ [(2, l0), (2, l1), (2, l2), (9, 0)] [] _ _ _
  refine zr_aload_n rfl rfl ?_
  obtain ⟨h14, H⟩ := H
  refine zr_getfield (n := 9) rfl h14 (by decide) rfl (by decide) ?_
  obtain ⟨h15, H⟩ := H
  refine zr_invokevirtual (rt2 := 0) rfl rfl rfl rfl rfl h15 (by decide) h2 (zc_mono H ?_)
  intro x16 T16 D16 H
  show zj _ _ _ _ _ [(2, l0), (2, l1), (2, l2), (9, 0)] [] _ _ _
  refine zr_aload_n rfl rfl ?_
  obtain ⟨h17, H⟩ := H
  refine zr_getfield (n := 9) rfl h17 (by decide) rfl (by decide) ?_
  refine zr_iconst rfl ?_
  obtain ⟨h18, H⟩ := H
  refine zr_invokevirtual (rt2 := 0) rfl rfl rfl rfl rfl h18 (by decide) h2 (zc_mono H ?_)
  intro x19 T19 D19 H
  show zj _ _ _ _ _ [(2, l0), (2, l1), (2, l2), (9, 0)] [] _ _ _
  refine zr_iconst rfl ?_
  refine zr_istore_n rfl rfl ?_
  show zj _ _ _ _ _ [(2, l0), (2, l1), (2, l2), (0, 0)] [] _ _ _
  exact H
theorem e45 {E : List (List Int)} {d : Nat} {T : zT} {D : zD} {Q : Int → zT → zD → Prop}  (l0 : Int) (l1 : Int) (l2 : Int) 
  (H : zob T l0 0 9 ∧ 0 < d ∧ zk T (D l0 3) = 3 ∧ zc E (d - 1) 0 25 [(2, (D l0 3)), (2, l1)] T D (fun x4 T4 D4 => zob T4 l0 0 9 ∧ zk T4 (D4 l0 5) = 3 ∧ zc E (d - 1) 0 46 [(2, (D4 l0 5)), (0, 1)] T4 D4 (fun x7 T7 D7 => zob T7 l0 0 9 ∧ zk T7 (D7 l0 7) = 3 ∧ zc E (d - 1) 0 13 [(2, (D7 l0 7))] T7 D7 (fun x10 T10 D10 => zob T10 l0 0 9 ∧ zk T10 (D10 l0 4) = 3 ∧ zc E (d - 1) 0 25 [(2, (D10 l0 4)), (2, l2)] T10 D10 (fun x13 T13 D13 => zob T13 l0 0 9 ∧ zk T13 (D13 l0 6) = 3 ∧ zc E (d - 1) 0 13 [(2, (D13 l0 6))] T13 D13 (fun x16 T16 D16 => zob T16 l0 0 9 ∧ zk T16 (D16 l0 8) = 3 ∧ zc E (d - 1) 0 46 [(2, (D16 l0 8)), (0, 1)] T16 D16 (fun x19 T19 D19 => zj E d 0 45 48 [(2, l0), (2, l1), (2, l2), (0, 0)] [] T19 D19 Q))))))) :
  zc E d 0 45 [(2, l0), (2, l1), (2, l2)] T D Q :=
  zc_of (ls := [(2, l0), (2, l1), (2, l2), (9, 0)]) (fun _ => rfl) (z45_0  l0 l1 l2 H)
theorem z45_48 {E : List (List Int)} {d : Nat} {T : zT} {D : zD} {Q : Int → zT → zD → Prop}  (l0 : Int) (l1 : Int) (l2 : Int) (l3 : Int) 
  (H : zin l3 ∧ ((l3 ≥ 1000 → zj E d 0 45 125 [(2, l0), (2, l1), (2, l2), (0, l3)] [] T D Q) ∧ (l3 < 1000 → zob T l0 0 9 ∧ 0 < d ∧ zk T (D l0 4) = 3 ∧ zc E (d - 1) 1 34 [(2, (D l0 4))] T D (fun x5 T5 D5 => zin x5 ∧ ((x5 ≠ 0 → zj E d 0 45 125 [(2, l0), (2, l1), (2, l2), (0, l3)] [] T5 D5 Q) ∧ (x5 = 0 → zob T5 l0 0 9 ∧ zk T5 (D5 l0 1) = 3 ∧ zc E (d - 1) 0 13 [(2, (D5 l0 1))] T5 D5 (fun x9 T9 D9 => zob T9 l0 0 9 ∧ zk T9 (D9 l0 3) = 3 ∧ zc E (d - 1) 0 35 [(2, (D9 l0 3)), (2, (D9 l0 4)), (2, (D9 l0 1))] T9 D9 (fun x12 T12 D12 => zob T12 l0 0 9 ∧ zk T12 l0 = 0 ∧ zc E (d - 1) 0 47 [(2, l0), (2, (D12 l0 5)), (2, (D12 l0 6))] T12 D12 (fun x15 T15 D15 => zob T15 l0 0 9 ∧ zk T15 l0 = 0 ∧ zc E (d - 1) 0 47 [(2, l0), (2, (D15 l0 7)), (2, (D15 l0 8))] T15 D15 (fun x18 T18 D18 => zk T18 l0 = 0 ∧ zc E (d - 1) 0 39 [(2, l0)] T18 D18 (fun x20 T20 D20 => zk T20 l0 = 0 ∧ zc E (d - 1) 0 48 [(2, l0)] T20 D20 (fun x22 T22 D22 => zj E d 0 45 48 [(2, l0), (2, l1), (2, l2), (0, l3 + 1)] [] T22 D22 Q)))))))))))) :
  zj E d 0 45 48 [(2, l0), (2, l1), (2, l2), (0, l3)] [] T D Q := by
  refine zr_iload_n rfl rfl ?_
  refine zr_sipush rfl ?_
  obtain ⟨h1, H⟩ := H
  refine zr_icmp_ge rfl h1 (zin_c (by decide)) (fun hc => ?_) (fun hc => ?_)
  · replace H := H.1 hc
    exact H
  · replace H := H.2 hc
    refine zr_aload_n rfl rfl ?_
    obtain ⟨h2, H⟩ := H
    refine zr_getfield (n := 9) rfl h2 (by decide) rfl (by decide) ?_
    obtain ⟨h3, H⟩ := H
    obtain ⟨h4, H⟩ := H
    refine zr_invokevirtual (rt2 := 1) rfl rfl rfl rfl rfl h4 (by decide) h3 (zc_mono H ?_)
    intro x5 T5 D5 H
    show zj _ _ _ _ _ [(2, l0), (2, l1), (2, l2), (0, l3)] [(0, x5)] _ _ _
    obtain ⟨h6, H⟩ := H
    refine zr_if_ne rfl h6 (fun hc => ?_) (fun hc => ?_)
    · replace H := H.1 hc
      exact H
    · replace H := H.2 hc
      refine zr_aload_n rfl rfl ?_
      obtain ⟨h7, H⟩ := H
      refine zr_getfield (n := 9) rfl h7 (by decide) rfl (by decide) ?_
      obtain ⟨h8, H⟩ := H
      refine zr_invokevirtual (rt2 := 0) rfl rfl rfl rfl rfl h8 (by decide) h3 (zc_mono H ?_)
      intro x9 T9 D9 H
      show zj _ _ _ _ _ [(2, l0), (2, l1), (2, l2), (0, l3)] [] _ _ _
      refine zr_aload_n rfl rfl ?_
      obtain ⟨h10, H⟩ := H
      refine zr_getfield (n := 9) rfl h10 (by decide) rfl (by decide) ?_
      refine zr_aload_n rfl rfl ?_
      refine zr_getfield (n := 9) rfl h10 (by decide) rfl (by decide) ?_
      refine zr_aload_n rfl rfl ?_
      refine zr_getfield (n := 9) rfl h10 (by decide) rfl (by decide) ?_
      obtain ⟨h11, H⟩ := H
      refine zr_invokevirtual (rt2 := 0) rfl rfl rfl rfl rfl h11 (by decide) h3 (zc_mono H ?_)
      intro x12 T12 D12 H
      show zj _ _ _ _ _ [(2, l0), (2, l1), (2, l2), (0, l3)] [] _ _ _
      refine zr_aload_n rfl rfl ?_
      refine zr_aload_n rfl rfl ?_
      obtain ⟨h13, H⟩ := H
      refine zr_getfield (n := 9) rfl h13 (by decide) rfl (by decide) ?_
      refine zr_aload_n rfl rfl ?_
      refine zr_getfield (n := 9) rfl h13 (by decide) rfl (by decide) ?_
      obtain ⟨h14, H⟩ := H
      refine zr_invokevirtual (rt2 := 0) rfl rfl rfl rfl rfl h14 (by decide) h3 (zc_mono H ?_)
      intro x15 T15 D15 H
      show zj _ _ _ _ _ [(2, l0), (2, l1), (2, l2), (0, l3)] [] _ _ _
      refine zr_aload_n rfl rfl ?_
      refine zr_aload_n rfl rfl ?_
      obtain ⟨h16, H⟩ := H
      refine zr_getfield (n := 9) rfl h16 (by decide) rfl (by decide) ?_
      refine zr_aload_n rfl rfl ?_
      refine zr_getfield (n := 9) rfl h16 (by decide) rfl (by decide) ?_
      obtain ⟨h17, H⟩ := H
      refine zr_invokevirtual (rt2 := 0) rfl rfl rfl rfl rfl h17 (by decide) h3 (zc_mono H ?_)
      intro x18 T18 D18 H
      show zj _ _ _ _ _ [(2, l0), (2, l1), (2, l2), (0, l3)] [] _ _ _
      refine zr_aload_n rfl rfl ?_
      obtain ⟨h19, H⟩ := H
      refine zr_invokevirtual (rt2 := 0) rfl rfl rfl rfl rfl h19 (by decide) h3 (zc_mono H ?_)
      intro x20 T20 D20 H
      show zj _ _ _ _ _ [(2, l0), (2, l1), (2, l2), (0, l3)] [] _ _ _
      refine zr_aload_n rfl rfl ?_
      obtain ⟨h21, H⟩ := H
      refine zr_invokevirtual (rt2 := 0) rfl rfl rfl rfl rfl h21 (by decide) h3 (zc_mono H ?_)
      intro x22 T22 D22 H
      show zj _ _ _ _ _ [(2, l0), (2, l1), (2, l2), (0, l3)] [] _ _ _
      refine zr_iinc rfl rfl rfl ?_
      show zj _ _ _ _ _ [(2, l0), (2, l1), (2, l2), (0, l3 + 1)] [] _ _ _
      refine zr_goto rfl ?_
      exact H
theorem z45_125 {E : List (List Int)} {d : Nat} {T : zT} {D : zD} {Q : Int → zT → zD → Prop}  (l0 : Int) (l1 : Int) (l2 : Int) (l3 : Int) 
  (H : zob T l0 0 9 ∧ 0 < d ∧ zk T (D l0 3) = 3 ∧ zc E (d - 1) 1 34 [(2, (D l0 3))] T D (fun x4 T4 D4 => zin x4 ∧ ((x4 ≠ 0 → Q 0 T4 D4) ∧ (x4 = 0 → zob T4 l0 0 9 ∧ zk T4 (D4 l0 3) = 3 ∧ zc E (d - 1) 1 36 [(2, (D4 l0 3))] T4 D4 (fun x8 T8 D8 => zk T8 (D4 l0 0) = 1 ∧ zc E (d - 1) 1 37 [(2, (D4 l0 0)), (0, x8)] T8 D8 (fun x10 T10 D10 => zob T10 l0 0 9 ∧ zk T10 (D10 l0 3) = 3 ∧ zc E (d - 1) 0 40 [(2, (D10 l0 3)), (0, x10)] T10 D10 (fun x13 T13 D13 => zob T13 l0 0 9 ∧ zk T13 (D13 l0 5) = 3 ∧ zc E (d - 1) 0 40 [(2, (D13 l0 5)), (0, x10)] T13 D13 (fun x16 T16 D16 => zob T16 l0 0 9 ∧ zk T16 (D16 l0 7) = 3 ∧ zc E (d - 1) 0 40 [(2, (D16 l0 7)), (0, x10)] T16 D16 (fun x19 T19 D19 => Q 0 T19 D19))))))))) :
  zj E d 0 45 125 [(2, l0), (2, l1), (2, l2), (0, l3)] [] T D Q := by
  refine zr_aload_n rfl rfl ?_
  obtain ⟨h1, H⟩ := H
  refine zr_getfield (n := 9) rfl h1 (by decide) rfl (by decide) ?_
  obtain ⟨h2, H⟩ := H
  obtain ⟨h3, H⟩ := H
  refine zr_invokevirtual (rt2 := 1) rfl rfl rfl rfl rfl h3 (by decide) h2 (zc_mono H ?_)
  intro x4 T4 D4 H
  show zj _ _ _ _ _ [(2, l0), (2, l1), (2, l2), (0, l3)] [(0, x4)] _ _ _
  obtain ⟨h5, H⟩ := H
  refine zr_if_ne rfl h5 (fun hc => ?_) (fun hc => ?_)
  · replace H := H.1 hc
    exact zr_return rfl rfl rfl H
  · replace H := H.2 hc
    refine zr_aload_n rfl rfl ?_
    obtain ⟨h6, H⟩ := H
    refine zr_getfield (n := 9) rfl h6 (by decide) rfl (by decide) ?_
    refine zr_aload_n rfl rfl ?_
    refine zr_getfield (n := 9) rfl h6 (by decide) rfl (by decide) ?_
    obtain ⟨h7, H⟩ := H
    refine zr_invokevirtual (rt2 := 1) rfl rfl rfl rfl rfl h7 (by decide) h2 (zc_mono H ?_)
    intro x8 T8 D8 H
    show zj _ _ _ _ _ [(2, l0), (2, l1), (2, l2), (0, l3)] [(0, x8), (2, (D4 l0 0))] _ _ _
    obtain ⟨h9, H⟩ := H
    refine zr_invokevirtual (rt2 := 1) rfl rfl rfl rfl rfl h9 (by decide) h2 (zc_mono H ?_)
    intro x10 T10 D10 H
    show zj _ _ _ _ _ [(2, l0), (2, l1), (2, l2), (0, l3)] [(0, x10)] _ _ _
    refine zr_istore_n rfl rfl ?_
    show zj _ _ _ _ _ [(2, l0), (2, l1), (2, l2), (0, x10)] [] _ _ _
    refine zr_aload_n rfl rfl ?_
    obtain ⟨h11, H⟩ := H
    refine zr_getfield (n := 9) rfl h11 (by decide) rfl (by decide) ?_
    refine zr_iload_n rfl rfl ?_
    obtain ⟨h12, H⟩ := H
    refine zr_invokevirtual (rt2 := 0) rfl rfl rfl rfl rfl h12 (by decide) h2 (zc_mono H ?_)
    intro x13 T13 D13 H
    show zj _ _ _ _ _ [(2, l0), (2, l1), (2, l2), (0, x10)] [] _ _ _
    refine zr_aload_n rfl rfl ?_
    obtain ⟨h14, H⟩ := H
    refine zr_getfield (n := 9) rfl h14 (by decide) rfl (by decide) ?_
    refine zr_iload_n rfl rfl ?_
    obtain ⟨h15, H⟩ := H
    refine zr_invokevirtual (rt2 := 0) rfl rfl rfl rfl rfl h15 (by decide) h2 (zc_mono H ?_)
    intro x16 T16 D16 H
    show zj _ _ _ _ _ [(2, l0), (2, l1), (2, l2), (0, x10)] [] _ _ _
    refine zr_aload_n rfl rfl ?_
    obtain ⟨h17, H⟩ := H
    refine zr_getfield (n := 9) rfl h17 (by decide) rfl (by decide) ?_
    refine zr_iload_n rfl rfl ?_
    obtain ⟨h18, H⟩ := H
    refine zr_invokevirtual (rt2 := 0) rfl rfl rfl rfl rfl h18 (by decide) h2 (zc_mono H ?_)
    intro x19 T19 D19 H
    show zj _ _ _ _ _ [(2, l0), (2, l1), (2, l2), (0, x10)] [] _ _ _
    exact zr_return rfl rfl rfl H
theorem z46_0 {E : List (List Int)} {d : Nat} {T : zT} {D : zD} {Q : Int → zT → zD → Prop}  (l0 : Int) (l1 : Int) 
  (H : 0 < d ∧ zk T l0 = 3 ∧ zc E (d - 1) 0 13 [(2, l0)] T D (fun x3 T3 D3 => zk T3 l0 = 3 ∧ zc E (d - 1) 0 32 [(2, l0), (0, 0), (0, l1)] T3 D3 (fun x5 T5 D5 => Q 0 T5 D5))) :
  zj E d 0 46 0 [(2, l0), (0, l1)] [] T D Q := by
  refine zr_aload_n rfl rfl ?_
  obtain ⟨h1, H⟩ := H
  obtain ⟨h2, H⟩ := H
  refine zr_invokevirtual (rt2 := 0) rfl rfl rfl rfl rfl h2 (by decide) h1 (zc_mono H ?_)
  intro x3 T3 D3 H
  show zj _ _ _ _ _ [(2, l0), (0, l1)] [] _ _ _
  refine zr_aload_n rfl rfl ?_
  refine zr_iconst rfl ?_
  refine zr_iload_n rfl rfl ?_
  obtain ⟨h4, H⟩ := H
  refine zr_invokevirtual (rt2 := 0) rfl rfl rfl rfl rfl h4 (by decide) h1 (zc_mono H ?_)
  intro x5 T5 D5 H
  show zj _ _ _ _ _ [(2, l0), (0, l1)] [] _ _ _
  exact zr_return rfl rfl rfl H
theorem e46 {E : List (List Int)} {d : Nat} {T : zT} {D : zD} {Q : Int → zT → zD → Prop}  (l0 : Int) (l1 : Int) 
  (H : 0 < d ∧ zk T l0 = 3 ∧ zc E (d - 1) 0 13 [(2, l0)] T D (fun x3 T3 D3 => zk T3 l0 = 3 ∧ zc E (d - 1) 0 32 [(2, l0), (0, 0), (0, l1)] T3 D3 (fun x5 T5 D5 => Q 0 T5 D5))) :
  zc E d 0 46 [(2, l0), (0, l1)] T D Q :=
  zc_of (ls := [(2, l0), (0, l1)]) (fun _ => rfl) (z46_0  l0 l1 H)
theorem z47_0 {E : List (List Int)} {d : Nat} {T : zT} {D : zD} {Q : Int → zT → zD → Prop}  (l0 : Int) (l1 : Int) (l2 : Int) 
  (H : zob T l0 0 9 ∧ 0 < d ∧ zk T (D l0 2) = 3 ∧ zc E (d - 1) 0 29 [(2, (D l0 2)), (2, (D l0 1)), (2, l2)] T D (fun x4 T4 D4 => zob T4 l0 0 9 ∧ zk T4 l1 = 3 ∧ zc E (d - 1) 0 27 [(2, l1), (2, (D4 l0 2))] T4 D4 (fun x7 T7 D7 => Q 0 T7 D7))) :
  zj E d 0 47 0 [(2, l0), (2, l1), (2, l2)] [] T D Q := by
  refine zr_aload_n rfl rfl ?_
  obtain ⟨h1, H⟩ := H
  refine zr_getfield (n := 9) rfl h1 (by decide) rfl (by decide) ?_
  refine zr_aload_n rfl rfl ?_
  refine zr_getfield (n := 9) rfl h1 (by decide) rfl (by decide) ?_
  refine zr_aload_n rfl rfl ?_
  obtain ⟨h2, H⟩ := H
  obtain ⟨h3, H⟩ := H
  refine zr_invokevirtual (rt2 := 0) rfl rfl rfl rfl rfl h3 (by decide) h2 (zc_mono H ?_)
  intro x4 T4 D4 H
  show zj _ _ _ _ _ [(2, l0), (2, l1), (2, l2)] [] _ _ _
  refine zr_aload_n rfl rfl ?_
  refine zr_aload_n rfl rfl ?_
  obtain ⟨h5, H⟩ := H
  refine zr_getfield (n := 9) rfl h5 (by decide) rfl (by decide) ?_
  obtain ⟨h6, H⟩ := H
  refine zr_invokevirtual (rt2 := 0) rfl rfl rfl rfl rfl h6 (by decide) h2 (zc_mono H ?_)
  intro x7 T7 D7 H
  show zj _ _ _ _ _ [(2, l0), (2, l1), (2, l2)] [] _ _ _
  exact zr_return rfl rfl rfl H
theorem e47 {E : List (List Int)} {d : Nat} {T : zT} {D : zD} {Q : Int → zT → zD → Prop}  (l0 : Int) (l1 : Int) (l2 : Int) 
  (H : zob T l0 0 9 ∧ 0 < d ∧ zk T (D l0 2) = 3 ∧ zc E (d - 1) 0 29 [(2, (D l0 2)), (2, (D l0 1)), (2, l2)] T D (fun x4 T4 D4 => zob T4 l0 0 9 ∧ zk T4 l1 = 3 ∧ zc E (d - 1) 0 27 [(2, l1), (2, (D4 l0 2))] T4 D4 (fun x7 T7 D7 => Q 0 T7 D7))) :
  zc E d 0 47 [(2, l0), (2, l1), (2, l2)] T D Q :=
  zc_of (ls := [(2, l0), (2, l1), (2, l2)]) (fun _ => rfl) (z47_0  l0 l1 l2 H)
theorem z48_0 {E : List (List Int)} {d : Nat} {T : zT} {D : zD} {Q : Int → zT → zD → Prop}  (l0 : Int) 
  (H : zob T l0 0 9 ∧ Q 0 T (zu (zu (zu (zu D l0 5 (D l0 6)) l0 6 (D l0 5)) l0 7 ((zu (zu D l0 5 (D l0 6)) l0 6 (D l0 5)) l0 8)) l0 8 ((zu (zu D l0 5 (D l0 6)) l0 6 (D l0 5)) l0 7))) :
  zj E d 0 48 0 [(2, l0), (9, 0)] [] T D Q := by
  refine zr_aload_n rfl rfl ?_
  obtain ⟨h1, H⟩ := H
  refine zr_getfield (n := 9) rfl h1 (by decide) rfl (by decide) ?_
  refine zr_astore_n rfl rfl ?_
  show zj _ _ _ _ _ [(2, l0), (2, (D l0 5))] [] _ _ _
  refine zr_aload_n rfl rfl ?_
  refine zr_aload_n rfl rfl ?_
  refine zr_getfield (n := 9) rfl h1 (by decide) rfl (by decide) ?_
  refine zr_putfield (n := 9) (t := 2) rfl h1 (by decide) rfl (by decide) rfl ?_
  refine zr_aload_n rfl rfl ?_
  refine zr_aload_n rfl rfl ?_
  refine zr_putfield (n := 9) (t := 2) rfl h1 (by decide) rfl (by decide) rfl ?_
  refine zr_aload_n rfl rfl ?_
  refine zr_getfield (n := 9) rfl h1 (by decide) rfl (by decide) ?_
  refine zr_astore_n rfl rfl ?_
  show zj _ _ _ _ _ [(2, l0), (2, ((zu (zu D l0 5 (D l0 6)) l0 6 (D l0 5)) l0 7))] [] _ _ _
  refine zr_aload_n rfl rfl ?_
  refine zr_aload_n rfl rfl ?_
  refine zr_getfield (n := 9) rfl h1 (by decide) rfl (by decide) ?_
  refine zr_putfield (n := 9) (t := 2) rfl h1 (by decide) rfl (by decide) rfl ?_
  refine zr_aload_n rfl rfl ?_
  refine zr_aload_n rfl rfl ?_
  refine zr_putfield (n := 9) (t := 2) rfl h1 (by decide) rfl (by decide) rfl ?_
  exact zr_return rfl rfl rfl H
theorem e48 {E : List (List Int)} {d : Nat} {T : zT} {D : zD} {Q : Int → zT → zD → Prop}  (l0 : Int) 
  (H : zob T l0 0 9 ∧ Q 0 T (zu (zu (zu (zu D l0 5 (D l0 6)) l0 6 (D l0 5)) l0 7 ((zu (zu D l0 5 (D l0 6)) l0 6 (D l0 5)) l0 8)) l0 8 ((zu (zu D l0 5 (D l0 6)) l0 6 (D l0 5)) l0 7))) :
  zc E d 0 48 [(2, l0)] T D Q :=
  zc_of (ls := [(2, l0), (9, 0)]) (fun _ => rfl) (z48_0  l0 H)
theorem z49_0 {E : List (List Int)} {d : Nat} {T : zT} {D : zD} {Q : Int → zT → zD → Prop}  (l0 : Int) 
  (H : zob T l0 0 9 ∧ -1 ≤ (D l0 5) ∧ Q (D l0 5) T D) :
  zj E d 2 49 0 [(2, l0)] [] T D Q := by
  refine zr_aload_n rfl rfl ?_
  obtain ⟨h1, H⟩ := H
  refine zr_getfield (n := 9) rfl h1 (by decide) rfl (by decide) ?_
  obtain ⟨h2, H⟩ := H
  exact zr_areturn rfl rfl rfl h2 H
theorem e49 {E : List (List Int)} {d : Nat} {T : zT} {D : zD} {Q : Int → zT → zD → Prop}  (l0 : Int) 
  (H : zob T l0 0 9 ∧ -1 ≤ (D l0 5) ∧ Q (D l0 5) T D) :
  zc E d 2 49 [(2, l0)] T D Q :=
  zc_of (ls := [(2, l0)]) (fun _ => rfl) (z49_0  l0 H)
theorem z50_0 {E : List (List Int)} {d : Nat} {T : zT} {D : zD} {Q : Int → zT → zD → Prop}  (l0 : Int) 
  (H : zob T l0 0 9 ∧ -1 ≤ (D l0 7) ∧ Q (D l0 7) T D) :
  zj E d 2 50 0 [(2, l0)] [] T D Q := by
  refine zr_aload_n rfl rfl ?_
  obtain ⟨h1, H⟩ := H
  refine zr_getfield (n := 9) rfl h1 (by decide) rfl (by decide) ?_
  obtain ⟨h2, H⟩ := H
  exact zr_areturn rfl rfl rfl h2 H
theorem e50 {E : List (List Int)} {d : Nat} {T : zT} {D : zD} {Q : Int → zT → zD → Prop}  (l0 : Int) 
  (H : zob T l0 0 9 ∧ -1 ≤ (D l0 7) ∧ Q (D l0 7) T D) :
  zc E d 2 50 [(2, l0)] T D Q :=
  zc_of (ls := [(2, l0)]) (fun _ => rfl) (z50_0  l0 H)
