/-! Conditions of methods, by program (wip/tools/vcg.py). -/
theorem z71_0 {E : List (List Int)} {d : Nat} {T : zT} {D : zD} {Q : Int → zT → zD → Prop}  (l0 : Int) (l1 : Int) (l2 : Int) 
  (H : zj E d 0 71 2 [(2, l0), (0, l1), (0, l2), (0, 0), (9, 0)] [] T D Q) :
  zj E d 0 71 0 [(2, l0), (0, l1), (0, l2), (9, 0), (9, 0)] [] T D Q := by
  refine zr_iconst rfl ?_
  refine zr_istore_n rfl rfl ?_
  show zj _ _ _ _ _ [(2, l0), (0, l1), (0, l2), (0, 0), (9, 0)] [] _ _ _
  exact H
theorem e71 {E : List (List Int)} {d : Nat} {T : zT} {D : zD} {Q : Int → zT → zD → Prop}  (l0 : Int) (l1 : Int) (l2 : Int) 
  (H : zj E d 0 71 2 [(2, l0), (0, l1), (0, l2), (0, 0), (9, 0)] [] T D Q) :
  zc E d 0 71 [(2, l0), (0, l1), (0, l2)] T D Q :=
  zc_of (ls := [(2, l0), (0, l1), (0, l2), (9, 0), (9, 0)]) (fun _ => rfl) (z71_0  l0 l1 l2 H)
theorem z71_2 {E : List (List Int)} {d : Nat} {T : zT} {D : zD} {Q : Int → zT → zD → Prop}  (l0 : Int) (l1 : Int) (l2 : Int) (l3 : Int) (w4 : zv_V) (hw4 : zs_wide w4 = false)
  (H : zob T l0 5 12 ∧ zin l3 ∧ zin (D l0 7) ∧ ((l3 ≥ (D l0 7) → Q 0 T D) ∧ (l3 < (D l0 7) → 0 < d ∧ zk T l0 = 5 ∧ zc E (d - 1) 1 67 [(2, l0), (0, l3), (0, l1)] T D (fun x6 T6 D6 => zk T6 (D l0 0) = 1 ∧ zc E (d - 1) 1 28 [(2, (D l0 0)), (0, x6)] T6 D6 (fun x8 T8 D8 => zin l2 ∧ ((l3 = l2 → zj E d 0 71 2 [(2, l0), (0, l1), (0, l2), (0, l3 + 1), (0, x8)] [] T8 D8 Q) ∧ (l3 ≠ l2 → zin x8 ∧ ((x8 = 0 → zj E d 0 71 2 [(2, l0), (0, l1), (0, l2), (0, l3 + 1), (0, x8)] [] T8 D8 Q) ∧ (x8 ≠ 0 → zk T8 l0 = 5 ∧ zc E (d - 1) 0 72 [(2, l0), (0, l3), (0, l2), (0, x8)] T8 D8 (fun x12 T12 D12 => zj E d 0 71 2 [(2, l0), (0, l1), (0, l2), (0, l3 + 1), (0, x8)] [] T12 D12 Q)))))))))) :
  zj E d 0 71 2 [(2, l0), (0, l1), (0, l2), (0, l3), w4] [] T D Q := by
  refine zr_iload_n rfl rfl ?_
  refine zr_aload_n rfl rfl ?_
  obtain ⟨h1, H⟩ := H
  refine zr_getfield (n := 12) rfl h1 (by decide) rfl (by decide) ?_
  obtain ⟨h2, H⟩ := H
  obtain ⟨h3, H⟩ := H
  refine zr_icmp_ge rfl h2 h3 (fun hc => ?_) (fun hc => ?_)
  · replace H := H.1 hc
    exact zr_return rfl rfl rfl H
  · replace H := H.2 hc
    refine zr_aload_n rfl rfl ?_
    refine zr_getfield (n := 12) rfl h1 (by decide) rfl (by decide) ?_
    refine zr_aload_n rfl rfl ?_
    refine zr_iload_n rfl rfl ?_
    refine zr_iload_n rfl rfl ?_
    obtain ⟨h4, H⟩ := H
    obtain ⟨h5, H⟩ := H
    refine zr_invokevirtual (rt2 := 1) rfl rfl rfl rfl rfl h5 (by decide) h4 (zc_mono H ?_)
    intro x6 T6 D6 H
    show zj _ _ _ _ _ [(2, l0), (0, l1), (0, l2), (0, l3), w4] [(0, x6), (2, (D l0 0))] _ _ _
    obtain ⟨h7, H⟩ := H
    refine zr_invokevirtual (rt2 := 1) rfl rfl rfl rfl rfl h7 (by decide) h4 (zc_mono H ?_)
    intro x8 T8 D8 H
    show zj _ _ _ _ _ [(2, l0), (0, l1), (0, l2), (0, l3), w4] [(0, x8)] _ _ _
    refine zr_istore rfl rfl ?_
    show zj _ _ _ _ _ [(2, l0), (0, l1), (0, l2), (0, l3), (0, x8)] [] _ _ _
    refine zr_iload_n rfl rfl ?_
    refine zr_iload_n rfl rfl ?_
    obtain ⟨h9, H⟩ := H
    refine zr_icmp_eq rfl h2 h9 (fun hc => ?_) (fun hc => ?_)
    · replace H := H.1 hc
      refine zr_iinc rfl rfl rfl ?_
      show zj _ _ _ _ _ [(2, l0), (0, l1), (0, l2), (0, l3 + 1), (0, x8)] [] _ _ _
      refine zr_goto rfl ?_
      exact H
    · replace H := H.2 hc
      refine zr_iload rfl rfl ?_
      obtain ⟨h10, H⟩ := H
      refine zr_if_eq rfl h10 (fun hc => ?_) (fun hc => ?_)
      · replace H := H.1 hc
        refine zr_iinc rfl rfl rfl ?_
        show zj _ _ _ _ _ [(2, l0), (0, l1), (0, l2), (0, l3 + 1), (0, x8)] [] _ _ _
        refine zr_goto rfl ?_
        exact H
      · replace H := H.2 hc
        refine zr_aload_n rfl rfl ?_
        refine zr_iload_n rfl rfl ?_
        refine zr_iload_n rfl rfl ?_
        refine zr_iload rfl rfl ?_
        obtain ⟨h11, H⟩ := H
        refine zr_invokevirtual (rt2 := 0) rfl rfl rfl rfl rfl h11 (by decide) h4 (zc_mono H ?_)
        intro x12 T12 D12 H
        show zj _ _ _ _ _ [(2, l0), (0, l1), (0, l2), (0, l3), (0, x8)] [] _ _ _
        refine zr_iinc rfl rfl rfl ?_
        show zj _ _ _ _ _ [(2, l0), (0, l1), (0, l2), (0, l3 + 1), (0, x8)] [] _ _ _
        refine zr_goto rfl ?_
        exact H
theorem z72_0 {E : List (List Int)} {d : Nat} {T : zT} {D : zD} {Q : Int → zT → zD → Prop}  (l0 : Int) (l1 : Int) (l2 : Int) (l3 : Int) 
  (H : zob T l0 5 12 ∧ zob T (D l0 0) 1 2 ∧ zj E d 0 72 12 [(2, l0), (0, l1), (0, l2), (0, l3), (0, (D (D l0 0) 0)), (0, 0), (9, 0), (9, 0)] [] T D Q) :
  zj E d 0 72 0 [(2, l0), (0, l1), (0, l2), (0, l3), (9, 0), (9, 0), (9, 0), (9, 0)] [] T D Q := by
  refine zr_aload_n rfl rfl ?_
  obtain ⟨h1, H⟩ := H
  refine zr_getfield (n := 12) rfl h1 (by decide) rfl (by decide) ?_
  obtain ⟨h2, H⟩ := H
  refine zr_getfield (n := 2) rfl h2 (by decide) rfl (by decide) ?_
  refine zr_istore rfl rfl ?_
  show zj _ _ _ _ _ [(2, l0), (0, l1), (0, l2), (0, l3), (0, (D (D l0 0) 0)), (9, 0), (9, 0), (9, 0)] [] _ _ _
  refine zr_iconst rfl ?_
  refine zr_istore rfl rfl ?_
  show zj _ _ _ _ _ [(2, l0), (0, l1), (0, l2), (0, l3), (0, (D (D l0 0) 0)), (0, 0), (9, 0), (9, 0)] [] _ _ _
  exact H
theorem e72 {E : List (List Int)} {d : Nat} {T : zT} {D : zD} {Q : Int → zT → zD → Prop}  (l0 : Int) (l1 : Int) (l2 : Int) (l3 : Int) 
  (H : zob T l0 5 12 ∧ zob T (D l0 0) 1 2 ∧ zj E d 0 72 12 [(2, l0), (0, l1), (0, l2), (0, l3), (0, (D (D l0 0) 0)), (0, 0), (9, 0), (9, 0)] [] T D Q) :
  zc E d 0 72 [(2, l0), (0, l1), (0, l2), (0, l3)] T D Q :=
  zc_of (ls := [(2, l0), (0, l1), (0, l2), (0, l3), (9, 0), (9, 0), (9, 0), (9, 0)]) (fun _ => rfl) (z72_0  l0 l1 l2 l3 H)
theorem z72_12 {E : List (List Int)} {d : Nat} {T : zT} {D : zD} {Q : Int → zT → zD → Prop}  (l0 : Int) (l1 : Int) (l2 : Int) (l3 : Int) (l4 : Int) (l5 : Int) (w6 : zv_V) (w7 : zv_V) (hw6 : zs_wide w6 = false) (hw7 : zs_wide w7 = false)
  (H : zob T l0 5 12 ∧ zin l5 ∧ zin (D l0 7) ∧ ((l5 ≥ (D l0 7) → Q 0 T D) ∧ (l5 < (D l0 7) → zin l4 ∧ ((l4 < 2 → Q 0 T D) ∧ (l4 ≥ 2 → zin ((l1 * 24) + l5) ∧ ((((l1 * 24) + l5) < 0 → zj E d 0 72 12 [(2, l0), (0, l1), (0, l2), (0, l3), (0, l4), (0, l5 + 1), (0, ((l1 * 24) + l5)), (0, ((l2 * 24) + l5))] [] T D Q) ∧ (((l1 * 24) + l5) ≥ 0 → zk T (D l0 5) = 50 ∧ zin (zn T (D l0 5)) ∧ ((((l1 * 24) + l5) ≥ (zn T (D l0 5)) → zj E d 0 72 12 [(2, l0), (0, l1), (0, l2), (0, l3), (0, l4), (0, l5 + 1), (0, ((l1 * 24) + l5)), (0, ((l2 * 24) + l5))] [] T D Q) ∧ (((l1 * 24) + l5) < (zn T (D l0 5)) → zin ((l2 * 24) + l5) ∧ ((((l2 * 24) + l5) < 0 → zj E d 0 72 12 [(2, l0), (0, l1), (0, l2), (0, l3), (0, l4), (0, l5 + 1), (0, ((l1 * 24) + l5)), (0, ((l2 * 24) + l5))] [] T D Q) ∧ (((l2 * 24) + l5) ≥ 0 → ((((l2 * 24) + l5) ≥ (zn T (D l0 5)) → zj E d 0 72 12 [(2, l0), (0, l1), (0, l2), (0, l3), (0, l4), (0, l5 + 1), (0, ((l1 * 24) + l5)), (0, ((l2 * 24) + l5))] [] T D Q) ∧ (((l2 * 24) + l5) < (zn T (D l0 5)) → zar T (D l0 5) 50 ((l1 * 24) + l5) ∧ zar T (D l0 5) 50 ((l2 * 24) + l5) ∧ zin ((D (D l0 5) ((l1 * 24) + l5)) + (l3 * (D (D l0 5) ((l2 * 24) + l5)))) ∧ 0 < l4 ∧ l4 ≤ 2147483647 ∧ zj E d 0 72 12 [(2, l0), (0, l1), (0, l2), (0, l3), (0, l4), (0, l5 + 1), (0, ((l1 * 24) + l5)), (0, ((l2 * 24) + l5))] [] T (zu D (D l0 5) ((l1 * 24) + l5) (((D (D l0 5) ((l1 * 24) + l5)) + (l3 * (D (D l0 5) ((l2 * 24) + l5)))).tmod l4)) Q))))))))))))) :
  zj E d 0 72 12 [(2, l0), (0, l1), (0, l2), (0, l3), (0, l4), (0, l5), w6, w7] [] T D Q := by
  refine zr_iload rfl rfl ?_
  refine zr_aload_n rfl rfl ?_
  obtain ⟨h1, H⟩ := H
  refine zr_getfield (n := 12) rfl h1 (by decide) rfl (by decide) ?_
  obtain ⟨h2, H⟩ := H
  obtain ⟨h3, H⟩ := H
  refine zr_icmp_ge rfl h2 h3 (fun hc => ?_) (fun hc => ?_)
  · replace H := H.1 hc
    exact zr_return rfl rfl rfl H
  · replace H := H.2 hc
    refine zr_iload rfl rfl ?_
    refine zr_iconst rfl ?_
    obtain ⟨h4, H⟩ := H
    refine zr_icmp_lt rfl h4 (zin_c (by decide)) (fun hc => ?_) (fun hc => ?_)
    · replace H := H.1 hc
      exact zr_return rfl rfl rfl H
    · replace H := H.2 hc
      refine zr_iload_n rfl rfl ?_
      refine zr_bipush rfl ?_
      refine zr_imul rfl ?_
      refine zr_iload rfl rfl ?_
      refine zr_iadd rfl ?_
      refine zr_istore rfl rfl ?_
      show zj _ _ _ _ _ [(2, l0), (0, l1), (0, l2), (0, l3), (0, l4), (0, l5), (0, ((l1 * 24) + l5)), w7] [] _ _ _
      refine zr_iload_n rfl rfl ?_
      refine zr_bipush rfl ?_
      refine zr_imul rfl ?_
      refine zr_iload rfl rfl ?_
      refine zr_iadd rfl ?_
      refine zr_istore rfl rfl ?_
      show zj _ _ _ _ _ [(2, l0), (0, l1), (0, l2), (0, l3), (0, l4), (0, l5), (0, ((l1 * 24) + l5)), (0, ((l2 * 24) + l5))] [] _ _ _
      refine zr_iload rfl rfl ?_
      obtain ⟨h5, H⟩ := H
      refine zr_if_lt rfl h5 (fun hc => ?_) (fun hc => ?_)
      · replace H := H.1 hc
        refine zr_iinc rfl rfl rfl ?_
        show zj _ _ _ _ _ [(2, l0), (0, l1), (0, l2), (0, l3), (0, l4), (0, l5 + 1), (0, ((l1 * 24) + l5)), (0, ((l2 * 24) + l5))] [] _ _ _
        refine zr_goto rfl ?_
        exact H
      · replace H := H.2 hc
        refine zr_iload rfl rfl ?_
        refine zr_aload_n rfl rfl ?_
        refine zr_getfield (n := 12) rfl h1 (by decide) rfl (by decide) ?_
        obtain ⟨h6, H⟩ := H
        refine zr_arraylength rfl (Or.inl h6) ?_
        obtain ⟨h7, H⟩ := H
        refine zr_icmp_ge rfl h5 h7 (fun hc => ?_) (fun hc => ?_)
        · replace H := H.1 hc
          refine zr_iinc rfl rfl rfl ?_
          show zj _ _ _ _ _ [(2, l0), (0, l1), (0, l2), (0, l3), (0, l4), (0, l5 + 1), (0, ((l1 * 24) + l5)), (0, ((l2 * 24) + l5))] [] _ _ _
          refine zr_goto rfl ?_
          exact H
        · replace H := H.2 hc
          refine zr_iload rfl rfl ?_
          obtain ⟨h8, H⟩ := H
          refine zr_if_lt rfl h8 (fun hc => ?_) (fun hc => ?_)
          · replace H := H.1 hc
            refine zr_iinc rfl rfl rfl ?_
            show zj _ _ _ _ _ [(2, l0), (0, l1), (0, l2), (0, l3), (0, l4), (0, l5 + 1), (0, ((l1 * 24) + l5)), (0, ((l2 * 24) + l5))] [] _ _ _
            refine zr_goto rfl ?_
            exact H
          · replace H := H.2 hc
            refine zr_iload rfl rfl ?_
            refine zr_aload_n rfl rfl ?_
            refine zr_getfield (n := 12) rfl h1 (by decide) rfl (by decide) ?_
            refine zr_arraylength rfl (Or.inl h6) ?_
            refine zr_icmp_ge rfl h8 h7 (fun hc => ?_) (fun hc => ?_)
            · replace H := H.1 hc
              refine zr_iinc rfl rfl rfl ?_
              show zj _ _ _ _ _ [(2, l0), (0, l1), (0, l2), (0, l3), (0, l4), (0, l5 + 1), (0, ((l1 * 24) + l5)), (0, ((l2 * 24) + l5))] [] _ _ _
              refine zr_goto rfl ?_
              exact H
            · replace H := H.2 hc
              refine zr_aload_n rfl rfl ?_
              refine zr_getfield (n := 12) rfl h1 (by decide) rfl (by decide) ?_
              refine zr_iload rfl rfl ?_
              refine zr_aload_n rfl rfl ?_
              refine zr_getfield (n := 12) rfl h1 (by decide) rfl (by decide) ?_
              refine zr_iload rfl rfl ?_
              obtain ⟨h9, H⟩ := H
              refine zr_iaload rfl h9 ?_
              refine zr_iload_n rfl rfl ?_
              refine zr_aload_n rfl rfl ?_
              refine zr_getfield (n := 12) rfl h1 (by decide) rfl (by decide) ?_
              refine zr_iload rfl rfl ?_
              obtain ⟨h10, H⟩ := H
              refine zr_iaload rfl h10 ?_
              refine zr_imul rfl ?_
              refine zr_iadd rfl ?_
              refine zr_iload rfl rfl ?_
              obtain ⟨h11, H⟩ := H
              obtain ⟨h12, H⟩ := H
              obtain ⟨h13, H⟩ := H
              refine zr_irem rfl h11 h12 h13 ?_
              refine zr_iastore rfl h9 ?_
              refine zr_iinc rfl rfl rfl ?_
              show zj _ _ _ _ _ [(2, l0), (0, l1), (0, l2), (0, l3), (0, l4), (0, l5 + 1), (0, ((l1 * 24) + l5)), (0, ((l2 * 24) + l5))] [] _ _ _
              refine zr_goto rfl ?_
              exact H
theorem z73_0 {E : List (List Int)} {d : Nat} {T : zT} {D : zD} {Q : Int → zT → zD → Prop}  (l0 : Int) (l1 : Int) (l2 : Int) (l3 : Int) 
  (H : 0 < d ∧ zk T l0 = 5 ∧ zc E (d - 1) 1 74 [(2, l0), (0, l1)] T D (fun x3 T3 D3 => zin x3 ∧ ((x3 ≠ 0 → zj E d 0 73 12 [(2, l0), (0, l1), (0, l2), (0, l3), (0, 0), (9, 0), (9, 0)] [] T3 D3 Q) ∧ (x3 = 0 → Q 0 T3 D3)))) :
  zj E d 0 73 0 [(2, l0), (0, l1), (0, l2), (0, l3), (9, 0), (9, 0), (9, 0)] [] T D Q := by
  refine zr_aload_n rfl rfl ?_
  refine zr_iload_n rfl rfl ?_
  obtain ⟨h1, H⟩ := H
  obtain ⟨h2, H⟩ := H
  refine zr_invokevirtual (rt2 := 1) rfl rfl rfl rfl rfl h2 (by decide) h1 (zc_mono H ?_)
  intro x3 T3 D3 H
  show zj _ _ _ _ _ [(2, l0), (0, l1), (0, l2), (0, l3), (9, 0), (9, 0), (9, 0)] [(0, x3)] _ _ _
  obtain ⟨h4, H⟩ := H
  refine zr_if_ne rfl h4 (fun hc => ?_) (fun hc => ?_)
  · replace H := H.1 hc
    refine zr_iconst rfl ?_
    refine zr_istore rfl rfl ?_
    show zj _ _ _ _ _ [(2, l0), (0, l1), (0, l2), (0, l3), (0, 0), (9, 0), (9, 0)] [] _ _ _
    exact H
  · replace H := H.2 hc
    exact zr_return rfl rfl rfl H
theorem e73 {E : List (List Int)} {d : Nat} {T : zT} {D : zD} {Q : Int → zT → zD → Prop}  (l0 : Int) (l1 : Int) (l2 : Int) (l3 : Int) 
  (H : 0 < d ∧ zk T l0 = 5 ∧ zc E (d - 1) 1 74 [(2, l0), (0, l1)] T D (fun x3 T3 D3 => zin x3 ∧ ((x3 ≠ 0 → zj E d 0 73 12 [(2, l0), (0, l1), (0, l2), (0, l3), (0, 0), (9, 0), (9, 0)] [] T3 D3 Q) ∧ (x3 = 0 → Q 0 T3 D3)))) :
  zc E d 0 73 [(2, l0), (0, l1), (0, l2), (0, l3)] T D Q :=
  zc_of (ls := [(2, l0), (0, l1), (0, l2), (0, l3), (9, 0), (9, 0), (9, 0)]) (fun _ => rfl) (z73_0  l0 l1 l2 l3 H)
theorem z73_12 {E : List (List Int)} {d : Nat} {T : zT} {D : zD} {Q : Int → zT → zD → Prop}  (l0 : Int) (l1 : Int) (l2 : Int) (l3 : Int) (l4 : Int) (w5 : zv_V) (w6 : zv_V) (hw5 : zs_wide w5 = false) (hw6 : zs_wide w6 = false)
  (H : zob T l0 5 12 ∧ 0 < d ∧ zk T (D l0 0) = 1 ∧ zc E (d - 1) 1 12 [(2, (D l0 0))] T D (fun x4 T4 D4 => zin l4 ∧ zin x4 ∧ ((l4 ≥ x4 → Q 0 T4 D4) ∧ (l4 < x4 → zob T4 l0 5 12 ∧ zin (D4 l0 4) ∧ zin l3 ∧ (((D4 l0 4) ≥ l3 → Q 0 T4 D4) ∧ ((D4 l0 4) < l3 → zj E d 0 73 41 [(2, l0), (0, l1), (0, l2), (0, l3), (0, l4), (0, (D4 l0 4)), (0, l2)] [] T4 D4 Q)))))) :
  zj E d 0 73 12 [(2, l0), (0, l1), (0, l2), (0, l3), (0, l4), w5, w6] [] T D Q := by
  refine zr_iload rfl rfl ?_
  refine zr_aload_n rfl rfl ?_
  obtain ⟨h1, H⟩ := H
  refine zr_getfield (n := 12) rfl h1 (by decide) rfl (by decide) ?_
  obtain ⟨h2, H⟩ := H
  obtain ⟨h3, H⟩ := H
  refine zr_invokevirtual (rt2 := 1) rfl rfl rfl rfl rfl h3 (by decide) h2 (zc_mono H ?_)
  intro x4 T4 D4 H
  show zj _ _ _ _ _ [(2, l0), (0, l1), (0, l2), (0, l3), (0, l4), w5, w6] [(0, x4), (0, l4)] _ _ _
  obtain ⟨h5, H⟩ := H
  obtain ⟨h6, H⟩ := H
  refine zr_icmp_ge rfl h5 h6 (fun hc => ?_) (fun hc => ?_)
  · replace H := H.1 hc
    exact zr_return rfl rfl rfl H
  · replace H := H.2 hc
    refine zr_aload_n rfl rfl ?_
    obtain ⟨h7, H⟩ := H
    refine zr_getfield (n := 12) rfl h7 (by decide) rfl (by decide) ?_
    refine zr_iload_n rfl rfl ?_
    obtain ⟨h8, H⟩ := H
    obtain ⟨h9, H⟩ := H
    refine zr_icmp_ge rfl h8 h9 (fun hc => ?_) (fun hc => ?_)
    · replace H := H.1 hc
      exact zr_return rfl rfl rfl H
    · replace H := H.2 hc
      refine zr_aload_n rfl rfl ?_
      refine zr_getfield (n := 12) rfl h7 (by decide) rfl (by decide) ?_
      refine zr_istore rfl rfl ?_
      show zj _ _ _ _ _ [(2, l0), (0, l1), (0, l2), (0, l3), (0, l4), (0, (D4 l0 4)), w6] [] _ _ _
      refine zr_iload_n rfl rfl ?_
      refine zr_istore rfl rfl ?_
      show zj _ _ _ _ _ [(2, l0), (0, l1), (0, l2), (0, l3), (0, l4), (0, (D4 l0 4)), (0, l2)] [] _ _ _
      exact H
theorem z73_41 {E : List (List Int)} {d : Nat} {T : zT} {D : zD} {Q : Int → zT → zD → Prop}  (l0 : Int) (l1 : Int) (l2 : Int) (l3 : Int) (l4 : Int) (l5 : Int) (l6 : Int) 
  (H : zin l6 ∧ zin l5 ∧ ((l6 ≥ l5 → zob T l0 5 12 ∧ 0 < d ∧ zk T (D l0 11) = 3 ∧ zc E (d - 1) 1 19 [(2, (D l0 11)), (0, 0)] T D (fun x6 T6 D6 => zk T6 (D l0 0) = 1 ∧ zc E (d - 1) 1 31 [(2, (D l0 0)), (0, (x6 - 1))] T6 D6 (fun x8 T8 D8 => zk T8 (D l0 11) = 3 ∧ zc E (d - 1) 0 32 [(2, (D l0 11)), (0, 0), (0, x8)] T8 D8 (fun x10 T10 D10 => zj E d 0 73 12 [(2, l0), (0, l1), (0, l2), (0, l3), (0, l4 + 1), (0, l5), (0, l6)] [] T10 D10 Q)))) ∧ (l6 < l5 → 0 < d ∧ zk T l0 = 5 ∧ zc E (d - 1) 2 76 [(2, l0), (0, l6)] T D (fun x13 T13 D13 => zk T13 l0 = 5 ∧ zc E (d - 1) 0 77 [(2, l0), (2, x13)] T13 D13 (fun x15 T15 D15 => zj E d 0 73 41 [(2, l0), (0, l1), (0, l2), (0, l3), (0, l4), (0, l5), (0, l6 + 1)] [] T15 D15 Q))))) :
  zj E d 0 73 41 [(2, l0), (0, l1), (0, l2), (0, l3), (0, l4), (0, l5), (0, l6)] [] T D Q := by
  refine zr_iload rfl rfl ?_
  refine zr_iload rfl rfl ?_
  obtain ⟨h1, H⟩ := H
  obtain ⟨h2, H⟩ := H
  refine zr_icmp_ge rfl h1 h2 (fun hc => ?_) (fun hc => ?_)
  · replace H := H.1 hc
    refine zr_aload_n rfl rfl ?_
    obtain ⟨h3, H⟩ := H
    refine zr_getfield (n := 12) rfl h3 (by decide) rfl (by decide) ?_
    refine zr_iconst rfl ?_
    refine zr_aload_n rfl rfl ?_
    refine zr_getfield (n := 12) rfl h3 (by decide) rfl (by decide) ?_
    refine zr_aload_n rfl rfl ?_
    refine zr_getfield (n := 12) rfl h3 (by decide) rfl (by decide) ?_
    refine zr_iconst rfl ?_
    obtain ⟨h4, H⟩ := H
    obtain ⟨h5, H⟩ := H
    refine zr_invokevirtual (rt2 := 1) rfl rfl rfl rfl rfl h5 (by decide) h4 (zc_mono H ?_)
    intro x6 T6 D6 H
    show zj _ _ _ _ _ [(2, l0), (0, l1), (0, l2), (0, l3), (0, l4), (0, l5), (0, l6)] [(0, x6), (2, (D l0 0)), (0, 0), (2, (D l0 11))] _ _ _
    refine zr_iconst rfl ?_
    refine zr_isub rfl ?_
    obtain ⟨h7, H⟩ := H
    refine zr_invokevirtual (rt2 := 1) rfl rfl rfl rfl rfl h7 (by decide) h4 (zc_mono H ?_)
    intro x8 T8 D8 H
    show zj _ _ _ _ _ [(2, l0), (0, l1), (0, l2), (0, l3), (0, l4), (0, l5), (0, l6)] [(0, x8), (0, 0), (2, (D l0 11))] _ _ _
    obtain ⟨h9, H⟩ := H
    refine zr_invokevirtual (rt2 := 0) rfl rfl rfl rfl rfl h9 (by decide) h4 (zc_mono H ?_)
    intro x10 T10 D10 H
    show zj _ _ _ _ _ [(2, l0), (0, l1), (0, l2), (0, l3), (0, l4), (0, l5), (0, l6)] [] _ _ _
    refine zr_iinc rfl rfl rfl ?_
    show zj _ _ _ _ _ [(2, l0), (0, l1), (0, l2), (0, l3), (0, l4 + 1), (0, l5), (0, l6)] [] _ _ _
    refine zr_goto rfl ?_
    exact H
  · replace H := H.2 hc
    refine zr_aload_n rfl rfl ?_
    refine zr_aload_n rfl rfl ?_
    refine zr_iload rfl rfl ?_
    obtain ⟨h11, H⟩ := H
    obtain ⟨h12, H⟩ := H
    refine zr_invokevirtual (rt2 := 2) rfl rfl rfl rfl rfl h12 (by decide) h11 (zc_mono H ?_)
    intro x13 T13 D13 H
    show zj _ _ _ _ _ [(2, l0), (0, l1), (0, l2), (0, l3), (0, l4), (0, l5), (0, l6)] [(2, x13), (2, l0)] _ _ _
    obtain ⟨h14, H⟩ := H
    refine zr_invokevirtual (rt2 := 0) rfl rfl rfl rfl rfl h14 (by decide) h11 (zc_mono H ?_)
    intro x15 T15 D15 H
    show zj _ _ _ _ _ [(2, l0), (0, l1), (0, l2), (0, l3), (0, l4), (0, l5), (0, l6)] [] _ _ _
    refine zr_iinc rfl rfl rfl ?_
    show zj _ _ _ _ _ [(2, l0), (0, l1), (0, l2), (0, l3), (0, l4), (0, l5), (0, l6 + 1)] [] _ _ _
    refine zr_goto rfl ?_
    exact H
theorem z74_0 {E : List (List Int)} {d : Nat} {T : zT} {D : zD} {Q : Int → zT → zD → Prop}  (l0 : Int) (l1 : Int) 
  (H : zob T l0 5 12 ∧ zin l1 ∧ zin (D l0 7) ∧ ((l1 ≥ (D l0 7) → Q 0 T D) ∧ (l1 < (D l0 7) → 0 < d ∧ zk T l0 = 5 ∧ zc E (d - 1) 1 75 [(2, l0), (0, l1)] T D (fun x6 T6 D6 => zin x6 ∧ ((x6 = (-1) → zob T6 l0 5 12 ∧ zk T6 (D6 l0 11) = 3 ∧ zc E (d - 1) 0 13 [(2, (D6 l0 11))] T6 D6 (fun x10 T10 D10 => zob T10 l0 5 12 ∧ zk T10 (D10 l0 11) = 3 ∧ zc E (d - 1) 0 32 [(2, (D10 l0 11)), (0, l1), (0, 1)] T10 D10 (fun x13 T13 D13 => zj E d 1 74 37 [(2, l0), (0, l1), (0, 0)] [] T13 D13 Q))) ∧ (x6 ≠ (-1) → Q 0 T6 D6)))))) :
  zj E d 1 74 0 [(2, l0), (0, l1), (9, 0)] [] T D Q := by
  refine zr_iload_n rfl rfl ?_
  refine zr_aload_n rfl rfl ?_
  obtain ⟨h1, H⟩ := H
  refine zr_getfield (n := 12) rfl h1 (by decide) rfl (by decide) ?_
  obtain ⟨h2, H⟩ := H
  obtain ⟨h3, H⟩ := H
  refine zr_icmp_ge rfl h2 h3 (fun hc => ?_) (fun hc => ?_)
  · replace H := H.1 hc
    refine zr_iconst rfl ?_
    exact zr_ireturn rfl rfl rfl H
  · replace H := H.2 hc
    refine zr_aload_n rfl rfl ?_
    refine zr_iload_n rfl rfl ?_
    obtain ⟨h4, H⟩ := H
    obtain ⟨h5, H⟩ := H
    refine zr_invokevirtual (rt2 := 1) rfl rfl rfl rfl rfl h5 (by decide) h4 (zc_mono H ?_)
    intro x6 T6 D6 H
    show zj _ _ _ _ _ [(2, l0), (0, l1), (9, 0)] [(0, x6)] _ _ _
    refine zr_iconst rfl ?_
    obtain ⟨h7, H⟩ := H
    refine zr_icmp_eq rfl h7 (zin_c (by decide)) (fun hc => ?_) (fun hc => ?_)
    · replace H := H.1 hc
      refine zr_aload_n rfl rfl ?_
      obtain ⟨h8, H⟩ := H
      refine zr_getfield (n := 12) rfl h8 (by decide) rfl (by decide) ?_
      obtain ⟨h9, H⟩ := H
      refine zr_invokevirtual (rt2 := 0) rfl rfl rfl rfl rfl h9 (by decide) h4 (zc_mono H ?_)
      intro x10 T10 D10 H
      show zj _ _ _ _ _ [(2, l0), (0, l1), (9, 0)] [] _ _ _
      refine zr_aload_n rfl rfl ?_
      obtain ⟨h11, H⟩ := H
      refine zr_getfield (n := 12) rfl h11 (by decide) rfl (by decide) ?_
      refine zr_iload_n rfl rfl ?_
      refine zr_iconst rfl ?_
      obtain ⟨h12, H⟩ := H
      refine zr_invokevirtual (rt2 := 0) rfl rfl rfl rfl rfl h12 (by decide) h4 (zc_mono H ?_)
      intro x13 T13 D13 H
      show zj _ _ _ _ _ [(2, l0), (0, l1), (9, 0)] [] _ _ _
      refine zr_iconst rfl ?_
      refine zr_istore_n rfl rfl ?_
      show zj _ _ _ _ _ [(2, l0), (0, l1), (0, 0)] [] _ _ _
      exact H
    · replace H := H.2 hc
      refine zr_iconst rfl ?_
      exact zr_ireturn rfl rfl rfl H
theorem e74 {E : List (List Int)} {d : Nat} {T : zT} {D : zD} {Q : Int → zT → zD → Prop}  (l0 : Int) (l1 : Int) 
  (H : zob T l0 5 12 ∧ zin l1 ∧ zin (D l0 7) ∧ ((l1 ≥ (D l0 7) → Q 0 T D) ∧ (l1 < (D l0 7) → 0 < d ∧ zk T l0 = 5 ∧ zc E (d - 1) 1 75 [(2, l0), (0, l1)] T D (fun x6 T6 D6 => zin x6 ∧ ((x6 = (-1) → zob T6 l0 5 12 ∧ zk T6 (D6 l0 11) = 3 ∧ zc E (d - 1) 0 13 [(2, (D6 l0 11))] T6 D6 (fun x10 T10 D10 => zob T10 l0 5 12 ∧ zk T10 (D10 l0 11) = 3 ∧ zc E (d - 1) 0 32 [(2, (D10 l0 11)), (0, l1), (0, 1)] T10 D10 (fun x13 T13 D13 => zj E d 1 74 37 [(2, l0), (0, l1), (0, 0)] [] T13 D13 Q))) ∧ (x6 ≠ (-1) → Q 0 T6 D6)))))) :
  zc E d 1 74 [(2, l0), (0, l1)] T D Q :=
  zc_of (ls := [(2, l0), (0, l1), (9, 0)]) (fun _ => rfl) (z74_0  l0 l1 H)
theorem z74_37 {E : List (List Int)} {d : Nat} {T : zT} {D : zD} {Q : Int → zT → zD → Prop}  (l0 : Int) (l1 : Int) (l2 : Int) 
  (H : zob T l0 5 12 ∧ zin l2 ∧ zin (D l0 7) ∧ ((l2 ≥ (D l0 7) → Q 1 T D) ∧ (l2 < (D l0 7) → 0 < d ∧ zk T l0 = 5 ∧ zc E (d - 1) 1 75 [(2, l0), (0, l2)] T D (fun x6 T6 D6 => zin x6 ∧ ((x6 = (-1) → zj E d 1 74 37 [(2, l0), (0, l1), (0, l2 + 1)] [] T6 D6 Q) ∧ (x6 ≠ (-1) → zob T6 l0 5 12 ∧ zk T6 l0 = 5 ∧ zc E (d - 1) 1 75 [(2, l0), (0, l2)] T6 D6 (fun x10 T10 D10 => zk T10 l0 = 5 ∧ zc E (d - 1) 1 67 [(2, l0), (0, x10), (0, l1)] T10 D10 (fun x12 T12 D12 => zk T12 (D6 l0 0) = 1 ∧ zc E (d - 1) 1 28 [(2, (D6 l0 0)), (0, x12)] T12 D12 (fun x14 T14 D14 => zk T14 (D6 l0 11) = 3 ∧ zc E (d - 1) 0 32 [(2, (D6 l0 11)), (0, l2), (0, x14)] T14 D14 (fun x16 T16 D16 => zj E d 1 74 37 [(2, l0), (0, l1), (0, l2 + 1)] [] T16 D16 Q)))))))))) :
  zj E d 1 74 37 [(2, l0), (0, l1), (0, l2)] [] T D Q := by
  refine zr_iload_n rfl rfl ?_
  refine zr_aload_n rfl rfl ?_
  obtain ⟨h1, H⟩ := H
  refine zr_getfield (n := 12) rfl h1 (by decide) rfl (by decide) ?_
  obtain ⟨h2, H⟩ := H
  obtain ⟨h3, H⟩ := H
  refine zr_icmp_ge rfl h2 h3 (fun hc => ?_) (fun hc => ?_)
  · replace H := H.1 hc
    refine zr_iconst rfl ?_
    exact zr_ireturn rfl rfl rfl H
  · replace H := H.2 hc
    refine zr_aload_n rfl rfl ?_
    refine zr_iload_n rfl rfl ?_
    obtain ⟨h4, H⟩ := H
    obtain ⟨h5, H⟩ := H
    refine zr_invokevirtual (rt2 := 1) rfl rfl rfl rfl rfl h5 (by decide) h4 (zc_mono H ?_)
    intro x6 T6 D6 H
    show zj _ _ _ _ _ [(2, l0), (0, l1), (0, l2)] [(0, x6)] _ _ _
    refine zr_iconst rfl ?_
    obtain ⟨h7, H⟩ := H
    refine zr_icmp_eq rfl h7 (zin_c (by decide)) (fun hc => ?_) (fun hc => ?_)
    · replace H := H.1 hc
      refine zr_iinc rfl rfl rfl ?_
      show zj _ _ _ _ _ [(2, l0), (0, l1), (0, l2 + 1)] [] _ _ _
      refine zr_goto rfl ?_
      exact H
    · replace H := H.2 hc
      refine zr_aload_n rfl rfl ?_
      obtain ⟨h8, H⟩ := H
      refine zr_getfield (n := 12) rfl h8 (by decide) rfl (by decide) ?_
      refine zr_iload_n rfl rfl ?_
      refine zr_aload_n rfl rfl ?_
      refine zr_getfield (n := 12) rfl h8 (by decide) rfl (by decide) ?_
      refine zr_aload_n rfl rfl ?_
      refine zr_aload_n rfl rfl ?_
      refine zr_iload_n rfl rfl ?_
      obtain ⟨h9, H⟩ := H
      refine zr_invokevirtual (rt2 := 1) rfl rfl rfl rfl rfl h9 (by decide) h4 (zc_mono H ?_)
      intro x10 T10 D10 H
      show zj _ _ _ _ _ [(2, l0), (0, l1), (0, l2)] [(0, x10), (2, l0), (2, (D6 l0 0)), (0, l2), (2, (D6 l0 11))] _ _ _
      refine zr_iload_n rfl rfl ?_
      obtain ⟨h11, H⟩ := H
      refine zr_invokevirtual (rt2 := 1) rfl rfl rfl rfl rfl h11 (by decide) h4 (zc_mono H ?_)
      intro x12 T12 D12 H
      show zj _ _ _ _ _ [(2, l0), (0, l1), (0, l2)] [(0, x12), (2, (D6 l0 0)), (0, l2), (2, (D6 l0 11))] _ _ _
      obtain ⟨h13, H⟩ := H
      refine zr_invokevirtual (rt2 := 1) rfl rfl rfl rfl rfl h13 (by decide) h4 (zc_mono H ?_)
      intro x14 T14 D14 H
      show zj _ _ _ _ _ [(2, l0), (0, l1), (0, l2)] [(0, x14), (0, l2), (2, (D6 l0 11))] _ _ _
      obtain ⟨h15, H⟩ := H
      refine zr_invokevirtual (rt2 := 0) rfl rfl rfl rfl rfl h15 (by decide) h4 (zc_mono H ?_)
      intro x16 T16 D16 H
      show zj _ _ _ _ _ [(2, l0), (0, l1), (0, l2)] [] _ _ _
      refine zr_iinc rfl rfl rfl ?_
      show zj _ _ _ _ _ [(2, l0), (0, l1), (0, l2 + 1)] [] _ _ _
      refine zr_goto rfl ?_
      exact H
theorem z75_0 {E : List (List Int)} {d : Nat} {T : zT} {D : zD} {Q : Int → zT → zD → Prop}  (l0 : Int) (l1 : Int) 
  (H : zin l1 ∧ ((l1 < 0 → Q (-1) T D) ∧ (l1 ≥ 0 → zob T l0 5 12 ∧ zk T (D l0 6) = 50 ∧ zin (zn T (D l0 6)) ∧ ((l1 < (zn T (D l0 6)) → zar T (D l0 6) 50 l1 ∧ Q (D (D l0 6) l1) T D) ∧ (l1 ≥ (zn T (D l0 6)) → Q (-1) T D))))) :
  zj E d 1 75 0 [(2, l0), (0, l1)] [] T D Q := by
  refine zr_iload_n rfl rfl ?_
  obtain ⟨h1, H⟩ := H
  refine zr_if_lt rfl h1 (fun hc => ?_) (fun hc => ?_)
  · replace H := H.1 hc
    refine zr_iconst rfl ?_
    refine zr_goto rfl ?_
    exact zr_ireturn rfl rfl rfl H
  · replace H := H.2 hc
    refine zr_iload_n rfl rfl ?_
    refine zr_aload_n rfl rfl ?_
    obtain ⟨h2, H⟩ := H
    refine zr_getfield (n := 12) rfl h2 (by decide) rfl (by decide) ?_
    obtain ⟨h3, H⟩ := H
    refine zr_arraylength rfl (Or.inl h3) ?_
    obtain ⟨h4, H⟩ := H
    refine zr_icmp_lt rfl h1 h4 (fun hc => ?_) (fun hc => ?_)
    · replace H := H.1 hc
      refine zr_aload_n rfl rfl ?_
      refine zr_getfield (n := 12) rfl h2 (by decide) rfl (by decide) ?_
      refine zr_iload_n rfl rfl ?_
      obtain ⟨h5, H⟩ := H
      refine zr_iaload rfl h5 ?_
      exact zr_ireturn rfl rfl rfl H
    · replace H := H.2 hc
      refine zr_iconst rfl ?_
      refine zr_goto rfl ?_
      exact zr_ireturn rfl rfl rfl H
theorem e75 {E : List (List Int)} {d : Nat} {T : zT} {D : zD} {Q : Int → zT → zD → Prop}  (l0 : Int) (l1 : Int) 
  (H : zin l1 ∧ ((l1 < 0 → Q (-1) T D) ∧ (l1 ≥ 0 → zob T l0 5 12 ∧ zk T (D l0 6) = 50 ∧ zin (zn T (D l0 6)) ∧ ((l1 < (zn T (D l0 6)) → zar T (D l0 6) 50 l1 ∧ Q (D (D l0 6) l1) T D) ∧ (l1 ≥ (zn T (D l0 6)) → Q (-1) T D))))) :
  zc E d 1 75 [(2, l0), (0, l1)] T D Q :=
  zc_of (ls := [(2, l0), (0, l1)]) (fun _ => rfl) (z75_0  l0 l1 H)
theorem z76_0 {E : List (List Int)} {d : Nat} {T : zT} {D : zD} {Q : Int → zT → zD → Prop}  (l0 : Int) (l1 : Int) 
  (H : zin l1 ∧ ((l1 < 0 → zob T l0 5 12 ∧ -1 ≤ (D l0 8) ∧ Q (D l0 8) T D) ∧ (l1 ≥ 0 → zob T l0 5 12 ∧ zk T (D l0 2) = 52 ∧ zin (zn T (D l0 2)) ∧ ((l1 < (zn T (D l0 2)) → zar T (D l0 2) 52 l1 ∧ -1 ≤ D (D l0 2) l1 ∧ -1 ≤ (D (D l0 2) l1) ∧ Q (D (D l0 2) l1) T D) ∧ (l1 ≥ (zn T (D l0 2)) → -1 ≤ (D l0 8) ∧ Q (D l0 8) T D))))) :
  zj E d 2 76 0 [(2, l0), (0, l1)] [] T D Q := by
  refine zr_iload_n rfl rfl ?_
  obtain ⟨h1, H⟩ := H
  refine zr_if_lt rfl h1 (fun hc => ?_) (fun hc => ?_)
  · replace H := H.1 hc
    refine zr_aload_n rfl rfl ?_
    obtain ⟨h2, H⟩ := H
    refine zr_getfield (n := 12) rfl h2 (by decide) rfl (by decide) ?_
    refine zr_goto rfl ?_
    obtain ⟨h3, H⟩ := H
    exact zr_areturn rfl rfl rfl h3 H
  · replace H := H.2 hc
    refine zr_iload_n rfl rfl ?_
    refine zr_aload_n rfl rfl ?_
    obtain ⟨h4, H⟩ := H
    refine zr_getfield (n := 12) rfl h4 (by decide) rfl (by decide) ?_
    obtain ⟨h5, H⟩ := H
    refine zr_arraylength rfl (Or.inr h5) ?_
    obtain ⟨h6, H⟩ := H
    refine zr_icmp_lt rfl h1 h6 (fun hc => ?_) (fun hc => ?_)
    · replace H := H.1 hc
      refine zr_aload_n rfl rfl ?_
      refine zr_getfield (n := 12) rfl h4 (by decide) rfl (by decide) ?_
      refine zr_iload_n rfl rfl ?_
      obtain ⟨h7, H⟩ := H
      obtain ⟨h8, H⟩ := H
      refine zr_aaload rfl h7 h8 ?_
      obtain ⟨h9, H⟩ := H
      exact zr_areturn rfl rfl rfl h9 H
    · replace H := H.2 hc
      refine zr_aload_n rfl rfl ?_
      refine zr_getfield (n := 12) rfl h4 (by decide) rfl (by decide) ?_
      refine zr_goto rfl ?_
      obtain ⟨h10, H⟩ := H
      exact zr_areturn rfl rfl rfl h10 H
theorem e76 {E : List (List Int)} {d : Nat} {T : zT} {D : zD} {Q : Int → zT → zD → Prop}  (l0 : Int) (l1 : Int) 
  (H : zin l1 ∧ ((l1 < 0 → zob T l0 5 12 ∧ -1 ≤ (D l0 8) ∧ Q (D l0 8) T D) ∧ (l1 ≥ 0 → zob T l0 5 12 ∧ zk T (D l0 2) = 52 ∧ zin (zn T (D l0 2)) ∧ ((l1 < (zn T (D l0 2)) → zar T (D l0 2) 52 l1 ∧ -1 ≤ D (D l0 2) l1 ∧ -1 ≤ (D (D l0 2) l1) ∧ Q (D (D l0 2) l1) T D) ∧ (l1 ≥ (zn T (D l0 2)) → -1 ≤ (D l0 8) ∧ Q (D l0 8) T D))))) :
  zc E d 2 76 [(2, l0), (0, l1)] T D Q :=
  zc_of (ls := [(2, l0), (0, l1)]) (fun _ => rfl) (z76_0  l0 l1 H)
theorem z77_0 {E : List (List Int)} {d : Nat} {T : zT} {D : zD} {Q : Int → zT → zD → Prop}  (l0 : Int) (l1 : Int) 
  (H : 0 < d ∧ zk T l1 = 3 ∧ zc E (d - 1) 1 21 [(2, l1)] T D (fun x3 T3 D3 => zin x3 ∧ ((x3 ≥ 2 → zob T3 l0 5 12 ∧ zk T3 (D3 l0 1) = 0 ∧ zc E (d - 1) 0 33 [(2, (D3 l0 1)), (2, l1), (2, (D3 l0 11))] T3 D3 (fun x7 T7 D7 => zob T7 l0 5 12 ∧ zk T7 (D7 l0 1) = 0 ∧ zc E (d - 1) 2 41 [(2, (D7 l0 1))] T7 D7 (fun x10 T10 D10 => zk T10 x10 = 3 ∧ zc E (d - 1) 1 21 [(2, x10)] T10 D10 (fun x12 T12 D12 => zin x12 ∧ ((x12 < 1 → Q 0 T12 D12) ∧ (x12 ≥ 1 → zk T12 x10 = 3 ∧ zc E (d - 1) 1 21 [(2, x10)] T12 D12 (fun x15 T15 D15 => zk T15 l1 = 3 ∧ zc E (d - 1) 1 21 [(2, l1)] T15 D15 (fun x17 T17 D17 => zin x15 ∧ zin x17 ∧ ((x15 < x17 → zk T17 l0 = 5 ∧ zc E (d - 1) 0 61 [(2, l0), (2, x10)] T17 D17 (fun x21 T21 D21 => zob T21 l0 5 12 ∧ zk T21 (D21 l0 9) = 3 ∧ zc E (d - 1) 0 25 [(2, (D21 l0 9)), (2, l1)] T21 D21 (fun x24 T24 D24 => zob T24 l0 5 12 ∧ zk T24 (D24 l0 10) = 3 ∧ zc E (d - 1) 0 13 [(2, (D24 l0 10))] T24 D24 (fun x27 T27 D27 => zob T27 l0 5 12 ∧ zk T27 (D27 l0 9) = 3 ∧ zc E (d - 1) 0 35 [(2, (D27 l0 9)), (2, x10), (2, (D27 l0 10))] T27 D27 (fun x30 T30 D30 => zob T30 l0 5 12 ∧ zk T30 l1 = 3 ∧ zc E (d - 1) 0 25 [(2, l1), (2, (D30 l0 10))] T30 D30 (fun x33 T33 D33 => Q 0 T33 D33)))))) ∧ (x15 ≥ x17 → Q 0 T17 D17)))))))))) ∧ (x3 < 2 → Q 0 T3 D3)))) :
  zj E d 0 77 0 [(2, l0), (2, l1), (9, 0)] [] T D Q := by
  refine zr_aload_n rfl rfl ?_
  obtain ⟨h1, H⟩ := H
  obtain ⟨h2, H⟩ := H
  refine zr_invokevirtual (rt2 := 1) rfl rfl rfl rfl rfl h2 (by decide) h1 (zc_mono H ?_)
  intro x3 T3 D3 H
  show zj _ _ _ _ _ [(2, l0), (2, l1), (9, 0)] [(0, x3)] _ _ _
  refine zr_iconst rfl ?_
  obtain ⟨h4, H⟩ := H
  refine zr_icmp_ge rfl h4 (zin_c (by decide)) (fun hc => ?_) (fun hc => ?_)
  · replace H := H.1 hc
    refine zr_aload_n rfl rfl ?_
    obtain ⟨h5, H⟩ := H
    refine zr_getfield (n := 12) rfl h5 (by decide) rfl (by decide) ?_
    refine zr_aload_n rfl rfl ?_
    refine zr_aload_n rfl rfl ?_
    refine zr_getfield (n := 12) rfl h5 (by decide) rfl (by decide) ?_
    obtain ⟨h6, H⟩ := H
    refine zr_invokevirtual (rt2 := 0) rfl rfl rfl rfl rfl h6 (by decide) h1 (zc_mono H ?_)
    intro x7 T7 D7 H
    show zj _ _ _ _ _ [(2, l0), (2, l1), (9, 0)] [] _ _ _
    refine zr_aload_n rfl rfl ?_
    obtain ⟨h8, H⟩ := H
    refine zr_getfield (n := 12) rfl h8 (by decide) rfl (by decide) ?_
    obtain ⟨h9, H⟩ := H
    refine zr_invokevirtual (rt2 := 2) rfl rfl rfl rfl rfl h9 (by decide) h1 (zc_mono H ?_)
    intro x10 T10 D10 H
    show zj _ _ _ _ _ [(2, l0), (2, l1), (9, 0)] [(2, x10)] _ _ _
    refine zr_astore_n rfl rfl ?_
    show zj _ _ _ _ _ [(2, l0), (2, l1), (2, x10)] [] _ _ _
    refine zr_aload_n rfl rfl ?_
    obtain ⟨h11, H⟩ := H
    refine zr_invokevirtual (rt2 := 1) rfl rfl rfl rfl rfl h11 (by decide) h1 (zc_mono H ?_)
    intro x12 T12 D12 H
    show zj _ _ _ _ _ [(2, l0), (2, l1), (2, x10)] [(0, x12)] _ _ _
    refine zr_iconst rfl ?_
    obtain ⟨h13, H⟩ := H
    refine zr_icmp_lt rfl h13 (zin_c (by decide)) (fun hc => ?_) (fun hc => ?_)
    · replace H := H.1 hc
      exact zr_return rfl rfl rfl H
    · replace H := H.2 hc
      refine zr_aload_n rfl rfl ?_
      obtain ⟨h14, H⟩ := H
      refine zr_invokevirtual (rt2 := 1) rfl rfl rfl rfl rfl h14 (by decide) h1 (zc_mono H ?_)
      intro x15 T15 D15 H
      show zj _ _ _ _ _ [(2, l0), (2, l1), (2, x10)] [(0, x15)] _ _ _
      refine zr_aload_n rfl rfl ?_
      obtain ⟨h16, H⟩ := H
      refine zr_invokevirtual (rt2 := 1) rfl rfl rfl rfl rfl h16 (by decide) h1 (zc_mono H ?_)
      intro x17 T17 D17 H
      show zj _ _ _ _ _ [(2, l0), (2, l1), (2, x10)] [(0, x17), (0, x15)] _ _ _
      obtain ⟨h18, H⟩ := H
      obtain ⟨h19, H⟩ := H
      refine zr_icmp_lt rfl h18 h19 (fun hc => ?_) (fun hc => ?_)
      · replace H := H.1 hc
        refine zr_aload_n rfl rfl ?_
        refine zr_aload_n rfl rfl ?_
        obtain ⟨h20, H⟩ := H
        refine zr_invokevirtual (rt2 := 0) rfl rfl rfl rfl rfl h20 (by decide) h1 (zc_mono H ?_)
        intro x21 T21 D21 H
        show zj _ _ _ _ _ [(2, l0), (2, l1), (2, x10)] [] _ _ _
        refine zr_aload_n rfl rfl ?_
        obtain ⟨h22, H⟩ := H
        refine zr_getfield (n := 12) rfl h22 (by decide) rfl (by decide) ?_
        refine zr_aload_n rfl rfl ?_
        obtain ⟨h23, H⟩ := H
        refine zr_invokevirtual (rt2 := 0) rfl rfl rfl rfl rfl h23 (by decide) h1 (zc_mono H ?_)
        intro x24 T24 D24 H
        show zj _ _ _ _ _ [(2, l0), (2, l1), (2, x10)] [] _ _ _
        refine zr_aload_n rfl rfl ?_
        obtain ⟨h25, H⟩ := H
        refine zr_getfield (n := 12) rfl h25 (by decide) rfl (by decide) ?_
        obtain ⟨h26, H⟩ := H
        refine zr_invokevirtual (rt2 := 0) rfl rfl rfl rfl rfl h26 (by decide) h1 (zc_mono H ?_)
        intro x27 T27 D27 H
        show zj _ _ _ _ _ [(2, l0), (2, l1), (2, x10)] [] _ _ _
        refine zr_aload_n rfl rfl ?_
        obtain ⟨h28, H⟩ := H
        refine zr_getfield (n := 12) rfl h28 (by decide) rfl (by decide) ?_
        refine zr_aload_n rfl rfl ?_
        refine zr_aload_n rfl rfl ?_
        refine zr_getfield (n := 12) rfl h28 (by decide) rfl (by decide) ?_
        obtain ⟨h29, H⟩ := H
        refine zr_invokevirtual (rt2 := 0) rfl rfl rfl rfl rfl h29 (by decide) h1 (zc_mono H ?_)
        intro x30 T30 D30 H
        show zj _ _ _ _ _ [(2, l0), (2, l1), (2, x10)] [] _ _ _
        refine zr_aload_n rfl rfl ?_
        refine zr_aload_n rfl rfl ?_
        obtain ⟨h31, H⟩ := H
        refine zr_getfield (n := 12) rfl h31 (by decide) rfl (by decide) ?_
        obtain ⟨h32, H⟩ := H
        refine zr_invokevirtual (rt2 := 0) rfl rfl rfl rfl rfl h32 (by decide) h1 (zc_mono H ?_)
        intro x33 T33 D33 H
        show zj _ _ _ _ _ [(2, l0), (2, l1), (2, x10)] [] _ _ _
        exact zr_return rfl rfl rfl H
      · replace H := H.2 hc
        exact zr_return rfl rfl rfl H
  · replace H := H.2 hc
    exact zr_return rfl rfl rfl H
theorem e77 {E : List (List Int)} {d : Nat} {T : zT} {D : zD} {Q : Int → zT → zD → Prop}  (l0 : Int) (l1 : Int) 
  (H : 0 < d ∧ zk T l1 = 3 ∧ zc E (d - 1) 1 21 [(2, l1)] T D (fun x3 T3 D3 => zin x3 ∧ ((x3 ≥ 2 → zob T3 l0 5 12 ∧ zk T3 (D3 l0 1) = 0 ∧ zc E (d - 1) 0 33 [(2, (D3 l0 1)), (2, l1), (2, (D3 l0 11))] T3 D3 (fun x7 T7 D7 => zob T7 l0 5 12 ∧ zk T7 (D7 l0 1) = 0 ∧ zc E (d - 1) 2 41 [(2, (D7 l0 1))] T7 D7 (fun x10 T10 D10 => zk T10 x10 = 3 ∧ zc E (d - 1) 1 21 [(2, x10)] T10 D10 (fun x12 T12 D12 => zin x12 ∧ ((x12 < 1 → Q 0 T12 D12) ∧ (x12 ≥ 1 → zk T12 x10 = 3 ∧ zc E (d - 1) 1 21 [(2, x10)] T12 D12 (fun x15 T15 D15 => zk T15 l1 = 3 ∧ zc E (d - 1) 1 21 [(2, l1)] T15 D15 (fun x17 T17 D17 => zin x15 ∧ zin x17 ∧ ((x15 < x17 → zk T17 l0 = 5 ∧ zc E (d - 1) 0 61 [(2, l0), (2, x10)] T17 D17 (fun x21 T21 D21 => zob T21 l0 5 12 ∧ zk T21 (D21 l0 9) = 3 ∧ zc E (d - 1) 0 25 [(2, (D21 l0 9)), (2, l1)] T21 D21 (fun x24 T24 D24 => zob T24 l0 5 12 ∧ zk T24 (D24 l0 10) = 3 ∧ zc E (d - 1) 0 13 [(2, (D24 l0 10))] T24 D24 (fun x27 T27 D27 => zob T27 l0 5 12 ∧ zk T27 (D27 l0 9) = 3 ∧ zc E (d - 1) 0 35 [(2, (D27 l0 9)), (2, x10), (2, (D27 l0 10))] T27 D27 (fun x30 T30 D30 => zob T30 l0 5 12 ∧ zk T30 l1 = 3 ∧ zc E (d - 1) 0 25 [(2, l1), (2, (D30 l0 10))] T30 D30 (fun x33 T33 D33 => Q 0 T33 D33)))))) ∧ (x15 ≥ x17 → Q 0 T17 D17)))))))))) ∧ (x3 < 2 → Q 0 T3 D3)))) :
  zc E d 0 77 [(2, l0), (2, l1)] T D Q :=
  zc_of (ls := [(2, l0), (2, l1), (9, 0)]) (fun _ => rfl) (z77_0  l0 l1 H)
theorem z78_0 {E : List (List Int)} {d : Nat} {T : zT} {D : zD} {Q : Int → zT → zD → Prop}  (l0 : Int) (l1 : Int) (l2 : Int) 
  (H : zj E d 0 78 2 [(2, l0), (0, l1), (0, l2), (0, l1)] [] T D Q) :
  zj E d 0 78 0 [(2, l0), (0, l1), (0, l2), (9, 0)] [] T D Q := by
  refine zr_iload_n rfl rfl ?_
  refine zr_istore_n rfl rfl ?_
  show zj _ _ _ _ _ [(2, l0), (0, l1), (0, l2), (0, l1)] [] _ _ _
  exact H
theorem e78 {E : List (List Int)} {d : Nat} {T : zT} {D : zD} {Q : Int → zT → zD → Prop}  (l0 : Int) (l1 : Int) (l2 : Int) 
  (H : zj E d 0 78 2 [(2, l0), (0, l1), (0, l2), (0, l1)] [] T D Q) :
  zc E d 0 78 [(2, l0), (0, l1), (0, l2)] T D Q :=
  zc_of (ls := [(2, l0), (0, l1), (0, l2), (9, 0)]) (fun _ => rfl) (z78_0  l0 l1 l2 H)
theorem z78_2 {E : List (List Int)} {d : Nat} {T : zT} {D : zD} {Q : Int → zT → zD → Prop}  (l0 : Int) (l1 : Int) (l2 : Int) (l3 : Int) 
  (H : zob T l0 5 12 ∧ zin l3 ∧ zin (D l0 4) ∧ ((l3 ≥ (D l0 4) → Q 0 T D) ∧ (l3 < (D l0 4) → zk T (D l0 3) = 50 ∧ zin (zn T (D l0 3)) ∧ ((l3 ≥ (zn T (D l0 3)) → Q 0 T D) ∧ (l3 < (zn T (D l0 3)) → 0 < d ∧ zk T l0 = 5 ∧ zc E (d - 1) 2 76 [(2, l0), (0, l3)] T D (fun x8 T8 D8 => zk T8 l0 = 5 ∧ zc E (d - 1) 1 79 [(2, l0), (2, x8)] T8 D8 (fun x10 T10 D10 => zar T10 (D l0 3) 50 l3 ∧ zj E d 0 78 2 [(2, l0), (0, l1), (0, l2), (0, l3 + 1)] [] T10 (zu D10 (D l0 3) l3 (l2 * x10)) Q))))))) :
  zj E d 0 78 2 [(2, l0), (0, l1), (0, l2), (0, l3)] [] T D Q := by
  refine zr_iload_n rfl rfl ?_
  refine zr_aload_n rfl rfl ?_
  obtain ⟨h1, H⟩ := H
  refine zr_getfield (n := 12) rfl h1 (by decide) rfl (by decide) ?_
  obtain ⟨h2, H⟩ := H
  obtain ⟨h3, H⟩ := H
  refine zr_icmp_ge rfl h2 h3 (fun hc => ?_) (fun hc => ?_)
  · replace H := H.1 hc
    exact zr_return rfl rfl rfl H
  · replace H := H.2 hc
    refine zr_iload_n rfl rfl ?_
    refine zr_aload_n rfl rfl ?_
    refine zr_getfield (n := 12) rfl h1 (by decide) rfl (by decide) ?_
    obtain ⟨h4, H⟩ := H
    refine zr_arraylength rfl (Or.inl h4) ?_
    obtain ⟨h5, H⟩ := H
    refine zr_icmp_ge rfl h2 h5 (fun hc => ?_) (fun hc => ?_)
    · replace H := H.1 hc
      exact zr_return rfl rfl rfl H
    · replace H := H.2 hc
      refine zr_aload_n rfl rfl ?_
      refine zr_getfield (n := 12) rfl h1 (by decide) rfl (by decide) ?_
      refine zr_iload_n rfl rfl ?_
      refine zr_iload_n rfl rfl ?_
      refine zr_aload_n rfl rfl ?_
      refine zr_aload_n rfl rfl ?_
      refine zr_iload_n rfl rfl ?_
      obtain ⟨h6, H⟩ := H
      obtain ⟨h7, H⟩ := H
      refine zr_invokevirtual (rt2 := 2) rfl rfl rfl rfl rfl h7 (by decide) h6 (zc_mono H ?_)
      intro x8 T8 D8 H
      show zj _ _ _ _ _ [(2, l0), (0, l1), (0, l2), (0, l3)] [(2, x8), (2, l0), (0, l2), (0, l3), (2, (D l0 3))] _ _ _
      obtain ⟨h9, H⟩ := H
      refine zr_invokevirtual (rt2 := 1) rfl rfl rfl rfl rfl h9 (by decide) h6 (zc_mono H ?_)
      intro x10 T10 D10 H
      show zj _ _ _ _ _ [(2, l0), (0, l1), (0, l2), (0, l3)] [(0, x10), (0, l2), (0, l3), (2, (D l0 3))] _ _ _
      refine zr_imul rfl ?_
      obtain ⟨h11, H⟩ := H
      refine zr_iastore rfl h11 ?_
      refine zr_iinc rfl rfl rfl ?_
      show zj _ _ _ _ _ [(2, l0), (0, l1), (0, l2), (0, l3 + 1)] [] _ _ _
      refine zr_goto rfl ?_
      exact H
theorem z79_0 {E : List (List Int)} {d : Nat} {T : zT} {D : zD} {Q : Int → zT → zD → Prop}  (l0 : Int) (l1 : Int) 
  (H : zj E d 1 79 2 [(2, l0), (2, l1), (0, 0)] [] T D Q) :
  zj E d 1 79 0 [(2, l0), (2, l1), (9, 0)] [] T D Q := by
  refine zr_iconst rfl ?_
  refine zr_istore_n rfl rfl ?_
  show zj _ _ _ _ _ [(2, l0), (2, l1), (0, 0)] [] _ _ _
  exact H
theorem e79 {E : List (List Int)} {d : Nat} {T : zT} {D : zD} {Q : Int → zT → zD → Prop}  (l0 : Int) (l1 : Int) 
  (H : zj E d 1 79 2 [(2, l0), (2, l1), (0, 0)] [] T D Q) :
  zc E d 1 79 [(2, l0), (2, l1)] T D Q :=
  zc_of (ls := [(2, l0), (2, l1), (9, 0)]) (fun _ => rfl) (z79_0  l0 l1 H)
theorem z79_2 {E : List (List Int)} {d : Nat} {T : zT} {D : zD} {Q : Int → zT → zD → Prop}  (l0 : Int) (l1 : Int) (l2 : Int) 
  (H : zin l2 ∧ ((l2 ≥ 24 → Q 24 T D) ∧ (l2 < 24 → zob T l0 5 12 ∧ 0 < d ∧ zk T (D l0 9) = 3 ∧ zc E (d - 1) 0 25 [(2, (D l0 9)), (2, (D l0 8))] T D (fun x5 T5 D5 => zob T5 l0 5 12 ∧ zk T5 (D5 l0 10) = 3 ∧ zc E (d - 1) 0 13 [(2, (D5 l0 10))] T5 D5 (fun x8 T8 D8 => zob T8 l0 5 12 ∧ zk T8 (D8 l0 9) = 3 ∧ zc E (d - 1) 0 35 [(2, (D8 l0 9)), (2, l1), (2, (D8 l0 10))] T8 D8 (fun x11 T11 D11 => zob T11 l0 5 12 ∧ zk T11 (D11 l0 9) = 3 ∧ zc E (d - 1) 1 34 [(2, (D11 l0 9))] T11 D11 (fun x14 T14 D14 => zin x14 ∧ ((x14 ≠ 0 → zob T14 l0 5 12 ∧ zk T14 (D14 l0 8) = 3 ∧ zc E (d - 1) 0 25 [(2, (D14 l0 8)), (2, (D14 l0 10))] T14 D14 (fun x18 T18 D18 => zj E d 1 79 2 [(2, l0), (2, l1), (0, l2 + 1)] [] T18 D18 Q)) ∧ (x14 = 0 → Q l2 T14 D14))))))))) :
  zj E d 1 79 2 [(2, l0), (2, l1), (0, l2)] [] T D Q := by
  refine zr_iload_n rfl rfl ?_
  refine zr_bipush rfl ?_
  obtain ⟨h1, H⟩ := H
  refine zr_icmp_ge rfl h1 (zin_c (by decide)) (fun hc => ?_) (fun hc => ?_)
  · replace H := H.1 hc
    refine zr_bipush rfl ?_
    exact zr_ireturn rfl rfl rfl H
  · replace H := H.2 hc
    refine zr_aload_n rfl rfl ?_
    obtain ⟨h2, H⟩ := H
    refine zr_getfield (n := 12) rfl h2 (by decide) rfl (by decide) ?_
    refine zr_aload_n rfl rfl ?_
    refine zr_getfield (n := 12) rfl h2 (by decide) rfl (by decide) ?_
    obtain ⟨h3, H⟩ := H
    obtain ⟨h4, H⟩ := H
    refine zr_invokevirtual (rt2 := 0) rfl rfl rfl rfl rfl h4 (by decide) h3 (zc_mono H ?_)
    intro x5 T5 D5 H
    show zj _ _ _ _ _ [(2, l0), (2, l1), (0, l2)] [] _ _ _
    refine zr_aload_n rfl rfl ?_
    obtain ⟨h6, H⟩ := H
    refine zr_getfield (n := 12) rfl h6 (by decide) rfl (by decide) ?_
    obtain ⟨h7, H⟩ := H
    refine zr_invokevirtual (rt2 := 0) rfl rfl rfl rfl rfl h7 (by decide) h3 (zc_mono H ?_)
    intro x8 T8 D8 H
    show zj _ _ _ _ _ [(2, l0), (2, l1), (0, l2)] [] _ _ _
    refine zr_aload_n rfl rfl ?_
    obtain ⟨h9, H⟩ := H
    refine zr_getfield (n := 12) rfl h9 (by decide) rfl (by decide) ?_
    refine zr_aload_n rfl rfl ?_
    refine zr_aload_n rfl rfl ?_
    refine zr_getfield (n := 12) rfl h9 (by decide) rfl (by decide) ?_
    obtain ⟨h10, H⟩ := H
    refine zr_invokevirtual (rt2 := 0) rfl rfl rfl rfl rfl h10 (by decide) h3 (zc_mono H ?_)
    intro x11 T11 D11 H
    show zj _ _ _ _ _ [(2, l0), (2, l1), (0, l2)] [] _ _ _
    refine zr_aload_n rfl rfl ?_
    obtain ⟨h12, H⟩ := H
    refine zr_getfield (n := 12) rfl h12 (by decide) rfl (by decide) ?_
    obtain ⟨h13, H⟩ := H
    refine zr_invokevirtual (rt2 := 1) rfl rfl rfl rfl rfl h13 (by decide) h3 (zc_mono H ?_)
    intro x14 T14 D14 H
    show zj _ _ _ _ _ [(2, l0), (2, l1), (0, l2)] [(0, x14)] _ _ _
    obtain ⟨h15, H⟩ := H
    refine zr_if_ne rfl h15 (fun hc => ?_) (fun hc => ?_)
    · replace H := H.1 hc
      refine zr_aload_n rfl rfl ?_
      obtain ⟨h16, H⟩ := H
      refine zr_getfield (n := 12) rfl h16 (by decide) rfl (by decide) ?_
      refine zr_aload_n rfl rfl ?_
      refine zr_getfield (n := 12) rfl h16 (by decide) rfl (by decide) ?_
      obtain ⟨h17, H⟩ := H
      refine zr_invokevirtual (rt2 := 0) rfl rfl rfl rfl rfl h17 (by decide) h3 (zc_mono H ?_)
      intro x18 T18 D18 H
      show zj _ _ _ _ _ [(2, l0), (2, l1), (0, l2)] [] _ _ _
      refine zr_iinc rfl rfl rfl ?_
      show zj _ _ _ _ _ [(2, l0), (2, l1), (0, l2 + 1)] [] _ _ _
      refine zr_goto rfl ?_
      exact H
    · replace H := H.2 hc
      refine zr_iload_n rfl rfl ?_
      exact zr_ireturn rfl rfl rfl H
theorem z80_0 {E : List (List Int)} {d : Nat} {T : zT} {D : zD} {Q : Int → zT → zD → Prop}  (l0 : Int) 
  (H : zj E d 0 80 2 [(2, l0), (0, 1), (9, 0)] [] T D Q) :
  zj E d 0 80 0 [(2, l0), (9, 0), (9, 0)] [] T D Q := by
  refine zr_iconst rfl ?_
  refine zr_istore_n rfl rfl ?_
  show zj _ _ _ _ _ [(2, l0), (0, 1), (9, 0)] [] _ _ _
  exact H
theorem e80 {E : List (List Int)} {d : Nat} {T : zT} {D : zD} {Q : Int → zT → zD → Prop}  (l0 : Int) 
  (H : zj E d 0 80 2 [(2, l0), (0, 1), (9, 0)] [] T D Q) :
  zc E d 0 80 [(2, l0)] T D Q :=
  zc_of (ls := [(2, l0), (9, 0), (9, 0)]) (fun _ => rfl) (z80_0  l0 H)
theorem z80_2 {E : List (List Int)} {d : Nat} {T : zT} {D : zD} {Q : Int → zT → zD → Prop}  (l0 : Int) (l1 : Int) (w2 : zv_V) (hw2 : zs_wide w2 = false)
  (H : zob T l0 5 12 ∧ zin l1 ∧ zin (D l0 4) ∧ ((l1 ≥ (D l0 4) → Q 0 T D) ∧ (l1 < (D l0 4) → zj E d 0 80 12 [(2, l0), (0, l1), (0, l1)] [] T D Q))) :
  zj E d 0 80 2 [(2, l0), (0, l1), w2] [] T D Q := by
  refine zr_iload_n rfl rfl ?_
  refine zr_aload_n rfl rfl ?_
  obtain ⟨h1, H⟩ := H
  refine zr_getfield (n := 12) rfl h1 (by decide) rfl (by decide) ?_
  obtain ⟨h2, H⟩ := H
  obtain ⟨h3, H⟩ := H
  refine zr_icmp_ge rfl h2 h3 (fun hc => ?_) (fun hc => ?_)
  · replace H := H.1 hc
    exact zr_return rfl rfl rfl H
  · replace H := H.2 hc
    refine zr_iload_n rfl rfl ?_
    refine zr_istore_n rfl rfl ?_
    show zj _ _ _ _ _ [(2, l0), (0, l1), (0, l1)] [] _ _ _
    exact H
theorem z80_12 {E : List (List Int)} {d : Nat} {T : zT} {D : zD} {Q : Int → zT → zD → Prop}  (l0 : Int) (l1 : Int) (l2 : Int) 
  (H : zin l2 ∧ ((l2 ≤ 0 → zj E d 0 80 2 [(2, l0), (0, l1 + 1), (0, l2)] [] T D Q) ∧ (l2 > 0 → 0 < d ∧ zk T l0 = 5 ∧ zc E (d - 1) 2 76 [(2, l0), (0, l2)] T D (fun x4 T4 D4 => zk T4 l0 = 5 ∧ zc E (d - 1) 2 76 [(2, l0), (0, (l2 - 1))] T4 D4 (fun x6 T6 D6 => zk T6 x4 = 3 ∧ zc E (d - 1) 1 81 [(2, x4), (2, x6)] T6 D6 (fun x8 T8 D8 => zin x8 ∧ ((x8 = 0 → zj E d 0 80 2 [(2, l0), (0, l1 + 1), (0, l2)] [] T8 D8 Q) ∧ (x8 ≠ 0 → zk T8 l0 = 5 ∧ zc E (d - 1) 0 82 [(2, l0), (0, l2), (0, (l2 - 1))] T8 D8 (fun x11 T11 D11 => zj E d 0 80 12 [(2, l0), (0, l1), (0, l2 + (-1))] [] T11 D11 Q))))))))) :
  zj E d 0 80 12 [(2, l0), (0, l1), (0, l2)] [] T D Q := by
  refine zr_iload_n rfl rfl ?_
  obtain ⟨h1, H⟩ := H
  refine zr_if_le rfl h1 (fun hc => ?_) (fun hc => ?_)
  · replace H := H.1 hc
    refine zr_iinc rfl rfl rfl ?_
    show zj _ _ _ _ _ [(2, l0), (0, l1 + 1), (0, l2)] [] _ _ _
    refine zr_goto rfl ?_
    exact H
  · replace H := H.2 hc
    refine zr_aload_n rfl rfl ?_
    refine zr_iload_n rfl rfl ?_
    obtain ⟨h2, H⟩ := H
    obtain ⟨h3, H⟩ := H
    refine zr_invokevirtual (rt2 := 2) rfl rfl rfl rfl rfl h3 (by decide) h2 (zc_mono H ?_)
    intro x4 T4 D4 H
    show zj _ _ _ _ _ [(2, l0), (0, l1), (0, l2)] [(2, x4)] _ _ _
    refine zr_aload_n rfl rfl ?_
    refine zr_iload_n rfl rfl ?_
    refine zr_iconst rfl ?_
    refine zr_isub rfl ?_
    obtain ⟨h5, H⟩ := H
    refine zr_invokevirtual (rt2 := 2) rfl rfl rfl rfl rfl h5 (by decide) h2 (zc_mono H ?_)
    intro x6 T6 D6 H
    show zj _ _ _ _ _ [(2, l0), (0, l1), (0, l2)] [(2, x6), (2, x4)] _ _ _
    obtain ⟨h7, H⟩ := H
    refine zr_invokevirtual (rt2 := 1) rfl rfl rfl rfl rfl h7 (by decide) h2 (zc_mono H ?_)
    intro x8 T8 D8 H
    show zj _ _ _ _ _ [(2, l0), (0, l1), (0, l2)] [(0, x8)] _ _ _
    obtain ⟨h9, H⟩ := H
    refine zr_if_eq rfl h9 (fun hc => ?_) (fun hc => ?_)
    · replace H := H.1 hc
      refine zr_iinc rfl rfl rfl ?_
      show zj _ _ _ _ _ [(2, l0), (0, l1 + 1), (0, l2)] [] _ _ _
      refine zr_goto rfl ?_
      exact H
    · replace H := H.2 hc
      refine zr_aload_n rfl rfl ?_
      refine zr_iload_n rfl rfl ?_
      refine zr_iload_n rfl rfl ?_
      refine zr_iconst rfl ?_
      refine zr_isub rfl ?_
      obtain ⟨h10, H⟩ := H
      refine zr_invokevirtual (rt2 := 0) rfl rfl rfl rfl rfl h10 (by decide) h2 (zc_mono H ?_)
      intro x11 T11 D11 H
      show zj _ _ _ _ _ [(2, l0), (0, l1), (0, l2)] [] _ _ _
      refine zr_iinc rfl rfl rfl ?_
      show zj _ _ _ _ _ [(2, l0), (0, l1), (0, l2 + (-1))] [] _ _ _
      refine zr_goto rfl ?_
      exact H
theorem z81_0 {E : List (List Int)} {d : Nat} {T : zT} {D : zD} {Q : Int → zT → zD → Prop}  (l0 : Int) (l1 : Int) 
  (H : zob T l0 3 3 ∧ zob T l1 3 3 ∧ zin (D l0 2) ∧ zin (D l1 2) ∧ (((D l0 2) = (D l1 2) → zj E d 1 81 33 [(2, l0), (2, l1), (0, (D l0 2))] [] T D Q) ∧ ((D l0 2) ≠ (D l1 2) → (((D l0 2) ≥ (D l1 2) → Q 0 T D) ∧ ((D l0 2) < (D l1 2) → Q 1 T D))))) :
  zj E d 1 81 0 [(2, l0), (2, l1), (9, 0)] [] T D Q := by
  refine zr_aload_n rfl rfl ?_
  obtain ⟨h1, H⟩ := H
  refine zr_getfield (n := 3) rfl h1 (by decide) rfl (by decide) ?_
  refine zr_aload_n rfl rfl ?_
  obtain ⟨h2, H⟩ := H
  refine zr_getfield (n := 3) rfl h2 (by decide) rfl (by decide) ?_
  obtain ⟨h3, H⟩ := H
  obtain ⟨h4, H⟩ := H
  refine zr_icmp_eq rfl h3 h4 (fun hc => ?_) (fun hc => ?_)
  · replace H := H.1 hc
    refine zr_aload_n rfl rfl ?_
    refine zr_getfield (n := 3) rfl h1 (by decide) rfl (by decide) ?_
    refine zr_istore_n rfl rfl ?_
    show zj _ _ _ _ _ [(2, l0), (2, l1), (0, (D l0 2))] [] _ _ _
    exact H
  · replace H := H.2 hc
    refine zr_aload_n rfl rfl ?_
    refine zr_getfield (n := 3) rfl h1 (by decide) rfl (by decide) ?_
    refine zr_aload_n rfl rfl ?_
    refine zr_getfield (n := 3) rfl h2 (by decide) rfl (by decide) ?_
    refine zr_icmp_ge rfl h3 h4 (fun hc => ?_) (fun hc => ?_)
    · replace H := H.1 hc
      refine zr_iconst rfl ?_
      exact zr_ireturn rfl rfl rfl H
    · replace H := H.2 hc
      refine zr_iconst rfl ?_
      refine zr_goto rfl ?_
      exact zr_ireturn rfl rfl rfl H
theorem e81 {E : List (List Int)} {d : Nat} {T : zT} {D : zD} {Q : Int → zT → zD → Prop}  (l0 : Int) (l1 : Int) 
  (H : zob T l0 3 3 ∧ zob T l1 3 3 ∧ zin (D l0 2) ∧ zin (D l1 2) ∧ (((D l0 2) = (D l1 2) → zj E d 1 81 33 [(2, l0), (2, l1), (0, (D l0 2))] [] T D Q) ∧ ((D l0 2) ≠ (D l1 2) → (((D l0 2) ≥ (D l1 2) → Q 0 T D) ∧ ((D l0 2) < (D l1 2) → Q 1 T D))))) :
  zc E d 1 81 [(2, l0), (2, l1)] T D Q :=
  zc_of (ls := [(2, l0), (2, l1), (9, 0)]) (fun _ => rfl) (z81_0  l0 l1 H)
theorem z81_33 {E : List (List Int)} {d : Nat} {T : zT} {D : zD} {Q : Int → zT → zD → Prop}  (l0 : Int) (l1 : Int) (l2 : Int) 
  (H : zin l2 ∧ ((l2 < 0 → Q 0 T D) ∧ (l2 ≥ 0 → 0 < d ∧ zk T l0 = 3 ∧ zc E (d - 1) 1 19 [(2, l0), (0, l2)] T D (fun x4 T4 D4 => zk T4 l1 = 3 ∧ zc E (d - 1) 1 19 [(2, l1), (0, l2)] T4 D4 (fun x6 T6 D6 => zin x4 ∧ zin x6 ∧ ((x4 = x6 → zj E d 1 81 33 [(2, l0), (2, l1), (0, l2 + (-1))] [] T6 D6 Q) ∧ (x4 ≠ x6 → zk T6 l0 = 3 ∧ zc E (d - 1) 1 19 [(2, l0), (0, l2)] T6 D6 (fun x10 T10 D10 => zk T10 l1 = 3 ∧ zc E (d - 1) 1 19 [(2, l1), (0, l2)] T10 D10 (fun x12 T12 D12 => zin x10 ∧ zin x12 ∧ ((x10 ≥ x12 → Q 0 T12 D12) ∧ (x10 < x12 → Q 1 T12 D12))))))))))) :
  zj E d 1 81 33 [(2, l0), (2, l1), (0, l2)] [] T D Q := by
  refine zr_iload_n rfl rfl ?_
  obtain ⟨h1, H⟩ := H
  refine zr_if_lt rfl h1 (fun hc => ?_) (fun hc => ?_)
  · replace H := H.1 hc
    refine zr_iconst rfl ?_
    exact zr_ireturn rfl rfl rfl H
  · replace H := H.2 hc
    refine zr_aload_n rfl rfl ?_
    refine zr_iload_n rfl rfl ?_
    obtain ⟨h2, H⟩ := H
    obtain ⟨h3, H⟩ := H
    refine zr_invokevirtual (rt2 := 1) rfl rfl rfl rfl rfl h3 (by decide) h2 (zc_mono H ?_)
    intro x4 T4 D4 H
    show zj _ _ _ _ _ [(2, l0), (2, l1), (0, l2)] [(0, x4)] _ _ _
    refine zr_aload_n rfl rfl ?_
    refine zr_iload_n rfl rfl ?_
    obtain ⟨h5, H⟩ := H
    refine zr_invokevirtual (rt2 := 1) rfl rfl rfl rfl rfl h5 (by decide) h2 (zc_mono H ?_)
    intro x6 T6 D6 H
    show zj _ _ _ _ _ [(2, l0), (2, l1), (0, l2)] [(0, x6), (0, x4)] _ _ _
    obtain ⟨h7, H⟩ := H
    obtain ⟨h8, H⟩ := H
    refine zr_icmp_eq rfl h7 h8 (fun hc => ?_) (fun hc => ?_)
    · replace H := H.1 hc
      refine zr_iinc rfl rfl rfl ?_
      show zj _ _ _ _ _ [(2, l0), (2, l1), (0, l2 + (-1))] [] _ _ _
      refine zr_goto rfl ?_
      exact H
    · replace H := H.2 hc
      refine zr_aload_n rfl rfl ?_
      refine zr_iload_n rfl rfl ?_
      obtain ⟨h9, H⟩ := H
      refine zr_invokevirtual (rt2 := 1) rfl rfl rfl rfl rfl h9 (by decide) h2 (zc_mono H ?_)
      intro x10 T10 D10 H
      show zj _ _ _ _ _ [(2, l0), (2, l1), (0, l2)] [(0, x10)] _ _ _
      refine zr_aload_n rfl rfl ?_
      refine zr_iload_n rfl rfl ?_
      obtain ⟨h11, H⟩ := H
      refine zr_invokevirtual (rt2 := 1) rfl rfl rfl rfl rfl h11 (by decide) h2 (zc_mono H ?_)
      intro x12 T12 D12 H
      show zj _ _ _ _ _ [(2, l0), (2, l1), (0, l2)] [(0, x12), (0, x10)] _ _ _
      obtain ⟨h13, H⟩ := H
      obtain ⟨h14, H⟩ := H
      refine zr_icmp_ge rfl h13 h14 (fun hc => ?_) (fun hc => ?_)
      · replace H := H.1 hc
        refine zr_iconst rfl ?_
        exact zr_ireturn rfl rfl rfl H
      · replace H := H.2 hc
        refine zr_iconst rfl ?_
        refine zr_goto rfl ?_
        exact zr_ireturn rfl rfl rfl H
theorem z82_0 {E : List (List Int)} {d : Nat} {T : zT} {D : zD} {Q : Int → zT → zD → Prop}  (l0 : Int) (l1 : Int) (l2 : Int) 
  (H : zin l1 ∧ ((l1 < 0 → Q 0 T D) ∧ (l1 ≥ 0 → zin l2 ∧ ((l2 < 0 → Q 0 T D) ∧ (l2 ≥ 0 → zob T l0 5 12 ∧ zk T (D l0 2) = 52 ∧ zin (zn T (D l0 2)) ∧ ((l1 ≥ (zn T (D l0 2)) → Q 0 T D) ∧ (l1 < (zn T (D l0 2)) → ((l2 < (zn T (D l0 2)) → zar T (D l0 2) 52 l1 ∧ -1 ≤ D (D l0 2) l1 ∧ zar T (D l0 2) 52 l2 ∧ -1 ≤ D (D l0 2) l2 ∧ zk T (D (D l0 2) l2) = 3 ∧ zar T ((zu D (D l0 2) l1 (D (D l0 2) l2)) l0 2) 52 l2 ∧ zk T (D (D l0 2) l1) = 3 ∧ zar T ((zu (zu D (D l0 2) l1 (D (D l0 2) l2)) ((zu D (D l0 2) l1 (D (D l0 2) l2)) l0 2) l2 (D (D l0 2) l1)) l0 3) 50 l1 ∧ zar T ((zu (zu D (D l0 2) l1 (D (D l0 2) l2)) ((zu D (D l0 2) l1 (D (D l0 2) l2)) l0 2) l2 (D (D l0 2) l1)) l0 3) 50 l2 ∧ zar T ((zu (zu (zu D (D l0 2) l1 (D (D l0 2) l2)) ((zu D (D l0 2) l1 (D (D l0 2) l2)) l0 2) l2 (D (D l0 2) l1)) ((zu (zu D (D l0 2) l1 (D (D l0 2) l2)) ((zu D (D l0 2) l1 (D (D l0 2) l2)) l0 2) l2 (D (D l0 2) l1)) l0 3) l1 ((zu (zu D (D l0 2) l1 (D (D l0 2) l2)) ((zu D (D l0 2) l1 (D (D l0 2) l2)) l0 2) l2 (D (D l0 2) l1)) ((zu (zu D (D l0 2) l1 (D (D l0 2) l2)) ((zu D (D l0 2) l1 (D (D l0 2) l2)) l0 2) l2 (D (D l0 2) l1)) l0 3) l2)) l0 3) 50 l2 ∧ Q 0 T (zu (zu (zu (zu D (D l0 2) l1 (D (D l0 2) l2)) ((zu D (D l0 2) l1 (D (D l0 2) l2)) l0 2) l2 (D (D l0 2) l1)) ((zu (zu D (D l0 2) l1 (D (D l0 2) l2)) ((zu D (D l0 2) l1 (D (D l0 2) l2)) l0 2) l2 (D (D l0 2) l1)) l0 3) l1 ((zu (zu D (D l0 2) l1 (D (D l0 2) l2)) ((zu D (D l0 2) l1 (D (D l0 2) l2)) l0 2) l2 (D (D l0 2) l1)) ((zu (zu D (D l0 2) l1 (D (D l0 2) l2)) ((zu D (D l0 2) l1 (D (D l0 2) l2)) l0 2) l2 (D (D l0 2) l1)) l0 3) l2)) ((zu (zu (zu D (D l0 2) l1 (D (D l0 2) l2)) ((zu D (D l0 2) l1 (D (D l0 2) l2)) l0 2) l2 (D (D l0 2) l1)) ((zu (zu D (D l0 2) l1 (D (D l0 2) l2)) ((zu D (D l0 2) l1 (D (D l0 2) l2)) l0 2) l2 (D (D l0 2) l1)) l0 3) l1 ((zu (zu D (D l0 2) l1 (D (D l0 2) l2)) ((zu D (D l0 2) l1 (D (D l0 2) l2)) l0 2) l2 (D (D l0 2) l1)) ((zu (zu D (D l0 2) l1 (D (D l0 2) l2)) ((zu D (D l0 2) l1 (D (D l0 2) l2)) l0 2) l2 (D (D l0 2) l1)) l0 3) l2)) l0 3) l2 ((zu (zu D (D l0 2) l1 (D (D l0 2) l2)) ((zu D (D l0 2) l1 (D (D l0 2) l2)) l0 2) l2 (D (D l0 2) l1)) ((zu (zu D (D l0 2) l1 (D (D l0 2) l2)) ((zu D (D l0 2) l1 (D (D l0 2) l2)) l0 2) l2 (D (D l0 2) l1)) l0 3) l1))) ∧ (l2 ≥ (zn T (D l0 2)) → Q 0 T D))))))))) :
  zj E d 0 82 0 [(2, l0), (0, l1), (0, l2), (9, 0), (9, 0)] [] T D Q := by
  refine zr_iload_n rfl rfl ?_
  obtain ⟨h1, H⟩ := H
  refine zr_if_lt rfl h1 (fun hc => ?_) (fun hc => ?_)
  · replace H := H.1 hc
    exact zr_return rfl rfl rfl H
  · replace H := H.2 hc
    refine zr_iload_n rfl rfl ?_
    obtain ⟨h2, H⟩ := H
    refine zr_if_lt rfl h2 (fun hc => ?_) (fun hc => ?_)
    · replace H := H.1 hc
      exact zr_return rfl rfl rfl H
    · replace H := H.2 hc
      refine zr_iload_n rfl rfl ?_
      refine zr_aload_n rfl rfl ?_
      obtain ⟨h3, H⟩ := H
      refine zr_getfield (n := 12) rfl h3 (by decide) rfl (by decide) ?_
      obtain ⟨h4, H⟩ := H
      refine zr_arraylength rfl (Or.inr h4) ?_
      obtain ⟨h5, H⟩ := H
      refine zr_icmp_ge rfl h1 h5 (fun hc => ?_) (fun hc => ?_)
      · replace H := H.1 hc
        exact zr_return rfl rfl rfl H
      · replace H := H.2 hc
        refine zr_iload_n rfl rfl ?_
        refine zr_aload_n rfl rfl ?_
        refine zr_getfield (n := 12) rfl h3 (by decide) rfl (by decide) ?_
        refine zr_arraylength rfl (Or.inr h4) ?_
        refine zr_icmp_lt rfl h2 h5 (fun hc => ?_) (fun hc => ?_)
        · replace H := H.1 hc
          refine zr_aload_n rfl rfl ?_
          refine zr_getfield (n := 12) rfl h3 (by decide) rfl (by decide) ?_
          refine zr_iload_n rfl rfl ?_
          obtain ⟨h6, H⟩ := H
          obtain ⟨h7, H⟩ := H
          refine zr_aaload rfl h6 h7 ?_
          refine zr_astore_n rfl rfl ?_
          show zj _ _ _ _ _ [(2, l0), (0, l1), (0, l2), (2, (D (D l0 2) l1)), (9, 0)] [] _ _ _
          refine zr_aload_n rfl rfl ?_
          refine zr_getfield (n := 12) rfl h3 (by decide) rfl (by decide) ?_
          refine zr_iload_n rfl rfl ?_
          refine zr_aload_n rfl rfl ?_
          refine zr_getfield (n := 12) rfl h3 (by decide) rfl (by decide) ?_
          refine zr_iload_n rfl rfl ?_
          obtain ⟨h8, H⟩ := H
          obtain ⟨h9, H⟩ := H
          refine zr_aaload rfl h8 h9 ?_
          obtain ⟨h10, H⟩ := H
          refine zr_aastore rfl h6 h10 ?_
          refine zr_aload_n rfl rfl ?_
          refine zr_getfield (n := 12) rfl h3 (by decide) rfl (by decide) ?_
          refine zr_iload_n rfl rfl ?_
          refine zr_aload_n rfl rfl ?_
          obtain ⟨h11, H⟩ := H
          obtain ⟨h12, H⟩ := H
          refine zr_aastore rfl h11 h12 ?_
          refine zr_aload_n rfl rfl ?_
          refine zr_getfield (n := 12) rfl h3 (by decide) rfl (by decide) ?_
          refine zr_iload_n rfl rfl ?_
          obtain ⟨h13, H⟩ := H
          refine zr_iaload rfl h13 ?_
          refine zr_istore rfl rfl ?_
          show zj _ _ _ _ _ [(2, l0), (0, l1), (0, l2), (2, (D (D l0 2) l1)), (0, ((zu (zu D (D l0 2) l1 (D (D l0 2) l2)) ((zu D (D l0 2) l1 (D (D l0 2) l2)) l0 2) l2 (D (D l0 2) l1)) ((zu (zu D (D l0 2) l1 (D (D l0 2) l2)) ((zu D (D l0 2) l1 (D (D l0 2) l2)) l0 2) l2 (D (D l0 2) l1)) l0 3) l1))] [] _ _ _
          refine zr_aload_n rfl rfl ?_
          refine zr_getfield (n := 12) rfl h3 (by decide) rfl (by decide) ?_
          refine zr_iload_n rfl rfl ?_
          refine zr_aload_n rfl rfl ?_
          refine zr_getfield (n := 12) rfl h3 (by decide) rfl (by decide) ?_
          refine zr_iload_n rfl rfl ?_
          obtain ⟨h14, H⟩ := H
          refine zr_iaload rfl h14 ?_
          refine zr_iastore rfl h13 ?_
          refine zr_aload_n rfl rfl ?_
          refine zr_getfield (n := 12) rfl h3 (by decide) rfl (by decide) ?_
          refine zr_iload_n rfl rfl ?_
          refine zr_iload rfl rfl ?_
          obtain ⟨h15, H⟩ := H
          refine zr_iastore rfl h15 ?_
          exact zr_return rfl rfl rfl H
        · replace H := H.2 hc
          exact zr_return rfl rfl rfl H
theorem e82 {E : List (List Int)} {d : Nat} {T : zT} {D : zD} {Q : Int → zT → zD → Prop}  (l0 : Int) (l1 : Int) (l2 : Int) 
  (H : zin l1 ∧ ((l1 < 0 → Q 0 T D) ∧ (l1 ≥ 0 → zin l2 ∧ ((l2 < 0 → Q 0 T D) ∧ (l2 ≥ 0 → zob T l0 5 12 ∧ zk T (D l0 2) = 52 ∧ zin (zn T (D l0 2)) ∧ ((l1 ≥ (zn T (D l0 2)) → Q 0 T D) ∧ (l1 < (zn T (D l0 2)) → ((l2 < (zn T (D l0 2)) → zar T (D l0 2) 52 l1 ∧ -1 ≤ D (D l0 2) l1 ∧ zar T (D l0 2) 52 l2 ∧ -1 ≤ D (D l0 2) l2 ∧ zk T (D (D l0 2) l2) = 3 ∧ zar T ((zu D (D l0 2) l1 (D (D l0 2) l2)) l0 2) 52 l2 ∧ zk T (D (D l0 2) l1) = 3 ∧ zar T ((zu (zu D (D l0 2) l1 (D (D l0 2) l2)) ((zu D (D l0 2) l1 (D (D l0 2) l2)) l0 2) l2 (D (D l0 2) l1)) l0 3) 50 l1 ∧ zar T ((zu (zu D (D l0 2) l1 (D (D l0 2) l2)) ((zu D (D l0 2) l1 (D (D l0 2) l2)) l0 2) l2 (D (D l0 2) l1)) l0 3) 50 l2 ∧ zar T ((zu (zu (zu D (D l0 2) l1 (D (D l0 2) l2)) ((zu D (D l0 2) l1 (D (D l0 2) l2)) l0 2) l2 (D (D l0 2) l1)) ((zu (zu D (D l0 2) l1 (D (D l0 2) l2)) ((zu D (D l0 2) l1 (D (D l0 2) l2)) l0 2) l2 (D (D l0 2) l1)) l0 3) l1 ((zu (zu D (D l0 2) l1 (D (D l0 2) l2)) ((zu D (D l0 2) l1 (D (D l0 2) l2)) l0 2) l2 (D (D l0 2) l1)) ((zu (zu D (D l0 2) l1 (D (D l0 2) l2)) ((zu D (D l0 2) l1 (D (D l0 2) l2)) l0 2) l2 (D (D l0 2) l1)) l0 3) l2)) l0 3) 50 l2 ∧ Q 0 T (zu (zu (zu (zu D (D l0 2) l1 (D (D l0 2) l2)) ((zu D (D l0 2) l1 (D (D l0 2) l2)) l0 2) l2 (D (D l0 2) l1)) ((zu (zu D (D l0 2) l1 (D (D l0 2) l2)) ((zu D (D l0 2) l1 (D (D l0 2) l2)) l0 2) l2 (D (D l0 2) l1)) l0 3) l1 ((zu (zu D (D l0 2) l1 (D (D l0 2) l2)) ((zu D (D l0 2) l1 (D (D l0 2) l2)) l0 2) l2 (D (D l0 2) l1)) ((zu (zu D (D l0 2) l1 (D (D l0 2) l2)) ((zu D (D l0 2) l1 (D (D l0 2) l2)) l0 2) l2 (D (D l0 2) l1)) l0 3) l2)) ((zu (zu (zu D (D l0 2) l1 (D (D l0 2) l2)) ((zu D (D l0 2) l1 (D (D l0 2) l2)) l0 2) l2 (D (D l0 2) l1)) ((zu (zu D (D l0 2) l1 (D (D l0 2) l2)) ((zu D (D l0 2) l1 (D (D l0 2) l2)) l0 2) l2 (D (D l0 2) l1)) l0 3) l1 ((zu (zu D (D l0 2) l1 (D (D l0 2) l2)) ((zu D (D l0 2) l1 (D (D l0 2) l2)) l0 2) l2 (D (D l0 2) l1)) ((zu (zu D (D l0 2) l1 (D (D l0 2) l2)) ((zu D (D l0 2) l1 (D (D l0 2) l2)) l0 2) l2 (D (D l0 2) l1)) l0 3) l2)) l0 3) l2 ((zu (zu D (D l0 2) l1 (D (D l0 2) l2)) ((zu D (D l0 2) l1 (D (D l0 2) l2)) l0 2) l2 (D (D l0 2) l1)) ((zu (zu D (D l0 2) l1 (D (D l0 2) l2)) ((zu D (D l0 2) l1 (D (D l0 2) l2)) l0 2) l2 (D (D l0 2) l1)) l0 3) l1))) ∧ (l2 ≥ (zn T (D l0 2)) → Q 0 T D))))))))) :
  zc E d 0 82 [(2, l0), (0, l1), (0, l2)] T D Q :=
  zc_of (ls := [(2, l0), (0, l1), (0, l2), (9, 0), (9, 0)]) (fun _ => rfl) (z82_0  l0 l1 l2 H)
theorem z83_0 {E : List (List Int)} {d : Nat} {T : zT} {D : zD} {Q : Int → zT → zD → Prop}  (l0 : Int) 
  (H : zob T l0 5 12 ∧ Q (D l0 4) T D) :
  zj E d 1 83 0 [(2, l0)] [] T D Q := by
  refine zr_aload_n rfl rfl ?_
  obtain ⟨h1, H⟩ := H
  refine zr_getfield (n := 12) rfl h1 (by decide) rfl (by decide) ?_
  exact zr_ireturn rfl rfl rfl H
theorem e83 {E : List (List Int)} {d : Nat} {T : zT} {D : zD} {Q : Int → zT → zD → Prop}  (l0 : Int) 
  (H : zob T l0 5 12 ∧ Q (D l0 4) T D) :
  zc E d 1 83 [(2, l0)] T D Q :=
  zc_of (ls := [(2, l0)]) (fun _ => rfl) (z83_0  l0 H)
theorem z84_0 {E : List (List Int)} {d : Nat} {T : zT} {D : zD} {Q : Int → zT → zD → Prop}  (l0 : Int) (l1 : Int) (l2 : Int) 
  (H : 0 < d ∧ zk T l0 = 7 ∧ zc E (d - 1) 0 85 [(2, l0), (0, l1)] T D (fun x3 T3 D3 => zin l2 ∧ ((l2 < 0 → False) ∧ (l2 ≥ 0 → ((l2 ≤ 1 → ((l2 ≠ 0 → zob T3 l0 7 11 ∧ zk T3 (D3 l0 7) = 5 ∧ zc E (d - 1) 1 86 [(2, (D3 l0 7)), (0, l1)] T3 D3 (fun x7 T7 D7 => Q x7 T7 D7)) ∧ (l2 = 0 → zob T3 l0 7 11 ∧ zk T3 (D3 l0 7) = 5 ∧ zc E (d - 1) 2 76 [(2, (D3 l0 7)), (0, l1)] T3 D3 (fun x10 T10 D10 => zk T10 x10 = 3 ∧ zc E (d - 1) 1 21 [(2, x10)] T10 D10 (fun x12 T12 D12 => Q x12 T12 D12))))) ∧ (l2 > 1 → False)))))) :
  zj E d 1 84 0 [(2, l0), (0, l1), (0, l2)] [] T D Q := by
  refine zr_aload_n rfl rfl ?_
  refine zr_iload_n rfl rfl ?_
  obtain ⟨h1, H⟩ := H
  obtain ⟨h2, H⟩ := H
  refine zr_invokevirtual (rt2 := 0) rfl rfl rfl rfl rfl h2 (by decide) h1 (zc_mono H ?_)
  intro x3 T3 D3 H
  show zj _ _ _ _ _ [(2, l0), (0, l1), (0, l2)] [] _ _ _
  refine zr_iload_n rfl rfl ?_
  obtain ⟨h4, H⟩ := H
  refine zr_if_lt rfl h4 (fun hc => ?_) (fun hc => ?_)
  · replace H := H.1 hc
    exact H.elim
  · replace H := H.2 hc
    refine zr_iload_n rfl rfl ?_
    refine zr_iconst rfl ?_
    refine zr_icmp_le rfl h4 (zin_c (by decide)) (fun hc => ?_) (fun hc => ?_)
    · replace H := H.1 hc
      refine zr_iload_n rfl rfl ?_
      refine zr_if_ne rfl h4 (fun hc => ?_) (fun hc => ?_)
      · replace H := H.1 hc
        refine zr_aload_n rfl rfl ?_
        obtain ⟨h5, H⟩ := H
        refine zr_getfield (n := 11) rfl h5 (by decide) rfl (by decide) ?_
        refine zr_iload_n rfl rfl ?_
        obtain ⟨h6, H⟩ := H
        refine zr_invokevirtual (rt2 := 1) rfl rfl rfl rfl rfl h6 (by decide) h1 (zc_mono H ?_)
        intro x7 T7 D7 H
        show zj _ _ _ _ _ [(2, l0), (0, l1), (0, l2)] [(0, x7)] _ _ _
        exact zr_ireturn rfl rfl rfl H
      · replace H := H.2 hc
        refine zr_aload_n rfl rfl ?_
        obtain ⟨h8, H⟩ := H
        refine zr_getfield (n := 11) rfl h8 (by decide) rfl (by decide) ?_
        refine zr_iload_n rfl rfl ?_
        obtain ⟨h9, H⟩ := H
        refine zr_invokevirtual (rt2 := 2) rfl rfl rfl rfl rfl h9 (by decide) h1 (zc_mono H ?_)
        intro x10 T10 D10 H
        show zj _ _ _ _ _ [(2, l0), (0, l1), (0, l2)] [(2, x10)] _ _ _
        obtain ⟨h11, H⟩ := H
        refine zr_invokevirtual (rt2 := 1) rfl rfl rfl rfl rfl h11 (by decide) h1 (zc_mono H ?_)
        intro x12 T12 D12 H
        show zj _ _ _ _ _ [(2, l0), (0, l1), (0, l2)] [(0, x12)] _ _ _
        refine zr_goto rfl ?_
        exact zr_ireturn rfl rfl rfl H
    · replace H := H.2 hc
      exact H.elim
theorem e84 {E : List (List Int)} {d : Nat} {T : zT} {D : zD} {Q : Int → zT → zD → Prop}  (l0 : Int) (l1 : Int) (l2 : Int) 
  (H : 0 < d ∧ zk T l0 = 7 ∧ zc E (d - 1) 0 85 [(2, l0), (0, l1)] T D (fun x3 T3 D3 => zin l2 ∧ ((l2 < 0 → False) ∧ (l2 ≥ 0 → ((l2 ≤ 1 → ((l2 ≠ 0 → zob T3 l0 7 11 ∧ zk T3 (D3 l0 7) = 5 ∧ zc E (d - 1) 1 86 [(2, (D3 l0 7)), (0, l1)] T3 D3 (fun x7 T7 D7 => Q x7 T7 D7)) ∧ (l2 = 0 → zob T3 l0 7 11 ∧ zk T3 (D3 l0 7) = 5 ∧ zc E (d - 1) 2 76 [(2, (D3 l0 7)), (0, l1)] T3 D3 (fun x10 T10 D10 => zk T10 x10 = 3 ∧ zc E (d - 1) 1 21 [(2, x10)] T10 D10 (fun x12 T12 D12 => Q x12 T12 D12))))) ∧ (l2 > 1 → False)))))) :
  zc E d 1 84 [(2, l0), (0, l1), (0, l2)] T D Q :=
  zc_of (ls := [(2, l0), (0, l1), (0, l2)]) (fun _ => rfl) (z84_0  l0 l1 l2 H)
theorem z85_0 {E : List (List Int)} {d : Nat} {T : zT} {D : zD} {Q : Int → zT → zD → Prop}  (l0 : Int) (l1 : Int) 
  (H : zin l1 ∧ ((l1 < 0 → False) ∧ (l1 ≥ 0 → zob T l0 7 11 ∧ 0 < d ∧ zk T (D l0 7) = 5 ∧ zc E (d - 1) 1 83 [(2, (D l0 7))] T D (fun x5 T5 D5 => zin x5 ∧ ((l1 < x5 → Q 0 T5 D5) ∧ (l1 ≥ x5 → False)))))) :
  zj E d 0 85 0 [(2, l0), (0, l1)] [] T D Q := by
  refine zr_iload_n rfl rfl ?_
  obtain ⟨h1, H⟩ := H
  refine zr_if_lt rfl h1 (fun hc => ?_) (fun hc => ?_)
  · replace H := H.1 hc
    exact H.elim
  · replace H := H.2 hc
    refine zr_iload_n rfl rfl ?_
    refine zr_aload_n rfl rfl ?_
    obtain ⟨h2, H⟩ := H
    refine zr_getfield (n := 11) rfl h2 (by decide) rfl (by decide) ?_
    obtain ⟨h3, H⟩ := H
    obtain ⟨h4, H⟩ := H
    refine zr_invokevirtual (rt2 := 1) rfl rfl rfl rfl rfl h4 (by decide) h3 (zc_mono H ?_)
    intro x5 T5 D5 H
    show zj _ _ _ _ _ [(2, l0), (0, l1)] [(0, x5), (0, l1)] _ _ _
    obtain ⟨h6, H⟩ := H
    refine zr_icmp_lt rfl h1 h6 (fun hc => ?_) (fun hc => ?_)
    · replace H := H.1 hc
      exact zr_return rfl rfl rfl H
    · replace H := H.2 hc
      exact H.elim
theorem e85 {E : List (List Int)} {d : Nat} {T : zT} {D : zD} {Q : Int → zT → zD → Prop}  (l0 : Int) (l1 : Int) 
  (H : zin l1 ∧ ((l1 < 0 → False) ∧ (l1 ≥ 0 → zob T l0 7 11 ∧ 0 < d ∧ zk T (D l0 7) = 5 ∧ zc E (d - 1) 1 83 [(2, (D l0 7))] T D (fun x5 T5 D5 => zin x5 ∧ ((l1 < x5 → Q 0 T5 D5) ∧ (l1 ≥ x5 → False)))))) :
  zc E d 0 85 [(2, l0), (0, l1)] T D Q :=
  zc_of (ls := [(2, l0), (0, l1)]) (fun _ => rfl) (z85_0  l0 l1 H)
theorem z86_0 {E : List (List Int)} {d : Nat} {T : zT} {D : zD} {Q : Int → zT → zD → Prop}  (l0 : Int) (l1 : Int) 
  (H : zin l1 ∧ ((l1 < 0 → Q 0 T D) ∧ (l1 ≥ 0 → zob T l0 5 12 ∧ zk T (D l0 3) = 50 ∧ zin (zn T (D l0 3)) ∧ ((l1 < (zn T (D l0 3)) → zar T (D l0 3) 50 l1 ∧ Q (D (D l0 3) l1) T D) ∧ (l1 ≥ (zn T (D l0 3)) → Q 0 T D))))) :
  zj E d 1 86 0 [(2, l0), (0, l1)] [] T D Q := by
  refine zr_iload_n rfl rfl ?_
  obtain ⟨h1, H⟩ := H
  refine zr_if_lt rfl h1 (fun hc => ?_) (fun hc => ?_)
  · replace H := H.1 hc
    refine zr_iconst rfl ?_
    refine zr_goto rfl ?_
    exact zr_ireturn rfl rfl rfl H
  · replace H := H.2 hc
    refine zr_iload_n rfl rfl ?_
    refine zr_aload_n rfl rfl ?_
    obtain ⟨h2, H⟩ := H
    refine zr_getfield (n := 12) rfl h2 (by decide) rfl (by decide) ?_
    obtain ⟨h3, H⟩ := H
    refine zr_arraylength rfl (Or.inl h3) ?_
    obtain ⟨h4, H⟩ := H
    refine zr_icmp_lt rfl h1 h4 (fun hc => ?_) (fun hc => ?_)
    · replace H := H.1 hc
      refine zr_aload_n rfl rfl ?_
      refine zr_getfield (n := 12) rfl h2 (by decide) rfl (by decide) ?_
      refine zr_iload_n rfl rfl ?_
      obtain ⟨h5, H⟩ := H
      refine zr_iaload rfl h5 ?_
      exact zr_ireturn rfl rfl rfl H
    · replace H := H.2 hc
      refine zr_iconst rfl ?_
      refine zr_goto rfl ?_
      exact zr_ireturn rfl rfl rfl H
theorem e86 {E : List (List Int)} {d : Nat} {T : zT} {D : zD} {Q : Int → zT → zD → Prop}  (l0 : Int) (l1 : Int) 
  (H : zin l1 ∧ ((l1 < 0 → Q 0 T D) ∧ (l1 ≥ 0 → zob T l0 5 12 ∧ zk T (D l0 3) = 50 ∧ zin (zn T (D l0 3)) ∧ ((l1 < (zn T (D l0 3)) → zar T (D l0 3) 50 l1 ∧ Q (D (D l0 3) l1) T D) ∧ (l1 ≥ (zn T (D l0 3)) → Q 0 T D))))) :
  zc E d 1 86 [(2, l0), (0, l1)] T D Q :=
  zc_of (ls := [(2, l0), (0, l1)]) (fun _ => rfl) (z86_0  l0 l1 H)
theorem z87_0 {E : List (List Int)} {d : Nat} {T : zT} {D : zD} {Q : Int → zT → zD → Prop}  (l0 : Int) (l1 : Int) (l2 : Int) 
  (H : 0 < d ∧ zk T l0 = 7 ∧ zc E (d - 1) 0 85 [(2, l0), (0, l1)] T D (fun x3 T3 D3 => zk T3 l0 = 7 ∧ zc E (d - 1) 2 17 [(2, l0), (0, l2)] T3 D3 (fun x5 T5 D5 => zob T5 l0 7 11 ∧ zk T5 (D5 l0 7) = 5 ∧ zc E (d - 1) 2 76 [(2, (D5 l0 7)), (0, l1)] T5 D5 (fun x8 T8 D8 => zk T8 x5 = 3 ∧ zc E (d - 1) 0 25 [(2, x5), (2, x8)] T8 D8 (fun x10 T10 D10 => zk T10 x5 = 3 ∧ zc E (d - 1) 1 21 [(2, x5)] T10 D10 (fun x12 T12 D12 => Q x12 T12 D12)))))) :
  zj E d 1 87 0 [(2, l0), (0, l1), (0, l2), (9, 0)] [] T D Q := by
  refine zr_aload_n rfl rfl ?_
  refine zr_iload_n rfl rfl ?_
  obtain ⟨h1, H⟩ := H
  obtain ⟨h2, H⟩ := H
  refine zr_invokevirtual (rt2 := 0) rfl rfl rfl rfl rfl h2 (by decide) h1 (zc_mono H ?_)
  intro x3 T3 D3 H
  show zj _ _ _ _ _ [(2, l0), (0, l1), (0, l2), (9, 0)] [] _ _ _
  refine zr_aload_n rfl rfl ?_
  refine zr_iload_n rfl rfl ?_
  obtain ⟨h4, H⟩ := H
  refine zr_invokevirtual (rt2 := 2) rfl rfl rfl rfl rfl h4 (by decide) h1 (zc_mono H ?_)
  intro x5 T5 D5 H
  show zj _ _ _ _ _ [(2, l0), (0, l1), (0, l2), (9, 0)] [(2, x5)] _ _ _
  refine zr_astore_n rfl rfl ?_
  show zj _ _ _ _ _ [(2, l0), (0, l1), (0, l2), (2, x5)] [] _ _ _
  refine zr_aload_n rfl rfl ?_
  refine zr_aload_n rfl rfl ?_
  obtain ⟨h6, H⟩ := H
  refine zr_getfield (n := 11) rfl h6 (by decide) rfl (by decide) ?_
  refine zr_iload_n rfl rfl ?_
  obtain ⟨h7, H⟩ := H
  refine zr_invokevirtual (rt2 := 2) rfl rfl rfl rfl rfl h7 (by decide) h1 (zc_mono H ?_)
  intro x8 T8 D8 H
  show zj _ _ _ _ _ [(2, l0), (0, l1), (0, l2), (2, x5)] [(2, x8), (2, x5)] _ _ _
  obtain ⟨h9, H⟩ := H
  refine zr_invokevirtual (rt2 := 0) rfl rfl rfl rfl rfl h9 (by decide) h1 (zc_mono H ?_)
  intro x10 T10 D10 H
  show zj _ _ _ _ _ [(2, l0), (0, l1), (0, l2), (2, x5)] [] _ _ _
  refine zr_aload_n rfl rfl ?_
  obtain ⟨h11, H⟩ := H
  refine zr_invokevirtual (rt2 := 1) rfl rfl rfl rfl rfl h11 (by decide) h1 (zc_mono H ?_)
  intro x12 T12 D12 H
  show zj _ _ _ _ _ [(2, l0), (0, l1), (0, l2), (2, x5)] [(0, x12)] _ _ _
  exact zr_ireturn rfl rfl rfl H
theorem e87 {E : List (List Int)} {d : Nat} {T : zT} {D : zD} {Q : Int → zT → zD → Prop}  (l0 : Int) (l1 : Int) (l2 : Int) 
  (H : 0 < d ∧ zk T l0 = 7 ∧ zc E (d - 1) 0 85 [(2, l0), (0, l1)] T D (fun x3 T3 D3 => zk T3 l0 = 7 ∧ zc E (d - 1) 2 17 [(2, l0), (0, l2)] T3 D3 (fun x5 T5 D5 => zob T5 l0 7 11 ∧ zk T5 (D5 l0 7) = 5 ∧ zc E (d - 1) 2 76 [(2, (D5 l0 7)), (0, l1)] T5 D5 (fun x8 T8 D8 => zk T8 x5 = 3 ∧ zc E (d - 1) 0 25 [(2, x5), (2, x8)] T8 D8 (fun x10 T10 D10 => zk T10 x5 = 3 ∧ zc E (d - 1) 1 21 [(2, x5)] T10 D10 (fun x12 T12 D12 => Q x12 T12 D12)))))) :
  zc E d 1 87 [(2, l0), (0, l1), (0, l2)] T D Q :=
  zc_of (ls := [(2, l0), (0, l1), (0, l2), (9, 0)]) (fun _ => rfl) (z87_0  l0 l1 l2 H)
theorem z88_0 {E : List (List Int)} {d : Nat} {T : zT} {D : zD} {Q : Int → zT → zD → Prop}  (l0 : Int) (l1 : Int) 
  (H : zob T l0 7 11 ∧ 0 < d ∧ zk T l0 = 7 ∧ zc E (d - 1) 2 17 [(2, l0), (0, l1)] T D (fun x4 T4 D4 => zk T4 (D l0 7) = 5 ∧ zc E (d - 1) 1 89 [(2, (D l0 7)), (2, x4)] T4 D4 (fun x6 T6 D6 => (x6 = 0 ∨ x6 = 1) ∧ Q x6 T6 D6))) :
  zj E d 1 88 0 [(2, l0), (0, l1)] [] T D Q := by
  refine zr_aload_n rfl rfl ?_
  obtain ⟨h1, H⟩ := H
  refine zr_getfield (n := 11) rfl h1 (by decide) rfl (by decide) ?_
  refine zr_aload_n rfl rfl ?_
  refine zr_iload_n rfl rfl ?_
  obtain ⟨h2, H⟩ := H
  obtain ⟨h3, H⟩ := H
  refine zr_invokevirtual (rt2 := 2) rfl rfl rfl rfl rfl h3 (by decide) h2 (zc_mono H ?_)
  intro x4 T4 D4 H
  show zj _ _ _ _ _ [(2, l0), (0, l1)] [(2, x4), (2, (D l0 7))] _ _ _
  obtain ⟨h5, H⟩ := H
  refine zr_invokevirtual (rt2 := 1) rfl rfl rfl rfl rfl h5 (by decide) h2 (zc_mono H ?_)
  intro x6 T6 D6 H
  show zj _ _ _ _ _ [(2, l0), (0, l1)] [(0, x6)] _ _ _
  obtain ⟨h7, H⟩ := H
  exact zr_ireturn rfl rfl (zr_bool h7) H
theorem e88 {E : List (List Int)} {d : Nat} {T : zT} {D : zD} {Q : Int → zT → zD → Prop}  (l0 : Int) (l1 : Int) 
  (H : zob T l0 7 11 ∧ 0 < d ∧ zk T l0 = 7 ∧ zc E (d - 1) 2 17 [(2, l0), (0, l1)] T D (fun x4 T4 D4 => zk T4 (D l0 7) = 5 ∧ zc E (d - 1) 1 89 [(2, (D l0 7)), (2, x4)] T4 D4 (fun x6 T6 D6 => (x6 = 0 ∨ x6 = 1) ∧ Q x6 T6 D6))) :
  zc E d 1 88 [(2, l0), (0, l1)] T D Q :=
  zc_of (ls := [(2, l0), (0, l1)]) (fun _ => rfl) (z88_0  l0 l1 H)
theorem z89_0 {E : List (List Int)} {d : Nat} {T : zT} {D : zD} {Q : Int → zT → zD → Prop}  (l0 : Int) (l1 : Int) 
  (H : 0 < d ∧ zk T l1 = 3 ∧ zc E (d - 1) 1 21 [(2, l1)] T D (fun x3 T3 D3 => zin x3 ∧ ((x3 ≥ 2 → zob T3 l0 5 12 ∧ zk T3 (D3 l0 9) = 3 ∧ zc E (d - 1) 0 42 [(2, (D3 l0 9)), (2, l1)] T3 D3 (fun x7 T7 D7 => zob T7 l0 5 12 ∧ zk T7 (D7 l0 1) = 0 ∧ zc E (d - 1) 0 33 [(2, (D7 l0 1)), (2, l1), (2, (D7 l0 9))] T7 D7 (fun x10 T10 D10 => zob T10 l0 5 12 ∧ zk T10 (D10 l0 1) = 0 ∧ zc E (d - 1) 2 41 [(2, (D10 l0 1))] T10 D10 (fun x13 T13 D13 => zk T13 x13 = 3 ∧ zc E (d - 1) 1 21 [(2, x13)] T13 D13 (fun x15 T15 D15 => zin x15 ∧ ((x15 ≤ 0 → zob T15 l0 5 12 ∧ zk T15 (D15 l0 8) = 3 ∧ zc E (d - 1) 0 25 [(2, (D15 l0 8)), (2, l1)] T15 D15 (fun x19 T19 D19 => zob T19 l0 5 12 ∧ zk T19 l0 = 5 ∧ zc E (d - 1) 1 62 [(2, l0), (2, (D19 l0 8))] T19 D19 (fun x22 T22 D22 => zin x22 ∧ ((x22 ≠ 1 → Q 0 T22 D22) ∧ (x22 = 1 → Q 1 T22 D22))))) ∧ (x15 > 0 → Q 0 T15 D15))))))) ∧ (x3 < 2 → zk T3 l1 = 3 ∧ zc E (d - 1) 1 21 [(2, l1)] T3 D3 (fun x25 T25 D25 => zin x25 ∧ ((x25 ≠ 1 → Q 0 T25 D25) ∧ (x25 = 1 → Q 1 T25 D25))))))) :
  zj E d 1 89 0 [(2, l0), (2, l1)] [] T D Q := by
  refine zr_aload_n rfl rfl ?_
  obtain ⟨h1, H⟩ := H
  obtain ⟨h2, H⟩ := H
  refine zr_invokevirtual (rt2 := 1) rfl rfl rfl rfl rfl h2 (by decide) h1 (zc_mono H ?_)
  intro x3 T3 D3 H
  show zj _ _ _ _ _ [(2, l0), (2, l1)] [(0, x3)] _ _ _
  refine zr_iconst rfl ?_
  obtain ⟨h4, H⟩ := H
  refine zr_icmp_ge rfl h4 (zin_c (by decide)) (fun hc => ?_) (fun hc => ?_)
  · replace H := H.1 hc
    refine zr_aload_n rfl rfl ?_
    obtain ⟨h5, H⟩ := H
    refine zr_getfield (n := 12) rfl h5 (by decide) rfl (by decide) ?_
    refine zr_aload_n rfl rfl ?_
    obtain ⟨h6, H⟩ := H
    refine zr_invokevirtual (rt2 := 0) rfl rfl rfl rfl rfl h6 (by decide) h1 (zc_mono H ?_)
    intro x7 T7 D7 H
    show zj _ _ _ _ _ [(2, l0), (2, l1)] [] _ _ _
    refine zr_aload_n rfl rfl ?_
    obtain ⟨h8, H⟩ := H
    refine zr_getfield (n := 12) rfl h8 (by decide) rfl (by decide) ?_
    refine zr_aload_n rfl rfl ?_
    refine zr_aload_n rfl rfl ?_
    refine zr_getfield (n := 12) rfl h8 (by decide) rfl (by decide) ?_
    obtain ⟨h9, H⟩ := H
    refine zr_invokevirtual (rt2 := 0) rfl rfl rfl rfl rfl h9 (by decide) h1 (zc_mono H ?_)
    intro x10 T10 D10 H
    show zj _ _ _ _ _ [(2, l0), (2, l1)] [] _ _ _
    refine zr_aload_n rfl rfl ?_
    obtain ⟨h11, H⟩ := H
    refine zr_getfield (n := 12) rfl h11 (by decide) rfl (by decide) ?_
    obtain ⟨h12, H⟩ := H
    refine zr_invokevirtual (rt2 := 2) rfl rfl rfl rfl rfl h12 (by decide) h1 (zc_mono H ?_)
    intro x13 T13 D13 H
    show zj _ _ _ _ _ [(2, l0), (2, l1)] [(2, x13)] _ _ _
    obtain ⟨h14, H⟩ := H
    refine zr_invokevirtual (rt2 := 1) rfl rfl rfl rfl rfl h14 (by decide) h1 (zc_mono H ?_)
    intro x15 T15 D15 H
    show zj _ _ _ _ _ [(2, l0), (2, l1)] [(0, x15)] _ _ _
    obtain ⟨h16, H⟩ := H
    refine zr_if_le rfl h16 (fun hc => ?_) (fun hc => ?_)
    · replace H := H.1 hc
      refine zr_aload_n rfl rfl ?_
      obtain ⟨h17, H⟩ := H
      refine zr_getfield (n := 12) rfl h17 (by decide) rfl (by decide) ?_
      refine zr_aload_n rfl rfl ?_
      obtain ⟨h18, H⟩ := H
      refine zr_invokevirtual (rt2 := 0) rfl rfl rfl rfl rfl h18 (by decide) h1 (zc_mono H ?_)
      intro x19 T19 D19 H
      show zj _ _ _ _ _ [(2, l0), (2, l1)] [] _ _ _
      refine zr_aload_n rfl rfl ?_
      refine zr_aload_n rfl rfl ?_
      obtain ⟨h20, H⟩ := H
      refine zr_getfield (n := 12) rfl h20 (by decide) rfl (by decide) ?_
      obtain ⟨h21, H⟩ := H
      refine zr_invokevirtual (rt2 := 1) rfl rfl rfl rfl rfl h21 (by decide) h1 (zc_mono H ?_)
      intro x22 T22 D22 H
      show zj _ _ _ _ _ [(2, l0), (2, l1)] [(0, x22)] _ _ _
      refine zr_iconst rfl ?_
      obtain ⟨h23, H⟩ := H
      refine zr_icmp_ne rfl h23 (zin_c (by decide)) (fun hc => ?_) (fun hc => ?_)
      · replace H := H.1 hc
        refine zr_iconst rfl ?_
        exact zr_ireturn rfl rfl rfl H
      · replace H := H.2 hc
        refine zr_iconst rfl ?_
        refine zr_goto rfl ?_
        exact zr_ireturn rfl rfl rfl H
    · replace H := H.2 hc
      refine zr_iconst rfl ?_
      exact zr_ireturn rfl rfl rfl H
  · replace H := H.2 hc
    refine zr_aload_n rfl rfl ?_
    obtain ⟨h24, H⟩ := H
    refine zr_invokevirtual (rt2 := 1) rfl rfl rfl rfl rfl h24 (by decide) h1 (zc_mono H ?_)
    intro x25 T25 D25 H
    show zj _ _ _ _ _ [(2, l0), (2, l1)] [(0, x25)] _ _ _
    refine zr_iconst rfl ?_
    obtain ⟨h26, H⟩ := H
    refine zr_icmp_ne rfl h26 (zin_c (by decide)) (fun hc => ?_) (fun hc => ?_)
    · replace H := H.1 hc
      refine zr_iconst rfl ?_
      exact zr_ireturn rfl rfl rfl H
    · replace H := H.2 hc
      refine zr_iconst rfl ?_
      refine zr_goto rfl ?_
      exact zr_ireturn rfl rfl rfl H
theorem e89 {E : List (List Int)} {d : Nat} {T : zT} {D : zD} {Q : Int → zT → zD → Prop}  (l0 : Int) (l1 : Int) 
  (H : 0 < d ∧ zk T l1 = 3 ∧ zc E (d - 1) 1 21 [(2, l1)] T D (fun x3 T3 D3 => zin x3 ∧ ((x3 ≥ 2 → zob T3 l0 5 12 ∧ zk T3 (D3 l0 9) = 3 ∧ zc E (d - 1) 0 42 [(2, (D3 l0 9)), (2, l1)] T3 D3 (fun x7 T7 D7 => zob T7 l0 5 12 ∧ zk T7 (D7 l0 1) = 0 ∧ zc E (d - 1) 0 33 [(2, (D7 l0 1)), (2, l1), (2, (D7 l0 9))] T7 D7 (fun x10 T10 D10 => zob T10 l0 5 12 ∧ zk T10 (D10 l0 1) = 0 ∧ zc E (d - 1) 2 41 [(2, (D10 l0 1))] T10 D10 (fun x13 T13 D13 => zk T13 x13 = 3 ∧ zc E (d - 1) 1 21 [(2, x13)] T13 D13 (fun x15 T15 D15 => zin x15 ∧ ((x15 ≤ 0 → zob T15 l0 5 12 ∧ zk T15 (D15 l0 8) = 3 ∧ zc E (d - 1) 0 25 [(2, (D15 l0 8)), (2, l1)] T15 D15 (fun x19 T19 D19 => zob T19 l0 5 12 ∧ zk T19 l0 = 5 ∧ zc E (d - 1) 1 62 [(2, l0), (2, (D19 l0 8))] T19 D19 (fun x22 T22 D22 => zin x22 ∧ ((x22 ≠ 1 → Q 0 T22 D22) ∧ (x22 = 1 → Q 1 T22 D22))))) ∧ (x15 > 0 → Q 0 T15 D15))))))) ∧ (x3 < 2 → zk T3 l1 = 3 ∧ zc E (d - 1) 1 21 [(2, l1)] T3 D3 (fun x25 T25 D25 => zin x25 ∧ ((x25 ≠ 1 → Q 0 T25 D25) ∧ (x25 = 1 → Q 1 T25 D25))))))) :
  zc E d 1 89 [(2, l0), (2, l1)] T D Q :=
  zc_of (ls := [(2, l0), (2, l1)]) (fun _ => rfl) (z89_0  l0 l1 H)
