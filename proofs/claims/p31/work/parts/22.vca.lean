/-! Conditions of methods, by program (wip/tools/vcg.py). -/
theorem z2_0 {E : List (List Int)} {d : Nat} {T : zT} {D : zD} {Q : Int → zT → zD → Prop}  (l0 : Int) (l1 : Int) 
  (H : zob T l0 1 2 ∧ zj E d 0 2 7 [(2, l0), (0, l1), (0, 1), (9, 0)] [] T (zu D l0 0 l1) Q) :
  zj E d 0 2 0 [(2, l0), (0, l1), (9, 0), (9, 0)] [] T D Q := by
  refine zr_aload_n rfl rfl ?_
  refine zr_iload_n rfl rfl ?_
  obtain ⟨h1, H⟩ := H
  refine zr_putfield (n := 2) (t := 0) rfl h1 (by decide) rfl (by decide) rfl ?_
  refine zr_iconst rfl ?_
  refine zr_istore_n rfl rfl ?_
  show zj _ _ _ _ _ [(2, l0), (0, l1), (0, 1), (9, 0)] [] _ _ _
  exact H
theorem e2 {E : List (List Int)} {d : Nat} {T : zT} {D : zD} {Q : Int → zT → zD → Prop}  (l0 : Int) (l1 : Int) 
  (H : zob T l0 1 2 ∧ zj E d 0 2 7 [(2, l0), (0, l1), (0, 1), (9, 0)] [] T (zu D l0 0 l1) Q) :
  zc E d 0 2 [(2, l0), (0, l1)] T D Q :=
  zc_of (ls := [(2, l0), (0, l1), (9, 0), (9, 0)]) (fun _ => rfl) (z2_0  l0 l1 H)
theorem z2_7 {E : List (List Int)} {d : Nat} {T : zT} {D : zD} {Q : Int → zT → zD → Prop}  (l0 : Int) (l1 : Int) (l2 : Int) (w3 : zv_V) (hw3 : zs_wide w3 = false)
  (H : zin l2 ∧ zin l1 ∧ ((l2 ≥ l1 → Q 0 T D) ∧ (l2 < l1 → zob T l0 1 2 ∧ zk T (D l0 1) = 50 ∧ zin (zn T (D l0 1)) ∧ ((l2 ≥ (zn T (D l0 1)) → Q 0 T D) ∧ (l2 < (zn T (D l0 1)) → zj E d 0 2 23 [(2, l0), (0, l1), (0, l2), (0, 1)] [] T D Q))))) :
  zj E d 0 2 7 [(2, l0), (0, l1), (0, l2), w3] [] T D Q := by
  refine zr_iload_n rfl rfl ?_
  refine zr_iload_n rfl rfl ?_
  obtain ⟨h1, H⟩ := H
  obtain ⟨h2, H⟩ := H
  refine zr_icmp_ge rfl h1 h2 (fun hc => ?_) (fun hc => ?_)
  · replace H := H.1 hc
    exact zr_return rfl rfl rfl H
  · replace H := H.2 hc
    refine zr_iload_n rfl rfl ?_
    refine zr_aload_n rfl rfl ?_
    obtain ⟨h3, H⟩ := H
    refine zr_getfield (n := 2) rfl h3 (by decide) rfl (by decide) ?_
    obtain ⟨h4, H⟩ := H
    refine zr_arraylength rfl (Or.inl h4) ?_
    obtain ⟨h5, H⟩ := H
    refine zr_icmp_ge rfl h1 h5 (fun hc => ?_) (fun hc => ?_)
    · replace H := H.1 hc
      exact zr_return rfl rfl rfl H
    · replace H := H.2 hc
      refine zr_iconst rfl ?_
      refine zr_istore_n rfl rfl ?_
      show zj _ _ _ _ _ [(2, l0), (0, l1), (0, l2), (0, 1)] [] _ _ _
      exact H
theorem z2_23 {E : List (List Int)} {d : Nat} {T : zT} {D : zD} {Q : Int → zT → zD → Prop}  (l0 : Int) (l1 : Int) (l2 : Int) (l3 : Int) 
  (H : zin l3 ∧ zin l1 ∧ ((l3 ≥ l1 → zj E d 0 2 7 [(2, l0), (0, l1), (0, l2 + 1), (0, l3)] [] T D Q) ∧ (l3 < l1 → zin (l2 * l3) ∧ 0 < l1 ∧ l1 ≤ 2147483647 ∧ zin ((l2 * l3).tmod l1) ∧ ((((l2 * l3).tmod l1) ≠ 1 → zj E d 0 2 23 [(2, l0), (0, l1), (0, l2), (0, l3 + 1)] [] T D Q) ∧ (((l2 * l3).tmod l1) = 1 → zob T l0 1 2 ∧ zar T (D l0 1) 50 l2 ∧ zj E d 0 2 23 [(2, l0), (0, l1), (0, l2), (0, l3 + 1)] [] T (zu D (D l0 1) l2 l3) Q))))) :
  zj E d 0 2 23 [(2, l0), (0, l1), (0, l2), (0, l3)] [] T D Q := by
  refine zr_iload_n rfl rfl ?_
  refine zr_iload_n rfl rfl ?_
  obtain ⟨h1, H⟩ := H
  obtain ⟨h2, H⟩ := H
  refine zr_icmp_ge rfl h1 h2 (fun hc => ?_) (fun hc => ?_)
  · replace H := H.1 hc
    refine zr_iinc rfl rfl rfl ?_
    show zj _ _ _ _ _ [(2, l0), (0, l1), (0, l2 + 1), (0, l3)] [] _ _ _
    refine zr_goto rfl ?_
    exact H
  · replace H := H.2 hc
    refine zr_iload_n rfl rfl ?_
    refine zr_iload_n rfl rfl ?_
    refine zr_imul rfl ?_
    refine zr_iload_n rfl rfl ?_
    obtain ⟨h3, H⟩ := H
    obtain ⟨h4, H⟩ := H
    obtain ⟨h5, H⟩ := H
    refine zr_irem rfl h3 h4 h5 ?_
    refine zr_iconst rfl ?_
    obtain ⟨h6, H⟩ := H
    refine zr_icmp_ne rfl h6 (zin_c (by decide)) (fun hc => ?_) (fun hc => ?_)
    · replace H := H.1 hc
      refine zr_iinc rfl rfl rfl ?_
      show zj _ _ _ _ _ [(2, l0), (0, l1), (0, l2), (0, l3 + 1)] [] _ _ _
      refine zr_goto rfl ?_
      exact H
    · replace H := H.2 hc
      refine zr_aload_n rfl rfl ?_
      obtain ⟨h7, H⟩ := H
      refine zr_getfield (n := 2) rfl h7 (by decide) rfl (by decide) ?_
      refine zr_iload_n rfl rfl ?_
      refine zr_iload_n rfl rfl ?_
      obtain ⟨h8, H⟩ := H
      refine zr_iastore rfl h8 ?_
      refine zr_iinc rfl rfl rfl ?_
      show zj _ _ _ _ _ [(2, l0), (0, l1), (0, l2), (0, l3 + 1)] [] _ _ _
      refine zr_goto rfl ?_
      exact H
theorem z7_0 {E : List (List Int)} {d : Nat} {T : zT} {D : zD} {Q : Int → zT → zD → Prop}  (l0 : Int) (l1 : Int) 
  (H : zk T l0 = 50 ∧ zj E d 0 7 5 [(2, l0), (0, l1), (0, 0), (0, (zn T l0))] [] T D Q) :
  zj E d 0 7 0 [(2, l0), (0, l1), (9, 0), (9, 0)] [] T D Q := by
  refine zr_iconst rfl ?_
  refine zr_istore_n rfl rfl ?_
  show zj _ _ _ _ _ [(2, l0), (0, l1), (0, 0), (9, 0)] [] _ _ _
  refine zr_aload_n rfl rfl ?_
  obtain ⟨h1, H⟩ := H
  refine zr_arraylength rfl (Or.inl h1) ?_
  refine zr_istore_n rfl rfl ?_
  show zj _ _ _ _ _ [(2, l0), (0, l1), (0, 0), (0, (zn T l0))] [] _ _ _
  exact H
theorem e7 {E : List (List Int)} {d : Nat} {T : zT} {D : zD} {Q : Int → zT → zD → Prop}  (l0 : Int) (l1 : Int) 
  (H : zk T l0 = 50 ∧ zj E d 0 7 5 [(2, l0), (0, l1), (0, 0), (0, (zn T l0))] [] T D Q) :
  zc E d 0 7 [(2, l0), (0, l1)] T D Q :=
  zc_of (ls := [(2, l0), (0, l1), (9, 0), (9, 0)]) (fun _ => rfl) (z7_0  l0 l1 H)
theorem z7_5 {E : List (List Int)} {d : Nat} {T : zT} {D : zD} {Q : Int → zT → zD → Prop}  (l0 : Int) (l1 : Int) (l2 : Int) (l3 : Int) 
  (H : zin l2 ∧ zin l3 ∧ ((l2 ≥ l3 → Q 0 T D) ∧ (l2 < l3 → zar T l0 50 l2 ∧ zj E d 0 7 5 [(2, l0), (0, l1), (0, l2 + 1), (0, l3)] [] T (zu D l0 l2 l1) Q))) :
  zj E d 0 7 5 [(2, l0), (0, l1), (0, l2), (0, l3)] [] T D Q := by
  refine zr_iload_n rfl rfl ?_
  refine zr_iload_n rfl rfl ?_
  obtain ⟨h1, H⟩ := H
  obtain ⟨h2, H⟩ := H
  refine zr_icmp_ge rfl h1 h2 (fun hc => ?_) (fun hc => ?_)
  · replace H := H.1 hc
    exact zr_return rfl rfl rfl H
  · replace H := H.2 hc
    refine zr_aload_n rfl rfl ?_
    refine zr_iload_n rfl rfl ?_
    refine zr_iload_n rfl rfl ?_
    obtain ⟨h3, H⟩ := H
    refine zr_iastore rfl h3 ?_
    refine zr_iinc rfl rfl rfl ?_
    show zj _ _ _ _ _ [(2, l0), (0, l1), (0, l2 + 1), (0, l3)] [] _ _ _
    refine zr_goto rfl ?_
    exact H
theorem z10_0 {E : List (List Int)} {d : Nat} {T : zT} {D : zD} {Q : Int → zT → zD → Prop}  (l0 : Int) (l1 : Int) 
  (H : 0 < d ∧ zc E (d - 1) 1 11 [(0, l1)] T D (fun x2 T2 D2 => zin x2 ∧ ((x2 ≠ 0 → zob T2 l0 7 11 ∧ zk T2 (D2 l0 0) = 1 ∧ zc E (d - 1) 1 12 [(2, (D2 l0 0))] T2 D2 (fun x6 T6 D6 => zob T6 l0 7 11 ∧ zk T6 (D6 l0 0) = 1 ∧ zc E (d - 1) 0 2 [(2, (D6 l0 0)), (0, l1)] T6 D6 (fun x9 T9 D9 => zj E d 1 10 35 [(2, l0), (0, l1), (0, x6), (0, 0)] [] T9 D9 Q))) ∧ (x2 = 0 → False)))) :
  zj E d 1 10 0 [(2, l0), (0, l1), (9, 0), (9, 0)] [] T D Q := by
  refine zr_iload_n rfl rfl ?_
  obtain ⟨h1, H⟩ := H
  refine zr_invokestatic (rt2 := 1) rfl rfl rfl rfl rfl h1 (zc_mono H ?_)
  intro x2 T2 D2 H
  show zj _ _ _ _ _ [(2, l0), (0, l1), (9, 0), (9, 0)] [(0, x2)] _ _ _
  obtain ⟨h3, H⟩ := H
  refine zr_if_ne rfl h3 (fun hc => ?_) (fun hc => ?_)
  · replace H := H.1 hc
    refine zr_aload_n rfl rfl ?_
    obtain ⟨h4, H⟩ := H
    refine zr_getfield (n := 11) rfl h4 (by decide) rfl (by decide) ?_
    obtain ⟨h5, H⟩ := H
    refine zr_invokevirtual (rt2 := 1) rfl rfl rfl rfl rfl h5 (by decide) h1 (zc_mono H ?_)
    intro x6 T6 D6 H
    show zj _ _ _ _ _ [(2, l0), (0, l1), (9, 0), (9, 0)] [(0, x6)] _ _ _
    refine zr_istore_n rfl rfl ?_
    show zj _ _ _ _ _ [(2, l0), (0, l1), (0, x6), (9, 0)] [] _ _ _
    refine zr_aload_n rfl rfl ?_
    obtain ⟨h7, H⟩ := H
    refine zr_getfield (n := 11) rfl h7 (by decide) rfl (by decide) ?_
    refine zr_iload_n rfl rfl ?_
    obtain ⟨h8, H⟩ := H
    refine zr_invokevirtual (rt2 := 0) rfl rfl rfl rfl rfl h8 (by decide) h1 (zc_mono H ?_)
    intro x9 T9 D9 H
    show zj _ _ _ _ _ [(2, l0), (0, l1), (0, x6), (9, 0)] [] _ _ _
    refine zr_iconst rfl ?_
    refine zr_istore_n rfl rfl ?_
    show zj _ _ _ _ _ [(2, l0), (0, l1), (0, x6), (0, 0)] [] _ _ _
    exact H
  · replace H := H.2 hc
    exact H.elim
theorem e10 {E : List (List Int)} {d : Nat} {T : zT} {D : zD} {Q : Int → zT → zD → Prop}  (l0 : Int) (l1 : Int) 
  (H : 0 < d ∧ zc E (d - 1) 1 11 [(0, l1)] T D (fun x2 T2 D2 => zin x2 ∧ ((x2 ≠ 0 → zob T2 l0 7 11 ∧ zk T2 (D2 l0 0) = 1 ∧ zc E (d - 1) 1 12 [(2, (D2 l0 0))] T2 D2 (fun x6 T6 D6 => zob T6 l0 7 11 ∧ zk T6 (D6 l0 0) = 1 ∧ zc E (d - 1) 0 2 [(2, (D6 l0 0)), (0, l1)] T6 D6 (fun x9 T9 D9 => zj E d 1 10 35 [(2, l0), (0, l1), (0, x6), (0, 0)] [] T9 D9 Q))) ∧ (x2 = 0 → False)))) :
  zc E d 1 10 [(2, l0), (0, l1)] T D Q :=
  zc_of (ls := [(2, l0), (0, l1), (9, 0), (9, 0)]) (fun _ => rfl) (z10_0  l0 l1 H)
theorem z10_35 {E : List (List Int)} {d : Nat} {T : zT} {D : zD} {Q : Int → zT → zD → Prop}  (l0 : Int) (l1 : Int) (l2 : Int) (l3 : Int) 
  (H : zob T l0 7 11 ∧ zk T (D l0 1) = 52 ∧ zin l3 ∧ zin (zn T (D l0 1)) ∧ ((l3 ≥ (zn T (D l0 1)) → 0 < d ∧ zk T (D l0 5) = 2 ∧ zc E (d - 1) 0 14 [(2, (D l0 5))] T D (fun x7 T7 D7 => zob T7 l0 7 11 ∧ zk T7 (D7 l0 7) = 5 ∧ zc E (d - 1) 0 15 [(2, (D7 l0 7))] T7 D7 (fun x10 T10 D10 => Q l2 T10 D10))) ∧ (l3 < (zn T (D l0 1)) → zar T (D l0 1) 52 l3 ∧ -1 ≤ D (D l0 1) l3 ∧ 0 < d ∧ zk T (D (D l0 1) l3) = 3 ∧ zc E (d - 1) 0 13 [(2, (D (D l0 1) l3))] T D (fun x15 T15 D15 => zj E d 1 10 35 [(2, l0), (0, l1), (0, l2), (0, l3 + 1)] [] T15 D15 Q)))) :
  zj E d 1 10 35 [(2, l0), (0, l1), (0, l2), (0, l3)] [] T D Q := by
  refine zr_iload_n rfl rfl ?_
  refine zr_aload_n rfl rfl ?_
  obtain ⟨h1, H⟩ := H
  refine zr_getfield (n := 11) rfl h1 (by decide) rfl (by decide) ?_
  obtain ⟨h2, H⟩ := H
  refine zr_arraylength rfl (Or.inr h2) ?_
  obtain ⟨h3, H⟩ := H
  obtain ⟨h4, H⟩ := H
  refine zr_icmp_ge rfl h3 h4 (fun hc => ?_) (fun hc => ?_)
  · replace H := H.1 hc
    refine zr_aload_n rfl rfl ?_
    refine zr_getfield (n := 11) rfl h1 (by decide) rfl (by decide) ?_
    obtain ⟨h5, H⟩ := H
    obtain ⟨h6, H⟩ := H
    refine zr_invokevirtual (rt2 := 0) rfl rfl rfl rfl rfl h6 (by decide) h5 (zc_mono H ?_)
    intro x7 T7 D7 H
    show zj _ _ _ _ _ [(2, l0), (0, l1), (0, l2), (0, l3)] [] _ _ _
    refine zr_aload_n rfl rfl ?_
    obtain ⟨h8, H⟩ := H
    refine zr_getfield (n := 11) rfl h8 (by decide) rfl (by decide) ?_
    obtain ⟨h9, H⟩ := H
    refine zr_invokevirtual (rt2 := 0) rfl rfl rfl rfl rfl h9 (by decide) h5 (zc_mono H ?_)
    intro x10 T10 D10 H
    show zj _ _ _ _ _ [(2, l0), (0, l1), (0, l2), (0, l3)] [] _ _ _
    refine zr_iload_n rfl rfl ?_
    exact zr_ireturn rfl rfl rfl H
  · replace H := H.2 hc
    refine zr_aload_n rfl rfl ?_
    refine zr_getfield (n := 11) rfl h1 (by decide) rfl (by decide) ?_
    refine zr_iload_n rfl rfl ?_
    obtain ⟨h11, H⟩ := H
    obtain ⟨h12, H⟩ := H
    refine zr_aaload rfl h11 h12 ?_
    obtain ⟨h13, H⟩ := H
    obtain ⟨h14, H⟩ := H
    refine zr_invokevirtual (rt2 := 0) rfl rfl rfl rfl rfl h14 (by decide) h13 (zc_mono H ?_)
    intro x15 T15 D15 H
    show zj _ _ _ _ _ [(2, l0), (0, l1), (0, l2), (0, l3)] [] _ _ _
    refine zr_iinc rfl rfl rfl ?_
    show zj _ _ _ _ _ [(2, l0), (0, l1), (0, l2), (0, l3 + 1)] [] _ _ _
    refine zr_goto rfl ?_
    exact H
theorem z11_0 {E : List (List Int)} {d : Nat} {T : zT} {D : zD} {Q : Int → zT → zD → Prop}  (l0 : Int) 
  (H : zin l0 ∧ ((l0 < 2 → Q 0 T D) ∧ (l0 ≥ 2 → ((l0 ≤ 97 → zj E d 1 11 15 [(0, l0), (0, 2)] [] T D Q) ∧ (l0 > 97 → Q 0 T D))))) :
  zj E d 1 11 0 [(0, l0), (9, 0)] [] T D Q := by
  refine zr_iload_n rfl rfl ?_
  refine zr_iconst rfl ?_
  obtain ⟨h1, H⟩ := H
  refine zr_icmp_lt rfl h1 (zin_c (by decide)) (fun hc => ?_) (fun hc => ?_)
  · replace H := H.1 hc
    refine zr_iconst rfl ?_
    exact zr_ireturn rfl rfl rfl H
  · replace H := H.2 hc
    refine zr_iload_n rfl rfl ?_
    refine zr_bipush rfl ?_
    refine zr_icmp_le rfl h1 (zin_c (by decide)) (fun hc => ?_) (fun hc => ?_)
    · replace H := H.1 hc
      refine zr_iconst rfl ?_
      refine zr_istore_n rfl rfl ?_
      show zj _ _ _ _ _ [(0, l0), (0, 2)] [] _ _ _
      exact H
    · replace H := H.2 hc
      refine zr_iconst rfl ?_
      exact zr_ireturn rfl rfl rfl H
theorem e11 {E : List (List Int)} {d : Nat} {T : zT} {D : zD} {Q : Int → zT → zD → Prop}  (l0 : Int) 
  (H : zin l0 ∧ ((l0 < 2 → Q 0 T D) ∧ (l0 ≥ 2 → ((l0 ≤ 97 → zj E d 1 11 15 [(0, l0), (0, 2)] [] T D Q) ∧ (l0 > 97 → Q 0 T D))))) :
  zc E d 1 11 [(0, l0)] T D Q :=
  zc_of (ls := [(0, l0), (9, 0)]) (fun _ => rfl) (z11_0  l0 H)
theorem z11_15 {E : List (List Int)} {d : Nat} {T : zT} {D : zD} {Q : Int → zT → zD → Prop}  (l0 : Int) (l1 : Int) 
  (H : zin l1 ∧ zin l0 ∧ ((l1 ≥ l0 → Q 1 T D) ∧ (l1 < l0 → 0 < l1 ∧ l1 ≤ 2147483647 ∧ zin (l0.tmod l1) ∧ (((l0.tmod l1) ≠ 0 → zj E d 1 11 15 [(0, l0), (0, l1 + 1)] [] T D Q) ∧ ((l0.tmod l1) = 0 → Q 0 T D))))) :
  zj E d 1 11 15 [(0, l0), (0, l1)] [] T D Q := by
  refine zr_iload_n rfl rfl ?_
  refine zr_iload_n rfl rfl ?_
  obtain ⟨h1, H⟩ := H
  obtain ⟨h2, H⟩ := H
  refine zr_icmp_ge rfl h1 h2 (fun hc => ?_) (fun hc => ?_)
  · replace H := H.1 hc
    refine zr_iconst rfl ?_
    exact zr_ireturn rfl rfl rfl H
  · replace H := H.2 hc
    refine zr_iload_n rfl rfl ?_
    refine zr_iload_n rfl rfl ?_
    obtain ⟨h3, H⟩ := H
    obtain ⟨h4, H⟩ := H
    refine zr_irem rfl h2 h3 h4 ?_
    obtain ⟨h5, H⟩ := H
    refine zr_if_ne rfl h5 (fun hc => ?_) (fun hc => ?_)
    · replace H := H.1 hc
      refine zr_iinc rfl rfl rfl ?_
      show zj _ _ _ _ _ [(0, l0), (0, l1 + 1)] [] _ _ _
      refine zr_goto rfl ?_
      exact H
    · replace H := H.2 hc
      refine zr_iconst rfl ?_
      exact zr_ireturn rfl rfl rfl H
theorem z12_0 {E : List (List Int)} {d : Nat} {T : zT} {D : zD} {Q : Int → zT → zD → Prop}  (l0 : Int) 
  (H : zob T l0 1 2 ∧ Q (D l0 0) T D) :
  zj E d 1 12 0 [(2, l0)] [] T D Q := by
  refine zr_aload_n rfl rfl ?_
  obtain ⟨h1, H⟩ := H
  refine zr_getfield (n := 2) rfl h1 (by decide) rfl (by decide) ?_
  exact zr_ireturn rfl rfl rfl H
theorem e12 {E : List (List Int)} {d : Nat} {T : zT} {D : zD} {Q : Int → zT → zD → Prop}  (l0 : Int) 
  (H : zob T l0 1 2 ∧ Q (D l0 0) T D) :
  zc E d 1 12 [(2, l0)] T D Q :=
  zc_of (ls := [(2, l0)]) (fun _ => rfl) (z12_0  l0 H)
theorem z13_0 {E : List (List Int)} {d : Nat} {T : zT} {D : zD} {Q : Int → zT → zD → Prop}  (l0 : Int) 
  (H : zj E d 0 13 2 [(2, l0), (0, 0)] [] T D Q) :
  zj E d 0 13 0 [(2, l0), (9, 0)] [] T D Q := by
  refine zr_iconst rfl ?_
  refine zr_istore_n rfl rfl ?_
  show zj _ _ _ _ _ [(2, l0), (0, 0)] [] _ _ _
  exact H
theorem e13 {E : List (List Int)} {d : Nat} {T : zT} {D : zD} {Q : Int → zT → zD → Prop}  (l0 : Int) 
  (H : zj E d 0 13 2 [(2, l0), (0, 0)] [] T D Q) :
  zc E d 0 13 [(2, l0)] T D Q :=
  zc_of (ls := [(2, l0), (9, 0)]) (fun _ => rfl) (z13_0  l0 H)
theorem z13_2 {E : List (List Int)} {d : Nat} {T : zT} {D : zD} {Q : Int → zT → zD → Prop}  (l0 : Int) (l1 : Int) 
  (H : zob T l0 3 3 ∧ zk T (D l0 1) = 50 ∧ zin l1 ∧ zin (zn T (D l0 1)) ∧ ((l1 ≥ (zn T (D l0 1)) → Q 0 T (zu D l0 2 (-1))) ∧ (l1 < (zn T (D l0 1)) → zar T (D l0 1) 50 l1 ∧ zj E d 0 13 2 [(2, l0), (0, l1 + 1)] [] T (zu D (D l0 1) l1 0) Q))) :
  zj E d 0 13 2 [(2, l0), (0, l1)] [] T D Q := by
  refine zr_iload_n rfl rfl ?_
  refine zr_aload_n rfl rfl ?_
  obtain ⟨h1, H⟩ := H
  refine zr_getfield (n := 3) rfl h1 (by decide) rfl (by decide) ?_
  obtain ⟨h2, H⟩ := H
  refine zr_arraylength rfl (Or.inl h2) ?_
  obtain ⟨h3, H⟩ := H
  obtain ⟨h4, H⟩ := H
  refine zr_icmp_ge rfl h3 h4 (fun hc => ?_) (fun hc => ?_)
  · replace H := H.1 hc
    refine zr_aload_n rfl rfl ?_
    refine zr_iconst rfl ?_
    refine zr_putfield (n := 3) (t := 0) rfl h1 (by decide) rfl (by decide) rfl ?_
    exact zr_return rfl rfl rfl H
  · replace H := H.2 hc
    refine zr_aload_n rfl rfl ?_
    refine zr_getfield (n := 3) rfl h1 (by decide) rfl (by decide) ?_
    refine zr_iload_n rfl rfl ?_
    refine zr_iconst rfl ?_
    obtain ⟨h5, H⟩ := H
    refine zr_iastore rfl h5 ?_
    refine zr_iinc rfl rfl rfl ?_
    show zj _ _ _ _ _ [(2, l0), (0, l1 + 1)] [] _ _ _
    refine zr_goto rfl ?_
    exact H
theorem z14_0 {E : List (List Int)} {d : Nat} {T : zT} {D : zD} {Q : Int → zT → zD → Prop}  (l0 : Int) 
  (H : zob T l0 2 3 ∧ 0 < d ∧ zc E (d - 1) 0 7 [(2, (D l0 1)), (0, (-1))] T D (fun x3 T3 D3 => zob T3 l0 2 3 ∧ Q 0 T3 (zu D3 l0 2 0))) :
  zj E d 0 14 0 [(2, l0)] [] T D Q := by
  refine zr_aload_n rfl rfl ?_
  obtain ⟨h1, H⟩ := H
  refine zr_getfield (n := 3) rfl h1 (by decide) rfl (by decide) ?_
  refine zr_iconst rfl ?_
  obtain ⟨h2, H⟩ := H
  refine zr_invokestatic (rt2 := 0) rfl rfl rfl rfl rfl h2 (zc_mono H ?_)
  intro x3 T3 D3 H
  show zj _ _ _ _ _ [(2, l0)] [] _ _ _
  refine zr_aload_n rfl rfl ?_
  refine zr_iconst rfl ?_
  obtain ⟨h4, H⟩ := H
  refine zr_putfield (n := 3) (t := 0) rfl h4 (by decide) rfl (by decide) rfl ?_
  exact zr_return rfl rfl rfl H
theorem e14 {E : List (List Int)} {d : Nat} {T : zT} {D : zD} {Q : Int → zT → zD → Prop}  (l0 : Int) 
  (H : zob T l0 2 3 ∧ 0 < d ∧ zc E (d - 1) 0 7 [(2, (D l0 1)), (0, (-1))] T D (fun x3 T3 D3 => zob T3 l0 2 3 ∧ Q 0 T3 (zu D3 l0 2 0))) :
  zc E d 0 14 [(2, l0)] T D Q :=
  zc_of (ls := [(2, l0)]) (fun _ => rfl) (z14_0  l0 H)
theorem z15_0 {E : List (List Int)} {d : Nat} {T : zT} {D : zD} {Q : Int → zT → zD → Prop}  (l0 : Int) 
  (H : zob T l0 5 12 ∧ Q 0 T (zu D l0 4 0)) :
  zj E d 0 15 0 [(2, l0)] [] T D Q := by
  refine zr_aload_n rfl rfl ?_
  refine zr_iconst rfl ?_
  obtain ⟨h1, H⟩ := H
  refine zr_putfield (n := 12) (t := 0) rfl h1 (by decide) rfl (by decide) rfl ?_
  exact zr_return rfl rfl rfl H
theorem e15 {E : List (List Int)} {d : Nat} {T : zT} {D : zD} {Q : Int → zT → zD → Prop}  (l0 : Int) 
  (H : zob T l0 5 12 ∧ Q 0 T (zu D l0 4 0)) :
  zc E d 0 15 [(2, l0)] T D Q :=
  zc_of (ls := [(2, l0)]) (fun _ => rfl) (z15_0  l0 H)
theorem z16_0 {E : List (List Int)} {d : Nat} {T : zT} {D : zD} {Q : Int → zT → zD → Prop}  (l0 : Int) (l1 : Int) (l2 : Int) 
  (H : 0 < d ∧ zk T l0 = 7 ∧ zc E (d - 1) 2 17 [(2, l0), (0, l1)] T D (fun x3 T3 D3 => zc E (d - 1) 0 18 [(0, l2)] T3 D3 (fun x4 T4 D4 => zk T4 x3 = 3 ∧ zc E (d - 1) 1 19 [(2, x3), (0, l2)] T4 D4 (fun x6 T6 D6 => Q x6 T6 D6)))) :
  zj E d 1 16 0 [(2, l0), (0, l1), (0, l2), (9, 0)] [] T D Q := by
  refine zr_aload_n rfl rfl ?_
  refine zr_iload_n rfl rfl ?_
  obtain ⟨h1, H⟩ := H
  obtain ⟨h2, H⟩ := H
  refine zr_invokevirtual (rt2 := 2) rfl rfl rfl rfl rfl h2 (by decide) h1 (zc_mono H ?_)
  intro x3 T3 D3 H
  show zj _ _ _ _ _ [(2, l0), (0, l1), (0, l2), (9, 0)] [(2, x3)] _ _ _
  refine zr_astore_n rfl rfl ?_
  show zj _ _ _ _ _ [(2, l0), (0, l1), (0, l2), (2, x3)] [] _ _ _
  refine zr_iload_n rfl rfl ?_
  refine zr_invokestatic (rt2 := 0) rfl rfl rfl rfl rfl h1 (zc_mono H ?_)
  intro x4 T4 D4 H
  show zj _ _ _ _ _ [(2, l0), (0, l1), (0, l2), (2, x3)] [] _ _ _
  refine zr_aload_n rfl rfl ?_
  refine zr_iload_n rfl rfl ?_
  obtain ⟨h5, H⟩ := H
  refine zr_invokevirtual (rt2 := 1) rfl rfl rfl rfl rfl h5 (by decide) h1 (zc_mono H ?_)
  intro x6 T6 D6 H
  show zj _ _ _ _ _ [(2, l0), (0, l1), (0, l2), (2, x3)] [(0, x6)] _ _ _
  exact zr_ireturn rfl rfl rfl H
theorem e16 {E : List (List Int)} {d : Nat} {T : zT} {D : zD} {Q : Int → zT → zD → Prop}  (l0 : Int) (l1 : Int) (l2 : Int) 
  (H : 0 < d ∧ zk T l0 = 7 ∧ zc E (d - 1) 2 17 [(2, l0), (0, l1)] T D (fun x3 T3 D3 => zc E (d - 1) 0 18 [(0, l2)] T3 D3 (fun x4 T4 D4 => zk T4 x3 = 3 ∧ zc E (d - 1) 1 19 [(2, x3), (0, l2)] T4 D4 (fun x6 T6 D6 => Q x6 T6 D6)))) :
  zc E d 1 16 [(2, l0), (0, l1), (0, l2)] T D Q :=
  zc_of (ls := [(2, l0), (0, l1), (0, l2), (9, 0)]) (fun _ => rfl) (z16_0  l0 l1 l2 H)
theorem z17_0 {E : List (List Int)} {d : Nat} {T : zT} {D : zD} {Q : Int → zT → zD → Prop}  (l0 : Int) (l1 : Int) 
  (H : zin l1 ∧ ((l1 < 0 → False) ∧ (l1 ≥ 0 → zob T l0 7 11 ∧ zk T (D l0 1) = 52 ∧ zin (zn T (D l0 1)) ∧ ((l1 < (zn T (D l0 1)) → zar T (D l0 1) 52 l1 ∧ -1 ≤ D (D l0 1) l1 ∧ -1 ≤ (D (D l0 1) l1) ∧ Q (D (D l0 1) l1) T D) ∧ (l1 ≥ (zn T (D l0 1)) → False))))) :
  zj E d 2 17 0 [(2, l0), (0, l1)] [] T D Q := by
  refine zr_iload_n rfl rfl ?_
  obtain ⟨h1, H⟩ := H
  refine zr_if_lt rfl h1 (fun hc => ?_) (fun hc => ?_)
  · replace H := H.1 hc
    exact H.elim
  · replace H := H.2 hc
    refine zr_iload_n rfl rfl ?_
    refine zr_aload_n rfl rfl ?_
    obtain ⟨h2, H⟩ := H
    refine zr_getfield (n := 11) rfl h2 (by decide) rfl (by decide) ?_
    obtain ⟨h3, H⟩ := H
    refine zr_arraylength rfl (Or.inr h3) ?_
    obtain ⟨h4, H⟩ := H
    refine zr_icmp_lt rfl h1 h4 (fun hc => ?_) (fun hc => ?_)
    · replace H := H.1 hc
      refine zr_aload_n rfl rfl ?_
      refine zr_getfield (n := 11) rfl h2 (by decide) rfl (by decide) ?_
      refine zr_iload_n rfl rfl ?_
      obtain ⟨h5, H⟩ := H
      obtain ⟨h6, H⟩ := H
      refine zr_aaload rfl h5 h6 ?_
      obtain ⟨h7, H⟩ := H
      exact zr_areturn rfl rfl rfl h7 H
    · replace H := H.2 hc
      exact H.elim
theorem e17 {E : List (List Int)} {d : Nat} {T : zT} {D : zD} {Q : Int → zT → zD → Prop}  (l0 : Int) (l1 : Int) 
  (H : zin l1 ∧ ((l1 < 0 → False) ∧ (l1 ≥ 0 → zob T l0 7 11 ∧ zk T (D l0 1) = 52 ∧ zin (zn T (D l0 1)) ∧ ((l1 < (zn T (D l0 1)) → zar T (D l0 1) 52 l1 ∧ -1 ≤ D (D l0 1) l1 ∧ -1 ≤ (D (D l0 1) l1) ∧ Q (D (D l0 1) l1) T D) ∧ (l1 ≥ (zn T (D l0 1)) → False))))) :
  zc E d 2 17 [(2, l0), (0, l1)] T D Q :=
  zc_of (ls := [(2, l0), (0, l1)]) (fun _ => rfl) (z17_0  l0 l1 H)
theorem z18_0 {E : List (List Int)} {d : Nat} {T : zT} {D : zD} {Q : Int → zT → zD → Prop}  (l0 : Int) 
  (H : zin l0 ∧ ((l0 < 0 → False) ∧ (l0 ≥ 0 → ((l0 ≤ 24 → Q 0 T D) ∧ (l0 > 24 → False))))) :
  zj E d 0 18 0 [(0, l0)] [] T D Q := by
  refine zr_iload_n rfl rfl ?_
  obtain ⟨h1, H⟩ := H
  refine zr_if_lt rfl h1 (fun hc => ?_) (fun hc => ?_)
  · replace H := H.1 hc
    exact H.elim
  · replace H := H.2 hc
    refine zr_iload_n rfl rfl ?_
    refine zr_bipush rfl ?_
    refine zr_icmp_le rfl h1 (zin_c (by decide)) (fun hc => ?_) (fun hc => ?_)
    · replace H := H.1 hc
      exact zr_return rfl rfl rfl H
    · replace H := H.2 hc
      exact H.elim
theorem e18 {E : List (List Int)} {d : Nat} {T : zT} {D : zD} {Q : Int → zT → zD → Prop}  (l0 : Int) 
  (H : zin l0 ∧ ((l0 < 0 → False) ∧ (l0 ≥ 0 → ((l0 ≤ 24 → Q 0 T D) ∧ (l0 > 24 → False))))) :
  zc E d 0 18 [(0, l0)] T D Q :=
  zc_of (ls := [(0, l0)]) (fun _ => rfl) (z18_0  l0 H)
theorem z19_0 {E : List (List Int)} {d : Nat} {T : zT} {D : zD} {Q : Int → zT → zD → Prop}  (l0 : Int) (l1 : Int) 
  (H : zin l1 ∧ ((l1 < 0 → Q 0 T D) ∧ (l1 ≥ 0 → zob T l0 3 3 ∧ zk T (D l0 1) = 50 ∧ zin (zn T (D l0 1)) ∧ ((l1 < (zn T (D l0 1)) → zar T (D l0 1) 50 l1 ∧ Q (D (D l0 1) l1) T D) ∧ (l1 ≥ (zn T (D l0 1)) → Q 0 T D))))) :
  zj E d 1 19 0 [(2, l0), (0, l1)] [] T D Q := by
  refine zr_iload_n rfl rfl ?_
  obtain ⟨h1, H⟩ := H
  refine zr_if_lt rfl h1 (fun hc => ?_) (fun hc => ?_)
  · replace H := H.1 hc
    refine zr_iconst rfl ?_
    refine zr_goto rfl ?_
    exact zr_ireturn rfl rfl rfl H
  · replace H := H.2 hc
    refine zr_iload_n rfl rfl ?_
    refine zr_aload_n rfl rfl ?_
    obtain ⟨h2, H⟩ := H
    refine zr_getfield (n := 3) rfl h2 (by decide) rfl (by decide) ?_
    obtain ⟨h3, H⟩ := H
    refine zr_arraylength rfl (Or.inl h3) ?_
    obtain ⟨h4, H⟩ := H
    refine zr_icmp_lt rfl h1 h4 (fun hc => ?_) (fun hc => ?_)
    · replace H := H.1 hc
      refine zr_aload_n rfl rfl ?_
      refine zr_getfield (n := 3) rfl h2 (by decide) rfl (by decide) ?_
      refine zr_iload_n rfl rfl ?_
      obtain ⟨h5, H⟩ := H
      refine zr_iaload rfl h5 ?_
      exact zr_ireturn rfl rfl rfl H
    · replace H := H.2 hc
      refine zr_iconst rfl ?_
      refine zr_goto rfl ?_
      exact zr_ireturn rfl rfl rfl H
theorem e19 {E : List (List Int)} {d : Nat} {T : zT} {D : zD} {Q : Int → zT → zD → Prop}  (l0 : Int) (l1 : Int) 
  (H : zin l1 ∧ ((l1 < 0 → Q 0 T D) ∧ (l1 ≥ 0 → zob T l0 3 3 ∧ zk T (D l0 1) = 50 ∧ zin (zn T (D l0 1)) ∧ ((l1 < (zn T (D l0 1)) → zar T (D l0 1) 50 l1 ∧ Q (D (D l0 1) l1) T D) ∧ (l1 ≥ (zn T (D l0 1)) → Q 0 T D))))) :
  zc E d 1 19 [(2, l0), (0, l1)] T D Q :=
  zc_of (ls := [(2, l0), (0, l1)]) (fun _ => rfl) (z19_0  l0 l1 H)
theorem z20_0 {E : List (List Int)} {d : Nat} {T : zT} {D : zD} {Q : Int → zT → zD → Prop}  (l0 : Int) (l1 : Int) 
  (H : 0 < d ∧ zk T l0 = 7 ∧ zc E (d - 1) 2 17 [(2, l0), (0, l1)] T D (fun x3 T3 D3 => zk T3 x3 = 3 ∧ zc E (d - 1) 1 21 [(2, x3)] T3 D3 (fun x5 T5 D5 => Q x5 T5 D5))) :
  zj E d 1 20 0 [(2, l0), (0, l1)] [] T D Q := by
  refine zr_aload_n rfl rfl ?_
  refine zr_iload_n rfl rfl ?_
  obtain ⟨h1, H⟩ := H
  obtain ⟨h2, H⟩ := H
  refine zr_invokevirtual (rt2 := 2) rfl rfl rfl rfl rfl h2 (by decide) h1 (zc_mono H ?_)
  intro x3 T3 D3 H
  show zj _ _ _ _ _ [(2, l0), (0, l1)] [(2, x3)] _ _ _
  obtain ⟨h4, H⟩ := H
  refine zr_invokevirtual (rt2 := 1) rfl rfl rfl rfl rfl h4 (by decide) h1 (zc_mono H ?_)
  intro x5 T5 D5 H
  show zj _ _ _ _ _ [(2, l0), (0, l1)] [(0, x5)] _ _ _
  exact zr_ireturn rfl rfl rfl H
theorem e20 {E : List (List Int)} {d : Nat} {T : zT} {D : zD} {Q : Int → zT → zD → Prop}  (l0 : Int) (l1 : Int) 
  (H : 0 < d ∧ zk T l0 = 7 ∧ zc E (d - 1) 2 17 [(2, l0), (0, l1)] T D (fun x3 T3 D3 => zk T3 x3 = 3 ∧ zc E (d - 1) 1 21 [(2, x3)] T3 D3 (fun x5 T5 D5 => Q x5 T5 D5))) :
  zc E d 1 20 [(2, l0), (0, l1)] T D Q :=
  zc_of (ls := [(2, l0), (0, l1)]) (fun _ => rfl) (z20_0  l0 l1 H)
theorem z21_0 {E : List (List Int)} {d : Nat} {T : zT} {D : zD} {Q : Int → zT → zD → Prop}  (l0 : Int) 
  (H : zob T l0 3 3 ∧ Q (D l0 2) T D) :
  zj E d 1 21 0 [(2, l0)] [] T D Q := by
  refine zr_aload_n rfl rfl ?_
  obtain ⟨h1, H⟩ := H
  refine zr_getfield (n := 3) rfl h1 (by decide) rfl (by decide) ?_
  exact zr_ireturn rfl rfl rfl H
theorem e21 {E : List (List Int)} {d : Nat} {T : zT} {D : zD} {Q : Int → zT → zD → Prop}  (l0 : Int) 
  (H : zob T l0 3 3 ∧ Q (D l0 2) T D) :
  zc E d 1 21 [(2, l0)] T D Q :=
  zc_of (ls := [(2, l0)]) (fun _ => rfl) (z21_0  l0 H)
theorem z22_0 {E : List (List Int)} {d : Nat} {T : zT} {D : zD} {Q : Int → zT → zD → Prop}  (l0 : Int) (l1 : Int) (l2 : Int) (l3 : Int) (l4 : Int) 
  (H : zin l1 ∧ ((l1 < 0 → False) ∧ (l1 ≥ 0 → ((l1 < 7 → 0 < d ∧ zk T l0 = 7 ∧ zc E (d - 1) 2 17 [(2, l0), (0, l2)] T D (fun x4 T4 D4 => zk T4 l0 = 7 ∧ zc E (d - 1) 2 17 [(2, l0), (0, l3)] T4 D4 (fun x6 T6 D6 => zk T6 l0 = 7 ∧ zc E (d - 1) 2 17 [(2, l0), (0, l4)] T6 D6 (fun x8 T8 D8 => zk T8 x4 = 3 ∧ zc E (d - 1) 1 21 [(2, x4)] T8 D8 (fun x10 T10 D10 => zk T10 x6 = 3 ∧ zc E (d - 1) 1 21 [(2, x6)] T10 D10 (fun x12 T12 D12 => zc E (d - 1) 1 23 [(0, l1), (0, x10), (0, x12)] T12 D12 (fun x13 T13 D13 => zin x13 ∧ ((x13 = 0 → zk T13 l0 = 7 ∧ zc E (d - 1) 0 24 [(2, l0), (0, l1), (2, x4), (2, x6)] T13 D13 (fun x16 T16 D16 => zob T16 l0 7 11 ∧ zk T16 x8 = 3 ∧ zc E (d - 1) 0 25 [(2, x8), (2, (D16 l0 8))] T16 D16 (fun x19 T19 D19 => zk T19 x8 = 3 ∧ zc E (d - 1) 1 21 [(2, x8)] T19 D19 (fun x21 T21 D21 => Q x21 T21 D21)))) ∧ (x13 ≠ 0 → False))))))))) ∧ (l1 ≥ 7 → False))))) :
  zj E d 1 22 0 [(2, l0), (0, l1), (0, l2), (0, l3), (0, l4), (9, 0), (9, 0), (9, 0)] [] T D Q := by
  refine zr_iload_n rfl rfl ?_
  obtain ⟨h1, H⟩ := H
  refine zr_if_lt rfl h1 (fun hc => ?_) (fun hc => ?_)
  · replace H := H.1 hc
    exact H.elim
  · replace H := H.2 hc
    refine zr_iload_n rfl rfl ?_
    refine zr_bipush rfl ?_
    refine zr_icmp_lt rfl h1 (zin_c (by decide)) (fun hc => ?_) (fun hc => ?_)
    · replace H := H.1 hc
      refine zr_aload_n rfl rfl ?_
      refine zr_iload_n rfl rfl ?_
      obtain ⟨h2, H⟩ := H
      obtain ⟨h3, H⟩ := H
      refine zr_invokevirtual (rt2 := 2) rfl rfl rfl rfl rfl h3 (by decide) h2 (zc_mono H ?_)
      intro x4 T4 D4 H
      show zj _ _ _ _ _ [(2, l0), (0, l1), (0, l2), (0, l3), (0, l4), (9, 0), (9, 0), (9, 0)] [(2, x4)] _ _ _
      refine zr_astore rfl rfl ?_
      show zj _ _ _ _ _ [(2, l0), (0, l1), (0, l2), (0, l3), (0, l4), (2, x4), (9, 0), (9, 0)] [] _ _ _
      refine zr_aload_n rfl rfl ?_
      refine zr_iload_n rfl rfl ?_
      obtain ⟨h5, H⟩ := H
      refine zr_invokevirtual (rt2 := 2) rfl rfl rfl rfl rfl h5 (by decide) h2 (zc_mono H ?_)
      intro x6 T6 D6 H
      show zj _ _ _ _ _ [(2, l0), (0, l1), (0, l2), (0, l3), (0, l4), (2, x4), (9, 0), (9, 0)] [(2, x6)] _ _ _
      refine zr_astore rfl rfl ?_
      show zj _ _ _ _ _ [(2, l0), (0, l1), (0, l2), (0, l3), (0, l4), (2, x4), (2, x6), (9, 0)] [] _ _ _
      refine zr_aload_n rfl rfl ?_
      refine zr_iload rfl rfl ?_
      obtain ⟨h7, H⟩ := H
      refine zr_invokevirtual (rt2 := 2) rfl rfl rfl rfl rfl h7 (by decide) h2 (zc_mono H ?_)
      intro x8 T8 D8 H
      show zj _ _ _ _ _ [(2, l0), (0, l1), (0, l2), (0, l3), (0, l4), (2, x4), (2, x6), (9, 0)] [(2, x8)] _ _ _
      refine zr_astore rfl rfl ?_
      show zj _ _ _ _ _ [(2, l0), (0, l1), (0, l2), (0, l3), (0, l4), (2, x4), (2, x6), (2, x8)] [] _ _ _
      refine zr_iload_n rfl rfl ?_
      refine zr_aload rfl rfl ?_
      obtain ⟨h9, H⟩ := H
      refine zr_invokevirtual (rt2 := 1) rfl rfl rfl rfl rfl h9 (by decide) h2 (zc_mono H ?_)
      intro x10 T10 D10 H
      show zj _ _ _ _ _ [(2, l0), (0, l1), (0, l2), (0, l3), (0, l4), (2, x4), (2, x6), (2, x8)] [(0, x10), (0, l1)] _ _ _
      refine zr_aload rfl rfl ?_
      obtain ⟨h11, H⟩ := H
      refine zr_invokevirtual (rt2 := 1) rfl rfl rfl rfl rfl h11 (by decide) h2 (zc_mono H ?_)
      intro x12 T12 D12 H
      show zj _ _ _ _ _ [(2, l0), (0, l1), (0, l2), (0, l3), (0, l4), (2, x4), (2, x6), (2, x8)] [(0, x12), (0, x10), (0, l1)] _ _ _
      refine zr_invokestatic (rt2 := 1) rfl rfl rfl rfl rfl h2 (zc_mono H ?_)
      intro x13 T13 D13 H
      show zj _ _ _ _ _ [(2, l0), (0, l1), (0, l2), (0, l3), (0, l4), (2, x4), (2, x6), (2, x8)] [(0, x13)] _ _ _
      obtain ⟨h14, H⟩ := H
      refine zr_if_eq rfl h14 (fun hc => ?_) (fun hc => ?_)
      · replace H := H.1 hc
        refine zr_aload_n rfl rfl ?_
        refine zr_iload_n rfl rfl ?_
        refine zr_aload rfl rfl ?_
        refine zr_aload rfl rfl ?_
        obtain ⟨h15, H⟩ := H
        refine zr_invokevirtual (rt2 := 0) rfl rfl rfl rfl rfl h15 (by decide) h2 (zc_mono H ?_)
        intro x16 T16 D16 H
        show zj _ _ _ _ _ [(2, l0), (0, l1), (0, l2), (0, l3), (0, l4), (2, x4), (2, x6), (2, x8)] [] _ _ _
        refine zr_aload rfl rfl ?_
        refine zr_aload_n rfl rfl ?_
        obtain ⟨h17, H⟩ := H
        refine zr_getfield (n := 11) rfl h17 (by decide) rfl (by decide) ?_
        obtain ⟨h18, H⟩ := H
        refine zr_invokevirtual (rt2 := 0) rfl rfl rfl rfl rfl h18 (by decide) h2 (zc_mono H ?_)
        intro x19 T19 D19 H
        show zj _ _ _ _ _ [(2, l0), (0, l1), (0, l2), (0, l3), (0, l4), (2, x4), (2, x6), (2, x8)] [] _ _ _
        refine zr_aload rfl rfl ?_
        obtain ⟨h20, H⟩ := H
        refine zr_invokevirtual (rt2 := 1) rfl rfl rfl rfl rfl h20 (by decide) h2 (zc_mono H ?_)
        intro x21 T21 D21 H
        show zj _ _ _ _ _ [(2, l0), (0, l1), (0, l2), (0, l3), (0, l4), (2, x4), (2, x6), (2, x8)] [(0, x21)] _ _ _
        exact zr_ireturn rfl rfl rfl H
      · replace H := H.2 hc
        exact H.elim
    · replace H := H.2 hc
      exact H.elim
theorem e22 {E : List (List Int)} {d : Nat} {T : zT} {D : zD} {Q : Int → zT → zD → Prop}  (l0 : Int) (l1 : Int) (l2 : Int) (l3 : Int) (l4 : Int) 
  (H : zin l1 ∧ ((l1 < 0 → False) ∧ (l1 ≥ 0 → ((l1 < 7 → 0 < d ∧ zk T l0 = 7 ∧ zc E (d - 1) 2 17 [(2, l0), (0, l2)] T D (fun x4 T4 D4 => zk T4 l0 = 7 ∧ zc E (d - 1) 2 17 [(2, l0), (0, l3)] T4 D4 (fun x6 T6 D6 => zk T6 l0 = 7 ∧ zc E (d - 1) 2 17 [(2, l0), (0, l4)] T6 D6 (fun x8 T8 D8 => zk T8 x4 = 3 ∧ zc E (d - 1) 1 21 [(2, x4)] T8 D8 (fun x10 T10 D10 => zk T10 x6 = 3 ∧ zc E (d - 1) 1 21 [(2, x6)] T10 D10 (fun x12 T12 D12 => zc E (d - 1) 1 23 [(0, l1), (0, x10), (0, x12)] T12 D12 (fun x13 T13 D13 => zin x13 ∧ ((x13 = 0 → zk T13 l0 = 7 ∧ zc E (d - 1) 0 24 [(2, l0), (0, l1), (2, x4), (2, x6)] T13 D13 (fun x16 T16 D16 => zob T16 l0 7 11 ∧ zk T16 x8 = 3 ∧ zc E (d - 1) 0 25 [(2, x8), (2, (D16 l0 8))] T16 D16 (fun x19 T19 D19 => zk T19 x8 = 3 ∧ zc E (d - 1) 1 21 [(2, x8)] T19 D19 (fun x21 T21 D21 => Q x21 T21 D21)))) ∧ (x13 ≠ 0 → False))))))))) ∧ (l1 ≥ 7 → False))))) :
  zc E d 1 22 [(2, l0), (0, l1), (0, l2), (0, l3), (0, l4)] T D Q :=
  zc_of (ls := [(2, l0), (0, l1), (0, l2), (0, l3), (0, l4), (9, 0), (9, 0), (9, 0)]) (fun _ => rfl) (z22_0  l0 l1 l2 l3 l4 H)
theorem z23_0 {E : List (List Int)} {d : Nat} {T : zT} {D : zD} {Q : Int → zT → zD → Prop}  (l0 : Int) (l1 : Int) (l2 : Int) 
  (H : zin l0 ∧ ((l0 ≠ 2 → ((l0 ≠ 3 → Q 0 T D) ∧ (l0 = 3 → zin l1 ∧ ((l1 ≤ 0 → Q 0 T D) ∧ (l1 > 0 → zin l2 ∧ ((l2 ≤ 0 → Q 0 T D) ∧ (l2 > 0 → zin (l1 * l2) ∧ (((l1 * l2) ≤ 24 → Q 0 T D) ∧ ((l1 * l2) > 24 → Q 1 T D))))))))) ∧ (l0 = 2 → zin l1 ∧ ((l1 < 0 → Q 0 T D) ∧ (l1 ≥ 0 → zin l2 ∧ ((l2 < 0 → Q 0 T D) ∧ (l2 ≥ 0 → zin (l1 + l2) ∧ (((l1 + l2) ≤ 24 → Q 0 T D) ∧ ((l1 + l2) > 24 → Q 1 T D))))))))) :
  zj E d 1 23 0 [(0, l0), (0, l1), (0, l2)] [] T D Q := by
  refine zr_iload_n rfl rfl ?_
  refine zr_iconst rfl ?_
  obtain ⟨h1, H⟩ := H
  refine zr_icmp_ne rfl h1 (zin_c (by decide)) (fun hc => ?_) (fun hc => ?_)
  · replace H := H.1 hc
    refine zr_iload_n rfl rfl ?_
    refine zr_iconst rfl ?_
    refine zr_icmp_ne rfl h1 (zin_c (by decide)) (fun hc => ?_) (fun hc => ?_)
    · replace H := H.1 hc
      refine zr_iconst rfl ?_
      exact zr_ireturn rfl rfl rfl H
    · replace H := H.2 hc
      refine zr_iload_n rfl rfl ?_
      obtain ⟨h2, H⟩ := H
      refine zr_if_le rfl h2 (fun hc => ?_) (fun hc => ?_)
      · replace H := H.1 hc
        refine zr_iconst rfl ?_
        exact zr_ireturn rfl rfl rfl H
      · replace H := H.2 hc
        refine zr_iload_n rfl rfl ?_
        obtain ⟨h3, H⟩ := H
        refine zr_if_le rfl h3 (fun hc => ?_) (fun hc => ?_)
        · replace H := H.1 hc
          refine zr_iconst rfl ?_
          exact zr_ireturn rfl rfl rfl H
        · replace H := H.2 hc
          refine zr_iload_n rfl rfl ?_
          refine zr_iload_n rfl rfl ?_
          refine zr_imul rfl ?_
          refine zr_bipush rfl ?_
          obtain ⟨h4, H⟩ := H
          refine zr_icmp_le rfl h4 (zin_c (by decide)) (fun hc => ?_) (fun hc => ?_)
          · replace H := H.1 hc
            refine zr_iconst rfl ?_
            exact zr_ireturn rfl rfl rfl H
          · replace H := H.2 hc
            refine zr_iconst rfl ?_
            refine zr_goto rfl ?_
            exact zr_ireturn rfl rfl rfl H
  · replace H := H.2 hc
    refine zr_iload_n rfl rfl ?_
    obtain ⟨h5, H⟩ := H
    refine zr_if_lt rfl h5 (fun hc => ?_) (fun hc => ?_)
    · replace H := H.1 hc
      refine zr_iconst rfl ?_
      exact zr_ireturn rfl rfl rfl H
    · replace H := H.2 hc
      refine zr_iload_n rfl rfl ?_
      obtain ⟨h6, H⟩ := H
      refine zr_if_lt rfl h6 (fun hc => ?_) (fun hc => ?_)
      · replace H := H.1 hc
        refine zr_iconst rfl ?_
        exact zr_ireturn rfl rfl rfl H
      · replace H := H.2 hc
        refine zr_iload_n rfl rfl ?_
        refine zr_iload_n rfl rfl ?_
        refine zr_iadd rfl ?_
        refine zr_bipush rfl ?_
        obtain ⟨h7, H⟩ := H
        refine zr_icmp_le rfl h7 (zin_c (by decide)) (fun hc => ?_) (fun hc => ?_)
        · replace H := H.1 hc
          refine zr_iconst rfl ?_
          exact zr_ireturn rfl rfl rfl H
        · replace H := H.2 hc
          refine zr_iconst rfl ?_
          refine zr_goto rfl ?_
          exact zr_ireturn rfl rfl rfl H
theorem e23 {E : List (List Int)} {d : Nat} {T : zT} {D : zD} {Q : Int → zT → zD → Prop}  (l0 : Int) (l1 : Int) (l2 : Int) 
  (H : zin l0 ∧ ((l0 ≠ 2 → ((l0 ≠ 3 → Q 0 T D) ∧ (l0 = 3 → zin l1 ∧ ((l1 ≤ 0 → Q 0 T D) ∧ (l1 > 0 → zin l2 ∧ ((l2 ≤ 0 → Q 0 T D) ∧ (l2 > 0 → zin (l1 * l2) ∧ (((l1 * l2) ≤ 24 → Q 0 T D) ∧ ((l1 * l2) > 24 → Q 1 T D))))))))) ∧ (l0 = 2 → zin l1 ∧ ((l1 < 0 → Q 0 T D) ∧ (l1 ≥ 0 → zin l2 ∧ ((l2 < 0 → Q 0 T D) ∧ (l2 ≥ 0 → zin (l1 + l2) ∧ (((l1 + l2) ≤ 24 → Q 0 T D) ∧ ((l1 + l2) > 24 → Q 1 T D))))))))) :
  zc E d 1 23 [(0, l0), (0, l1), (0, l2)] T D Q :=
  zc_of (ls := [(0, l0), (0, l1), (0, l2)]) (fun _ => rfl) (z23_0  l0 l1 l2 H)
theorem z24_0 {E : List (List Int)} {d : Nat} {T : zT} {D : zD} {Q : Int → zT → zD → Prop}  (l0 : Int) (l1 : Int) (l2 : Int) (l3 : Int) 
  (H : zin l1 ∧ ((l1 = 0 → zob T l0 7 11 ∧ 0 < d ∧ zk T (D l0 8) = 3 ∧ zc E (d - 1) 0 25 [(2, (D l0 8)), (2, l2)] T D (fun x5 T5 D5 => zob T5 l0 7 11 ∧ zk T5 (D5 l0 8) = 3 ∧ zc E (d - 1) 0 26 [(2, (D5 l0 8)), (2, l3), (0, 1), (0, 0)] T5 D5 (fun x8 T8 D8 => Q 0 T8 D8))) ∧ (l1 = 1 → zob T l0 7 11 ∧ 0 < d ∧ zk T (D l0 8) = 3 ∧ zc E (d - 1) 0 25 [(2, (D l0 8)), (2, l2)] T D (fun x12 T12 D12 => zob T12 l0 7 11 ∧ zk T12 (D12 l0 8) = 3 ∧ zc E (d - 1) 0 27 [(2, (D12 l0 8)), (2, l3)] T12 D12 (fun x15 T15 D15 => Q 0 T15 D15))) ∧ (l1 = 2 → zob T l0 7 11 ∧ 0 < d ∧ zk T (D l0 8) = 3 ∧ zc E (d - 1) 0 29 [(2, (D l0 8)), (2, l2), (2, l3)] T D (fun x19 T19 D19 => Q 0 T19 D19)) ∧ (l1 = 3 → 0 < d ∧ zk T l0 = 7 ∧ zc E (d - 1) 0 30 [(2, l0), (2, l2), (2, l3)] T D (fun x22 T22 D22 => Q 0 T22 D22)) ∧ (l1 = 4 → zob T l0 7 11 ∧ 0 < d ∧ zk T (D l0 6) = 0 ∧ zc E (d - 1) 0 33 [(2, (D l0 6)), (2, l2), (2, l3)] T D (fun x26 T26 D26 => zob T26 l0 7 11 ∧ zk T26 (D26 l0 6) = 0 ∧ zc E (d - 1) 2 41 [(2, (D26 l0 6))] T26 D26 (fun x29 T29 D29 => zk T29 (D26 l0 8) = 3 ∧ zc E (d - 1) 0 25 [(2, (D26 l0 8)), (2, x29)] T29 D29 (fun x31 T31 D31 => Q 0 T31 D31)))) ∧ (l1 = 5 → zob T l0 7 11 ∧ 0 < d ∧ zk T (D l0 8) = 3 ∧ zc E (d - 1) 0 42 [(2, (D l0 8)), (2, l2)] T D (fun x35 T35 D35 => Q 0 T35 D35)) ∧ (l1 < 0 ∨ 5 < l1 → zob T l0 7 11 ∧ 0 < d ∧ zk T (D l0 8) = 3 ∧ zc E (d - 1) 0 25 [(2, (D l0 8)), (2, l2)] T D (fun x39 T39 D39 => zob T39 l0 7 11 ∧ zk T39 (D39 l0 8) = 3 ∧ zc E (d - 1) 1 36 [(2, (D39 l0 8))] T39 D39 (fun x42 T42 D42 => zk T42 (D39 l0 0) = 1 ∧ zc E (d - 1) 1 37 [(2, (D39 l0 0)), (0, x42)] T42 D42 (fun x44 T44 D44 => zk T44 (D39 l0 8) = 3 ∧ zc E (d - 1) 0 40 [(2, (D39 l0 8)), (0, x44)] T44 D44 (fun x46 T46 D46 => Q 0 T46 D46))))))) :
  zj E d 0 24 0 [(2, l0), (0, l1), (2, l2), (2, l3)] [] T D Q := by
  refine zr_iload_n rfl rfl ?_
  obtain ⟨h1, H⟩ := H
  by_cases c0 : l1 = 0
  · replace H := H.1 c0
    refine zr_tsw_in (j := 0) rfl h1 c0 rfl (by decide) ?_
    refine zr_aload_n rfl rfl ?_
    obtain ⟨h2, H⟩ := H
    refine zr_getfield (n := 11) rfl h2 (by decide) rfl (by decide) ?_
    refine zr_aload_n rfl rfl ?_
    obtain ⟨h3, H⟩ := H
    obtain ⟨h4, H⟩ := H
    refine zr_invokevirtual (rt2 := 0) rfl rfl rfl rfl rfl h4 (by decide) h3 (zc_mono H ?_)
    intro x5 T5 D5 H
    show zj _ _ _ _ _ [(2, l0), (0, l1), (2, l2), (2, l3)] [] _ _ _
    refine zr_aload_n rfl rfl ?_
    obtain ⟨h6, H⟩ := H
    refine zr_getfield (n := 11) rfl h6 (by decide) rfl (by decide) ?_
    refine zr_aload_n rfl rfl ?_
    refine zr_iconst rfl ?_
    refine zr_iconst rfl ?_
    obtain ⟨h7, H⟩ := H
    refine zr_invokevirtual (rt2 := 0) rfl rfl rfl rfl rfl h7 (by decide) h3 (zc_mono H ?_)
    intro x8 T8 D8 H
    show zj _ _ _ _ _ [(2, l0), (0, l1), (2, l2), (2, l3)] [] _ _ _
    refine zr_goto rfl ?_
    exact zr_return rfl rfl rfl H
  · by_cases c1 : l1 = 1
    · replace H := H.2.1 c1
      refine zr_tsw_in (j := 1) rfl h1 c1 rfl (by decide) ?_
      refine zr_aload_n rfl rfl ?_
      obtain ⟨h9, H⟩ := H
      refine zr_getfield (n := 11) rfl h9 (by decide) rfl (by decide) ?_
      refine zr_aload_n rfl rfl ?_
      obtain ⟨h10, H⟩ := H
      obtain ⟨h11, H⟩ := H
      refine zr_invokevirtual (rt2 := 0) rfl rfl rfl rfl rfl h11 (by decide) h10 (zc_mono H ?_)
      intro x12 T12 D12 H
      show zj _ _ _ _ _ [(2, l0), (0, l1), (2, l2), (2, l3)] [] _ _ _
      refine zr_aload_n rfl rfl ?_
      obtain ⟨h13, H⟩ := H
      refine zr_getfield (n := 11) rfl h13 (by decide) rfl (by decide) ?_
      refine zr_aload_n rfl rfl ?_
      obtain ⟨h14, H⟩ := H
      refine zr_invokevirtual (rt2 := 0) rfl rfl rfl rfl rfl h14 (by decide) h10 (zc_mono H ?_)
      intro x15 T15 D15 H
      show zj _ _ _ _ _ [(2, l0), (0, l1), (2, l2), (2, l3)] [] _ _ _
      refine zr_goto rfl ?_
      exact zr_return rfl rfl rfl H
    · by_cases c2 : l1 = 2
      · replace H := H.2.2.1 c2
        refine zr_tsw_in (j := 2) rfl h1 c2 rfl (by decide) ?_
        refine zr_aload_n rfl rfl ?_
        obtain ⟨h16, H⟩ := H
        refine zr_getfield (n := 11) rfl h16 (by decide) rfl (by decide) ?_
        refine zr_aload_n rfl rfl ?_
        refine zr_aload_n rfl rfl ?_
        obtain ⟨h17, H⟩ := H
        obtain ⟨h18, H⟩ := H
        refine zr_invokevirtual (rt2 := 0) rfl rfl rfl rfl rfl h18 (by decide) h17 (zc_mono H ?_)
        intro x19 T19 D19 H
        show zj _ _ _ _ _ [(2, l0), (0, l1), (2, l2), (2, l3)] [] _ _ _
        refine zr_goto rfl ?_
        exact zr_return rfl rfl rfl H
      · by_cases c3 : l1 = 3
        · replace H := H.2.2.2.1 c3
          refine zr_tsw_in (j := 3) rfl h1 c3 rfl (by decide) ?_
          refine zr_aload_n rfl rfl ?_
          refine zr_aload_n rfl rfl ?_
          refine zr_aload_n rfl rfl ?_
          obtain ⟨h20, H⟩ := H
          obtain ⟨h21, H⟩ := H
          refine zr_invokevirtual (rt2 := 0) rfl rfl rfl rfl rfl h21 (by decide) h20 (zc_mono H ?_)
          intro x22 T22 D22 H
          show zj _ _ _ _ _ [(2, l0), (0, l1), (2, l2), (2, l3)] [] _ _ _
          refine zr_goto rfl ?_
          exact zr_return rfl rfl rfl H
        · by_cases c4 : l1 = 4
          · replace H := H.2.2.2.2.1 c4
            refine zr_tsw_in (j := 4) rfl h1 c4 rfl (by decide) ?_
            refine zr_aload_n rfl rfl ?_
            obtain ⟨h23, H⟩ := H
            refine zr_getfield (n := 11) rfl h23 (by decide) rfl (by decide) ?_
            refine zr_aload_n rfl rfl ?_
            refine zr_aload_n rfl rfl ?_
            obtain ⟨h24, H⟩ := H
            obtain ⟨h25, H⟩ := H
            refine zr_invokevirtual (rt2 := 0) rfl rfl rfl rfl rfl h25 (by decide) h24 (zc_mono H ?_)
            intro x26 T26 D26 H
            show zj _ _ _ _ _ [(2, l0), (0, l1), (2, l2), (2, l3)] [] _ _ _
            refine zr_aload_n rfl rfl ?_
            obtain ⟨h27, H⟩ := H
            refine zr_getfield (n := 11) rfl h27 (by decide) rfl (by decide) ?_
            refine zr_aload_n rfl rfl ?_
            refine zr_getfield (n := 11) rfl h27 (by decide) rfl (by decide) ?_
            obtain ⟨h28, H⟩ := H
            refine zr_invokevirtual (rt2 := 2) rfl rfl rfl rfl rfl h28 (by decide) h24 (zc_mono H ?_)
            intro x29 T29 D29 H
            show zj _ _ _ _ _ [(2, l0), (0, l1), (2, l2), (2, l3)] [(2, x29), (2, (D26 l0 8))] _ _ _
            obtain ⟨h30, H⟩ := H
            refine zr_invokevirtual (rt2 := 0) rfl rfl rfl rfl rfl h30 (by decide) h24 (zc_mono H ?_)
            intro x31 T31 D31 H
            show zj _ _ _ _ _ [(2, l0), (0, l1), (2, l2), (2, l3)] [] _ _ _
            refine zr_goto rfl ?_
            exact zr_return rfl rfl rfl H
          · by_cases c5 : l1 = 5
            · replace H := H.2.2.2.2.2.1 c5
              refine zr_tsw_in (j := 5) rfl h1 c5 rfl (by decide) ?_
              refine zr_aload_n rfl rfl ?_
              obtain ⟨h32, H⟩ := H
              refine zr_getfield (n := 11) rfl h32 (by decide) rfl (by decide) ?_
              refine zr_aload_n rfl rfl ?_
              obtain ⟨h33, H⟩ := H
              obtain ⟨h34, H⟩ := H
              refine zr_invokevirtual (rt2 := 0) rfl rfl rfl rfl rfl h34 (by decide) h33 (zc_mono H ?_)
              intro x35 T35 D35 H
              show zj _ _ _ _ _ [(2, l0), (0, l1), (2, l2), (2, l3)] [] _ _ _
              refine zr_goto rfl ?_
              exact zr_return rfl rfl rfl H
            · replace H := H.2.2.2.2.2.2 (by omega)
              refine zr_tsw_out rfl h1 (by omega) (by decide) ?_
              refine zr_aload_n rfl rfl ?_
              obtain ⟨h36, H⟩ := H
              refine zr_getfield (n := 11) rfl h36 (by decide) rfl (by decide) ?_
              refine zr_aload_n rfl rfl ?_
              obtain ⟨h37, H⟩ := H
              obtain ⟨h38, H⟩ := H
              refine zr_invokevirtual (rt2 := 0) rfl rfl rfl rfl rfl h38 (by decide) h37 (zc_mono H ?_)
              intro x39 T39 D39 H
              show zj _ _ _ _ _ [(2, l0), (0, l1), (2, l2), (2, l3)] [] _ _ _
              refine zr_aload_n rfl rfl ?_
              obtain ⟨h40, H⟩ := H
              refine zr_getfield (n := 11) rfl h40 (by decide) rfl (by decide) ?_
              refine zr_aload_n rfl rfl ?_
              refine zr_getfield (n := 11) rfl h40 (by decide) rfl (by decide) ?_
              refine zr_aload_n rfl rfl ?_
              refine zr_getfield (n := 11) rfl h40 (by decide) rfl (by decide) ?_
              obtain ⟨h41, H⟩ := H
              refine zr_invokevirtual (rt2 := 1) rfl rfl rfl rfl rfl h41 (by decide) h37 (zc_mono H ?_)
              intro x42 T42 D42 H
              show zj _ _ _ _ _ [(2, l0), (0, l1), (2, l2), (2, l3)] [(0, x42), (2, (D39 l0 0)), (2, (D39 l0 8))] _ _ _
              obtain ⟨h43, H⟩ := H
              refine zr_invokevirtual (rt2 := 1) rfl rfl rfl rfl rfl h43 (by decide) h37 (zc_mono H ?_)
              intro x44 T44 D44 H
              show zj _ _ _ _ _ [(2, l0), (0, l1), (2, l2), (2, l3)] [(0, x44), (2, (D39 l0 8))] _ _ _
              obtain ⟨h45, H⟩ := H
              refine zr_invokevirtual (rt2 := 0) rfl rfl rfl rfl rfl h45 (by decide) h37 (zc_mono H ?_)
              intro x46 T46 D46 H
              show zj _ _ _ _ _ [(2, l0), (0, l1), (2, l2), (2, l3)] [] _ _ _
              exact zr_return rfl rfl rfl H
theorem e24 {E : List (List Int)} {d : Nat} {T : zT} {D : zD} {Q : Int → zT → zD → Prop}  (l0 : Int) (l1 : Int) (l2 : Int) (l3 : Int) 
  (H : zin l1 ∧ ((l1 = 0 → zob T l0 7 11 ∧ 0 < d ∧ zk T (D l0 8) = 3 ∧ zc E (d - 1) 0 25 [(2, (D l0 8)), (2, l2)] T D (fun x5 T5 D5 => zob T5 l0 7 11 ∧ zk T5 (D5 l0 8) = 3 ∧ zc E (d - 1) 0 26 [(2, (D5 l0 8)), (2, l3), (0, 1), (0, 0)] T5 D5 (fun x8 T8 D8 => Q 0 T8 D8))) ∧ (l1 = 1 → zob T l0 7 11 ∧ 0 < d ∧ zk T (D l0 8) = 3 ∧ zc E (d - 1) 0 25 [(2, (D l0 8)), (2, l2)] T D (fun x12 T12 D12 => zob T12 l0 7 11 ∧ zk T12 (D12 l0 8) = 3 ∧ zc E (d - 1) 0 27 [(2, (D12 l0 8)), (2, l3)] T12 D12 (fun x15 T15 D15 => Q 0 T15 D15))) ∧ (l1 = 2 → zob T l0 7 11 ∧ 0 < d ∧ zk T (D l0 8) = 3 ∧ zc E (d - 1) 0 29 [(2, (D l0 8)), (2, l2), (2, l3)] T D (fun x19 T19 D19 => Q 0 T19 D19)) ∧ (l1 = 3 → 0 < d ∧ zk T l0 = 7 ∧ zc E (d - 1) 0 30 [(2, l0), (2, l2), (2, l3)] T D (fun x22 T22 D22 => Q 0 T22 D22)) ∧ (l1 = 4 → zob T l0 7 11 ∧ 0 < d ∧ zk T (D l0 6) = 0 ∧ zc E (d - 1) 0 33 [(2, (D l0 6)), (2, l2), (2, l3)] T D (fun x26 T26 D26 => zob T26 l0 7 11 ∧ zk T26 (D26 l0 6) = 0 ∧ zc E (d - 1) 2 41 [(2, (D26 l0 6))] T26 D26 (fun x29 T29 D29 => zk T29 (D26 l0 8) = 3 ∧ zc E (d - 1) 0 25 [(2, (D26 l0 8)), (2, x29)] T29 D29 (fun x31 T31 D31 => Q 0 T31 D31)))) ∧ (l1 = 5 → zob T l0 7 11 ∧ 0 < d ∧ zk T (D l0 8) = 3 ∧ zc E (d - 1) 0 42 [(2, (D l0 8)), (2, l2)] T D (fun x35 T35 D35 => Q 0 T35 D35)) ∧ (l1 < 0 ∨ 5 < l1 → zob T l0 7 11 ∧ 0 < d ∧ zk T (D l0 8) = 3 ∧ zc E (d - 1) 0 25 [(2, (D l0 8)), (2, l2)] T D (fun x39 T39 D39 => zob T39 l0 7 11 ∧ zk T39 (D39 l0 8) = 3 ∧ zc E (d - 1) 1 36 [(2, (D39 l0 8))] T39 D39 (fun x42 T42 D42 => zk T42 (D39 l0 0) = 1 ∧ zc E (d - 1) 1 37 [(2, (D39 l0 0)), (0, x42)] T42 D42 (fun x44 T44 D44 => zk T44 (D39 l0 8) = 3 ∧ zc E (d - 1) 0 40 [(2, (D39 l0 8)), (0, x44)] T44 D44 (fun x46 T46 D46 => Q 0 T46 D46))))))) :
  zc E d 0 24 [(2, l0), (0, l1), (2, l2), (2, l3)] T D Q :=
  zc_of (ls := [(2, l0), (0, l1), (2, l2), (2, l3)]) (fun _ => rfl) (z24_0  l0 l1 l2 l3 H)
theorem z25_0 {E : List (List Int)} {d : Nat} {T : zT} {D : zD} {Q : Int → zT → zD → Prop}  (l0 : Int) (l1 : Int) 
  (H : zj E d 0 25 2 [(2, l0), (2, l1), (0, 0)] [] T D Q) :
  zj E d 0 25 0 [(2, l0), (2, l1), (9, 0)] [] T D Q := by
  refine zr_iconst rfl ?_
  refine zr_istore_n rfl rfl ?_
  show zj _ _ _ _ _ [(2, l0), (2, l1), (0, 0)] [] _ _ _
  exact H
theorem e25 {E : List (List Int)} {d : Nat} {T : zT} {D : zD} {Q : Int → zT → zD → Prop}  (l0 : Int) (l1 : Int) 
  (H : zj E d 0 25 2 [(2, l0), (2, l1), (0, 0)] [] T D Q) :
  zc E d 0 25 [(2, l0), (2, l1)] T D Q :=
  zc_of (ls := [(2, l0), (2, l1), (9, 0)]) (fun _ => rfl) (z25_0  l0 l1 H)
theorem z25_2 {E : List (List Int)} {d : Nat} {T : zT} {D : zD} {Q : Int → zT → zD → Prop}  (l0 : Int) (l1 : Int) (l2 : Int) 
  (H : zob T l0 3 3 ∧ zk T (D l0 1) = 50 ∧ zin l2 ∧ zin (zn T (D l0 1)) ∧ ((l2 ≥ (zn T (D l0 1)) → zob T l1 3 3 ∧ Q 0 T (zu D l0 2 (D l1 2))) ∧ (l2 < (zn T (D l0 1)) → zob T l1 3 3 ∧ zk T (D l1 1) = 50 ∧ zin (zn T (D l1 1)) ∧ ((l2 ≥ (zn T (D l1 1)) → Q 0 T (zu D l0 2 (D l1 2))) ∧ (l2 < (zn T (D l1 1)) → zar T (D l1 1) 50 l2 ∧ zar T (D l0 1) 50 l2 ∧ zj E d 0 25 2 [(2, l0), (2, l1), (0, l2 + 1)] [] T (zu D (D l0 1) l2 (D (D l1 1) l2)) Q))))) :
  zj E d 0 25 2 [(2, l0), (2, l1), (0, l2)] [] T D Q := by
  refine zr_iload_n rfl rfl ?_
  refine zr_aload_n rfl rfl ?_
  obtain ⟨h1, H⟩ := H
  refine zr_getfield (n := 3) rfl h1 (by decide) rfl (by decide) ?_
  obtain ⟨h2, H⟩ := H
  refine zr_arraylength rfl (Or.inl h2) ?_
  obtain ⟨h3, H⟩ := H
  obtain ⟨h4, H⟩ := H
  refine zr_icmp_ge rfl h3 h4 (fun hc => ?_) (fun hc => ?_)
  · replace H := H.1 hc
    refine zr_aload_n rfl rfl ?_
    refine zr_aload_n rfl rfl ?_
    obtain ⟨h5, H⟩ := H
    refine zr_getfield (n := 3) rfl h5 (by decide) rfl (by decide) ?_
    refine zr_putfield (n := 3) (t := 0) rfl h1 (by decide) rfl (by decide) rfl ?_
    exact zr_return rfl rfl rfl H
  · replace H := H.2 hc
    refine zr_iload_n rfl rfl ?_
    refine zr_aload_n rfl rfl ?_
    obtain ⟨h6, H⟩ := H
    refine zr_getfield (n := 3) rfl h6 (by decide) rfl (by decide) ?_
    obtain ⟨h7, H⟩ := H
    refine zr_arraylength rfl (Or.inl h7) ?_
    obtain ⟨h8, H⟩ := H
    refine zr_icmp_ge rfl h3 h8 (fun hc => ?_) (fun hc => ?_)
    · replace H := H.1 hc
      refine zr_aload_n rfl rfl ?_
      refine zr_aload_n rfl rfl ?_
      refine zr_getfield (n := 3) rfl h6 (by decide) rfl (by decide) ?_
      refine zr_putfield (n := 3) (t := 0) rfl h1 (by decide) rfl (by decide) rfl ?_
      exact zr_return rfl rfl rfl H
    · replace H := H.2 hc
      refine zr_aload_n rfl rfl ?_
      refine zr_getfield (n := 3) rfl h1 (by decide) rfl (by decide) ?_
      refine zr_iload_n rfl rfl ?_
      refine zr_aload_n rfl rfl ?_
      refine zr_getfield (n := 3) rfl h6 (by decide) rfl (by decide) ?_
      refine zr_iload_n rfl rfl ?_
      obtain ⟨h9, H⟩ := H
      refine zr_iaload rfl h9 ?_
      obtain ⟨h10, H⟩ := H
      refine zr_iastore rfl h10 ?_
      refine zr_iinc rfl rfl rfl ?_
      show zj _ _ _ _ _ [(2, l0), (2, l1), (0, l2 + 1)] [] _ _ _
      refine zr_goto rfl ?_
      exact H
theorem z26_0 {E : List (List Int)} {d : Nat} {T : zT} {D : zD} {Q : Int → zT → zD → Prop}  (l0 : Int) (l1 : Int) (l2 : Int) (l3 : Int) 
  (H : zob T l0 3 3 ∧ zob T (D l0 0) 1 2 ∧ zin (D (D l0 0) 0) ∧ (((D (D l0 0) 0) < 2 → Q 0 T D) ∧ ((D (D l0 0) 0) ≥ 2 → zin l2 ∧ ((l2 = 0 → Q 0 T D) ∧ (l2 ≠ 0 → zin l3 ∧ ((l3 ≥ 0 → zj E d 0 26 27 [(2, l0), (2, l1), (0, l2), (0, l3), (0, (D (D l0 0) 0)), (0, 0)] [] T D Q) ∧ (l3 < 0 → Q 0 T D))))))) :
  zj E d 0 26 0 [(2, l0), (2, l1), (0, l2), (0, l3), (9, 0), (9, 0)] [] T D Q := by
  refine zr_aload_n rfl rfl ?_
  obtain ⟨h1, H⟩ := H
  refine zr_getfield (n := 3) rfl h1 (by decide) rfl (by decide) ?_
  obtain ⟨h2, H⟩ := H
  refine zr_getfield (n := 2) rfl h2 (by decide) rfl (by decide) ?_
  refine zr_istore rfl rfl ?_
  show zj _ _ _ _ _ [(2, l0), (2, l1), (0, l2), (0, l3), (0, (D (D l0 0) 0)), (9, 0)] [] _ _ _
  refine zr_iload rfl rfl ?_
  refine zr_iconst rfl ?_
  obtain ⟨h3, H⟩ := H
  refine zr_icmp_lt rfl h3 (zin_c (by decide)) (fun hc => ?_) (fun hc => ?_)
  · replace H := H.1 hc
    exact zr_return rfl rfl rfl H
  · replace H := H.2 hc
    refine zr_iload_n rfl rfl ?_
    obtain ⟨h4, H⟩ := H
    refine zr_if_eq rfl h4 (fun hc => ?_) (fun hc => ?_)
    · replace H := H.1 hc
      exact zr_return rfl rfl rfl H
    · replace H := H.2 hc
      refine zr_iload_n rfl rfl ?_
      obtain ⟨h5, H⟩ := H
      refine zr_if_ge rfl h5 (fun hc => ?_) (fun hc => ?_)
      · replace H := H.1 hc
        refine zr_iconst rfl ?_
        refine zr_istore rfl rfl ?_
        show zj _ _ _ _ _ [(2, l0), (2, l1), (0, l2), (0, l3), (0, (D (D l0 0) 0)), (0, 0)] [] _ _ _
        exact H
      · replace H := H.2 hc
        exact zr_return rfl rfl rfl H
theorem e26 {E : List (List Int)} {d : Nat} {T : zT} {D : zD} {Q : Int → zT → zD → Prop}  (l0 : Int) (l1 : Int) (l2 : Int) (l3 : Int) 
  (H : zob T l0 3 3 ∧ zob T (D l0 0) 1 2 ∧ zin (D (D l0 0) 0) ∧ (((D (D l0 0) 0) < 2 → Q 0 T D) ∧ ((D (D l0 0) 0) ≥ 2 → zin l2 ∧ ((l2 = 0 → Q 0 T D) ∧ (l2 ≠ 0 → zin l3 ∧ ((l3 ≥ 0 → zj E d 0 26 27 [(2, l0), (2, l1), (0, l2), (0, l3), (0, (D (D l0 0) 0)), (0, 0)] [] T D Q) ∧ (l3 < 0 → Q 0 T D))))))) :
  zc E d 0 26 [(2, l0), (2, l1), (0, l2), (0, l3)] T D Q :=
  zc_of (ls := [(2, l0), (2, l1), (0, l2), (0, l3), (9, 0), (9, 0)]) (fun _ => rfl) (z26_0  l0 l1 l2 l3 H)
theorem z26_27 {E : List (List Int)} {d : Nat} {T : zT} {D : zD} {Q : Int → zT → zD → Prop}  (l0 : Int) (l1 : Int) (l2 : Int) (l3 : Int) (l4 : Int) (l5 : Int) 
  (H : zob T l1 3 3 ∧ zin l5 ∧ zin (D l1 2) ∧ ((l5 > (D l1 2) → zob T l0 3 3 ∧ zin (D l0 2) ∧ zin ((D l1 2) + l3) ∧ (((D l0 2) ≤ ((D l1 2) + l3) → zj E d 0 26 123 [(2, l0), (2, l1), (0, l2), (0, l3), (0, l4), (0, ((D l1 2) + l3))] [] T D Q) ∧ ((D l0 2) > ((D l1 2) + l3) → zj E d 0 26 123 [(2, l0), (2, l1), (0, l2), (0, l3), (0, l4), (0, (D l0 2))] [] T D Q))) ∧ (l5 ≤ (D l1 2) → zk T (D l1 1) = 50 ∧ zin (zn T (D l1 1)) ∧ ((l5 ≥ (zn T (D l1 1)) → zob T l0 3 3 ∧ zin (D l0 2) ∧ zin ((D l1 2) + l3) ∧ (((D l0 2) ≤ ((D l1 2) + l3) → zj E d 0 26 123 [(2, l0), (2, l1), (0, l2), (0, l3), (0, l4), (0, ((D l1 2) + l3))] [] T D Q) ∧ ((D l0 2) > ((D l1 2) + l3) → zj E d 0 26 123 [(2, l0), (2, l1), (0, l2), (0, l3), (0, l4), (0, (D l0 2))] [] T D Q))) ∧ (l5 < (zn T (D l1 1)) → zob T l0 3 3 ∧ zk T (D l0 1) = 50 ∧ zin (l5 + l3) ∧ zin (zn T (D l0 1)) ∧ (((l5 + l3) ≥ (zn T (D l0 1)) → zin (D l0 2) ∧ zin ((D l1 2) + l3) ∧ (((D l0 2) ≤ ((D l1 2) + l3) → zj E d 0 26 123 [(2, l0), (2, l1), (0, l2), (0, l3), (0, l4), (0, ((D l1 2) + l3))] [] T D Q) ∧ ((D l0 2) > ((D l1 2) + l3) → zj E d 0 26 123 [(2, l0), (2, l1), (0, l2), (0, l3), (0, l4), (0, (D l0 2))] [] T D Q))) ∧ ((l5 + l3) < (zn T (D l0 1)) → zar T (D l0 1) 50 (l5 + l3) ∧ zar T (D l1 1) 50 l5 ∧ zin ((D (D l0 1) (l5 + l3)) + (l2 * (D (D l1 1) l5))) ∧ 0 < l4 ∧ l4 ≤ 2147483647 ∧ zj E d 0 26 27 [(2, l0), (2, l1), (0, l2), (0, l3), (0, l4), (0, l5 + 1)] [] T (zu D (D l0 1) (l5 + l3) (((D (D l0 1) (l5 + l3)) + (l2 * (D (D l1 1) l5))).tmod l4)) Q))))))) :
  zj E d 0 26 27 [(2, l0), (2, l1), (0, l2), (0, l3), (0, l4), (0, l5)] [] T D Q := by
  refine zr_iload rfl rfl ?_
  refine zr_aload_n rfl rfl ?_
  obtain ⟨h1, H⟩ := H
  refine zr_getfield (n := 3) rfl h1 (by decide) rfl (by decide) ?_
  obtain ⟨h2, H⟩ := H
  obtain ⟨h3, H⟩ := H
  refine zr_icmp_gt rfl h2 h3 (fun hc => ?_) (fun hc => ?_)
  · replace H := H.1 hc
    refine zr_aload_n rfl rfl ?_
    obtain ⟨h4, H⟩ := H
    refine zr_getfield (n := 3) rfl h4 (by decide) rfl (by decide) ?_
    refine zr_aload_n rfl rfl ?_
    refine zr_getfield (n := 3) rfl h1 (by decide) rfl (by decide) ?_
    refine zr_iload_n rfl rfl ?_
    refine zr_iadd rfl ?_
    obtain ⟨h5, H⟩ := H
    obtain ⟨h6, H⟩ := H
    refine zr_icmp_le rfl h5 h6 (fun hc => ?_) (fun hc => ?_)
    · replace H := H.1 hc
      refine zr_aload_n rfl rfl ?_
      refine zr_getfield (n := 3) rfl h1 (by decide) rfl (by decide) ?_
      refine zr_iload_n rfl rfl ?_
      refine zr_iadd rfl ?_
      refine zr_istore rfl rfl ?_
      show zj _ _ _ _ _ [(2, l0), (2, l1), (0, l2), (0, l3), (0, l4), (0, ((D l1 2) + l3))] [] _ _ _
      exact H
    · replace H := H.2 hc
      refine zr_aload_n rfl rfl ?_
      refine zr_getfield (n := 3) rfl h4 (by decide) rfl (by decide) ?_
      refine zr_goto rfl ?_
      refine zr_istore rfl rfl ?_
      show zj _ _ _ _ _ [(2, l0), (2, l1), (0, l2), (0, l3), (0, l4), (0, (D l0 2))] [] _ _ _
      exact H
  · replace H := H.2 hc
    refine zr_iload rfl rfl ?_
    refine zr_aload_n rfl rfl ?_
    refine zr_getfield (n := 3) rfl h1 (by decide) rfl (by decide) ?_
    obtain ⟨h7, H⟩ := H
    refine zr_arraylength rfl (Or.inl h7) ?_
    obtain ⟨h8, H⟩ := H
    refine zr_icmp_ge rfl h2 h8 (fun hc => ?_) (fun hc => ?_)
    · replace H := H.1 hc
      refine zr_aload_n rfl rfl ?_
      obtain ⟨h9, H⟩ := H
      refine zr_getfield (n := 3) rfl h9 (by decide) rfl (by decide) ?_
      refine zr_aload_n rfl rfl ?_
      refine zr_getfield (n := 3) rfl h1 (by decide) rfl (by decide) ?_
      refine zr_iload_n rfl rfl ?_
      refine zr_iadd rfl ?_
      obtain ⟨h10, H⟩ := H
      obtain ⟨h11, H⟩ := H
      refine zr_icmp_le rfl h10 h11 (fun hc => ?_) (fun hc => ?_)
      · replace H := H.1 hc
        refine zr_aload_n rfl rfl ?_
        refine zr_getfield (n := 3) rfl h1 (by decide) rfl (by decide) ?_
        refine zr_iload_n rfl rfl ?_
        refine zr_iadd rfl ?_
        refine zr_istore rfl rfl ?_
        show zj _ _ _ _ _ [(2, l0), (2, l1), (0, l2), (0, l3), (0, l4), (0, ((D l1 2) + l3))] [] _ _ _
        exact H
      · replace H := H.2 hc
        refine zr_aload_n rfl rfl ?_
        refine zr_getfield (n := 3) rfl h9 (by decide) rfl (by decide) ?_
        refine zr_goto rfl ?_
        refine zr_istore rfl rfl ?_
        show zj _ _ _ _ _ [(2, l0), (2, l1), (0, l2), (0, l3), (0, l4), (0, (D l0 2))] [] _ _ _
        exact H
    · replace H := H.2 hc
      refine zr_iload rfl rfl ?_
      refine zr_iload_n rfl rfl ?_
      refine zr_iadd rfl ?_
      refine zr_aload_n rfl rfl ?_
      obtain ⟨h12, H⟩ := H
      refine zr_getfield (n := 3) rfl h12 (by decide) rfl (by decide) ?_
      obtain ⟨h13, H⟩ := H
      refine zr_arraylength rfl (Or.inl h13) ?_
      obtain ⟨h14, H⟩ := H
      obtain ⟨h15, H⟩ := H
      refine zr_icmp_ge rfl h14 h15 (fun hc => ?_) (fun hc => ?_)
      · replace H := H.1 hc
        refine zr_aload_n rfl rfl ?_
        refine zr_getfield (n := 3) rfl h12 (by decide) rfl (by decide) ?_
        refine zr_aload_n rfl rfl ?_
        refine zr_getfield (n := 3) rfl h1 (by decide) rfl (by decide) ?_
        refine zr_iload_n rfl rfl ?_
        refine zr_iadd rfl ?_
        obtain ⟨h16, H⟩ := H
        obtain ⟨h17, H⟩ := H
        refine zr_icmp_le rfl h16 h17 (fun hc => ?_) (fun hc => ?_)
        · replace H := H.1 hc
          refine zr_aload_n rfl rfl ?_
          refine zr_getfield (n := 3) rfl h1 (by decide) rfl (by decide) ?_
          refine zr_iload_n rfl rfl ?_
          refine zr_iadd rfl ?_
          refine zr_istore rfl rfl ?_
          show zj _ _ _ _ _ [(2, l0), (2, l1), (0, l2), (0, l3), (0, l4), (0, ((D l1 2) + l3))] [] _ _ _
          exact H
        · replace H := H.2 hc
          refine zr_aload_n rfl rfl ?_
          refine zr_getfield (n := 3) rfl h12 (by decide) rfl (by decide) ?_
          refine zr_goto rfl ?_
          refine zr_istore rfl rfl ?_
          show zj _ _ _ _ _ [(2, l0), (2, l1), (0, l2), (0, l3), (0, l4), (0, (D l0 2))] [] _ _ _
          exact H
      · replace H := H.2 hc
        refine zr_aload_n rfl rfl ?_
        refine zr_getfield (n := 3) rfl h12 (by decide) rfl (by decide) ?_
        refine zr_iload rfl rfl ?_
        refine zr_iload_n rfl rfl ?_
        refine zr_iadd rfl ?_
        refine zr_aload_n rfl rfl ?_
        refine zr_getfield (n := 3) rfl h12 (by decide) rfl (by decide) ?_
        refine zr_iload rfl rfl ?_
        refine zr_iload_n rfl rfl ?_
        refine zr_iadd rfl ?_
        obtain ⟨h18, H⟩ := H
        refine zr_iaload rfl h18 ?_
        refine zr_iload_n rfl rfl ?_
        refine zr_aload_n rfl rfl ?_
        refine zr_getfield (n := 3) rfl h1 (by decide) rfl (by decide) ?_
        refine zr_iload rfl rfl ?_
        obtain ⟨h19, H⟩ := H
        refine zr_iaload rfl h19 ?_
        refine zr_imul rfl ?_
        refine zr_iadd rfl ?_
        refine zr_iload rfl rfl ?_
        obtain ⟨h20, H⟩ := H
        obtain ⟨h21, H⟩ := H
        obtain ⟨h22, H⟩ := H
        refine zr_irem rfl h20 h21 h22 ?_
        refine zr_iastore rfl h18 ?_
        refine zr_iinc rfl rfl rfl ?_
        show zj _ _ _ _ _ [(2, l0), (2, l1), (0, l2), (0, l3), (0, l4), (0, l5 + 1)] [] _ _ _
        refine zr_goto rfl ?_
        exact H
theorem z26_123 {E : List (List Int)} {d : Nat} {T : zT} {D : zD} {Q : Int → zT → zD → Prop}  (l0 : Int) (l1 : Int) (l2 : Int) (l3 : Int) (l4 : Int) (l5 : Int) 
  (H : zin l5 ∧ ((l5 < 0 → zob T l0 3 3 ∧ Q 0 T (zu D l0 2 l5)) ∧ (l5 ≥ 0 → zob T l0 3 3 ∧ zk T (D l0 1) = 50 ∧ zin (zn T (D l0 1)) ∧ ((l5 ≥ (zn T (D l0 1)) → zj E d 0 26 123 [(2, l0), (2, l1), (0, l2), (0, l3), (0, l4), (0, l5 + (-1))] [] T D Q) ∧ (l5 < (zn T (D l0 1)) → zar T (D l0 1) 50 l5 ∧ zin (D (D l0 1) l5) ∧ (((D (D l0 1) l5) ≠ 0 → Q 0 T (zu D l0 2 l5)) ∧ ((D (D l0 1) l5) = 0 → zj E d 0 26 123 [(2, l0), (2, l1), (0, l2), (0, l3), (0, l4), (0, l5 + (-1))] [] T D Q))))))) :
  zj E d 0 26 123 [(2, l0), (2, l1), (0, l2), (0, l3), (0, l4), (0, l5)] [] T D Q := by
  refine zr_iload rfl rfl ?_
  obtain ⟨h1, H⟩ := H
  refine zr_if_lt rfl h1 (fun hc => ?_) (fun hc => ?_)
  · replace H := H.1 hc
    refine zr_aload_n rfl rfl ?_
    refine zr_iload rfl rfl ?_
    obtain ⟨h2, H⟩ := H
    refine zr_putfield (n := 3) (t := 0) rfl h2 (by decide) rfl (by decide) rfl ?_
    exact zr_return rfl rfl rfl H
  · replace H := H.2 hc
    refine zr_iload rfl rfl ?_
    refine zr_aload_n rfl rfl ?_
    obtain ⟨h3, H⟩ := H
    refine zr_getfield (n := 3) rfl h3 (by decide) rfl (by decide) ?_
    obtain ⟨h4, H⟩ := H
    refine zr_arraylength rfl (Or.inl h4) ?_
    obtain ⟨h5, H⟩ := H
    refine zr_icmp_ge rfl h1 h5 (fun hc => ?_) (fun hc => ?_)
    · replace H := H.1 hc
      refine zr_iinc rfl rfl rfl ?_
      show zj _ _ _ _ _ [(2, l0), (2, l1), (0, l2), (0, l3), (0, l4), (0, l5 + (-1))] [] _ _ _
      refine zr_goto rfl ?_
      exact H
    · replace H := H.2 hc
      refine zr_aload_n rfl rfl ?_
      refine zr_getfield (n := 3) rfl h3 (by decide) rfl (by decide) ?_
      refine zr_iload rfl rfl ?_
      obtain ⟨h6, H⟩ := H
      refine zr_iaload rfl h6 ?_
      obtain ⟨h7, H⟩ := H
      refine zr_if_ne rfl h7 (fun hc => ?_) (fun hc => ?_)
      · replace H := H.1 hc
        refine zr_aload_n rfl rfl ?_
        refine zr_iload rfl rfl ?_
        refine zr_putfield (n := 3) (t := 0) rfl h3 (by decide) rfl (by decide) rfl ?_
        exact zr_return rfl rfl rfl H
      · replace H := H.2 hc
        refine zr_iinc rfl rfl rfl ?_
        show zj _ _ _ _ _ [(2, l0), (2, l1), (0, l2), (0, l3), (0, l4), (0, l5 + (-1))] [] _ _ _
        refine zr_goto rfl ?_
        exact H
theorem z27_0 {E : List (List Int)} {d : Nat} {T : zT} {D : zD} {Q : Int → zT → zD → Prop}  (l0 : Int) (l1 : Int) 
  (H : zob T l0 3 3 ∧ 0 < d ∧ zk T (D l0 0) = 1 ∧ zc E (d - 1) 1 28 [(2, (D l0 0)), (0, 1)] T D (fun x4 T4 D4 => zk T4 l0 = 3 ∧ zc E (d - 1) 0 26 [(2, l0), (2, l1), (0, x4), (0, 0)] T4 D4 (fun x6 T6 D6 => Q 0 T6 D6))) :
  zj E d 0 27 0 [(2, l0), (2, l1)] [] T D Q := by
  refine zr_aload_n rfl rfl ?_
  refine zr_aload_n rfl rfl ?_
  refine zr_aload_n rfl rfl ?_
  obtain ⟨h1, H⟩ := H
  refine zr_getfield (n := 3) rfl h1 (by decide) rfl (by decide) ?_
  refine zr_iconst rfl ?_
  obtain ⟨h2, H⟩ := H
  obtain ⟨h3, H⟩ := H
  refine zr_invokevirtual (rt2 := 1) rfl rfl rfl rfl rfl h3 (by decide) h2 (zc_mono H ?_)
  intro x4 T4 D4 H
  show zj _ _ _ _ _ [(2, l0), (2, l1)] [(0, x4), (2, l1), (2, l0)] _ _ _
  refine zr_iconst rfl ?_
  obtain ⟨h5, H⟩ := H
  refine zr_invokevirtual (rt2 := 0) rfl rfl rfl rfl rfl h5 (by decide) h2 (zc_mono H ?_)
  intro x6 T6 D6 H
  show zj _ _ _ _ _ [(2, l0), (2, l1)] [] _ _ _
  exact zr_return rfl rfl rfl H
theorem e27 {E : List (List Int)} {d : Nat} {T : zT} {D : zD} {Q : Int → zT → zD → Prop}  (l0 : Int) (l1 : Int) 
  (H : zob T l0 3 3 ∧ 0 < d ∧ zk T (D l0 0) = 1 ∧ zc E (d - 1) 1 28 [(2, (D l0 0)), (0, 1)] T D (fun x4 T4 D4 => zk T4 l0 = 3 ∧ zc E (d - 1) 0 26 [(2, l0), (2, l1), (0, x4), (0, 0)] T4 D4 (fun x6 T6 D6 => Q 0 T6 D6))) :
  zc E d 0 27 [(2, l0), (2, l1)] T D Q :=
  zc_of (ls := [(2, l0), (2, l1)]) (fun _ => rfl) (z27_0  l0 l1 H)
theorem z28_0 {E : List (List Int)} {d : Nat} {T : zT} {D : zD} {Q : Int → zT → zD → Prop}  (l0 : Int) (l1 : Int) 
  (H : zin l1 ∧ ((l1 ≠ 0 → zob T l0 1 2 ∧ Q ((D l0 0) - l1) T D) ∧ (l1 = 0 → Q 0 T D))) :
  zj E d 1 28 0 [(2, l0), (0, l1)] [] T D Q := by
  refine zr_iload_n rfl rfl ?_
  obtain ⟨h1, H⟩ := H
  refine zr_if_ne rfl h1 (fun hc => ?_) (fun hc => ?_)
  · replace H := H.1 hc
    refine zr_aload_n rfl rfl ?_
    obtain ⟨h2, H⟩ := H
    refine zr_getfield (n := 2) rfl h2 (by decide) rfl (by decide) ?_
    refine zr_iload_n rfl rfl ?_
    refine zr_isub rfl ?_
    exact zr_ireturn rfl rfl rfl H
  · replace H := H.2 hc
    refine zr_iconst rfl ?_
    refine zr_goto rfl ?_
    exact zr_ireturn rfl rfl rfl H
theorem e28 {E : List (List Int)} {d : Nat} {T : zT} {D : zD} {Q : Int → zT → zD → Prop}  (l0 : Int) (l1 : Int) 
  (H : zin l1 ∧ ((l1 ≠ 0 → zob T l0 1 2 ∧ Q ((D l0 0) - l1) T D) ∧ (l1 = 0 → Q 0 T D))) :
  zc E d 1 28 [(2, l0), (0, l1)] T D Q :=
  zc_of (ls := [(2, l0), (0, l1)]) (fun _ => rfl) (z28_0  l0 l1 H)
theorem z29_0 {E : List (List Int)} {d : Nat} {T : zT} {D : zD} {Q : Int → zT → zD → Prop}  (l0 : Int) (l1 : Int) (l2 : Int) 
  (H : 0 < d ∧ zk T l0 = 3 ∧ zc E (d - 1) 0 13 [(2, l0)] T D (fun x3 T3 D3 => zj E d 0 29 6 [(2, l0), (2, l1), (2, l2), (0, 0)] [] T3 D3 Q)) :
  zj E d 0 29 0 [(2, l0), (2, l1), (2, l2), (9, 0)] [] T D Q := by
  refine zr_aload_n rfl rfl ?_
  obtain ⟨h1, H⟩ := H
  obtain ⟨h2, H⟩ := H
  refine zr_invokevirtual (rt2 := 0) rfl rfl rfl rfl rfl h2 (by decide) h1 (zc_mono H ?_)
  intro x3 T3 D3 H
  show zj _ _ _ _ _ [(2, l0), (2, l1), (2, l2), (9, 0)] [] _ _ _
  refine zr_iconst rfl ?_
  refine zr_istore_n rfl rfl ?_
  show zj _ _ _ _ _ [(2, l0), (2, l1), (2, l2), (0, 0)] [] _ _ _
  exact H
theorem e29 {E : List (List Int)} {d : Nat} {T : zT} {D : zD} {Q : Int → zT → zD → Prop}  (l0 : Int) (l1 : Int) (l2 : Int) 
  (H : 0 < d ∧ zk T l0 = 3 ∧ zc E (d - 1) 0 13 [(2, l0)] T D (fun x3 T3 D3 => zj E d 0 29 6 [(2, l0), (2, l1), (2, l2), (0, 0)] [] T3 D3 Q)) :
  zc E d 0 29 [(2, l0), (2, l1), (2, l2)] T D Q :=
  zc_of (ls := [(2, l0), (2, l1), (2, l2), (9, 0)]) (fun _ => rfl) (z29_0  l0 l1 l2 H)
theorem z29_6 {E : List (List Int)} {d : Nat} {T : zT} {D : zD} {Q : Int → zT → zD → Prop}  (l0 : Int) (l1 : Int) (l2 : Int) (l3 : Int) 
  (H : zob T l1 3 3 ∧ zin l3 ∧ zin (D l1 2) ∧ ((l3 > (D l1 2) → Q 0 T D) ∧ (l3 ≤ (D l1 2) → 0 < d ∧ zk T l1 = 3 ∧ zc E (d - 1) 1 19 [(2, l1), (0, l3)] T D (fun x6 T6 D6 => zk T6 l0 = 3 ∧ zc E (d - 1) 0 26 [(2, l0), (2, l2), (0, x6), (0, l3)] T6 D6 (fun x8 T8 D8 => zj E d 0 29 6 [(2, l0), (2, l1), (2, l2), (0, l3 + 1)] [] T8 D8 Q))))) :
  zj E d 0 29 6 [(2, l0), (2, l1), (2, l2), (0, l3)] [] T D Q := by
  refine zr_iload_n rfl rfl ?_
  refine zr_aload_n rfl rfl ?_
  obtain ⟨h1, H⟩ := H
  refine zr_getfield (n := 3) rfl h1 (by decide) rfl (by decide) ?_
  obtain ⟨h2, H⟩ := H
  obtain ⟨h3, H⟩ := H
  refine zr_icmp_gt rfl h2 h3 (fun hc => ?_) (fun hc => ?_)
  · replace H := H.1 hc
    exact zr_return rfl rfl rfl H
  · replace H := H.2 hc
    refine zr_aload_n rfl rfl ?_
    refine zr_aload_n rfl rfl ?_
    refine zr_aload_n rfl rfl ?_
    refine zr_iload_n rfl rfl ?_
    obtain ⟨h4, H⟩ := H
    obtain ⟨h5, H⟩ := H
    refine zr_invokevirtual (rt2 := 1) rfl rfl rfl rfl rfl h5 (by decide) h4 (zc_mono H ?_)
    intro x6 T6 D6 H
    show zj _ _ _ _ _ [(2, l0), (2, l1), (2, l2), (0, l3)] [(0, x6), (2, l2), (2, l0)] _ _ _
    refine zr_iload_n rfl rfl ?_
    obtain ⟨h7, H⟩ := H
    refine zr_invokevirtual (rt2 := 0) rfl rfl rfl rfl rfl h7 (by decide) h4 (zc_mono H ?_)
    intro x8 T8 D8 H
    show zj _ _ _ _ _ [(2, l0), (2, l1), (2, l2), (0, l3)] [] _ _ _
    refine zr_iinc rfl rfl rfl ?_
    show zj _ _ _ _ _ [(2, l0), (2, l1), (2, l2), (0, l3 + 1)] [] _ _ _
    refine zr_goto rfl ?_
    exact H
theorem z30_0 {E : List (List Int)} {d : Nat} {T : zT} {D : zD} {Q : Int → zT → zD → Prop}  (l0 : Int) (l1 : Int) (l2 : Int) 
  (H : zob T l0 7 11 ∧ 0 < d ∧ zk T (D l0 8) = 3 ∧ zc E (d - 1) 0 13 [(2, (D l0 8))] T D (fun x4 T4 D4 => zk T4 l1 = 3 ∧ zc E (d - 1) 1 21 [(2, l1)] T4 D4 (fun x6 T6 D6 => zj E d 0 30 12 [(2, l0), (2, l1), (2, l2), (0, x6)] [] T6 D6 Q))) :
  zj E d 0 30 0 [(2, l0), (2, l1), (2, l2), (9, 0)] [] T D Q := by
  refine zr_aload_n rfl rfl ?_
  obtain ⟨h1, H⟩ := H
  refine zr_getfield (n := 11) rfl h1 (by decide) rfl (by decide) ?_
  obtain ⟨h2, H⟩ := H
  obtain ⟨h3, H⟩ := H
  refine zr_invokevirtual (rt2 := 0) rfl rfl rfl rfl rfl h3 (by decide) h2 (zc_mono H ?_)
  intro x4 T4 D4 H
  show zj _ _ _ _ _ [(2, l0), (2, l1), (2, l2), (9, 0)] [] _ _ _
  refine zr_aload_n rfl rfl ?_
  obtain ⟨h5, H⟩ := H
  refine zr_invokevirtual (rt2 := 1) rfl rfl rfl rfl rfl h5 (by decide) h2 (zc_mono H ?_)
  intro x6 T6 D6 H
  show zj _ _ _ _ _ [(2, l0), (2, l1), (2, l2), (9, 0)] [(0, x6)] _ _ _
  refine zr_istore_n rfl rfl ?_
  show zj _ _ _ _ _ [(2, l0), (2, l1), (2, l2), (0, x6)] [] _ _ _
  exact H
theorem e30 {E : List (List Int)} {d : Nat} {T : zT} {D : zD} {Q : Int → zT → zD → Prop}  (l0 : Int) (l1 : Int) (l2 : Int) 
  (H : zob T l0 7 11 ∧ 0 < d ∧ zk T (D l0 8) = 3 ∧ zc E (d - 1) 0 13 [(2, (D l0 8))] T D (fun x4 T4 D4 => zk T4 l1 = 3 ∧ zc E (d - 1) 1 21 [(2, l1)] T4 D4 (fun x6 T6 D6 => zj E d 0 30 12 [(2, l0), (2, l1), (2, l2), (0, x6)] [] T6 D6 Q))) :
  zc E d 0 30 [(2, l0), (2, l1), (2, l2)] T D Q :=
  zc_of (ls := [(2, l0), (2, l1), (2, l2), (9, 0)]) (fun _ => rfl) (z30_0  l0 l1 l2 H)
theorem z30_12 {E : List (List Int)} {d : Nat} {T : zT} {D : zD} {Q : Int → zT → zD → Prop}  (l0 : Int) (l1 : Int) (l2 : Int) (l3 : Int) 
  (H : zin l3 ∧ ((l3 < 0 → Q 0 T D) ∧ (l3 ≥ 0 → zob T l0 7 11 ∧ 0 < d ∧ zk T (D l0 10) = 3 ∧ zc E (d - 1) 0 29 [(2, (D l0 10)), (2, (D l0 8)), (2, l2)] T D (fun x5 T5 D5 => zob T5 l0 7 11 ∧ zk T5 (D5 l0 8) = 3 ∧ zc E (d - 1) 0 25 [(2, (D5 l0 8)), (2, (D5 l0 10))] T5 D5 (fun x8 T8 D8 => zob T8 l0 7 11 ∧ zk T8 (D8 l0 8) = 3 ∧ zc E (d - 1) 1 19 [(2, (D8 l0 8)), (0, 0)] T8 D8 (fun x11 T11 D11 => zk T11 l1 = 3 ∧ zc E (d - 1) 1 19 [(2, l1), (0, l3)] T11 D11 (fun x13 T13 D13 => zk T13 (D8 l0 0) = 1 ∧ zc E (d - 1) 1 31 [(2, (D8 l0 0)), (0, (x11 + x13))] T13 D13 (fun x15 T15 D15 => zk T15 (D8 l0 8) = 3 ∧ zc E (d - 1) 0 32 [(2, (D8 l0 8)), (0, 0), (0, x15)] T15 D15 (fun x17 T17 D17 => zj E d 0 30 12 [(2, l0), (2, l1), (2, l2), (0, l3 + (-1))] [] T17 D17 Q))))))))) :
  zj E d 0 30 12 [(2, l0), (2, l1), (2, l2), (0, l3)] [] T D Q := by
  refine zr_iload_n rfl rfl ?_
  obtain ⟨h1, H⟩ := H
  refine zr_if_lt rfl h1 (fun hc => ?_) (fun hc => ?_)
  · replace H := H.1 hc
    exact zr_return rfl rfl rfl H
  · replace H := H.2 hc
    refine zr_aload_n rfl rfl ?_
    obtain ⟨h2, H⟩ := H
    refine zr_getfield (n := 11) rfl h2 (by decide) rfl (by decide) ?_
    refine zr_aload_n rfl rfl ?_
    refine zr_getfield (n := 11) rfl h2 (by decide) rfl (by decide) ?_
    refine zr_aload_n rfl rfl ?_
    obtain ⟨h3, H⟩ := H
    obtain ⟨h4, H⟩ := H
    refine zr_invokevirtual (rt2 := 0) rfl rfl rfl rfl rfl h4 (by decide) h3 (zc_mono H ?_)
    intro x5 T5 D5 H
    show zj _ _ _ _ _ [(2, l0), (2, l1), (2, l2), (0, l3)] [] _ _ _
    refine zr_aload_n rfl rfl ?_
    obtain ⟨h6, H⟩ := H
    refine zr_getfield (n := 11) rfl h6 (by decide) rfl (by decide) ?_
    refine zr_aload_n rfl rfl ?_
    refine zr_getfield (n := 11) rfl h6 (by decide) rfl (by decide) ?_
    obtain ⟨h7, H⟩ := H
    refine zr_invokevirtual (rt2 := 0) rfl rfl rfl rfl rfl h7 (by decide) h3 (zc_mono H ?_)
    intro x8 T8 D8 H
    show zj _ _ _ _ _ [(2, l0), (2, l1), (2, l2), (0, l3)] [] _ _ _
    refine zr_aload_n rfl rfl ?_
    obtain ⟨h9, H⟩ := H
    refine zr_getfield (n := 11) rfl h9 (by decide) rfl (by decide) ?_
    refine zr_iconst rfl ?_
    refine zr_aload_n rfl rfl ?_
    refine zr_getfield (n := 11) rfl h9 (by decide) rfl (by decide) ?_
    refine zr_aload_n rfl rfl ?_
    refine zr_getfield (n := 11) rfl h9 (by decide) rfl (by decide) ?_
    refine zr_iconst rfl ?_
    obtain ⟨h10, H⟩ := H
    refine zr_invokevirtual (rt2 := 1) rfl rfl rfl rfl rfl h10 (by decide) h3 (zc_mono H ?_)
    intro x11 T11 D11 H
    show zj _ _ _ _ _ [(2, l0), (2, l1), (2, l2), (0, l3)] [(0, x11), (2, (D8 l0 0)), (0, 0), (2, (D8 l0 8))] _ _ _
    refine zr_aload_n rfl rfl ?_
    refine zr_iload_n rfl rfl ?_
    obtain ⟨h12, H⟩ := H
    refine zr_invokevirtual (rt2 := 1) rfl rfl rfl rfl rfl h12 (by decide) h3 (zc_mono H ?_)
    intro x13 T13 D13 H
    show zj _ _ _ _ _ [(2, l0), (2, l1), (2, l2), (0, l3)] [(0, x13), (0, x11), (2, (D8 l0 0)), (0, 0), (2, (D8 l0 8))] _ _ _
    refine zr_iadd rfl ?_
    obtain ⟨h14, H⟩ := H
    refine zr_invokevirtual (rt2 := 1) rfl rfl rfl rfl rfl h14 (by decide) h3 (zc_mono H ?_)
    intro x15 T15 D15 H
    show zj _ _ _ _ _ [(2, l0), (2, l1), (2, l2), (0, l3)] [(0, x15), (0, 0), (2, (D8 l0 8))] _ _ _
    obtain ⟨h16, H⟩ := H
    refine zr_invokevirtual (rt2 := 0) rfl rfl rfl rfl rfl h16 (by decide) h3 (zc_mono H ?_)
    intro x17 T17 D17 H
    show zj _ _ _ _ _ [(2, l0), (2, l1), (2, l2), (0, l3)] [] _ _ _
    refine zr_iinc rfl rfl rfl ?_
    show zj _ _ _ _ _ [(2, l0), (2, l1), (2, l2), (0, l3 + (-1))] [] _ _ _
    refine zr_goto rfl ?_
    exact H
