/-! Conditions of methods, by program (wip/tools/vcg.py). -/
theorem z51_0 {E : List (List Int)} {d : Nat} {T : zT} {D : zD} {Q : Int → zT → zD → Prop}  (l0 : Int) (l1 : Int) (l2 : Int) (l3 : Int) (l4 : Int) 
  (H : 0 < d ∧ zk T l0 = 7 ∧ zc E (d - 1) 2 17 [(2, l0), (0, l1)] T D (fun x3 T3 D3 => zk T3 l0 = 7 ∧ zc E (d - 1) 2 17 [(2, l0), (0, l3)] T3 D3 (fun x5 T5 D5 => zk T5 l0 = 7 ∧ zc E (d - 1) 2 17 [(2, l0), (0, l4)] T5 D5 (fun x7 T7 D7 => zin l2 ∧ ((l2 < 0 → False) ∧ (l2 ≥ 0 → ((l2 ≤ 1000000 → zk T7 x5 = 3 ∧ zc E (d - 1) 1 34 [(2, x5)] T7 D7 (fun x10 T10 D10 => zin x10 ∧ ((x10 = 0 → zk T10 l0 = 7 ∧ zc E (d - 1) 0 52 [(2, l0), (2, x3), (0, l2), (2, x5)] T10 D10 (fun x13 T13 D13 => zob T13 l0 7 11 ∧ zk T13 x7 = 3 ∧ zc E (d - 1) 0 25 [(2, x7), (2, (D13 l0 8))] T13 D13 (fun x16 T16 D16 => zk T16 x7 = 3 ∧ zc E (d - 1) 1 21 [(2, x7)] T16 D16 (fun x18 T18 D18 => Q x18 T18 D18)))) ∧ (x10 ≠ 0 → False)))) ∧ (l2 > 1000000 → False)))))))) :
  zj E d 1 51 0 [(2, l0), (0, l1), (0, l2), (0, l3), (0, l4), (9, 0), (9, 0), (9, 0)] [] T D Q := by
  refine zr_aload_n rfl rfl ?_
  refine zr_iload_n rfl rfl ?_
  obtain ⟨h1, H⟩ := H
  obtain ⟨h2, H⟩ := H
  refine zr_invokevirtual (rt2 := 2) rfl rfl rfl rfl rfl h2 (by decide) h1 (zc_mono H ?_)
  intro x3 T3 D3 H
  show zj _ _ _ _ _ [(2, l0), (0, l1), (0, l2), (0, l3), (0, l4), (9, 0), (9, 0), (9, 0)] [(2, x3)] _ _ _
  refine zr_astore rfl rfl ?_
  show zj _ _ _ _ _ [(2, l0), (0, l1), (0, l2), (0, l3), (0, l4), (2, x3), (9, 0), (9, 0)] [] _ _ _
  refine zr_aload_n rfl rfl ?_
  refine zr_iload_n rfl rfl ?_
  obtain ⟨h4, H⟩ := H
  refine zr_invokevirtual (rt2 := 2) rfl rfl rfl rfl rfl h4 (by decide) h1 (zc_mono H ?_)
  intro x5 T5 D5 H
  show zj _ _ _ _ _ [(2, l0), (0, l1), (0, l2), (0, l3), (0, l4), (2, x3), (9, 0), (9, 0)] [(2, x5)] _ _ _
  refine zr_astore rfl rfl ?_
  show zj _ _ _ _ _ [(2, l0), (0, l1), (0, l2), (0, l3), (0, l4), (2, x3), (2, x5), (9, 0)] [] _ _ _
  refine zr_aload_n rfl rfl ?_
  refine zr_iload rfl rfl ?_
  obtain ⟨h6, H⟩ := H
  refine zr_invokevirtual (rt2 := 2) rfl rfl rfl rfl rfl h6 (by decide) h1 (zc_mono H ?_)
  intro x7 T7 D7 H
  show zj _ _ _ _ _ [(2, l0), (0, l1), (0, l2), (0, l3), (0, l4), (2, x3), (2, x5), (9, 0)] [(2, x7)] _ _ _
  refine zr_astore rfl rfl ?_
  show zj _ _ _ _ _ [(2, l0), (0, l1), (0, l2), (0, l3), (0, l4), (2, x3), (2, x5), (2, x7)] [] _ _ _
  refine zr_iload_n rfl rfl ?_
  obtain ⟨h8, H⟩ := H
  refine zr_if_lt rfl h8 (fun hc => ?_) (fun hc => ?_)
  · replace H := H.1 hc
    exact H.elim
  · replace H := H.2 hc
    refine zr_iload_n rfl rfl ?_
    refine zr_ldc rfl rfl ?_
    refine zr_icmp_le rfl h8 (zin_c (by decide)) (fun hc => ?_) (fun hc => ?_)
    · replace H := H.1 hc
      refine zr_aload rfl rfl ?_
      obtain ⟨h9, H⟩ := H
      refine zr_invokevirtual (rt2 := 1) rfl rfl rfl rfl rfl h9 (by decide) h1 (zc_mono H ?_)
      intro x10 T10 D10 H
      show zj _ _ _ _ _ [(2, l0), (0, l1), (0, l2), (0, l3), (0, l4), (2, x3), (2, x5), (2, x7)] [(0, x10)] _ _ _
      obtain ⟨h11, H⟩ := H
      refine zr_if_eq rfl h11 (fun hc => ?_) (fun hc => ?_)
      · replace H := H.1 hc
        refine zr_aload_n rfl rfl ?_
        refine zr_aload rfl rfl ?_
        refine zr_iload_n rfl rfl ?_
        refine zr_aload rfl rfl ?_
        obtain ⟨h12, H⟩ := H
        refine zr_invokevirtual (rt2 := 0) rfl rfl rfl rfl rfl h12 (by decide) h1 (zc_mono H ?_)
        intro x13 T13 D13 H
        show zj _ _ _ _ _ [(2, l0), (0, l1), (0, l2), (0, l3), (0, l4), (2, x3), (2, x5), (2, x7)] [] _ _ _
        refine zr_aload rfl rfl ?_
        refine zr_aload_n rfl rfl ?_
        obtain ⟨h14, H⟩ := H
        refine zr_getfield (n := 11) rfl h14 (by decide) rfl (by decide) ?_
        obtain ⟨h15, H⟩ := H
        refine zr_invokevirtual (rt2 := 0) rfl rfl rfl rfl rfl h15 (by decide) h1 (zc_mono H ?_)
        intro x16 T16 D16 H
        show zj _ _ _ _ _ [(2, l0), (0, l1), (0, l2), (0, l3), (0, l4), (2, x3), (2, x5), (2, x7)] [] _ _ _
        refine zr_aload rfl rfl ?_
        obtain ⟨h17, H⟩ := H
        refine zr_invokevirtual (rt2 := 1) rfl rfl rfl rfl rfl h17 (by decide) h1 (zc_mono H ?_)
        intro x18 T18 D18 H
        show zj _ _ _ _ _ [(2, l0), (0, l1), (0, l2), (0, l3), (0, l4), (2, x3), (2, x5), (2, x7)] [(0, x18)] _ _ _
        exact zr_ireturn rfl rfl rfl H
      · replace H := H.2 hc
        exact H.elim
    · replace H := H.2 hc
      exact H.elim
theorem e51 {E : List (List Int)} {d : Nat} {T : zT} {D : zD} {Q : Int → zT → zD → Prop}  (l0 : Int) (l1 : Int) (l2 : Int) (l3 : Int) (l4 : Int) 
  (H : 0 < d ∧ zk T l0 = 7 ∧ zc E (d - 1) 2 17 [(2, l0), (0, l1)] T D (fun x3 T3 D3 => zk T3 l0 = 7 ∧ zc E (d - 1) 2 17 [(2, l0), (0, l3)] T3 D3 (fun x5 T5 D5 => zk T5 l0 = 7 ∧ zc E (d - 1) 2 17 [(2, l0), (0, l4)] T5 D5 (fun x7 T7 D7 => zin l2 ∧ ((l2 < 0 → False) ∧ (l2 ≥ 0 → ((l2 ≤ 1000000 → zk T7 x5 = 3 ∧ zc E (d - 1) 1 34 [(2, x5)] T7 D7 (fun x10 T10 D10 => zin x10 ∧ ((x10 = 0 → zk T10 l0 = 7 ∧ zc E (d - 1) 0 52 [(2, l0), (2, x3), (0, l2), (2, x5)] T10 D10 (fun x13 T13 D13 => zob T13 l0 7 11 ∧ zk T13 x7 = 3 ∧ zc E (d - 1) 0 25 [(2, x7), (2, (D13 l0 8))] T13 D13 (fun x16 T16 D16 => zk T16 x7 = 3 ∧ zc E (d - 1) 1 21 [(2, x7)] T16 D16 (fun x18 T18 D18 => Q x18 T18 D18)))) ∧ (x10 ≠ 0 → False)))) ∧ (l2 > 1000000 → False)))))))) :
  zc E d 1 51 [(2, l0), (0, l1), (0, l2), (0, l3), (0, l4)] T D Q :=
  zc_of (ls := [(2, l0), (0, l1), (0, l2), (0, l3), (0, l4), (9, 0), (9, 0), (9, 0)]) (fun _ => rfl) (z51_0  l0 l1 l2 l3 l4 H)
theorem z52_0 {E : List (List Int)} {d : Nat} {T : zT} {D : zD} {Q : Int → zT → zD → Prop}  (l0 : Int) (l1 : Int) (l2 : Int) (l3 : Int) 
  (H : zob T l0 7 11 ∧ 0 < d ∧ zk T (D l0 9) = 3 ∧ zc E (d - 1) 0 25 [(2, (D l0 9)), (2, l1)] T D (fun x4 T4 D4 => zob T4 l0 7 11 ∧ zk T4 (D4 l0 9) = 3 ∧ zc E (d - 1) 0 35 [(2, (D4 l0 9)), (2, l3), (2, (-1))] T4 D4 (fun x7 T7 D7 => zob T7 l0 7 11 ∧ zk T7 (D7 l0 8) = 3 ∧ zc E (d - 1) 0 46 [(2, (D7 l0 8)), (0, 1)] T7 D7 (fun x10 T10 D10 => zob T10 l0 7 11 ∧ zk T10 (D10 l0 8) = 3 ∧ zc E (d - 1) 0 35 [(2, (D10 l0 8)), (2, l3), (2, (-1))] T10 D10 (fun x13 T13 D13 => zj E d 0 52 37 [(2, l0), (2, l1), (0, l2), (2, l3), (0, l2)] [] T13 D13 Q))))) :
  zj E d 0 52 0 [(2, l0), (2, l1), (0, l2), (2, l3), (9, 0)] [] T D Q := by
  refine zr_aload_n rfl rfl ?_
  obtain ⟨h1, H⟩ := H
  refine zr_getfield (n := 11) rfl h1 (by decide) rfl (by decide) ?_
  refine zr_aload_n rfl rfl ?_
  obtain ⟨h2, H⟩ := H
  obtain ⟨h3, H⟩ := H
  refine zr_invokevirtual (rt2 := 0) rfl rfl rfl rfl rfl h3 (by decide) h2 (zc_mono H ?_)
  intro x4 T4 D4 H
  show zj _ _ _ _ _ [(2, l0), (2, l1), (0, l2), (2, l3), (9, 0)] [] _ _ _
  refine zr_aload_n rfl rfl ?_
  obtain ⟨h5, H⟩ := H
  refine zr_getfield (n := 11) rfl h5 (by decide) rfl (by decide) ?_
  refine zr_aload_n rfl rfl ?_
  refine zr_aconst_null rfl ?_
  obtain ⟨h6, H⟩ := H
  refine zr_invokevirtual (rt2 := 0) rfl rfl rfl rfl rfl h6 (by decide) h2 (zc_mono H ?_)
  intro x7 T7 D7 H
  show zj _ _ _ _ _ [(2, l0), (2, l1), (0, l2), (2, l3), (9, 0)] [] _ _ _
  refine zr_aload_n rfl rfl ?_
  obtain ⟨h8, H⟩ := H
  refine zr_getfield (n := 11) rfl h8 (by decide) rfl (by decide) ?_
  refine zr_iconst rfl ?_
  obtain ⟨h9, H⟩ := H
  refine zr_invokevirtual (rt2 := 0) rfl rfl rfl rfl rfl h9 (by decide) h2 (zc_mono H ?_)
  intro x10 T10 D10 H
  show zj _ _ _ _ _ [(2, l0), (2, l1), (0, l2), (2, l3), (9, 0)] [] _ _ _
  refine zr_aload_n rfl rfl ?_
  obtain ⟨h11, H⟩ := H
  refine zr_getfield (n := 11) rfl h11 (by decide) rfl (by decide) ?_
  refine zr_aload_n rfl rfl ?_
  refine zr_aconst_null rfl ?_
  obtain ⟨h12, H⟩ := H
  refine zr_invokevirtual (rt2 := 0) rfl rfl rfl rfl rfl h12 (by decide) h2 (zc_mono H ?_)
  intro x13 T13 D13 H
  show zj _ _ _ _ _ [(2, l0), (2, l1), (0, l2), (2, l3), (9, 0)] [] _ _ _
  refine zr_iload_n rfl rfl ?_
  refine zr_istore rfl rfl ?_
  show zj _ _ _ _ _ [(2, l0), (2, l1), (0, l2), (2, l3), (0, l2)] [] _ _ _
  exact H
theorem e52 {E : List (List Int)} {d : Nat} {T : zT} {D : zD} {Q : Int → zT → zD → Prop}  (l0 : Int) (l1 : Int) (l2 : Int) (l3 : Int) 
  (H : zob T l0 7 11 ∧ 0 < d ∧ zk T (D l0 9) = 3 ∧ zc E (d - 1) 0 25 [(2, (D l0 9)), (2, l1)] T D (fun x4 T4 D4 => zob T4 l0 7 11 ∧ zk T4 (D4 l0 9) = 3 ∧ zc E (d - 1) 0 35 [(2, (D4 l0 9)), (2, l3), (2, (-1))] T4 D4 (fun x7 T7 D7 => zob T7 l0 7 11 ∧ zk T7 (D7 l0 8) = 3 ∧ zc E (d - 1) 0 46 [(2, (D7 l0 8)), (0, 1)] T7 D7 (fun x10 T10 D10 => zob T10 l0 7 11 ∧ zk T10 (D10 l0 8) = 3 ∧ zc E (d - 1) 0 35 [(2, (D10 l0 8)), (2, l3), (2, (-1))] T10 D10 (fun x13 T13 D13 => zj E d 0 52 37 [(2, l0), (2, l1), (0, l2), (2, l3), (0, l2)] [] T13 D13 Q))))) :
  zc E d 0 52 [(2, l0), (2, l1), (0, l2), (2, l3)] T D Q :=
  zc_of (ls := [(2, l0), (2, l1), (0, l2), (2, l3), (9, 0)]) (fun _ => rfl) (z52_0  l0 l1 l2 l3 H)
theorem z52_37 {E : List (List Int)} {d : Nat} {T : zT} {D : zD} {Q : Int → zT → zD → Prop}  (l0 : Int) (l1 : Int) (l2 : Int) (l3 : Int) (l4 : Int) 
  (H : zin l4 ∧ ((l4 ≤ 0 → Q 0 T D) ∧ (l4 > 0 → zin (zi_and l4 1) ∧ (((zi_and l4 1) ≠ 1 → zob T l0 7 11 ∧ 0 < d ∧ zk T (D l0 10) = 3 ∧ zc E (d - 1) 0 53 [(2, (D l0 10)), (2, (D l0 9)), (2, (D l0 9)), (2, l3)] T D (fun x6 T6 D6 => zob T6 l0 7 11 ∧ zk T6 (D6 l0 9) = 3 ∧ zc E (d - 1) 0 25 [(2, (D6 l0 9)), (2, (D6 l0 10))] T6 D6 (fun x9 T9 D9 => zj E d 0 52 37 [(2, l0), (2, l1), (0, l2), (2, l3), (0, (zi_shr l4 1))] [] T9 D9 Q))) ∧ ((zi_and l4 1) = 1 → zob T l0 7 11 ∧ 0 < d ∧ zk T (D l0 10) = 3 ∧ zc E (d - 1) 0 53 [(2, (D l0 10)), (2, (D l0 8)), (2, (D l0 9)), (2, l3)] T D (fun x13 T13 D13 => zob T13 l0 7 11 ∧ zk T13 (D13 l0 8) = 3 ∧ zc E (d - 1) 0 25 [(2, (D13 l0 8)), (2, (D13 l0 10))] T13 D13 (fun x16 T16 D16 => zob T16 l0 7 11 ∧ zk T16 (D16 l0 10) = 3 ∧ zc E (d - 1) 0 53 [(2, (D16 l0 10)), (2, (D16 l0 9)), (2, (D16 l0 9)), (2, l3)] T16 D16 (fun x19 T19 D19 => zob T19 l0 7 11 ∧ zk T19 (D19 l0 9) = 3 ∧ zc E (d - 1) 0 25 [(2, (D19 l0 9)), (2, (D19 l0 10))] T19 D19 (fun x22 T22 D22 => zj E d 0 52 37 [(2, l0), (2, l1), (0, l2), (2, l3), (0, (zi_shr l4 1))] [] T22 D22 Q))))))))) :
  zj E d 0 52 37 [(2, l0), (2, l1), (0, l2), (2, l3), (0, l4)] [] T D Q := by
  refine zr_iload rfl rfl ?_
  obtain ⟨h1, H⟩ := H
  refine zr_if_le rfl h1 (fun hc => ?_) (fun hc => ?_)
  · replace H := H.1 hc
    exact zr_return rfl rfl rfl H
  · replace H := H.2 hc
    refine zr_iload rfl rfl ?_
    refine zr_iconst rfl ?_
    refine zr_iand rfl ?_
    refine zr_iconst rfl ?_
    obtain ⟨h2, H⟩ := H
    refine zr_icmp_ne rfl h2 (zin_c (by decide)) (fun hc => ?_) (fun hc => ?_)
    · replace H := H.1 hc
      refine zr_aload_n rfl rfl ?_
      obtain ⟨h3, H⟩ := H
      refine zr_getfield (n := 11) rfl h3 (by decide) rfl (by decide) ?_
      refine zr_aload_n rfl rfl ?_
      refine zr_getfield (n := 11) rfl h3 (by decide) rfl (by decide) ?_
      refine zr_aload_n rfl rfl ?_
      refine zr_getfield (n := 11) rfl h3 (by decide) rfl (by decide) ?_
      refine zr_aload_n rfl rfl ?_
      obtain ⟨h4, H⟩ := H
      obtain ⟨h5, H⟩ := H
      refine zr_invokevirtual (rt2 := 0) rfl rfl rfl rfl rfl h5 (by decide) h4 (zc_mono H ?_)
      intro x6 T6 D6 H
      show zj _ _ _ _ _ [(2, l0), (2, l1), (0, l2), (2, l3), (0, l4)] [] _ _ _
      refine zr_aload_n rfl rfl ?_
      obtain ⟨h7, H⟩ := H
      refine zr_getfield (n := 11) rfl h7 (by decide) rfl (by decide) ?_
      refine zr_aload_n rfl rfl ?_
      refine zr_getfield (n := 11) rfl h7 (by decide) rfl (by decide) ?_
      obtain ⟨h8, H⟩ := H
      refine zr_invokevirtual (rt2 := 0) rfl rfl rfl rfl rfl h8 (by decide) h4 (zc_mono H ?_)
      intro x9 T9 D9 H
      show zj _ _ _ _ _ [(2, l0), (2, l1), (0, l2), (2, l3), (0, l4)] [] _ _ _
      refine zr_iload rfl rfl ?_
      refine zr_iconst rfl ?_
      refine zr_ishr rfl ?_
      refine zr_istore rfl rfl ?_
      show zj _ _ _ _ _ [(2, l0), (2, l1), (0, l2), (2, l3), (0, (zi_shr l4 1))] [] _ _ _
      refine zr_goto rfl ?_
      exact H
    · replace H := H.2 hc
      refine zr_aload_n rfl rfl ?_
      obtain ⟨h10, H⟩ := H
      refine zr_getfield (n := 11) rfl h10 (by decide) rfl (by decide) ?_
      refine zr_aload_n rfl rfl ?_
      refine zr_getfield (n := 11) rfl h10 (by decide) rfl (by decide) ?_
      refine zr_aload_n rfl rfl ?_
      refine zr_getfield (n := 11) rfl h10 (by decide) rfl (by decide) ?_
      refine zr_aload_n rfl rfl ?_
      obtain ⟨h11, H⟩ := H
      obtain ⟨h12, H⟩ := H
      refine zr_invokevirtual (rt2 := 0) rfl rfl rfl rfl rfl h12 (by decide) h11 (zc_mono H ?_)
      intro x13 T13 D13 H
      show zj _ _ _ _ _ [(2, l0), (2, l1), (0, l2), (2, l3), (0, l4)] [] _ _ _
      refine zr_aload_n rfl rfl ?_
      obtain ⟨h14, H⟩ := H
      refine zr_getfield (n := 11) rfl h14 (by decide) rfl (by decide) ?_
      refine zr_aload_n rfl rfl ?_
      refine zr_getfield (n := 11) rfl h14 (by decide) rfl (by decide) ?_
      obtain ⟨h15, H⟩ := H
      refine zr_invokevirtual (rt2 := 0) rfl rfl rfl rfl rfl h15 (by decide) h11 (zc_mono H ?_)
      intro x16 T16 D16 H
      show zj _ _ _ _ _ [(2, l0), (2, l1), (0, l2), (2, l3), (0, l4)] [] _ _ _
      refine zr_aload_n rfl rfl ?_
      obtain ⟨h17, H⟩ := H
      refine zr_getfield (n := 11) rfl h17 (by decide) rfl (by decide) ?_
      refine zr_aload_n rfl rfl ?_
      refine zr_getfield (n := 11) rfl h17 (by decide) rfl (by decide) ?_
      refine zr_aload_n rfl rfl ?_
      refine zr_getfield (n := 11) rfl h17 (by decide) rfl (by decide) ?_
      refine zr_aload_n rfl rfl ?_
      obtain ⟨h18, H⟩ := H
      refine zr_invokevirtual (rt2 := 0) rfl rfl rfl rfl rfl h18 (by decide) h11 (zc_mono H ?_)
      intro x19 T19 D19 H
      show zj _ _ _ _ _ [(2, l0), (2, l1), (0, l2), (2, l3), (0, l4)] [] _ _ _
      refine zr_aload_n rfl rfl ?_
      obtain ⟨h20, H⟩ := H
      refine zr_getfield (n := 11) rfl h20 (by decide) rfl (by decide) ?_
      refine zr_aload_n rfl rfl ?_
      refine zr_getfield (n := 11) rfl h20 (by decide) rfl (by decide) ?_
      obtain ⟨h21, H⟩ := H
      refine zr_invokevirtual (rt2 := 0) rfl rfl rfl rfl rfl h21 (by decide) h11 (zc_mono H ?_)
      intro x22 T22 D22 H
      show zj _ _ _ _ _ [(2, l0), (2, l1), (0, l2), (2, l3), (0, l4)] [] _ _ _
      refine zr_iload rfl rfl ?_
      refine zr_iconst rfl ?_
      refine zr_ishr rfl ?_
      refine zr_istore rfl rfl ?_
      show zj _ _ _ _ _ [(2, l0), (2, l1), (0, l2), (2, l3), (0, (zi_shr l4 1))] [] _ _ _
      refine zr_goto rfl ?_
      exact H
theorem z53_0 {E : List (List Int)} {d : Nat} {T : zT} {D : zD} {Q : Int → zT → zD → Prop}  (l0 : Int) (l1 : Int) (l2 : Int) (l3 : Int) 
  (H : 0 < d ∧ zk T l0 = 3 ∧ zc E (d - 1) 0 13 [(2, l0)] T D (fun x3 T3 D3 => zob T3 l2 3 3 ∧ zj E d 0 53 10 [(2, l0), (2, l1), (2, l2), (2, l3), (0, (D3 l2 2))] [] T3 D3 Q)) :
  zj E d 0 53 0 [(2, l0), (2, l1), (2, l2), (2, l3), (9, 0)] [] T D Q := by
  refine zr_aload_n rfl rfl ?_
  obtain ⟨h1, H⟩ := H
  obtain ⟨h2, H⟩ := H
  refine zr_invokevirtual (rt2 := 0) rfl rfl rfl rfl rfl h2 (by decide) h1 (zc_mono H ?_)
  intro x3 T3 D3 H
  show zj _ _ _ _ _ [(2, l0), (2, l1), (2, l2), (2, l3), (9, 0)] [] _ _ _
  refine zr_aload_n rfl rfl ?_
  obtain ⟨h4, H⟩ := H
  refine zr_getfield (n := 3) rfl h4 (by decide) rfl (by decide) ?_
  refine zr_istore rfl rfl ?_
  show zj _ _ _ _ _ [(2, l0), (2, l1), (2, l2), (2, l3), (0, (D3 l2 2))] [] _ _ _
  exact H
theorem e53 {E : List (List Int)} {d : Nat} {T : zT} {D : zD} {Q : Int → zT → zD → Prop}  (l0 : Int) (l1 : Int) (l2 : Int) (l3 : Int) 
  (H : 0 < d ∧ zk T l0 = 3 ∧ zc E (d - 1) 0 13 [(2, l0)] T D (fun x3 T3 D3 => zob T3 l2 3 3 ∧ zj E d 0 53 10 [(2, l0), (2, l1), (2, l2), (2, l3), (0, (D3 l2 2))] [] T3 D3 Q)) :
  zc E d 0 53 [(2, l0), (2, l1), (2, l2), (2, l3)] T D Q :=
  zc_of (ls := [(2, l0), (2, l1), (2, l2), (2, l3), (9, 0)]) (fun _ => rfl) (z53_0  l0 l1 l2 l3 H)
theorem z53_10 {E : List (List Int)} {d : Nat} {T : zT} {D : zD} {Q : Int → zT → zD → Prop}  (l0 : Int) (l1 : Int) (l2 : Int) (l3 : Int) (l4 : Int) 
  (H : zin l4 ∧ ((l4 < 0 → Q 0 T D) ∧ (l4 ≥ 0 → 0 < d ∧ zk T l0 = 3 ∧ zc E (d - 1) 0 54 [(2, l0), (2, l3)] T D (fun x4 T4 D4 => zk T4 l2 = 3 ∧ zc E (d - 1) 1 19 [(2, l2), (0, l4)] T4 D4 (fun x6 T6 D6 => zk T6 l0 = 3 ∧ zc E (d - 1) 0 26 [(2, l0), (2, l1), (0, x6), (0, 0)] T6 D6 (fun x8 T8 D8 => zj E d 0 53 10 [(2, l0), (2, l1), (2, l2), (2, l3), (0, l4 + (-1))] [] T8 D8 Q)))))) :
  zj E d 0 53 10 [(2, l0), (2, l1), (2, l2), (2, l3), (0, l4)] [] T D Q := by
  refine zr_iload rfl rfl ?_
  obtain ⟨h1, H⟩ := H
  refine zr_if_lt rfl h1 (fun hc => ?_) (fun hc => ?_)
  · replace H := H.1 hc
    exact zr_return rfl rfl rfl H
  · replace H := H.2 hc
    refine zr_aload_n rfl rfl ?_
    refine zr_aload_n rfl rfl ?_
    obtain ⟨h2, H⟩ := H
    obtain ⟨h3, H⟩ := H
    refine zr_invokevirtual (rt2 := 0) rfl rfl rfl rfl rfl h3 (by decide) h2 (zc_mono H ?_)
    intro x4 T4 D4 H
    show zj _ _ _ _ _ [(2, l0), (2, l1), (2, l2), (2, l3), (0, l4)] [] _ _ _
    refine zr_aload_n rfl rfl ?_
    refine zr_aload_n rfl rfl ?_
    refine zr_aload_n rfl rfl ?_
    refine zr_iload rfl rfl ?_
    obtain ⟨h5, H⟩ := H
    refine zr_invokevirtual (rt2 := 1) rfl rfl rfl rfl rfl h5 (by decide) h2 (zc_mono H ?_)
    intro x6 T6 D6 H
    show zj _ _ _ _ _ [(2, l0), (2, l1), (2, l2), (2, l3), (0, l4)] [(0, x6), (2, l1), (2, l0)] _ _ _
    refine zr_iconst rfl ?_
    obtain ⟨h7, H⟩ := H
    refine zr_invokevirtual (rt2 := 0) rfl rfl rfl rfl rfl h7 (by decide) h2 (zc_mono H ?_)
    intro x8 T8 D8 H
    show zj _ _ _ _ _ [(2, l0), (2, l1), (2, l2), (2, l3), (0, l4)] [] _ _ _
    refine zr_iinc rfl rfl rfl ?_
    show zj _ _ _ _ _ [(2, l0), (2, l1), (2, l2), (2, l3), (0, l4 + (-1))] [] _ _ _
    refine zr_goto rfl ?_
    exact H
theorem z54_0 {E : List (List Int)} {d : Nat} {T : zT} {D : zD} {Q : Int → zT → zD → Prop}  (l0 : Int) (l1 : Int) 
  (H : zob T l0 3 3 ∧ zk T (D l0 1) = 50 ∧ zin ((D l0 2) + 1) ∧ zin ((zn T (D l0 1)) - 1) ∧ zj E d 0 54 17 [(2, l0), (2, l1), (0, (if ((zn T (D l0 1)) - 1) < ((D l0 2) + 1) then ((zn T (D l0 1)) - 1) else ((D l0 2) + 1)))] [] T D Q) :
  zj E d 0 54 0 [(2, l0), (2, l1), (9, 0)] [] T D Q := by
  refine zr_aload_n rfl rfl ?_
  obtain ⟨h1, H⟩ := H
  refine zr_getfield (n := 3) rfl h1 (by decide) rfl (by decide) ?_
  refine zr_iconst rfl ?_
  refine zr_iadd rfl ?_
  refine zr_aload_n rfl rfl ?_
  refine zr_getfield (n := 3) rfl h1 (by decide) rfl (by decide) ?_
  obtain ⟨h2, H⟩ := H
  refine zr_arraylength rfl (Or.inl h2) ?_
  refine zr_iconst rfl ?_
  refine zr_isub rfl ?_
  obtain ⟨h3, H⟩ := H
  obtain ⟨h4, H⟩ := H
  refine zr_mmin rfl rfl h3 h4 rfl ?_
  refine zr_istore_n rfl rfl ?_
  show zj _ _ _ _ _ [(2, l0), (2, l1), (0, (if ((zn T (D l0 1)) - 1) < ((D l0 2) + 1) then ((zn T (D l0 1)) - 1) else ((D l0 2) + 1)))] [] _ _ _
  exact H
theorem e54 {E : List (List Int)} {d : Nat} {T : zT} {D : zD} {Q : Int → zT → zD → Prop}  (l0 : Int) (l1 : Int) 
  (H : zob T l0 3 3 ∧ zk T (D l0 1) = 50 ∧ zin ((D l0 2) + 1) ∧ zin ((zn T (D l0 1)) - 1) ∧ zj E d 0 54 17 [(2, l0), (2, l1), (0, (if ((zn T (D l0 1)) - 1) < ((D l0 2) + 1) then ((zn T (D l0 1)) - 1) else ((D l0 2) + 1)))] [] T D Q) :
  zc E d 0 54 [(2, l0), (2, l1)] T D Q :=
  zc_of (ls := [(2, l0), (2, l1), (9, 0)]) (fun _ => rfl) (z54_0  l0 l1 H)
theorem z54_17 {E : List (List Int)} {d : Nat} {T : zT} {D : zD} {Q : Int → zT → zD → Prop}  (l0 : Int) (l1 : Int) (l2 : Int) 
  (H : zin l2 ∧ ((l2 ≤ 0 → zob T l0 3 3 ∧ zar T (D l0 1) 50 0 ∧ zin ((zu D (D l0 1) 0 0) l0 2) ∧ ((((zu D (D l0 1) 0 0) l0 2) ≥ 0 → zk T ((zu D (D l0 1) 0 0) l0 1) = 50 ∧ zin (((zu D (D l0 1) 0 0) l0 2) + 1) ∧ zin ((zn T ((zu D (D l0 1) 0 0) l0 1)) - 1) ∧ zj E d 0 54 79 [(2, l0), (2, l1), (0, l2)] [] T (zu (zu D (D l0 1) 0 0) l0 2 (if ((zn T ((zu D (D l0 1) 0 0) l0 1)) - 1) < (((zu D (D l0 1) 0 0) l0 2) + 1) then ((zn T ((zu D (D l0 1) 0 0) l0 1)) - 1) else (((zu D (D l0 1) 0 0) l0 2) + 1))) Q) ∧ (((zu D (D l0 1) 0 0) l0 2) < 0 → zj E d 0 54 79 [(2, l0), (2, l1), (0, l2)] [] T (zu (zu D (D l0 1) 0 0) l0 2 (-1)) Q))) ∧ (l2 > 0 → zob T l0 3 3 ∧ zar T (D l0 1) 50 (l2 - 1) ∧ zar T (D l0 1) 50 l2 ∧ zj E d 0 54 17 [(2, l0), (2, l1), (0, l2 + (-1))] [] T (zu D (D l0 1) l2 (D (D l0 1) (l2 - 1))) Q))) :
  zj E d 0 54 17 [(2, l0), (2, l1), (0, l2)] [] T D Q := by
  refine zr_iload_n rfl rfl ?_
  obtain ⟨h1, H⟩ := H
  refine zr_if_le rfl h1 (fun hc => ?_) (fun hc => ?_)
  · replace H := H.1 hc
    refine zr_aload_n rfl rfl ?_
    obtain ⟨h2, H⟩ := H
    refine zr_getfield (n := 3) rfl h2 (by decide) rfl (by decide) ?_
    refine zr_iconst rfl ?_
    refine zr_iconst rfl ?_
    obtain ⟨h3, H⟩ := H
    refine zr_iastore rfl h3 ?_
    refine zr_aload_n rfl rfl ?_
    refine zr_aload_n rfl rfl ?_
    refine zr_getfield (n := 3) rfl h2 (by decide) rfl (by decide) ?_
    obtain ⟨h4, H⟩ := H
    refine zr_if_ge rfl h4 (fun hc => ?_) (fun hc => ?_)
    · replace H := H.1 hc
      refine zr_aload_n rfl rfl ?_
      refine zr_getfield (n := 3) rfl h2 (by decide) rfl (by decide) ?_
      refine zr_iconst rfl ?_
      refine zr_iadd rfl ?_
      refine zr_aload_n rfl rfl ?_
      refine zr_getfield (n := 3) rfl h2 (by decide) rfl (by decide) ?_
      obtain ⟨h5, H⟩ := H
      refine zr_arraylength rfl (Or.inl h5) ?_
      refine zr_iconst rfl ?_
      refine zr_isub rfl ?_
      obtain ⟨h6, H⟩ := H
      obtain ⟨h7, H⟩ := H
      refine zr_mmin rfl rfl h6 h7 rfl ?_
      refine zr_putfield (n := 3) (t := 0) rfl h2 (by decide) rfl (by decide) rfl ?_
      exact H
    · replace H := H.2 hc
      refine zr_iconst rfl ?_
      refine zr_goto rfl ?_
      refine zr_putfield (n := 3) (t := 0) rfl h2 (by decide) rfl (by decide) rfl ?_
      exact H
  · replace H := H.2 hc
    refine zr_aload_n rfl rfl ?_
    obtain ⟨h8, H⟩ := H
    refine zr_getfield (n := 3) rfl h8 (by decide) rfl (by decide) ?_
    refine zr_iload_n rfl rfl ?_
    refine zr_aload_n rfl rfl ?_
    refine zr_getfield (n := 3) rfl h8 (by decide) rfl (by decide) ?_
    refine zr_iload_n rfl rfl ?_
    refine zr_iconst rfl ?_
    refine zr_isub rfl ?_
    obtain ⟨h9, H⟩ := H
    refine zr_iaload rfl h9 ?_
    obtain ⟨h10, H⟩ := H
    refine zr_iastore rfl h10 ?_
    refine zr_iinc rfl rfl rfl ?_
    show zj _ _ _ _ _ [(2, l0), (2, l1), (0, l2 + (-1))] [] _ _ _
    refine zr_goto rfl ?_
    exact H
theorem z54_79 {E : List (List Int)} {d : Nat} {T : zT} {D : zD} {Q : Int → zT → zD → Prop}  (l0 : Int) (l1 : Int) (l2 : Int) 
  (H : zob T l0 3 3 ∧ zob T l1 3 3 ∧ 0 < d ∧ zk T l0 = 3 ∧ zc E (d - 1) 1 19 [(2, l0), (0, (D l1 2))] T D (fun x5 T5 D5 => zob T5 l0 3 3 ∧ zk T5 l1 = 3 ∧ zc E (d - 1) 1 36 [(2, l1)] T5 D5 (fun x8 T8 D8 => zk T8 (D5 l0 0) = 1 ∧ zc E (d - 1) 1 37 [(2, (D5 l0 0)), (0, x8)] T8 D8 (fun x10 T10 D10 => zk T10 (D l0 0) = 1 ∧ zc E (d - 1) 1 38 [(2, (D l0 0)), (0, x5), (0, x10)] T10 D10 (fun x12 T12 D12 => zob T12 l0 3 3 ∧ zk T12 (D12 l0 0) = 1 ∧ zc E (d - 1) 1 28 [(2, (D12 l0 0)), (0, x12)] T12 D12 (fun x15 T15 D15 => zk T15 l0 = 3 ∧ zc E (d - 1) 0 26 [(2, l0), (2, l1), (0, x15), (0, 0)] T15 D15 (fun x17 T17 D17 => Q 0 T17 D17))))))) :
  zj E d 0 54 79 [(2, l0), (2, l1), (0, l2)] [] T D Q := by
  refine zr_aload_n rfl rfl ?_
  obtain ⟨h1, H⟩ := H
  refine zr_getfield (n := 3) rfl h1 (by decide) rfl (by decide) ?_
  refine zr_aload_n rfl rfl ?_
  refine zr_aload_n rfl rfl ?_
  obtain ⟨h2, H⟩ := H
  refine zr_getfield (n := 3) rfl h2 (by decide) rfl (by decide) ?_
  obtain ⟨h3, H⟩ := H
  obtain ⟨h4, H⟩ := H
  refine zr_invokevirtual (rt2 := 1) rfl rfl rfl rfl rfl h4 (by decide) h3 (zc_mono H ?_)
  intro x5 T5 D5 H
  show zj _ _ _ _ _ [(2, l0), (2, l1), (0, l2)] [(0, x5), (2, (D l0 0))] _ _ _
  refine zr_aload_n rfl rfl ?_
  obtain ⟨h6, H⟩ := H
  refine zr_getfield (n := 3) rfl h6 (by decide) rfl (by decide) ?_
  refine zr_aload_n rfl rfl ?_
  obtain ⟨h7, H⟩ := H
  refine zr_invokevirtual (rt2 := 1) rfl rfl rfl rfl rfl h7 (by decide) h3 (zc_mono H ?_)
  intro x8 T8 D8 H
  show zj _ _ _ _ _ [(2, l0), (2, l1), (0, l2)] [(0, x8), (2, (D5 l0 0)), (0, x5), (2, (D l0 0))] _ _ _
  obtain ⟨h9, H⟩ := H
  refine zr_invokevirtual (rt2 := 1) rfl rfl rfl rfl rfl h9 (by decide) h3 (zc_mono H ?_)
  intro x10 T10 D10 H
  show zj _ _ _ _ _ [(2, l0), (2, l1), (0, l2)] [(0, x10), (0, x5), (2, (D l0 0))] _ _ _
  obtain ⟨h11, H⟩ := H
  refine zr_invokevirtual (rt2 := 1) rfl rfl rfl rfl rfl h11 (by decide) h3 (zc_mono H ?_)
  intro x12 T12 D12 H
  show zj _ _ _ _ _ [(2, l0), (2, l1), (0, l2)] [(0, x12)] _ _ _
  refine zr_istore_n rfl rfl ?_
  show zj _ _ _ _ _ [(2, l0), (2, l1), (0, x12)] [] _ _ _
  refine zr_aload_n rfl rfl ?_
  refine zr_aload_n rfl rfl ?_
  refine zr_aload_n rfl rfl ?_
  obtain ⟨h13, H⟩ := H
  refine zr_getfield (n := 3) rfl h13 (by decide) rfl (by decide) ?_
  refine zr_iload_n rfl rfl ?_
  obtain ⟨h14, H⟩ := H
  refine zr_invokevirtual (rt2 := 1) rfl rfl rfl rfl rfl h14 (by decide) h3 (zc_mono H ?_)
  intro x15 T15 D15 H
  show zj _ _ _ _ _ [(2, l0), (2, l1), (0, x12)] [(0, x15), (2, l1), (2, l0)] _ _ _
  refine zr_iconst rfl ?_
  obtain ⟨h16, H⟩ := H
  refine zr_invokevirtual (rt2 := 0) rfl rfl rfl rfl rfl h16 (by decide) h3 (zc_mono H ?_)
  intro x17 T17 D17 H
  show zj _ _ _ _ _ [(2, l0), (2, l1), (0, x12)] [] _ _ _
  exact zr_return rfl rfl rfl H
theorem z55_0 {E : List (List Int)} {d : Nat} {T : zT} {D : zD} {Q : Int → zT → zD → Prop}  (l0 : Int) (l1 : Int) (l2 : Int) 
  (H : 0 < d ∧ zk T l0 = 7 ∧ zc E (d - 1) 2 17 [(2, l0), (0, l1)] T D (fun x3 T3 D3 => zob T3 l0 7 11 ∧ zk T3 (D3 l0 0) = 1 ∧ zc E (d - 1) 1 31 [(2, (D3 l0 0)), (0, l2)] T3 D3 (fun x6 T6 D6 => zk T6 x3 = 3 ∧ zc E (d - 1) 1 56 [(2, x3), (0, x6)] T6 D6 (fun x8 T8 D8 => Q x8 T8 D8)))) :
  zj E d 1 55 0 [(2, l0), (0, l1), (0, l2)] [] T D Q := by
  refine zr_aload_n rfl rfl ?_
  refine zr_iload_n rfl rfl ?_
  obtain ⟨h1, H⟩ := H
  obtain ⟨h2, H⟩ := H
  refine zr_invokevirtual (rt2 := 2) rfl rfl rfl rfl rfl h2 (by decide) h1 (zc_mono H ?_)
  intro x3 T3 D3 H
  show zj _ _ _ _ _ [(2, l0), (0, l1), (0, l2)] [(2, x3)] _ _ _
  refine zr_aload_n rfl rfl ?_
  obtain ⟨h4, H⟩ := H
  refine zr_getfield (n := 11) rfl h4 (by decide) rfl (by decide) ?_
  refine zr_iload_n rfl rfl ?_
  obtain ⟨h5, H⟩ := H
  refine zr_invokevirtual (rt2 := 1) rfl rfl rfl rfl rfl h5 (by decide) h1 (zc_mono H ?_)
  intro x6 T6 D6 H
  show zj _ _ _ _ _ [(2, l0), (0, l1), (0, l2)] [(0, x6), (2, x3)] _ _ _
  obtain ⟨h7, H⟩ := H
  refine zr_invokevirtual (rt2 := 1) rfl rfl rfl rfl rfl h7 (by decide) h1 (zc_mono H ?_)
  intro x8 T8 D8 H
  show zj _ _ _ _ _ [(2, l0), (0, l1), (0, l2)] [(0, x8)] _ _ _
  exact zr_ireturn rfl rfl rfl H
theorem e55 {E : List (List Int)} {d : Nat} {T : zT} {D : zD} {Q : Int → zT → zD → Prop}  (l0 : Int) (l1 : Int) (l2 : Int) 
  (H : 0 < d ∧ zk T l0 = 7 ∧ zc E (d - 1) 2 17 [(2, l0), (0, l1)] T D (fun x3 T3 D3 => zob T3 l0 7 11 ∧ zk T3 (D3 l0 0) = 1 ∧ zc E (d - 1) 1 31 [(2, (D3 l0 0)), (0, l2)] T3 D3 (fun x6 T6 D6 => zk T6 x3 = 3 ∧ zc E (d - 1) 1 56 [(2, x3), (0, x6)] T6 D6 (fun x8 T8 D8 => Q x8 T8 D8)))) :
  zc E d 1 55 [(2, l0), (0, l1), (0, l2)] T D Q :=
  zc_of (ls := [(2, l0), (0, l1), (0, l2)]) (fun _ => rfl) (z55_0  l0 l1 l2 H)
theorem z56_0 {E : List (List Int)} {d : Nat} {T : zT} {D : zD} {Q : Int → zT → zD → Prop}  (l0 : Int) (l1 : Int) 
  (H : zob T l0 3 3 ∧ zob T (D l0 0) 1 2 ∧ zj E d 1 56 16 [(2, l0), (0, l1), (0, (D (D l0 0) 0)), (0, 0), (0, (D l0 2))] [] T D Q) :
  zj E d 1 56 0 [(2, l0), (0, l1), (9, 0), (9, 0), (9, 0)] [] T D Q := by
  refine zr_aload_n rfl rfl ?_
  obtain ⟨h1, H⟩ := H
  refine zr_getfield (n := 3) rfl h1 (by decide) rfl (by decide) ?_
  obtain ⟨h2, H⟩ := H
  refine zr_getfield (n := 2) rfl h2 (by decide) rfl (by decide) ?_
  refine zr_istore_n rfl rfl ?_
  show zj _ _ _ _ _ [(2, l0), (0, l1), (0, (D (D l0 0) 0)), (9, 0), (9, 0)] [] _ _ _
  refine zr_iconst rfl ?_
  refine zr_istore_n rfl rfl ?_
  show zj _ _ _ _ _ [(2, l0), (0, l1), (0, (D (D l0 0) 0)), (0, 0), (9, 0)] [] _ _ _
  refine zr_aload_n rfl rfl ?_
  refine zr_getfield (n := 3) rfl h1 (by decide) rfl (by decide) ?_
  refine zr_istore rfl rfl ?_
  show zj _ _ _ _ _ [(2, l0), (0, l1), (0, (D (D l0 0) 0)), (0, 0), (0, (D l0 2))] [] _ _ _
  exact H
theorem e56 {E : List (List Int)} {d : Nat} {T : zT} {D : zD} {Q : Int → zT → zD → Prop}  (l0 : Int) (l1 : Int) 
  (H : zob T l0 3 3 ∧ zob T (D l0 0) 1 2 ∧ zj E d 1 56 16 [(2, l0), (0, l1), (0, (D (D l0 0) 0)), (0, 0), (0, (D l0 2))] [] T D Q) :
  zc E d 1 56 [(2, l0), (0, l1)] T D Q :=
  zc_of (ls := [(2, l0), (0, l1), (9, 0), (9, 0), (9, 0)]) (fun _ => rfl) (z56_0  l0 l1 H)
theorem z56_16 {E : List (List Int)} {d : Nat} {T : zT} {D : zD} {Q : Int → zT → zD → Prop}  (l0 : Int) (l1 : Int) (l2 : Int) (l3 : Int) (l4 : Int) 
  (H : zin l4 ∧ ((l4 < 0 → Q l3 T D) ∧ (l4 ≥ 0 → zob T l0 3 3 ∧ zk T (D l0 1) = 50 ∧ zin (zn T (D l0 1)) ∧ ((l4 ≥ (zn T (D l0 1)) → Q l3 T D) ∧ (l4 < (zn T (D l0 1)) → zin l2 ∧ ((l2 < 2 → Q l3 T D) ∧ (l2 ≥ 2 → zar T (D l0 1) 50 l4 ∧ zin ((l3 * l1) + (D (D l0 1) l4)) ∧ 0 < l2 ∧ l2 ≤ 2147483647 ∧ zj E d 1 56 16 [(2, l0), (0, l1), (0, l2), (0, (((l3 * l1) + (D (D l0 1) l4)).tmod l2)), (0, l4 + (-1))] [] T D Q))))))) :
  zj E d 1 56 16 [(2, l0), (0, l1), (0, l2), (0, l3), (0, l4)] [] T D Q := by
  refine zr_iload rfl rfl ?_
  obtain ⟨h1, H⟩ := H
  refine zr_if_lt rfl h1 (fun hc => ?_) (fun hc => ?_)
  · replace H := H.1 hc
    refine zr_iload_n rfl rfl ?_
    exact zr_ireturn rfl rfl rfl H
  · replace H := H.2 hc
    refine zr_iload rfl rfl ?_
    refine zr_aload_n rfl rfl ?_
    obtain ⟨h2, H⟩ := H
    refine zr_getfield (n := 3) rfl h2 (by decide) rfl (by decide) ?_
    obtain ⟨h3, H⟩ := H
    refine zr_arraylength rfl (Or.inl h3) ?_
    obtain ⟨h4, H⟩ := H
    refine zr_icmp_ge rfl h1 h4 (fun hc => ?_) (fun hc => ?_)
    · replace H := H.1 hc
      refine zr_iload_n rfl rfl ?_
      exact zr_ireturn rfl rfl rfl H
    · replace H := H.2 hc
      refine zr_iload_n rfl rfl ?_
      refine zr_iconst rfl ?_
      obtain ⟨h5, H⟩ := H
      refine zr_icmp_lt rfl h5 (zin_c (by decide)) (fun hc => ?_) (fun hc => ?_)
      · replace H := H.1 hc
        refine zr_iload_n rfl rfl ?_
        exact zr_ireturn rfl rfl rfl H
      · replace H := H.2 hc
        refine zr_iload_n rfl rfl ?_
        refine zr_iload_n rfl rfl ?_
        refine zr_imul rfl ?_
        refine zr_aload_n rfl rfl ?_
        refine zr_getfield (n := 3) rfl h2 (by decide) rfl (by decide) ?_
        refine zr_iload rfl rfl ?_
        obtain ⟨h6, H⟩ := H
        refine zr_iaload rfl h6 ?_
        refine zr_iadd rfl ?_
        refine zr_iload_n rfl rfl ?_
        obtain ⟨h7, H⟩ := H
        obtain ⟨h8, H⟩ := H
        obtain ⟨h9, H⟩ := H
        refine zr_irem rfl h7 h8 h9 ?_
        refine zr_istore_n rfl rfl ?_
        show zj _ _ _ _ _ [(2, l0), (0, l1), (0, l2), (0, (((l3 * l1) + (D (D l0 1) l4)).tmod l2)), (0, l4)] [] _ _ _
        refine zr_iinc rfl rfl rfl ?_
        show zj _ _ _ _ _ [(2, l0), (0, l1), (0, l2), (0, (((l3 * l1) + (D (D l0 1) l4)).tmod l2)), (0, l4 + (-1))] [] _ _ _
        refine zr_goto rfl ?_
        exact H
theorem z57_0 {E : List (List Int)} {d : Nat} {T : zT} {D : zD} {Q : Int → zT → zD → Prop}  (l0 : Int) (l1 : Int) 
  (H : 0 < d ∧ zk T l0 = 7 ∧ zc E (d - 1) 2 17 [(2, l0), (0, l1)] T D (fun x3 T3 D3 => zk T3 x3 = 3 ∧ zc E (d - 1) 1 34 [(2, x3)] T3 D3 (fun x5 T5 D5 => zin x5 ∧ ((x5 = 0 → zob T5 l0 7 11 ∧ zk T5 (D5 l0 7) = 5 ∧ zc E (d - 1) 0 58 [(2, (D5 l0 7)), (2, x3)] T5 D5 (fun x9 T9 D9 => zob T9 l0 7 11 ∧ zk T9 (D9 l0 7) = 5 ∧ zc E (d - 1) 1 83 [(2, (D9 l0 7))] T9 D9 (fun x12 T12 D12 => Q x12 T12 D12))) ∧ (x5 ≠ 0 → False))))) :
  zj E d 1 57 0 [(2, l0), (0, l1), (9, 0)] [] T D Q := by
  refine zr_aload_n rfl rfl ?_
  refine zr_iload_n rfl rfl ?_
  obtain ⟨h1, H⟩ := H
  obtain ⟨h2, H⟩ := H
  refine zr_invokevirtual (rt2 := 2) rfl rfl rfl rfl rfl h2 (by decide) h1 (zc_mono H ?_)
  intro x3 T3 D3 H
  show zj _ _ _ _ _ [(2, l0), (0, l1), (9, 0)] [(2, x3)] _ _ _
  refine zr_astore_n rfl rfl ?_
  show zj _ _ _ _ _ [(2, l0), (0, l1), (2, x3)] [] _ _ _
  refine zr_aload_n rfl rfl ?_
  obtain ⟨h4, H⟩ := H
  refine zr_invokevirtual (rt2 := 1) rfl rfl rfl rfl rfl h4 (by decide) h1 (zc_mono H ?_)
  intro x5 T5 D5 H
  show zj _ _ _ _ _ [(2, l0), (0, l1), (2, x3)] [(0, x5)] _ _ _
  obtain ⟨h6, H⟩ := H
  refine zr_if_eq rfl h6 (fun hc => ?_) (fun hc => ?_)
  · replace H := H.1 hc
    refine zr_aload_n rfl rfl ?_
    obtain ⟨h7, H⟩ := H
    refine zr_getfield (n := 11) rfl h7 (by decide) rfl (by decide) ?_
    refine zr_aload_n rfl rfl ?_
    obtain ⟨h8, H⟩ := H
    refine zr_invokevirtual (rt2 := 0) rfl rfl rfl rfl rfl h8 (by decide) h1 (zc_mono H ?_)
    intro x9 T9 D9 H
    show zj _ _ _ _ _ [(2, l0), (0, l1), (2, x3)] [] _ _ _
    refine zr_aload_n rfl rfl ?_
    obtain ⟨h10, H⟩ := H
    refine zr_getfield (n := 11) rfl h10 (by decide) rfl (by decide) ?_
    obtain ⟨h11, H⟩ := H
    refine zr_invokevirtual (rt2 := 1) rfl rfl rfl rfl rfl h11 (by decide) h1 (zc_mono H ?_)
    intro x12 T12 D12 H
    show zj _ _ _ _ _ [(2, l0), (0, l1), (2, x3)] [(0, x12)] _ _ _
    exact zr_ireturn rfl rfl rfl H
  · replace H := H.2 hc
    exact H.elim
theorem e57 {E : List (List Int)} {d : Nat} {T : zT} {D : zD} {Q : Int → zT → zD → Prop}  (l0 : Int) (l1 : Int) 
  (H : 0 < d ∧ zk T l0 = 7 ∧ zc E (d - 1) 2 17 [(2, l0), (0, l1)] T D (fun x3 T3 D3 => zk T3 x3 = 3 ∧ zc E (d - 1) 1 34 [(2, x3)] T3 D3 (fun x5 T5 D5 => zin x5 ∧ ((x5 = 0 → zob T5 l0 7 11 ∧ zk T5 (D5 l0 7) = 5 ∧ zc E (d - 1) 0 58 [(2, (D5 l0 7)), (2, x3)] T5 D5 (fun x9 T9 D9 => zob T9 l0 7 11 ∧ zk T9 (D9 l0 7) = 5 ∧ zc E (d - 1) 1 83 [(2, (D9 l0 7))] T9 D9 (fun x12 T12 D12 => Q x12 T12 D12))) ∧ (x5 ≠ 0 → False))))) :
  zc E d 1 57 [(2, l0), (0, l1)] T D Q :=
  zc_of (ls := [(2, l0), (0, l1), (9, 0)]) (fun _ => rfl) (z57_0  l0 l1 H)
theorem z58_0 {E : List (List Int)} {d : Nat} {T : zT} {D : zD} {Q : Int → zT → zD → Prop}  (l0 : Int) (l1 : Int) 
  (H : zob T l0 5 12 ∧ 0 < d ∧ zk T ((zu D l0 4 0) l0 8) = 3 ∧ zc E (d - 1) 0 25 [(2, ((zu D l0 4 0) l0 8)), (2, l1)] T (zu D l0 4 0) (fun x4 T4 D4 => zob T4 l0 5 12 ∧ zk T4 (D4 l0 8) = 3 ∧ zc E (d - 1) 1 36 [(2, (D4 l0 8))] T4 D4 (fun x7 T7 D7 => zk T7 (D4 l0 0) = 1 ∧ zc E (d - 1) 1 37 [(2, (D4 l0 0)), (0, x7)] T7 D7 (fun x9 T9 D9 => zk T9 (D4 l0 8) = 3 ∧ zc E (d - 1) 0 40 [(2, (D4 l0 8)), (0, x9)] T9 D9 (fun x11 T11 D11 => zj E d 0 58 38 [(2, l0), (2, l1), (0, 1), (0, 0), (9, 0), (9, 0), (9, 0)] [] T11 D11 Q))))) :
  zj E d 0 58 0 [(2, l0), (2, l1), (9, 0), (9, 0), (9, 0), (9, 0), (9, 0)] [] T D Q := by
  refine zr_aload_n rfl rfl ?_
  refine zr_iconst rfl ?_
  obtain ⟨h1, H⟩ := H
  refine zr_putfield (n := 12) (t := 0) rfl h1 (by decide) rfl (by decide) rfl ?_
  refine zr_aload_n rfl rfl ?_
  refine zr_getfield (n := 12) rfl h1 (by decide) rfl (by decide) ?_
  refine zr_aload_n rfl rfl ?_
  obtain ⟨h2, H⟩ := H
  obtain ⟨h3, H⟩ := H
  refine zr_invokevirtual (rt2 := 0) rfl rfl rfl rfl rfl h3 (by decide) h2 (zc_mono H ?_)
  intro x4 T4 D4 H
  show zj _ _ _ _ _ [(2, l0), (2, l1), (9, 0), (9, 0), (9, 0), (9, 0), (9, 0)] [] _ _ _
  refine zr_aload_n rfl rfl ?_
  obtain ⟨h5, H⟩ := H
  refine zr_getfield (n := 12) rfl h5 (by decide) rfl (by decide) ?_
  refine zr_aload_n rfl rfl ?_
  refine zr_getfield (n := 12) rfl h5 (by decide) rfl (by decide) ?_
  refine zr_aload_n rfl rfl ?_
  refine zr_getfield (n := 12) rfl h5 (by decide) rfl (by decide) ?_
  obtain ⟨h6, H⟩ := H
  refine zr_invokevirtual (rt2 := 1) rfl rfl rfl rfl rfl h6 (by decide) h2 (zc_mono H ?_)
  intro x7 T7 D7 H
  show zj _ _ _ _ _ [(2, l0), (2, l1), (9, 0), (9, 0), (9, 0), (9, 0), (9, 0)] [(0, x7), (2, (D4 l0 0)), (2, (D4 l0 8))] _ _ _
  obtain ⟨h8, H⟩ := H
  refine zr_invokevirtual (rt2 := 1) rfl rfl rfl rfl rfl h8 (by decide) h2 (zc_mono H ?_)
  intro x9 T9 D9 H
  show zj _ _ _ _ _ [(2, l0), (2, l1), (9, 0), (9, 0), (9, 0), (9, 0), (9, 0)] [(0, x9), (2, (D4 l0 8))] _ _ _
  obtain ⟨h10, H⟩ := H
  refine zr_invokevirtual (rt2 := 0) rfl rfl rfl rfl rfl h10 (by decide) h2 (zc_mono H ?_)
  intro x11 T11 D11 H
  show zj _ _ _ _ _ [(2, l0), (2, l1), (9, 0), (9, 0), (9, 0), (9, 0), (9, 0)] [] _ _ _
  refine zr_iconst rfl ?_
  refine zr_istore_n rfl rfl ?_
  show zj _ _ _ _ _ [(2, l0), (2, l1), (0, 1), (9, 0), (9, 0), (9, 0), (9, 0)] [] _ _ _
  refine zr_iconst rfl ?_
  refine zr_istore_n rfl rfl ?_
  show zj _ _ _ _ _ [(2, l0), (2, l1), (0, 1), (0, 0), (9, 0), (9, 0), (9, 0)] [] _ _ _
  exact H
theorem e58 {E : List (List Int)} {d : Nat} {T : zT} {D : zD} {Q : Int → zT → zD → Prop}  (l0 : Int) (l1 : Int) 
  (H : zob T l0 5 12 ∧ 0 < d ∧ zk T ((zu D l0 4 0) l0 8) = 3 ∧ zc E (d - 1) 0 25 [(2, ((zu D l0 4 0) l0 8)), (2, l1)] T (zu D l0 4 0) (fun x4 T4 D4 => zob T4 l0 5 12 ∧ zk T4 (D4 l0 8) = 3 ∧ zc E (d - 1) 1 36 [(2, (D4 l0 8))] T4 D4 (fun x7 T7 D7 => zk T7 (D4 l0 0) = 1 ∧ zc E (d - 1) 1 37 [(2, (D4 l0 0)), (0, x7)] T7 D7 (fun x9 T9 D9 => zk T9 (D4 l0 8) = 3 ∧ zc E (d - 1) 0 40 [(2, (D4 l0 8)), (0, x9)] T9 D9 (fun x11 T11 D11 => zj E d 0 58 38 [(2, l0), (2, l1), (0, 1), (0, 0), (9, 0), (9, 0), (9, 0)] [] T11 D11 Q))))) :
  zc E d 0 58 [(2, l0), (2, l1)] T D Q :=
  zc_of (ls := [(2, l0), (2, l1), (9, 0), (9, 0), (9, 0), (9, 0), (9, 0)]) (fun _ => rfl) (z58_0  l0 l1 H)
theorem z58_38 {E : List (List Int)} {d : Nat} {T : zT} {D : zD} {Q : Int → zT → zD → Prop}  (l0 : Int) (l1 : Int) (l2 : Int) (l3 : Int) (w4 : zv_V) (w5 : zv_V) (w6 : zv_V) (hw4 : zs_wide w4 = false) (hw5 : zs_wide w5 = false) (hw6 : zs_wide w6 = false)
  (H : zin l3 ∧ ((l3 ≥ 1000 → 0 < d ∧ zk T l0 = 5 ∧ zc E (d - 1) 0 80 [(2, l0)] T D (fun x4 T4 D4 => Q 0 T4 D4)) ∧ (l3 < 1000 → zob T l0 5 12 ∧ 0 < d ∧ zk T (D l0 8) = 3 ∧ zc E (d - 1) 1 21 [(2, (D l0 8))] T D (fun x8 T8 D8 => zin x8 ∧ ((x8 ≤ 0 → zk T8 l0 = 5 ∧ zc E (d - 1) 0 80 [(2, l0)] T8 D8 (fun x11 T11 D11 => Q 0 T11 D11)) ∧ (x8 > 0 → zob T8 l0 5 12 ∧ zk T8 (D8 l0 9) = 3 ∧ zc E (d - 1) 0 42 [(2, (D8 l0 9)), (2, (D8 l0 8))] T8 D8 (fun x14 T14 D14 => zob T14 l0 5 12 ∧ zk T14 (D14 l0 9) = 3 ∧ zc E (d - 1) 1 34 [(2, (D14 l0 9))] T14 D14 (fun x17 T17 D17 => zin x17 ∧ ((x17 = 0 → zob T17 l0 5 12 ∧ zk T17 l0 = 5 ∧ zc E (d - 1) 1 60 [(2, l0)] T17 D17 (fun x21 T21 D21 => zj E d 0 58 111 [(2, l0), (2, l1), (0, l2), (0, l3), (0, (D17 l0 4)), (0, ((D17 l0 4) + x21)), (0, 1)] [] T21 D21 Q)) ∧ (x17 ≠ 0 → zk T17 l0 = 5 ∧ zc E (d - 1) 0 59 [(2, l0)] T17 D17 (fun x23 T23 D23 => zob T23 l0 5 12 ∧ zk T23 (D23 l0 0) = 1 ∧ zc E (d - 1) 1 12 [(2, (D23 l0 0))] T23 D23 (fun x26 T26 D26 => zj E d 0 58 38 [(2, l0), (2, l1), (0, (l2 * x26)), (0, l3 + 1), w4, w5, w6] [] T26 D26 Q)))))))))))) :
  zj E d 0 58 38 [(2, l0), (2, l1), (0, l2), (0, l3), w4, w5, w6] [] T D Q := by
  refine zr_iload_n rfl rfl ?_
  refine zr_sipush rfl ?_
  obtain ⟨h1, H⟩ := H
  refine zr_icmp_ge rfl h1 (zin_c (by decide)) (fun hc => ?_) (fun hc => ?_)
  · replace H := H.1 hc
    refine zr_aload_n rfl rfl ?_
    obtain ⟨h2, H⟩ := H
    obtain ⟨h3, H⟩ := H
    refine zr_invokevirtual (rt2 := 0) rfl rfl rfl rfl rfl h3 (by decide) h2 (zc_mono H ?_)
    intro x4 T4 D4 H
    show zj _ _ _ _ _ [(2, l0), (2, l1), (0, l2), (0, l3), w4, w5, w6] [] _ _ _
    exact zr_return rfl rfl rfl H
  · replace H := H.2 hc
    refine zr_aload_n rfl rfl ?_
    obtain ⟨h5, H⟩ := H
    refine zr_getfield (n := 12) rfl h5 (by decide) rfl (by decide) ?_
    obtain ⟨h6, H⟩ := H
    obtain ⟨h7, H⟩ := H
    refine zr_invokevirtual (rt2 := 1) rfl rfl rfl rfl rfl h7 (by decide) h6 (zc_mono H ?_)
    intro x8 T8 D8 H
    show zj _ _ _ _ _ [(2, l0), (2, l1), (0, l2), (0, l3), w4, w5, w6] [(0, x8)] _ _ _
    obtain ⟨h9, H⟩ := H
    refine zr_if_le rfl h9 (fun hc => ?_) (fun hc => ?_)
    · replace H := H.1 hc
      refine zr_aload_n rfl rfl ?_
      obtain ⟨h10, H⟩ := H
      refine zr_invokevirtual (rt2 := 0) rfl rfl rfl rfl rfl h10 (by decide) h6 (zc_mono H ?_)
      intro x11 T11 D11 H
      show zj _ _ _ _ _ [(2, l0), (2, l1), (0, l2), (0, l3), w4, w5, w6] [] _ _ _
      exact zr_return rfl rfl rfl H
    · replace H := H.2 hc
      refine zr_aload_n rfl rfl ?_
      obtain ⟨h12, H⟩ := H
      refine zr_getfield (n := 12) rfl h12 (by decide) rfl (by decide) ?_
      refine zr_aload_n rfl rfl ?_
      refine zr_getfield (n := 12) rfl h12 (by decide) rfl (by decide) ?_
      obtain ⟨h13, H⟩ := H
      refine zr_invokevirtual (rt2 := 0) rfl rfl rfl rfl rfl h13 (by decide) h6 (zc_mono H ?_)
      intro x14 T14 D14 H
      show zj _ _ _ _ _ [(2, l0), (2, l1), (0, l2), (0, l3), w4, w5, w6] [] _ _ _
      refine zr_aload_n rfl rfl ?_
      obtain ⟨h15, H⟩ := H
      refine zr_getfield (n := 12) rfl h15 (by decide) rfl (by decide) ?_
      obtain ⟨h16, H⟩ := H
      refine zr_invokevirtual (rt2 := 1) rfl rfl rfl rfl rfl h16 (by decide) h6 (zc_mono H ?_)
      intro x17 T17 D17 H
      show zj _ _ _ _ _ [(2, l0), (2, l1), (0, l2), (0, l3), w4, w5, w6] [(0, x17)] _ _ _
      obtain ⟨h18, H⟩ := H
      refine zr_if_eq rfl h18 (fun hc => ?_) (fun hc => ?_)
      · replace H := H.1 hc
        refine zr_aload_n rfl rfl ?_
        obtain ⟨h19, H⟩ := H
        refine zr_getfield (n := 12) rfl h19 (by decide) rfl (by decide) ?_
        refine zr_istore rfl rfl ?_
        show zj _ _ _ _ _ [(2, l0), (2, l1), (0, l2), (0, l3), (0, (D17 l0 4)), w5, w6] [] _ _ _
        refine zr_iload rfl rfl ?_
        refine zr_aload_n rfl rfl ?_
        obtain ⟨h20, H⟩ := H
        refine zr_invokevirtual (rt2 := 1) rfl rfl rfl rfl rfl h20 (by decide) h6 (zc_mono H ?_)
        intro x21 T21 D21 H
        show zj _ _ _ _ _ [(2, l0), (2, l1), (0, l2), (0, l3), (0, (D17 l0 4)), w5, w6] [(0, x21), (0, (D17 l0 4))] _ _ _
        refine zr_iadd rfl ?_
        refine zr_istore rfl rfl ?_
        show zj _ _ _ _ _ [(2, l0), (2, l1), (0, l2), (0, l3), (0, (D17 l0 4)), (0, ((D17 l0 4) + x21)), w6] [] _ _ _
        refine zr_iconst rfl ?_
        refine zr_istore rfl rfl ?_
        show zj _ _ _ _ _ [(2, l0), (2, l1), (0, l2), (0, l3), (0, (D17 l0 4)), (0, ((D17 l0 4) + x21)), (0, 1)] [] _ _ _
        exact H
      · replace H := H.2 hc
        refine zr_aload_n rfl rfl ?_
        obtain ⟨h22, H⟩ := H
        refine zr_invokevirtual (rt2 := 0) rfl rfl rfl rfl rfl h22 (by decide) h6 (zc_mono H ?_)
        intro x23 T23 D23 H
        show zj _ _ _ _ _ [(2, l0), (2, l1), (0, l2), (0, l3), w4, w5, w6] [] _ _ _
        refine zr_iload_n rfl rfl ?_
        refine zr_aload_n rfl rfl ?_
        obtain ⟨h24, H⟩ := H
        refine zr_getfield (n := 12) rfl h24 (by decide) rfl (by decide) ?_
        obtain ⟨h25, H⟩ := H
        refine zr_invokevirtual (rt2 := 1) rfl rfl rfl rfl rfl h25 (by decide) h6 (zc_mono H ?_)
        intro x26 T26 D26 H
        show zj _ _ _ _ _ [(2, l0), (2, l1), (0, l2), (0, l3), w4, w5, w6] [(0, x26), (0, l2)] _ _ _
        refine zr_imul rfl ?_
        refine zr_istore_n rfl rfl ?_
        show zj _ _ _ _ _ [(2, l0), (2, l1), (0, (l2 * x26)), (0, l3), w4, w5, w6] [] _ _ _
        refine zr_goto rfl ?_
        refine zr_iinc rfl rfl rfl ?_
        show zj _ _ _ _ _ [(2, l0), (2, l1), (0, (l2 * x26)), (0, l3 + 1), w4, w5, w6] [] _ _ _
        refine zr_goto rfl ?_
        exact H
theorem z58_111 {E : List (List Int)} {d : Nat} {T : zT} {D : zD} {Q : Int → zT → zD → Prop}  (l0 : Int) (l1 : Int) (l2 : Int) (l3 : Int) (l4 : Int) (l5 : Int) (l6 : Int) 
  (H : zin l6 ∧ ((l6 ≥ 24 → 0 < d ∧ zk T l0 = 5 ∧ zc E (d - 1) 0 78 [(2, l0), (0, l4), (0, l2)] T D (fun x4 T4 D4 => zj E d 0 58 38 [(2, l0), (2, l1), (0, l2), (0, l3 + 1), (0, l4), (0, l5), (0, l6)] [] T4 D4 Q)) ∧ (l6 < 24 → zob T l0 5 12 ∧ zin (D l0 4) ∧ zin l5 ∧ (((D l0 4) ≥ l5 → 0 < d ∧ zk T l0 = 5 ∧ zc E (d - 1) 0 78 [(2, l0), (0, l4), (0, l2)] T D (fun x10 T10 D10 => zj E d 0 58 38 [(2, l0), (2, l1), (0, l2), (0, l3 + 1), (0, l4), (0, l5), (0, l6)] [] T10 D10 Q)) ∧ ((D l0 4) < l5 → 0 < d ∧ zk T l0 = 5 ∧ zc E (d - 1) 0 73 [(2, l0), (0, l6), (0, l4), (0, l5)] T D (fun x13 T13 D13 => zj E d 0 58 111 [(2, l0), (2, l1), (0, l2), (0, l3), (0, l4), (0, l5), (0, l6 + 1)] [] T13 D13 Q)))))) :
  zj E d 0 58 111 [(2, l0), (2, l1), (0, l2), (0, l3), (0, l4), (0, l5), (0, l6)] [] T D Q := by
  refine zr_iload rfl rfl ?_
  refine zr_bipush rfl ?_
  obtain ⟨h1, H⟩ := H
  refine zr_icmp_ge rfl h1 (zin_c (by decide)) (fun hc => ?_) (fun hc => ?_)
  · replace H := H.1 hc
    refine zr_aload_n rfl rfl ?_
    refine zr_iload rfl rfl ?_
    refine zr_iload_n rfl rfl ?_
    obtain ⟨h2, H⟩ := H
    obtain ⟨h3, H⟩ := H
    refine zr_invokevirtual (rt2 := 0) rfl rfl rfl rfl rfl h3 (by decide) h2 (zc_mono H ?_)
    intro x4 T4 D4 H
    show zj _ _ _ _ _ [(2, l0), (2, l1), (0, l2), (0, l3), (0, l4), (0, l5), (0, l6)] [] _ _ _
    refine zr_iinc rfl rfl rfl ?_
    show zj _ _ _ _ _ [(2, l0), (2, l1), (0, l2), (0, l3 + 1), (0, l4), (0, l5), (0, l6)] [] _ _ _
    refine zr_goto rfl ?_
    exact H
  · replace H := H.2 hc
    refine zr_aload_n rfl rfl ?_
    obtain ⟨h5, H⟩ := H
    refine zr_getfield (n := 12) rfl h5 (by decide) rfl (by decide) ?_
    refine zr_iload rfl rfl ?_
    obtain ⟨h6, H⟩ := H
    obtain ⟨h7, H⟩ := H
    refine zr_icmp_ge rfl h6 h7 (fun hc => ?_) (fun hc => ?_)
    · replace H := H.1 hc
      refine zr_aload_n rfl rfl ?_
      refine zr_iload rfl rfl ?_
      refine zr_iload_n rfl rfl ?_
      obtain ⟨h8, H⟩ := H
      obtain ⟨h9, H⟩ := H
      refine zr_invokevirtual (rt2 := 0) rfl rfl rfl rfl rfl h9 (by decide) h8 (zc_mono H ?_)
      intro x10 T10 D10 H
      show zj _ _ _ _ _ [(2, l0), (2, l1), (0, l2), (0, l3), (0, l4), (0, l5), (0, l6)] [] _ _ _
      refine zr_iinc rfl rfl rfl ?_
      show zj _ _ _ _ _ [(2, l0), (2, l1), (0, l2), (0, l3 + 1), (0, l4), (0, l5), (0, l6)] [] _ _ _
      refine zr_goto rfl ?_
      exact H
    · replace H := H.2 hc
      refine zr_aload_n rfl rfl ?_
      refine zr_iload rfl rfl ?_
      refine zr_iload rfl rfl ?_
      refine zr_iload rfl rfl ?_
      obtain ⟨h11, H⟩ := H
      obtain ⟨h12, H⟩ := H
      refine zr_invokevirtual (rt2 := 0) rfl rfl rfl rfl rfl h12 (by decide) h11 (zc_mono H ?_)
      intro x13 T13 D13 H
      show zj _ _ _ _ _ [(2, l0), (2, l1), (0, l2), (0, l3), (0, l4), (0, l5), (0, l6)] [] _ _ _
      refine zr_iinc rfl rfl rfl ?_
      show zj _ _ _ _ _ [(2, l0), (2, l1), (0, l2), (0, l3), (0, l4), (0, l5), (0, l6 + 1)] [] _ _ _
      refine zr_goto rfl ?_
      exact H
theorem z59_0 {E : List (List Int)} {d : Nat} {T : zT} {D : zD} {Q : Int → zT → zD → Prop}  (l0 : Int) 
  (H : zob T l0 5 12 ∧ 0 < d ∧ zk T (D l0 9) = 3 ∧ zc E (d - 1) 0 13 [(2, (D l0 9))] T D (fun x4 T4 D4 => zj E d 0 59 9 [(2, l0), (0, 0)] [] T4 D4 Q)) :
  zj E d 0 59 0 [(2, l0), (9, 0)] [] T D Q := by
  refine zr_aload_n rfl rfl ?_
  obtain ⟨h1, H⟩ := H
  refine zr_getfield (n := 12) rfl h1 (by decide) rfl (by decide) ?_
  obtain ⟨h2, H⟩ := H
  obtain ⟨h3, H⟩ := H
  refine zr_invokevirtual (rt2 := 0) rfl rfl rfl rfl rfl h3 (by decide) h2 (zc_mono H ?_)
  intro x4 T4 D4 H
  show zj _ _ _ _ _ [(2, l0), (9, 0)] [] _ _ _
  refine zr_iconst rfl ?_
  refine zr_istore_n rfl rfl ?_
  show zj _ _ _ _ _ [(2, l0), (0, 0)] [] _ _ _
  exact H
theorem e59 {E : List (List Int)} {d : Nat} {T : zT} {D : zD} {Q : Int → zT → zD → Prop}  (l0 : Int) 
  (H : zob T l0 5 12 ∧ 0 < d ∧ zk T (D l0 9) = 3 ∧ zc E (d - 1) 0 13 [(2, (D l0 9))] T D (fun x4 T4 D4 => zj E d 0 59 9 [(2, l0), (0, 0)] [] T4 D4 Q)) :
  zc E d 0 59 [(2, l0)] T D Q :=
  zc_of (ls := [(2, l0), (9, 0)]) (fun _ => rfl) (z59_0  l0 H)
theorem z59_9 {E : List (List Int)} {d : Nat} {T : zT} {D : zD} {Q : Int → zT → zD → Prop}  (l0 : Int) (l1 : Int) 
  (H : zin l1 ∧ ((l1 > 24 → zob T l0 5 12 ∧ 0 < d ∧ zk T (D l0 8) = 3 ∧ zc E (d - 1) 0 25 [(2, (D l0 8)), (2, (D l0 9))] T D (fun x5 T5 D5 => Q 0 T5 D5)) ∧ (l1 ≤ 24 → zob T l0 5 12 ∧ 0 < d ∧ zk T (D l0 0) = 1 ∧ zc E (d - 1) 1 12 [(2, (D l0 0))] T D (fun x9 T9 D9 => zk T9 (D l0 8) = 3 ∧ zc E (d - 1) 1 19 [(2, (D l0 8)), (0, (l1 * x9))] T9 D9 (fun x11 T11 D11 => zk T11 (D l0 9) = 3 ∧ zc E (d - 1) 0 32 [(2, (D l0 9)), (0, l1), (0, x11)] T11 D11 (fun x13 T13 D13 => zj E d 0 59 9 [(2, l0), (0, l1 + 1)] [] T13 D13 Q)))))) :
  zj E d 0 59 9 [(2, l0), (0, l1)] [] T D Q := by
  refine zr_iload_n rfl rfl ?_
  refine zr_bipush rfl ?_
  obtain ⟨h1, H⟩ := H
  refine zr_icmp_gt rfl h1 (zin_c (by decide)) (fun hc => ?_) (fun hc => ?_)
  · replace H := H.1 hc
    refine zr_aload_n rfl rfl ?_
    obtain ⟨h2, H⟩ := H
    refine zr_getfield (n := 12) rfl h2 (by decide) rfl (by decide) ?_
    refine zr_aload_n rfl rfl ?_
    refine zr_getfield (n := 12) rfl h2 (by decide) rfl (by decide) ?_
    obtain ⟨h3, H⟩ := H
    obtain ⟨h4, H⟩ := H
    refine zr_invokevirtual (rt2 := 0) rfl rfl rfl rfl rfl h4 (by decide) h3 (zc_mono H ?_)
    intro x5 T5 D5 H
    show zj _ _ _ _ _ [(2, l0), (0, l1)] [] _ _ _
    exact zr_return rfl rfl rfl H
  · replace H := H.2 hc
    refine zr_aload_n rfl rfl ?_
    obtain ⟨h6, H⟩ := H
    refine zr_getfield (n := 12) rfl h6 (by decide) rfl (by decide) ?_
    refine zr_iload_n rfl rfl ?_
    refine zr_aload_n rfl rfl ?_
    refine zr_getfield (n := 12) rfl h6 (by decide) rfl (by decide) ?_
    refine zr_iload_n rfl rfl ?_
    refine zr_aload_n rfl rfl ?_
    refine zr_getfield (n := 12) rfl h6 (by decide) rfl (by decide) ?_
    obtain ⟨h7, H⟩ := H
    obtain ⟨h8, H⟩ := H
    refine zr_invokevirtual (rt2 := 1) rfl rfl rfl rfl rfl h8 (by decide) h7 (zc_mono H ?_)
    intro x9 T9 D9 H
    show zj _ _ _ _ _ [(2, l0), (0, l1)] [(0, x9), (0, l1), (2, (D l0 8)), (0, l1), (2, (D l0 9))] _ _ _
    refine zr_imul rfl ?_
    obtain ⟨h10, H⟩ := H
    refine zr_invokevirtual (rt2 := 1) rfl rfl rfl rfl rfl h10 (by decide) h7 (zc_mono H ?_)
    intro x11 T11 D11 H
    show zj _ _ _ _ _ [(2, l0), (0, l1)] [(0, x11), (0, l1), (2, (D l0 9))] _ _ _
    obtain ⟨h12, H⟩ := H
    refine zr_invokevirtual (rt2 := 0) rfl rfl rfl rfl rfl h12 (by decide) h7 (zc_mono H ?_)
    intro x13 T13 D13 H
    show zj _ _ _ _ _ [(2, l0), (0, l1)] [] _ _ _
    refine zr_iinc rfl rfl rfl ?_
    show zj _ _ _ _ _ [(2, l0), (0, l1 + 1)] [] _ _ _
    refine zr_goto rfl ?_
    exact H
theorem z60_0 {E : List (List Int)} {d : Nat} {T : zT} {D : zD} {Q : Int → zT → zD → Prop}  (l0 : Int) 
  (H : zob T l0 5 12 ∧ 0 < d ∧ zk T (D l0 1) = 0 ∧ zc E (d - 1) 0 33 [(2, (D l0 1)), (2, (D l0 8)), (2, (D l0 9))] T D (fun x4 T4 D4 => zob T4 l0 5 12 ∧ zk T4 (D4 l0 9) = 3 ∧ zc E (d - 1) 0 25 [(2, (D4 l0 9)), (2, (D4 l0 8))] T4 D4 (fun x7 T7 D7 => zob T7 l0 5 12 ∧ zk T7 (D7 l0 10) = 3 ∧ zc E (d - 1) 0 13 [(2, (D7 l0 10))] T7 D7 (fun x10 T10 D10 => zob T10 l0 5 12 ∧ zk T10 (D10 l0 1) = 0 ∧ zc E (d - 1) 2 41 [(2, (D10 l0 1))] T10 D10 (fun x13 T13 D13 => zob T13 l0 5 12 ∧ zk T13 (D10 l0 9) = 3 ∧ zc E (d - 1) 0 35 [(2, (D10 l0 9)), (2, x13), (2, (D13 l0 10))] T13 D13 (fun x16 T16 D16 => zob T16 l0 5 12 ∧ zk T16 l0 = 5 ∧ zc E (d - 1) 0 61 [(2, l0), (2, (D16 l0 10))] T16 D16 (fun x19 T19 D19 => zob T19 l0 5 12 ∧ zk T19 l0 = 5 ∧ zc E (d - 1) 1 62 [(2, l0), (2, (D19 l0 10))] T19 D19 (fun x22 T22 D22 => Q x22 T22 D22)))))))) :
  zj E d 1 60 0 [(2, l0)] [] T D Q := by
  refine zr_aload_n rfl rfl ?_
  obtain ⟨h1, H⟩ := H
  refine zr_getfield (n := 12) rfl h1 (by decide) rfl (by decide) ?_
  refine zr_aload_n rfl rfl ?_
  refine zr_getfield (n := 12) rfl h1 (by decide) rfl (by decide) ?_
  refine zr_aload_n rfl rfl ?_
  refine zr_getfield (n := 12) rfl h1 (by decide) rfl (by decide) ?_
  obtain ⟨h2, H⟩ := H
  obtain ⟨h3, H⟩ := H
  refine zr_invokevirtual (rt2 := 0) rfl rfl rfl rfl rfl h3 (by decide) h2 (zc_mono H ?_)
  intro x4 T4 D4 H
  show zj _ _ _ _ _ [(2, l0)] [] _ _ _
  refine zr_aload_n rfl rfl ?_
  obtain ⟨h5, H⟩ := H
  refine zr_getfield (n := 12) rfl h5 (by decide) rfl (by decide) ?_
  refine zr_aload_n rfl rfl ?_
  refine zr_getfield (n := 12) rfl h5 (by decide) rfl (by decide) ?_
  obtain ⟨h6, H⟩ := H
  refine zr_invokevirtual (rt2 := 0) rfl rfl rfl rfl rfl h6 (by decide) h2 (zc_mono H ?_)
  intro x7 T7 D7 H
  show zj _ _ _ _ _ [(2, l0)] [] _ _ _
  refine zr_aload_n rfl rfl ?_
  obtain ⟨h8, H⟩ := H
  refine zr_getfield (n := 12) rfl h8 (by decide) rfl (by decide) ?_
  obtain ⟨h9, H⟩ := H
  refine zr_invokevirtual (rt2 := 0) rfl rfl rfl rfl rfl h9 (by decide) h2 (zc_mono H ?_)
  intro x10 T10 D10 H
  show zj _ _ _ _ _ [(2, l0)] [] _ _ _
  refine zr_aload_n rfl rfl ?_
  obtain ⟨h11, H⟩ := H
  refine zr_getfield (n := 12) rfl h11 (by decide) rfl (by decide) ?_
  refine zr_aload_n rfl rfl ?_
  refine zr_getfield (n := 12) rfl h11 (by decide) rfl (by decide) ?_
  obtain ⟨h12, H⟩ := H
  refine zr_invokevirtual (rt2 := 2) rfl rfl rfl rfl rfl h12 (by decide) h2 (zc_mono H ?_)
  intro x13 T13 D13 H
  show zj _ _ _ _ _ [(2, l0)] [(2, x13), (2, (D10 l0 9))] _ _ _
  refine zr_aload_n rfl rfl ?_
  obtain ⟨h14, H⟩ := H
  refine zr_getfield (n := 12) rfl h14 (by decide) rfl (by decide) ?_
  obtain ⟨h15, H⟩ := H
  refine zr_invokevirtual (rt2 := 0) rfl rfl rfl rfl rfl h15 (by decide) h2 (zc_mono H ?_)
  intro x16 T16 D16 H
  show zj _ _ _ _ _ [(2, l0)] [] _ _ _
  refine zr_aload_n rfl rfl ?_
  refine zr_aload_n rfl rfl ?_
  obtain ⟨h17, H⟩ := H
  refine zr_getfield (n := 12) rfl h17 (by decide) rfl (by decide) ?_
  obtain ⟨h18, H⟩ := H
  refine zr_invokevirtual (rt2 := 0) rfl rfl rfl rfl rfl h18 (by decide) h2 (zc_mono H ?_)
  intro x19 T19 D19 H
  show zj _ _ _ _ _ [(2, l0)] [] _ _ _
  refine zr_aload_n rfl rfl ?_
  refine zr_aload_n rfl rfl ?_
  obtain ⟨h20, H⟩ := H
  refine zr_getfield (n := 12) rfl h20 (by decide) rfl (by decide) ?_
  obtain ⟨h21, H⟩ := H
  refine zr_invokevirtual (rt2 := 1) rfl rfl rfl rfl rfl h21 (by decide) h2 (zc_mono H ?_)
  intro x22 T22 D22 H
  show zj _ _ _ _ _ [(2, l0)] [(0, x22)] _ _ _
  exact zr_ireturn rfl rfl rfl H
theorem e60 {E : List (List Int)} {d : Nat} {T : zT} {D : zD} {Q : Int → zT → zD → Prop}  (l0 : Int) 
  (H : zob T l0 5 12 ∧ 0 < d ∧ zk T (D l0 1) = 0 ∧ zc E (d - 1) 0 33 [(2, (D l0 1)), (2, (D l0 8)), (2, (D l0 9))] T D (fun x4 T4 D4 => zob T4 l0 5 12 ∧ zk T4 (D4 l0 9) = 3 ∧ zc E (d - 1) 0 25 [(2, (D4 l0 9)), (2, (D4 l0 8))] T4 D4 (fun x7 T7 D7 => zob T7 l0 5 12 ∧ zk T7 (D7 l0 10) = 3 ∧ zc E (d - 1) 0 13 [(2, (D7 l0 10))] T7 D7 (fun x10 T10 D10 => zob T10 l0 5 12 ∧ zk T10 (D10 l0 1) = 0 ∧ zc E (d - 1) 2 41 [(2, (D10 l0 1))] T10 D10 (fun x13 T13 D13 => zob T13 l0 5 12 ∧ zk T13 (D10 l0 9) = 3 ∧ zc E (d - 1) 0 35 [(2, (D10 l0 9)), (2, x13), (2, (D13 l0 10))] T13 D13 (fun x16 T16 D16 => zob T16 l0 5 12 ∧ zk T16 l0 = 5 ∧ zc E (d - 1) 0 61 [(2, l0), (2, (D16 l0 10))] T16 D16 (fun x19 T19 D19 => zob T19 l0 5 12 ∧ zk T19 l0 = 5 ∧ zc E (d - 1) 1 62 [(2, l0), (2, (D19 l0 10))] T19 D19 (fun x22 T22 D22 => Q x22 T22 D22)))))))) :
  zc E d 1 60 [(2, l0)] T D Q :=
  zc_of (ls := [(2, l0)]) (fun _ => rfl) (z60_0  l0 H)
theorem z61_0 {E : List (List Int)} {d : Nat} {T : zT} {D : zD} {Q : Int → zT → zD → Prop}  (l0 : Int) (l1 : Int) 
  (H : zob T l0 5 12 ∧ zin (D l0 4) ∧ (((D l0 4) < 0 → Q 0 T D) ∧ ((D l0 4) ≥ 0 → zk T (D l0 2) = 52 ∧ zin (zn T (D l0 2)) ∧ (((D l0 4) ≥ (zn T (D l0 2)) → Q 0 T D) ∧ ((D l0 4) < (zn T (D l0 2)) → zar T (D l0 2) 52 (D l0 4) ∧ -1 ≤ D (D l0 2) (D l0 4) ∧ 0 < d ∧ zk T (D (D l0 2) (D l0 4)) = 3 ∧ zc E (d - 1) 0 25 [(2, (D (D l0 2) (D l0 4))), (2, l1)] T D (fun x9 T9 D9 => zob T9 l0 5 12 ∧ Q 0 T9 (zu D9 l0 4 ((D9 l0 4) + 1)))))))) :
  zj E d 0 61 0 [(2, l0), (2, l1)] [] T D Q := by
  refine zr_aload_n rfl rfl ?_
  obtain ⟨h1, H⟩ := H
  refine zr_getfield (n := 12) rfl h1 (by decide) rfl (by decide) ?_
  obtain ⟨h2, H⟩ := H
  refine zr_if_lt rfl h2 (fun hc => ?_) (fun hc => ?_)
  · replace H := H.1 hc
    exact zr_return rfl rfl rfl H
  · replace H := H.2 hc
    refine zr_aload_n rfl rfl ?_
    refine zr_getfield (n := 12) rfl h1 (by decide) rfl (by decide) ?_
    refine zr_aload_n rfl rfl ?_
    refine zr_getfield (n := 12) rfl h1 (by decide) rfl (by decide) ?_
    obtain ⟨h3, H⟩ := H
    refine zr_arraylength rfl (Or.inr h3) ?_
    obtain ⟨h4, H⟩ := H
    refine zr_icmp_ge rfl h2 h4 (fun hc => ?_) (fun hc => ?_)
    · replace H := H.1 hc
      exact zr_return rfl rfl rfl H
    · replace H := H.2 hc
      refine zr_aload_n rfl rfl ?_
      refine zr_getfield (n := 12) rfl h1 (by decide) rfl (by decide) ?_
      refine zr_aload_n rfl rfl ?_
      refine zr_getfield (n := 12) rfl h1 (by decide) rfl (by decide) ?_
      obtain ⟨h5, H⟩ := H
      obtain ⟨h6, H⟩ := H
      refine zr_aaload rfl h5 h6 ?_
      refine zr_aload_n rfl rfl ?_
      obtain ⟨h7, H⟩ := H
      obtain ⟨h8, H⟩ := H
      refine zr_invokevirtual (rt2 := 0) rfl rfl rfl rfl rfl h8 (by decide) h7 (zc_mono H ?_)
      intro x9 T9 D9 H
      show zj _ _ _ _ _ [(2, l0), (2, l1)] [] _ _ _
      refine zr_aload_n rfl rfl ?_
      refine zr_dup rfl rfl ?_
      obtain ⟨h10, H⟩ := H
      refine zr_getfield (n := 12) rfl h10 (by decide) rfl (by decide) ?_
      refine zr_iconst rfl ?_
      refine zr_iadd rfl ?_
      refine zr_putfield (n := 12) (t := 0) rfl h10 (by decide) rfl (by decide) rfl ?_
      exact zr_return rfl rfl rfl H
theorem e61 {E : List (List Int)} {d : Nat} {T : zT} {D : zD} {Q : Int → zT → zD → Prop}  (l0 : Int) (l1 : Int) 
  (H : zob T l0 5 12 ∧ zin (D l0 4) ∧ (((D l0 4) < 0 → Q 0 T D) ∧ ((D l0 4) ≥ 0 → zk T (D l0 2) = 52 ∧ zin (zn T (D l0 2)) ∧ (((D l0 4) ≥ (zn T (D l0 2)) → Q 0 T D) ∧ ((D l0 4) < (zn T (D l0 2)) → zar T (D l0 2) 52 (D l0 4) ∧ -1 ≤ D (D l0 2) (D l0 4) ∧ 0 < d ∧ zk T (D (D l0 2) (D l0 4)) = 3 ∧ zc E (d - 1) 0 25 [(2, (D (D l0 2) (D l0 4))), (2, l1)] T D (fun x9 T9 D9 => zob T9 l0 5 12 ∧ Q 0 T9 (zu D9 l0 4 ((D9 l0 4) + 1)))))))) :
  zc E d 0 61 [(2, l0), (2, l1)] T D Q :=
  zc_of (ls := [(2, l0), (2, l1)]) (fun _ => rfl) (z61_0  l0 l1 H)
theorem z62_0 {E : List (List Int)} {d : Nat} {T : zT} {D : zD} {Q : Int → zT → zD → Prop}  (l0 : Int) (l1 : Int) 
  (H : 0 < d ∧ zk T l1 = 3 ∧ zc E (d - 1) 1 21 [(2, l1)] T D (fun x3 T3 D3 => zob T3 l0 5 12 ∧ zk T3 l0 = 5 ∧ zc E (d - 1) 0 63 [(2, l0), (2, l1)] T3 (zu D3 l0 7 x3) (fun x6 T6 D6 => zob T6 l0 5 12 ∧ zk T6 l0 = 5 ∧ zc E (d - 1) 1 65 [(2, l0)] T6 D6 (fun x9 T9 D9 => Q ((D6 l0 7) - x9) T9 D9)))) :
  zj E d 1 62 0 [(2, l0), (2, l1)] [] T D Q := by
  refine zr_aload_n rfl rfl ?_
  refine zr_aload_n rfl rfl ?_
  obtain ⟨h1, H⟩ := H
  obtain ⟨h2, H⟩ := H
  refine zr_invokevirtual (rt2 := 1) rfl rfl rfl rfl rfl h2 (by decide) h1 (zc_mono H ?_)
  intro x3 T3 D3 H
  show zj _ _ _ _ _ [(2, l0), (2, l1)] [(0, x3), (2, l0)] _ _ _
  obtain ⟨h4, H⟩ := H
  refine zr_putfield (n := 12) (t := 0) rfl h4 (by decide) rfl (by decide) rfl ?_
  refine zr_aload_n rfl rfl ?_
  refine zr_aload_n rfl rfl ?_
  obtain ⟨h5, H⟩ := H
  refine zr_invokevirtual (rt2 := 0) rfl rfl rfl rfl rfl h5 (by decide) h1 (zc_mono H ?_)
  intro x6 T6 D6 H
  show zj _ _ _ _ _ [(2, l0), (2, l1)] [] _ _ _
  refine zr_aload_n rfl rfl ?_
  obtain ⟨h7, H⟩ := H
  refine zr_getfield (n := 12) rfl h7 (by decide) rfl (by decide) ?_
  refine zr_aload_n rfl rfl ?_
  obtain ⟨h8, H⟩ := H
  refine zr_invokevirtual (rt2 := 1) rfl rfl rfl rfl rfl h8 (by decide) h1 (zc_mono H ?_)
  intro x9 T9 D9 H
  show zj _ _ _ _ _ [(2, l0), (2, l1)] [(0, x9), (0, (D6 l0 7))] _ _ _
  refine zr_isub rfl ?_
  exact zr_ireturn rfl rfl rfl H
theorem e62 {E : List (List Int)} {d : Nat} {T : zT} {D : zD} {Q : Int → zT → zD → Prop}  (l0 : Int) (l1 : Int) 
  (H : 0 < d ∧ zk T l1 = 3 ∧ zc E (d - 1) 1 21 [(2, l1)] T D (fun x3 T3 D3 => zob T3 l0 5 12 ∧ zk T3 l0 = 5 ∧ zc E (d - 1) 0 63 [(2, l0), (2, l1)] T3 (zu D3 l0 7 x3) (fun x6 T6 D6 => zob T6 l0 5 12 ∧ zk T6 l0 = 5 ∧ zc E (d - 1) 1 65 [(2, l0)] T6 D6 (fun x9 T9 D9 => Q ((D6 l0 7) - x9) T9 D9)))) :
  zc E d 1 62 [(2, l0), (2, l1)] T D Q :=
  zc_of (ls := [(2, l0), (2, l1)]) (fun _ => rfl) (z62_0  l0 l1 H)
theorem z63_0 {E : List (List Int)} {d : Nat} {T : zT} {D : zD} {Q : Int → zT → zD → Prop}  (l0 : Int) (l1 : Int) 
  (H : zob T l0 5 12 ∧ 0 < d ∧ zk T (D l0 11) = 3 ∧ zc E (d - 1) 0 46 [(2, (D l0 11)), (0, 1)] T D (fun x4 T4 D4 => zj E d 0 63 10 [(2, l0), (2, l1), (0, 0), (9, 0), (9, 0)] [] T4 D4 Q)) :
  zj E d 0 63 0 [(2, l0), (2, l1), (9, 0), (9, 0), (9, 0)] [] T D Q := by
  refine zr_aload_n rfl rfl ?_
  obtain ⟨h1, H⟩ := H
  refine zr_getfield (n := 12) rfl h1 (by decide) rfl (by decide) ?_
  refine zr_iconst rfl ?_
  obtain ⟨h2, H⟩ := H
  obtain ⟨h3, H⟩ := H
  refine zr_invokevirtual (rt2 := 0) rfl rfl rfl rfl rfl h3 (by decide) h2 (zc_mono H ?_)
  intro x4 T4 D4 H
  show zj _ _ _ _ _ [(2, l0), (2, l1), (9, 0), (9, 0), (9, 0)] [] _ _ _
  refine zr_iconst rfl ?_
  refine zr_istore_n rfl rfl ?_
  show zj _ _ _ _ _ [(2, l0), (2, l1), (0, 0), (9, 0), (9, 0)] [] _ _ _
  exact H
theorem e63 {E : List (List Int)} {d : Nat} {T : zT} {D : zD} {Q : Int → zT → zD → Prop}  (l0 : Int) (l1 : Int) 
  (H : zob T l0 5 12 ∧ 0 < d ∧ zk T (D l0 11) = 3 ∧ zc E (d - 1) 0 46 [(2, (D l0 11)), (0, 1)] T D (fun x4 T4 D4 => zj E d 0 63 10 [(2, l0), (2, l1), (0, 0), (9, 0), (9, 0)] [] T4 D4 Q)) :
  zc E d 0 63 [(2, l0), (2, l1)] T D Q :=
  zc_of (ls := [(2, l0), (2, l1), (9, 0), (9, 0), (9, 0)]) (fun _ => rfl) (z63_0  l0 l1 H)
theorem z63_10 {E : List (List Int)} {d : Nat} {T : zT} {D : zD} {Q : Int → zT → zD → Prop}  (l0 : Int) (l1 : Int) (l2 : Int) (w3 : zv_V) (w4 : zv_V) (hw3 : zs_wide w3 = false) (hw4 : zs_wide w4 = false)
  (H : zob T l0 5 12 ∧ zin l2 ∧ zin (D l0 7) ∧ ((l2 ≥ (D l0 7) → Q 0 T D) ∧ (l2 < (D l0 7) → zj E d 0 63 20 [(2, l0), (2, l1), (0, l2), (0, 0), w4] [] T D Q))) :
  zj E d 0 63 10 [(2, l0), (2, l1), (0, l2), w3, w4] [] T D Q := by
  refine zr_iload_n rfl rfl ?_
  refine zr_aload_n rfl rfl ?_
  obtain ⟨h1, H⟩ := H
  refine zr_getfield (n := 12) rfl h1 (by decide) rfl (by decide) ?_
  obtain ⟨h2, H⟩ := H
  obtain ⟨h3, H⟩ := H
  refine zr_icmp_ge rfl h2 h3 (fun hc => ?_) (fun hc => ?_)
  · replace H := H.1 hc
    exact zr_return rfl rfl rfl H
  · replace H := H.2 hc
    refine zr_iconst rfl ?_
    refine zr_istore_n rfl rfl ?_
    show zj _ _ _ _ _ [(2, l0), (2, l1), (0, l2), (0, 0), w4] [] _ _ _
    exact H
theorem z63_20 {E : List (List Int)} {d : Nat} {T : zT} {D : zD} {Q : Int → zT → zD → Prop}  (l0 : Int) (l1 : Int) (l2 : Int) (l3 : Int) (w4 : zv_V) (hw4 : zs_wide w4 = false)
  (H : zob T l0 5 12 ∧ zin l3 ∧ zin (D l0 7) ∧ ((l3 ≥ (D l0 7) → zj E d 0 63 72 [(2, l0), (2, l1), (0, l2), (0, 0), w4] [] T D Q) ∧ (l3 < (D l0 7) → zin l2 ∧ ((l3 ≠ l2 → 0 < d ∧ zk T (D l0 11) = 3 ∧ zc E (d - 1) 1 19 [(2, (D l0 11)), (0, l3)] T D (fun x7 T7 D7 => zk T7 (D l0 0) = 1 ∧ zc E (d - 1) 1 31 [(2, (D l0 0)), (0, (x7 - 0))] T7 D7 (fun x9 T9 D9 => zk T9 l0 = 5 ∧ zc E (d - 1) 0 64 [(2, l0), (0, l3), (0, l2), (0, x9)] T9 D9 (fun x11 T11 D11 => zj E d 0 63 20 [(2, l0), (2, l1), (0, l2), (0, l3 + 1), (0, 0)] [] T11 D11 Q)))) ∧ (l3 = l2 → 0 < d ∧ zk T (D l0 11) = 3 ∧ zc E (d - 1) 1 19 [(2, (D l0 11)), (0, l3)] T D (fun x14 T14 D14 => zk T14 (D l0 0) = 1 ∧ zc E (d - 1) 1 31 [(2, (D l0 0)), (0, (x14 - 1))] T14 D14 (fun x16 T16 D16 => zk T16 l0 = 5 ∧ zc E (d - 1) 0 64 [(2, l0), (0, l3), (0, l2), (0, x16)] T16 D16 (fun x18 T18 D18 => zj E d 0 63 20 [(2, l0), (2, l1), (0, l2), (0, l3 + 1), (0, 1)] [] T18 D18 Q)))))))) :
  zj E d 0 63 20 [(2, l0), (2, l1), (0, l2), (0, l3), w4] [] T D Q := by
  refine zr_iload_n rfl rfl ?_
  refine zr_aload_n rfl rfl ?_
  obtain ⟨h1, H⟩ := H
  refine zr_getfield (n := 12) rfl h1 (by decide) rfl (by decide) ?_
  obtain ⟨h2, H⟩ := H
  obtain ⟨h3, H⟩ := H
  refine zr_icmp_ge rfl h2 h3 (fun hc => ?_) (fun hc => ?_)
  · replace H := H.1 hc
    refine zr_iconst rfl ?_
    refine zr_istore_n rfl rfl ?_
    show zj _ _ _ _ _ [(2, l0), (2, l1), (0, l2), (0, 0), w4] [] _ _ _
    exact H
  · replace H := H.2 hc
    refine zr_iload_n rfl rfl ?_
    refine zr_iload_n rfl rfl ?_
    obtain ⟨h4, H⟩ := H
    refine zr_icmp_ne rfl h2 h4 (fun hc => ?_) (fun hc => ?_)
    · replace H := H.1 hc
      refine zr_iconst rfl ?_
      refine zr_istore rfl rfl ?_
      show zj _ _ _ _ _ [(2, l0), (2, l1), (0, l2), (0, l3), (0, 0)] [] _ _ _
      refine zr_aload_n rfl rfl ?_
      refine zr_iload_n rfl rfl ?_
      refine zr_iload_n rfl rfl ?_
      refine zr_aload_n rfl rfl ?_
      refine zr_getfield (n := 12) rfl h1 (by decide) rfl (by decide) ?_
      refine zr_aload_n rfl rfl ?_
      refine zr_getfield (n := 12) rfl h1 (by decide) rfl (by decide) ?_
      refine zr_iload_n rfl rfl ?_
      obtain ⟨h5, H⟩ := H
      obtain ⟨h6, H⟩ := H
      refine zr_invokevirtual (rt2 := 1) rfl rfl rfl rfl rfl h6 (by decide) h5 (zc_mono H ?_)
      intro x7 T7 D7 H
      show zj _ _ _ _ _ [(2, l0), (2, l1), (0, l2), (0, l3), (0, 0)] [(0, x7), (2, (D l0 0)), (0, l2), (0, l3), (2, l0)] _ _ _
      refine zr_iload rfl rfl ?_
      refine zr_isub rfl ?_
      obtain ⟨h8, H⟩ := H
      refine zr_invokevirtual (rt2 := 1) rfl rfl rfl rfl rfl h8 (by decide) h5 (zc_mono H ?_)
      intro x9 T9 D9 H
      show zj _ _ _ _ _ [(2, l0), (2, l1), (0, l2), (0, l3), (0, 0)] [(0, x9), (0, l2), (0, l3), (2, l0)] _ _ _
      obtain ⟨h10, H⟩ := H
      refine zr_invokevirtual (rt2 := 0) rfl rfl rfl rfl rfl h10 (by decide) h5 (zc_mono H ?_)
      intro x11 T11 D11 H
      show zj _ _ _ _ _ [(2, l0), (2, l1), (0, l2), (0, l3), (0, 0)] [] _ _ _
      refine zr_iinc rfl rfl rfl ?_
      show zj _ _ _ _ _ [(2, l0), (2, l1), (0, l2), (0, l3 + 1), (0, 0)] [] _ _ _
      refine zr_goto rfl ?_
      exact H
    · replace H := H.2 hc
      refine zr_iconst rfl ?_
      refine zr_goto rfl ?_
      refine zr_istore rfl rfl ?_
      show zj _ _ _ _ _ [(2, l0), (2, l1), (0, l2), (0, l3), (0, 1)] [] _ _ _
      refine zr_aload_n rfl rfl ?_
      refine zr_iload_n rfl rfl ?_
      refine zr_iload_n rfl rfl ?_
      refine zr_aload_n rfl rfl ?_
      refine zr_getfield (n := 12) rfl h1 (by decide) rfl (by decide) ?_
      refine zr_aload_n rfl rfl ?_
      refine zr_getfield (n := 12) rfl h1 (by decide) rfl (by decide) ?_
      refine zr_iload_n rfl rfl ?_
      obtain ⟨h12, H⟩ := H
      obtain ⟨h13, H⟩ := H
      refine zr_invokevirtual (rt2 := 1) rfl rfl rfl rfl rfl h13 (by decide) h12 (zc_mono H ?_)
      intro x14 T14 D14 H
      show zj _ _ _ _ _ [(2, l0), (2, l1), (0, l2), (0, l3), (0, 1)] [(0, x14), (2, (D l0 0)), (0, l2), (0, l3), (2, l0)] _ _ _
      refine zr_iload rfl rfl ?_
      refine zr_isub rfl ?_
      obtain ⟨h15, H⟩ := H
      refine zr_invokevirtual (rt2 := 1) rfl rfl rfl rfl rfl h15 (by decide) h12 (zc_mono H ?_)
      intro x16 T16 D16 H
      show zj _ _ _ _ _ [(2, l0), (2, l1), (0, l2), (0, l3), (0, 1)] [(0, x16), (0, l2), (0, l3), (2, l0)] _ _ _
      obtain ⟨h17, H⟩ := H
      refine zr_invokevirtual (rt2 := 0) rfl rfl rfl rfl rfl h17 (by decide) h12 (zc_mono H ?_)
      intro x18 T18 D18 H
      show zj _ _ _ _ _ [(2, l0), (2, l1), (0, l2), (0, l3), (0, 1)] [] _ _ _
      refine zr_iinc rfl rfl rfl ?_
      show zj _ _ _ _ _ [(2, l0), (2, l1), (0, l2), (0, l3 + 1), (0, 1)] [] _ _ _
      refine zr_goto rfl ?_
      exact H
theorem z63_72 {E : List (List Int)} {d : Nat} {T : zT} {D : zD} {Q : Int → zT → zD → Prop}  (l0 : Int) (l1 : Int) (l2 : Int) (l3 : Int) (w4 : zv_V) (hw4 : zs_wide w4 = false)
  (H : zob T l0 5 12 ∧ 0 < d ∧ zk T (D l0 0) = 1 ∧ zc E (d - 1) 1 12 [(2, (D l0 0))] T D (fun x4 T4 D4 => zin l3 ∧ zin x4 ∧ ((l3 ≥ x4 → zj E d 0 63 10 [(2, l0), (2, l1), (0, l2 + 1), (0, l3), w4] [] T4 D4 Q) ∧ (l3 < x4 → zob T4 l0 5 12 ∧ zk T4 (D4 l0 11) = 3 ∧ zc E (d - 1) 0 54 [(2, (D4 l0 11)), (2, l1)] T4 D4 (fun x9 T9 D9 => zj E d 0 63 72 [(2, l0), (2, l1), (0, l2), (0, l3 + 1), w4] [] T9 D9 Q))))) :
  zj E d 0 63 72 [(2, l0), (2, l1), (0, l2), (0, l3), w4] [] T D Q := by
  refine zr_iload_n rfl rfl ?_
  refine zr_aload_n rfl rfl ?_
  obtain ⟨h1, H⟩ := H
  refine zr_getfield (n := 12) rfl h1 (by decide) rfl (by decide) ?_
  obtain ⟨h2, H⟩ := H
  obtain ⟨h3, H⟩ := H
  refine zr_invokevirtual (rt2 := 1) rfl rfl rfl rfl rfl h3 (by decide) h2 (zc_mono H ?_)
  intro x4 T4 D4 H
  show zj _ _ _ _ _ [(2, l0), (2, l1), (0, l2), (0, l3), w4] [(0, x4), (0, l3)] _ _ _
  obtain ⟨h5, H⟩ := H
  obtain ⟨h6, H⟩ := H
  refine zr_icmp_ge rfl h5 h6 (fun hc => ?_) (fun hc => ?_)
  · replace H := H.1 hc
    refine zr_iinc rfl rfl rfl ?_
    show zj _ _ _ _ _ [(2, l0), (2, l1), (0, l2 + 1), (0, l3), w4] [] _ _ _
    refine zr_goto rfl ?_
    exact H
  · replace H := H.2 hc
    refine zr_aload_n rfl rfl ?_
    obtain ⟨h7, H⟩ := H
    refine zr_getfield (n := 12) rfl h7 (by decide) rfl (by decide) ?_
    refine zr_aload_n rfl rfl ?_
    obtain ⟨h8, H⟩ := H
    refine zr_invokevirtual (rt2 := 0) rfl rfl rfl rfl rfl h8 (by decide) h2 (zc_mono H ?_)
    intro x9 T9 D9 H
    show zj _ _ _ _ _ [(2, l0), (2, l1), (0, l2), (0, l3), w4] [] _ _ _
    refine zr_iinc rfl rfl rfl ?_
    show zj _ _ _ _ _ [(2, l0), (2, l1), (0, l2), (0, l3 + 1), w4] [] _ _ _
    refine zr_goto rfl ?_
    exact H
theorem z64_0 {E : List (List Int)} {d : Nat} {T : zT} {D : zD} {Q : Int → zT → zD → Prop}  (l0 : Int) (l1 : Int) (l2 : Int) (l3 : Int) 
  (H : zin ((l1 * 24) + l2) ∧ ((((l1 * 24) + l2) < 0 → Q 0 T D) ∧ (((l1 * 24) + l2) ≥ 0 → zob T l0 5 12 ∧ zk T (D l0 5) = 50 ∧ zin (zn T (D l0 5)) ∧ ((((l1 * 24) + l2) ≥ (zn T (D l0 5)) → Q 0 T D) ∧ (((l1 * 24) + l2) < (zn T (D l0 5)) → zar T (D l0 5) 50 ((l1 * 24) + l2) ∧ Q 0 T (zu D (D l0 5) ((l1 * 24) + l2) l3)))))) :
  zj E d 0 64 0 [(2, l0), (0, l1), (0, l2), (0, l3), (9, 0)] [] T D Q := by
  refine zr_iload_n rfl rfl ?_
  refine zr_bipush rfl ?_
  refine zr_imul rfl ?_
  refine zr_iload_n rfl rfl ?_
  refine zr_iadd rfl ?_
  refine zr_istore rfl rfl ?_
  show zj _ _ _ _ _ [(2, l0), (0, l1), (0, l2), (0, l3), (0, ((l1 * 24) + l2))] [] _ _ _
  refine zr_iload rfl rfl ?_
  obtain ⟨h1, H⟩ := H
  refine zr_if_lt rfl h1 (fun hc => ?_) (fun hc => ?_)
  · replace H := H.1 hc
    exact zr_return rfl rfl rfl H
  · replace H := H.2 hc
    refine zr_iload rfl rfl ?_
    refine zr_aload_n rfl rfl ?_
    obtain ⟨h2, H⟩ := H
    refine zr_getfield (n := 12) rfl h2 (by decide) rfl (by decide) ?_
    obtain ⟨h3, H⟩ := H
    refine zr_arraylength rfl (Or.inl h3) ?_
    obtain ⟨h4, H⟩ := H
    refine zr_icmp_ge rfl h1 h4 (fun hc => ?_) (fun hc => ?_)
    · replace H := H.1 hc
      exact zr_return rfl rfl rfl H
    · replace H := H.2 hc
      refine zr_aload_n rfl rfl ?_
      refine zr_getfield (n := 12) rfl h2 (by decide) rfl (by decide) ?_
      refine zr_iload rfl rfl ?_
      refine zr_iload_n rfl rfl ?_
      obtain ⟨h5, H⟩ := H
      refine zr_iastore rfl h5 ?_
      exact zr_return rfl rfl rfl H
theorem e64 {E : List (List Int)} {d : Nat} {T : zT} {D : zD} {Q : Int → zT → zD → Prop}  (l0 : Int) (l1 : Int) (l2 : Int) (l3 : Int) 
  (H : zin ((l1 * 24) + l2) ∧ ((((l1 * 24) + l2) < 0 → Q 0 T D) ∧ (((l1 * 24) + l2) ≥ 0 → zob T l0 5 12 ∧ zk T (D l0 5) = 50 ∧ zin (zn T (D l0 5)) ∧ ((((l1 * 24) + l2) ≥ (zn T (D l0 5)) → Q 0 T D) ∧ (((l1 * 24) + l2) < (zn T (D l0 5)) → zar T (D l0 5) 50 ((l1 * 24) + l2) ∧ Q 0 T (zu D (D l0 5) ((l1 * 24) + l2) l3)))))) :
  zc E d 0 64 [(2, l0), (0, l1), (0, l2), (0, l3)] T D Q :=
  zc_of (ls := [(2, l0), (0, l1), (0, l2), (0, l3), (9, 0)]) (fun _ => rfl) (z64_0  l0 l1 l2 l3 H)
theorem z65_0 {E : List (List Int)} {d : Nat} {T : zT} {D : zD} {Q : Int → zT → zD → Prop}  (l0 : Int) 
  (H : zj E d 1 65 4 [(2, l0), (0, 0), (0, 0), (9, 0)] [] T D Q) :
  zj E d 1 65 0 [(2, l0), (9, 0), (9, 0), (9, 0)] [] T D Q := by
  refine zr_iconst rfl ?_
  refine zr_istore_n rfl rfl ?_
  show zj _ _ _ _ _ [(2, l0), (0, 0), (9, 0), (9, 0)] [] _ _ _
  refine zr_iconst rfl ?_
  refine zr_istore_n rfl rfl ?_
  show zj _ _ _ _ _ [(2, l0), (0, 0), (0, 0), (9, 0)] [] _ _ _
  exact H
theorem e65 {E : List (List Int)} {d : Nat} {T : zT} {D : zD} {Q : Int → zT → zD → Prop}  (l0 : Int) 
  (H : zj E d 1 65 4 [(2, l0), (0, 0), (0, 0), (9, 0)] [] T D Q) :
  zc E d 1 65 [(2, l0)] T D Q :=
  zc_of (ls := [(2, l0), (9, 0), (9, 0), (9, 0)]) (fun _ => rfl) (z65_0  l0 H)
theorem z65_4 {E : List (List Int)} {d : Nat} {T : zT} {D : zD} {Q : Int → zT → zD → Prop}  (l0 : Int) (l1 : Int) (l2 : Int) (w3 : zv_V) (hw3 : zs_wide w3 = false)
  (H : zob T l0 5 12 ∧ zin l2 ∧ zin (D l0 7) ∧ ((l2 ≥ (D l0 7) → Q l1 T D) ∧ (l2 < (D l0 7) → 0 < d ∧ zk T l0 = 5 ∧ zc E (d - 1) 1 66 [(2, l0), (0, l1), (0, l2)] T D (fun x6 T6 D6 => zin x6 ∧ ((x6 ≥ 0 → zk T6 l0 = 5 ∧ zc E (d - 1) 0 68 [(2, l0), (0, l2), (0, l1)] T6 D6 (fun x9 T9 D9 => ((x6 < 0 → zj E d 1 65 4 [(2, l0), (0, l1), (0, l2 + 1), (0, x6)] [] T9 D9 Q) ∧ (x6 ≥ 0 → zk T9 l0 = 5 ∧ zc E (d - 1) 0 69 [(2, l0), (0, x6), (0, l1)] T9 D9 (fun x11 T11 D11 => zob T11 l0 5 12 ∧ zk T11 l0 = 5 ∧ zc E (d - 1) 1 67 [(2, l0), (0, l1), (0, l2)] T11 D11 (fun x14 T14 D14 => zk T14 (D11 l0 0) = 1 ∧ zc E (d - 1) 1 37 [(2, (D11 l0 0)), (0, x14)] T14 D14 (fun x16 T16 D16 => zk T16 l0 = 5 ∧ zc E (d - 1) 0 70 [(2, l0), (0, l1), (0, x16)] T16 D16 (fun x18 T18 D18 => zk T18 l0 = 5 ∧ zc E (d - 1) 0 71 [(2, l0), (0, l2), (0, l1)] T18 D18 (fun x20 T20 D20 => zj E d 1 65 4 [(2, l0), (0, l1 + 1), (0, l2 + 1), (0, x6)] [] T20 D20 Q))))))))) ∧ (x6 < 0 → zk T6 l0 = 5 ∧ zc E (d - 1) 0 68 [(2, l0), (0, l2), (0, (-1))] T6 D6 (fun x22 T22 D22 => ((x6 < 0 → zj E d 1 65 4 [(2, l0), (0, l1), (0, l2 + 1), (0, x6)] [] T22 D22 Q) ∧ (x6 ≥ 0 → zk T22 l0 = 5 ∧ zc E (d - 1) 0 69 [(2, l0), (0, x6), (0, l1)] T22 D22 (fun x24 T24 D24 => zob T24 l0 5 12 ∧ zk T24 l0 = 5 ∧ zc E (d - 1) 1 67 [(2, l0), (0, l1), (0, l2)] T24 D24 (fun x27 T27 D27 => zk T27 (D24 l0 0) = 1 ∧ zc E (d - 1) 1 37 [(2, (D24 l0 0)), (0, x27)] T27 D27 (fun x29 T29 D29 => zk T29 l0 = 5 ∧ zc E (d - 1) 0 70 [(2, l0), (0, l1), (0, x29)] T29 D29 (fun x31 T31 D31 => zk T31 l0 = 5 ∧ zc E (d - 1) 0 71 [(2, l0), (0, l2), (0, l1)] T31 D31 (fun x33 T33 D33 => zj E d 1 65 4 [(2, l0), (0, l1 + 1), (0, l2 + 1), (0, x6)] [] T33 D33 Q)))))))))))))) :
  zj E d 1 65 4 [(2, l0), (0, l1), (0, l2), w3] [] T D Q := by
  refine zr_iload_n rfl rfl ?_
  refine zr_aload_n rfl rfl ?_
  obtain ⟨h1, H⟩ := H
  refine zr_getfield (n := 12) rfl h1 (by decide) rfl (by decide) ?_
  obtain ⟨h2, H⟩ := H
  obtain ⟨h3, H⟩ := H
  refine zr_icmp_ge rfl h2 h3 (fun hc => ?_) (fun hc => ?_)
  · replace H := H.1 hc
    refine zr_iload_n rfl rfl ?_
    exact zr_ireturn rfl rfl rfl H
  · replace H := H.2 hc
    refine zr_aload_n rfl rfl ?_
    refine zr_iload_n rfl rfl ?_
    refine zr_iload_n rfl rfl ?_
    obtain ⟨h4, H⟩ := H
    obtain ⟨h5, H⟩ := H
    refine zr_invokevirtual (rt2 := 1) rfl rfl rfl rfl rfl h5 (by decide) h4 (zc_mono H ?_)
    intro x6 T6 D6 H
    show zj _ _ _ _ _ [(2, l0), (0, l1), (0, l2), w3] [(0, x6)] _ _ _
    refine zr_istore_n rfl rfl ?_
    show zj _ _ _ _ _ [(2, l0), (0, l1), (0, l2), (0, x6)] [] _ _ _
    refine zr_aload_n rfl rfl ?_
    refine zr_iload_n rfl rfl ?_
    refine zr_iload_n rfl rfl ?_
    obtain ⟨h7, H⟩ := H
    refine zr_if_ge rfl h7 (fun hc => ?_) (fun hc => ?_)
    · replace H := H.1 hc
      refine zr_iload_n rfl rfl ?_
      obtain ⟨h8, H⟩ := H
      refine zr_invokevirtual (rt2 := 0) rfl rfl rfl rfl rfl h8 (by decide) h4 (zc_mono H ?_)
      intro x9 T9 D9 H
      show zj _ _ _ _ _ [(2, l0), (0, l1), (0, l2), (0, x6)] [] _ _ _
      refine zr_iload_n rfl rfl ?_
      refine zr_if_lt rfl h7 (fun hc => ?_) (fun hc => ?_)
      · replace H := H.1 hc
        refine zr_iinc rfl rfl rfl ?_
        show zj _ _ _ _ _ [(2, l0), (0, l1), (0, l2 + 1), (0, x6)] [] _ _ _
        refine zr_goto rfl ?_
        exact H
      · replace H := H.2 hc
        refine zr_aload_n rfl rfl ?_
        refine zr_iload_n rfl rfl ?_
        refine zr_iload_n rfl rfl ?_
        obtain ⟨h10, H⟩ := H
        refine zr_invokevirtual (rt2 := 0) rfl rfl rfl rfl rfl h10 (by decide) h4 (zc_mono H ?_)
        intro x11 T11 D11 H
        show zj _ _ _ _ _ [(2, l0), (0, l1), (0, l2), (0, x6)] [] _ _ _
        refine zr_aload_n rfl rfl ?_
        refine zr_iload_n rfl rfl ?_
        refine zr_aload_n rfl rfl ?_
        obtain ⟨h12, H⟩ := H
        refine zr_getfield (n := 12) rfl h12 (by decide) rfl (by decide) ?_
        refine zr_aload_n rfl rfl ?_
        refine zr_iload_n rfl rfl ?_
        refine zr_iload_n rfl rfl ?_
        obtain ⟨h13, H⟩ := H
        refine zr_invokevirtual (rt2 := 1) rfl rfl rfl rfl rfl h13 (by decide) h4 (zc_mono H ?_)
        intro x14 T14 D14 H
        show zj _ _ _ _ _ [(2, l0), (0, l1), (0, l2), (0, x6)] [(0, x14), (2, (D11 l0 0)), (0, l1), (2, l0)] _ _ _
        obtain ⟨h15, H⟩ := H
        refine zr_invokevirtual (rt2 := 1) rfl rfl rfl rfl rfl h15 (by decide) h4 (zc_mono H ?_)
        intro x16 T16 D16 H
        show zj _ _ _ _ _ [(2, l0), (0, l1), (0, l2), (0, x6)] [(0, x16), (0, l1), (2, l0)] _ _ _
        obtain ⟨h17, H⟩ := H
        refine zr_invokevirtual (rt2 := 0) rfl rfl rfl rfl rfl h17 (by decide) h4 (zc_mono H ?_)
        intro x18 T18 D18 H
        show zj _ _ _ _ _ [(2, l0), (0, l1), (0, l2), (0, x6)] [] _ _ _
        refine zr_aload_n rfl rfl ?_
        refine zr_iload_n rfl rfl ?_
        refine zr_iload_n rfl rfl ?_
        obtain ⟨h19, H⟩ := H
        refine zr_invokevirtual (rt2 := 0) rfl rfl rfl rfl rfl h19 (by decide) h4 (zc_mono H ?_)
        intro x20 T20 D20 H
        show zj _ _ _ _ _ [(2, l0), (0, l1), (0, l2), (0, x6)] [] _ _ _
        refine zr_iinc rfl rfl rfl ?_
        show zj _ _ _ _ _ [(2, l0), (0, l1 + 1), (0, l2), (0, x6)] [] _ _ _
        refine zr_iinc rfl rfl rfl ?_
        show zj _ _ _ _ _ [(2, l0), (0, l1 + 1), (0, l2 + 1), (0, x6)] [] _ _ _
        refine zr_goto rfl ?_
        exact H
    · replace H := H.2 hc
      refine zr_iconst rfl ?_
      refine zr_goto rfl ?_
      obtain ⟨h21, H⟩ := H
      refine zr_invokevirtual (rt2 := 0) rfl rfl rfl rfl rfl h21 (by decide) h4 (zc_mono H ?_)
      intro x22 T22 D22 H
      show zj _ _ _ _ _ [(2, l0), (0, l1), (0, l2), (0, x6)] [] _ _ _
      refine zr_iload_n rfl rfl ?_
      refine zr_if_lt rfl h7 (fun hc => ?_) (fun hc => ?_)
      · replace H := H.1 hc
        refine zr_iinc rfl rfl rfl ?_
        show zj _ _ _ _ _ [(2, l0), (0, l1), (0, l2 + 1), (0, x6)] [] _ _ _
        refine zr_goto rfl ?_
        exact H
      · replace H := H.2 hc
        refine zr_aload_n rfl rfl ?_
        refine zr_iload_n rfl rfl ?_
        refine zr_iload_n rfl rfl ?_
        obtain ⟨h23, H⟩ := H
        refine zr_invokevirtual (rt2 := 0) rfl rfl rfl rfl rfl h23 (by decide) h4 (zc_mono H ?_)
        intro x24 T24 D24 H
        show zj _ _ _ _ _ [(2, l0), (0, l1), (0, l2), (0, x6)] [] _ _ _
        refine zr_aload_n rfl rfl ?_
        refine zr_iload_n rfl rfl ?_
        refine zr_aload_n rfl rfl ?_
        obtain ⟨h25, H⟩ := H
        refine zr_getfield (n := 12) rfl h25 (by decide) rfl (by decide) ?_
        refine zr_aload_n rfl rfl ?_
        refine zr_iload_n rfl rfl ?_
        refine zr_iload_n rfl rfl ?_
        obtain ⟨h26, H⟩ := H
        refine zr_invokevirtual (rt2 := 1) rfl rfl rfl rfl rfl h26 (by decide) h4 (zc_mono H ?_)
        intro x27 T27 D27 H
        show zj _ _ _ _ _ [(2, l0), (0, l1), (0, l2), (0, x6)] [(0, x27), (2, (D24 l0 0)), (0, l1), (2, l0)] _ _ _
        obtain ⟨h28, H⟩ := H
        refine zr_invokevirtual (rt2 := 1) rfl rfl rfl rfl rfl h28 (by decide) h4 (zc_mono H ?_)
        intro x29 T29 D29 H
        show zj _ _ _ _ _ [(2, l0), (0, l1), (0, l2), (0, x6)] [(0, x29), (0, l1), (2, l0)] _ _ _
        obtain ⟨h30, H⟩ := H
        refine zr_invokevirtual (rt2 := 0) rfl rfl rfl rfl rfl h30 (by decide) h4 (zc_mono H ?_)
        intro x31 T31 D31 H
        show zj _ _ _ _ _ [(2, l0), (0, l1), (0, l2), (0, x6)] [] _ _ _
        refine zr_aload_n rfl rfl ?_
        refine zr_iload_n rfl rfl ?_
        refine zr_iload_n rfl rfl ?_
        obtain ⟨h32, H⟩ := H
        refine zr_invokevirtual (rt2 := 0) rfl rfl rfl rfl rfl h32 (by decide) h4 (zc_mono H ?_)
        intro x33 T33 D33 H
        show zj _ _ _ _ _ [(2, l0), (0, l1), (0, l2), (0, x6)] [] _ _ _
        refine zr_iinc rfl rfl rfl ?_
        show zj _ _ _ _ _ [(2, l0), (0, l1 + 1), (0, l2), (0, x6)] [] _ _ _
        refine zr_iinc rfl rfl rfl ?_
        show zj _ _ _ _ _ [(2, l0), (0, l1 + 1), (0, l2 + 1), (0, x6)] [] _ _ _
        refine zr_goto rfl ?_
        exact H
theorem z66_0 {E : List (List Int)} {d : Nat} {T : zT} {D : zD} {Q : Int → zT → zD → Prop}  (l0 : Int) (l1 : Int) (l2 : Int) 
  (H : zj E d 1 66 2 [(2, l0), (0, l1), (0, l2), (0, l1)] [] T D Q) :
  zj E d 1 66 0 [(2, l0), (0, l1), (0, l2), (9, 0)] [] T D Q := by
  refine zr_iload_n rfl rfl ?_
  refine zr_istore_n rfl rfl ?_
  show zj _ _ _ _ _ [(2, l0), (0, l1), (0, l2), (0, l1)] [] _ _ _
  exact H
theorem e66 {E : List (List Int)} {d : Nat} {T : zT} {D : zD} {Q : Int → zT → zD → Prop}  (l0 : Int) (l1 : Int) (l2 : Int) 
  (H : zj E d 1 66 2 [(2, l0), (0, l1), (0, l2), (0, l1)] [] T D Q) :
  zc E d 1 66 [(2, l0), (0, l1), (0, l2)] T D Q :=
  zc_of (ls := [(2, l0), (0, l1), (0, l2), (9, 0)]) (fun _ => rfl) (z66_0  l0 l1 l2 H)
theorem z66_2 {E : List (List Int)} {d : Nat} {T : zT} {D : zD} {Q : Int → zT → zD → Prop}  (l0 : Int) (l1 : Int) (l2 : Int) (l3 : Int) 
  (H : zob T l0 5 12 ∧ zin l3 ∧ zin (D l0 7) ∧ ((l3 ≥ (D l0 7) → Q (-1) T D) ∧ (l3 < (D l0 7) → 0 < d ∧ zk T l0 = 5 ∧ zc E (d - 1) 1 67 [(2, l0), (0, l3), (0, l2)] T D (fun x6 T6 D6 => zin x6 ∧ ((x6 = 0 → zj E d 1 66 2 [(2, l0), (0, l1), (0, l2), (0, l3 + 1)] [] T6 D6 Q) ∧ (x6 ≠ 0 → Q l3 T6 D6)))))) :
  zj E d 1 66 2 [(2, l0), (0, l1), (0, l2), (0, l3)] [] T D Q := by
  refine zr_iload_n rfl rfl ?_
  refine zr_aload_n rfl rfl ?_
  obtain ⟨h1, H⟩ := H
  refine zr_getfield (n := 12) rfl h1 (by decide) rfl (by decide) ?_
  obtain ⟨h2, H⟩ := H
  obtain ⟨h3, H⟩ := H
  refine zr_icmp_ge rfl h2 h3 (fun hc => ?_) (fun hc => ?_)
  · replace H := H.1 hc
    refine zr_iconst rfl ?_
    exact zr_ireturn rfl rfl rfl H
  · replace H := H.2 hc
    refine zr_aload_n rfl rfl ?_
    refine zr_iload_n rfl rfl ?_
    refine zr_iload_n rfl rfl ?_
    obtain ⟨h4, H⟩ := H
    obtain ⟨h5, H⟩ := H
    refine zr_invokevirtual (rt2 := 1) rfl rfl rfl rfl rfl h5 (by decide) h4 (zc_mono H ?_)
    intro x6 T6 D6 H
    show zj _ _ _ _ _ [(2, l0), (0, l1), (0, l2), (0, l3)] [(0, x6)] _ _ _
    obtain ⟨h7, H⟩ := H
    refine zr_if_eq rfl h7 (fun hc => ?_) (fun hc => ?_)
    · replace H := H.1 hc
      refine zr_iinc rfl rfl rfl ?_
      show zj _ _ _ _ _ [(2, l0), (0, l1), (0, l2), (0, l3 + 1)] [] _ _ _
      refine zr_goto rfl ?_
      exact H
    · replace H := H.2 hc
      refine zr_iload_n rfl rfl ?_
      exact zr_ireturn rfl rfl rfl H
theorem z67_0 {E : List (List Int)} {d : Nat} {T : zT} {D : zD} {Q : Int → zT → zD → Prop}  (l0 : Int) (l1 : Int) (l2 : Int) 
  (H : zin ((l1 * 24) + l2) ∧ ((((l1 * 24) + l2) < 0 → Q 0 T D) ∧ (((l1 * 24) + l2) ≥ 0 → zob T l0 5 12 ∧ zk T (D l0 5) = 50 ∧ zin (zn T (D l0 5)) ∧ ((((l1 * 24) + l2) < (zn T (D l0 5)) → zar T (D l0 5) 50 ((l1 * 24) + l2) ∧ Q (D (D l0 5) ((l1 * 24) + l2)) T D) ∧ (((l1 * 24) + l2) ≥ (zn T (D l0 5)) → Q 0 T D))))) :
  zj E d 1 67 0 [(2, l0), (0, l1), (0, l2), (9, 0)] [] T D Q := by
  refine zr_iload_n rfl rfl ?_
  refine zr_bipush rfl ?_
  refine zr_imul rfl ?_
  refine zr_iload_n rfl rfl ?_
  refine zr_iadd rfl ?_
  refine zr_istore_n rfl rfl ?_
  show zj _ _ _ _ _ [(2, l0), (0, l1), (0, l2), (0, ((l1 * 24) + l2))] [] _ _ _
  refine zr_iload_n rfl rfl ?_
  obtain ⟨h1, H⟩ := H
  refine zr_if_lt rfl h1 (fun hc => ?_) (fun hc => ?_)
  · replace H := H.1 hc
    refine zr_iconst rfl ?_
    refine zr_goto rfl ?_
    exact zr_ireturn rfl rfl rfl H
  · replace H := H.2 hc
    refine zr_iload_n rfl rfl ?_
    refine zr_aload_n rfl rfl ?_
    obtain ⟨h2, H⟩ := H
    refine zr_getfield (n := 12) rfl h2 (by decide) rfl (by decide) ?_
    obtain ⟨h3, H⟩ := H
    refine zr_arraylength rfl (Or.inl h3) ?_
    obtain ⟨h4, H⟩ := H
    refine zr_icmp_lt rfl h1 h4 (fun hc => ?_) (fun hc => ?_)
    · replace H := H.1 hc
      refine zr_aload_n rfl rfl ?_
      refine zr_getfield (n := 12) rfl h2 (by decide) rfl (by decide) ?_
      refine zr_iload_n rfl rfl ?_
      obtain ⟨h5, H⟩ := H
      refine zr_iaload rfl h5 ?_
      exact zr_ireturn rfl rfl rfl H
    · replace H := H.2 hc
      refine zr_iconst rfl ?_
      refine zr_goto rfl ?_
      exact zr_ireturn rfl rfl rfl H
theorem e67 {E : List (List Int)} {d : Nat} {T : zT} {D : zD} {Q : Int → zT → zD → Prop}  (l0 : Int) (l1 : Int) (l2 : Int) 
  (H : zin ((l1 * 24) + l2) ∧ ((((l1 * 24) + l2) < 0 → Q 0 T D) ∧ (((l1 * 24) + l2) ≥ 0 → zob T l0 5 12 ∧ zk T (D l0 5) = 50 ∧ zin (zn T (D l0 5)) ∧ ((((l1 * 24) + l2) < (zn T (D l0 5)) → zar T (D l0 5) 50 ((l1 * 24) + l2) ∧ Q (D (D l0 5) ((l1 * 24) + l2)) T D) ∧ (((l1 * 24) + l2) ≥ (zn T (D l0 5)) → Q 0 T D))))) :
  zc E d 1 67 [(2, l0), (0, l1), (0, l2)] T D Q :=
  zc_of (ls := [(2, l0), (0, l1), (0, l2), (9, 0)]) (fun _ => rfl) (z67_0  l0 l1 l2 H)
theorem z68_0 {E : List (List Int)} {d : Nat} {T : zT} {D : zD} {Q : Int → zT → zD → Prop}  (l0 : Int) (l1 : Int) (l2 : Int) 
  (H : zin l1 ∧ ((l1 < 0 → Q 0 T D) ∧ (l1 ≥ 0 → zob T l0 5 12 ∧ zk T (D l0 6) = 50 ∧ zin (zn T (D l0 6)) ∧ ((l1 ≥ (zn T (D l0 6)) → Q 0 T D) ∧ (l1 < (zn T (D l0 6)) → zar T (D l0 6) 50 l1 ∧ Q 0 T (zu D (D l0 6) l1 l2)))))) :
  zj E d 0 68 0 [(2, l0), (0, l1), (0, l2)] [] T D Q := by
  refine zr_iload_n rfl rfl ?_
  obtain ⟨h1, H⟩ := H
  refine zr_if_lt rfl h1 (fun hc => ?_) (fun hc => ?_)
  · replace H := H.1 hc
    exact zr_return rfl rfl rfl H
  · replace H := H.2 hc
    refine zr_iload_n rfl rfl ?_
    refine zr_aload_n rfl rfl ?_
    obtain ⟨h2, H⟩ := H
    refine zr_getfield (n := 12) rfl h2 (by decide) rfl (by decide) ?_
    obtain ⟨h3, H⟩ := H
    refine zr_arraylength rfl (Or.inl h3) ?_
    obtain ⟨h4, H⟩ := H
    refine zr_icmp_ge rfl h1 h4 (fun hc => ?_) (fun hc => ?_)
    · replace H := H.1 hc
      exact zr_return rfl rfl rfl H
    · replace H := H.2 hc
      refine zr_aload_n rfl rfl ?_
      refine zr_getfield (n := 12) rfl h2 (by decide) rfl (by decide) ?_
      refine zr_iload_n rfl rfl ?_
      refine zr_iload_n rfl rfl ?_
      obtain ⟨h5, H⟩ := H
      refine zr_iastore rfl h5 ?_
      exact zr_return rfl rfl rfl H
theorem e68 {E : List (List Int)} {d : Nat} {T : zT} {D : zD} {Q : Int → zT → zD → Prop}  (l0 : Int) (l1 : Int) (l2 : Int) 
  (H : zin l1 ∧ ((l1 < 0 → Q 0 T D) ∧ (l1 ≥ 0 → zob T l0 5 12 ∧ zk T (D l0 6) = 50 ∧ zin (zn T (D l0 6)) ∧ ((l1 ≥ (zn T (D l0 6)) → Q 0 T D) ∧ (l1 < (zn T (D l0 6)) → zar T (D l0 6) 50 l1 ∧ Q 0 T (zu D (D l0 6) l1 l2)))))) :
  zc E d 0 68 [(2, l0), (0, l1), (0, l2)] T D Q :=
  zc_of (ls := [(2, l0), (0, l1), (0, l2)]) (fun _ => rfl) (z68_0  l0 l1 l2 H)
theorem z69_0 {E : List (List Int)} {d : Nat} {T : zT} {D : zD} {Q : Int → zT → zD → Prop}  (l0 : Int) (l1 : Int) (l2 : Int) 
  (H : zj E d 0 69 2 [(2, l0), (0, l1), (0, l2), (0, 0), (9, 0)] [] T D Q) :
  zj E d 0 69 0 [(2, l0), (0, l1), (0, l2), (9, 0), (9, 0)] [] T D Q := by
  refine zr_iconst rfl ?_
  refine zr_istore_n rfl rfl ?_
  show zj _ _ _ _ _ [(2, l0), (0, l1), (0, l2), (0, 0), (9, 0)] [] _ _ _
  exact H
theorem e69 {E : List (List Int)} {d : Nat} {T : zT} {D : zD} {Q : Int → zT → zD → Prop}  (l0 : Int) (l1 : Int) (l2 : Int) 
  (H : zj E d 0 69 2 [(2, l0), (0, l1), (0, l2), (0, 0), (9, 0)] [] T D Q) :
  zc E d 0 69 [(2, l0), (0, l1), (0, l2)] T D Q :=
  zc_of (ls := [(2, l0), (0, l1), (0, l2), (9, 0), (9, 0)]) (fun _ => rfl) (z69_0  l0 l1 l2 H)
theorem z69_2 {E : List (List Int)} {d : Nat} {T : zT} {D : zD} {Q : Int → zT → zD → Prop}  (l0 : Int) (l1 : Int) (l2 : Int) (l3 : Int) (w4 : zv_V) (hw4 : zs_wide w4 = false)
  (H : zob T l0 5 12 ∧ zin l3 ∧ zin (D l0 7) ∧ ((l3 ≥ (D l0 7) → Q 0 T D) ∧ (l3 < (D l0 7) → 0 < d ∧ zk T l0 = 5 ∧ zc E (d - 1) 1 67 [(2, l0), (0, l1), (0, l3)] T D (fun x6 T6 D6 => zk T6 l0 = 5 ∧ zc E (d - 1) 1 67 [(2, l0), (0, l2), (0, l3)] T6 D6 (fun x8 T8 D8 => zk T8 l0 = 5 ∧ zc E (d - 1) 0 64 [(2, l0), (0, l1), (0, l3), (0, x8)] T8 D8 (fun x10 T10 D10 => zk T10 l0 = 5 ∧ zc E (d - 1) 0 64 [(2, l0), (0, l2), (0, l3), (0, x6)] T10 D10 (fun x12 T12 D12 => zj E d 0 69 2 [(2, l0), (0, l1), (0, l2), (0, l3 + 1), (0, x6)] [] T12 D12 Q))))))) :
  zj E d 0 69 2 [(2, l0), (0, l1), (0, l2), (0, l3), w4] [] T D Q := by
  refine zr_iload_n rfl rfl ?_
  refine zr_aload_n rfl rfl ?_
  obtain ⟨h1, H⟩ := H
  refine zr_getfield (n := 12) rfl h1 (by decide) rfl (by decide) ?_
  obtain ⟨h2, H⟩ := H
  obtain ⟨h3, H⟩ := H
  refine zr_icmp_ge rfl h2 h3 (fun hc => ?_) (fun hc => ?_)
  · replace H := H.1 hc
    exact zr_return rfl rfl rfl H
  · replace H := H.2 hc
    refine zr_aload_n rfl rfl ?_
    refine zr_iload_n rfl rfl ?_
    refine zr_iload_n rfl rfl ?_
    obtain ⟨h4, H⟩ := H
    obtain ⟨h5, H⟩ := H
    refine zr_invokevirtual (rt2 := 1) rfl rfl rfl rfl rfl h5 (by decide) h4 (zc_mono H ?_)
    intro x6 T6 D6 H
    show zj _ _ _ _ _ [(2, l0), (0, l1), (0, l2), (0, l3), w4] [(0, x6)] _ _ _
    refine zr_istore rfl rfl ?_
    show zj _ _ _ _ _ [(2, l0), (0, l1), (0, l2), (0, l3), (0, x6)] [] _ _ _
    refine zr_aload_n rfl rfl ?_
    refine zr_iload_n rfl rfl ?_
    refine zr_iload_n rfl rfl ?_
    refine zr_aload_n rfl rfl ?_
    refine zr_iload_n rfl rfl ?_
    refine zr_iload_n rfl rfl ?_
    obtain ⟨h7, H⟩ := H
    refine zr_invokevirtual (rt2 := 1) rfl rfl rfl rfl rfl h7 (by decide) h4 (zc_mono H ?_)
    intro x8 T8 D8 H
    show zj _ _ _ _ _ [(2, l0), (0, l1), (0, l2), (0, l3), (0, x6)] [(0, x8), (0, l3), (0, l1), (2, l0)] _ _ _
    obtain ⟨h9, H⟩ := H
    refine zr_invokevirtual (rt2 := 0) rfl rfl rfl rfl rfl h9 (by decide) h4 (zc_mono H ?_)
    intro x10 T10 D10 H
    show zj _ _ _ _ _ [(2, l0), (0, l1), (0, l2), (0, l3), (0, x6)] [] _ _ _
    refine zr_aload_n rfl rfl ?_
    refine zr_iload_n rfl rfl ?_
    refine zr_iload_n rfl rfl ?_
    refine zr_iload rfl rfl ?_
    obtain ⟨h11, H⟩ := H
    refine zr_invokevirtual (rt2 := 0) rfl rfl rfl rfl rfl h11 (by decide) h4 (zc_mono H ?_)
    intro x12 T12 D12 H
    show zj _ _ _ _ _ [(2, l0), (0, l1), (0, l2), (0, l3), (0, x6)] [] _ _ _
    refine zr_iinc rfl rfl rfl ?_
    show zj _ _ _ _ _ [(2, l0), (0, l1), (0, l2), (0, l3 + 1), (0, x6)] [] _ _ _
    refine zr_goto rfl ?_
    exact H
theorem z70_0 {E : List (List Int)} {d : Nat} {T : zT} {D : zD} {Q : Int → zT → zD → Prop}  (l0 : Int) (l1 : Int) (l2 : Int) 
  (H : zj E d 0 70 2 [(2, l0), (0, l1), (0, l2), (0, 0)] [] T D Q) :
  zj E d 0 70 0 [(2, l0), (0, l1), (0, l2), (9, 0)] [] T D Q := by
  refine zr_iconst rfl ?_
  refine zr_istore_n rfl rfl ?_
  show zj _ _ _ _ _ [(2, l0), (0, l1), (0, l2), (0, 0)] [] _ _ _
  exact H
theorem e70 {E : List (List Int)} {d : Nat} {T : zT} {D : zD} {Q : Int → zT → zD → Prop}  (l0 : Int) (l1 : Int) (l2 : Int) 
  (H : zj E d 0 70 2 [(2, l0), (0, l1), (0, l2), (0, 0)] [] T D Q) :
  zc E d 0 70 [(2, l0), (0, l1), (0, l2)] T D Q :=
  zc_of (ls := [(2, l0), (0, l1), (0, l2), (9, 0)]) (fun _ => rfl) (z70_0  l0 l1 l2 H)
theorem z70_2 {E : List (List Int)} {d : Nat} {T : zT} {D : zD} {Q : Int → zT → zD → Prop}  (l0 : Int) (l1 : Int) (l2 : Int) (l3 : Int) 
  (H : zob T l0 5 12 ∧ zin l3 ∧ zin (D l0 7) ∧ ((l3 ≥ (D l0 7) → Q 0 T D) ∧ (l3 < (D l0 7) → 0 < d ∧ zk T l0 = 5 ∧ zc E (d - 1) 1 67 [(2, l0), (0, l1), (0, l3)] T D (fun x6 T6 D6 => zk T6 (D l0 0) = 1 ∧ zc E (d - 1) 1 38 [(2, (D l0 0)), (0, x6), (0, l2)] T6 D6 (fun x8 T8 D8 => zk T8 l0 = 5 ∧ zc E (d - 1) 0 64 [(2, l0), (0, l1), (0, l3), (0, x8)] T8 D8 (fun x10 T10 D10 => zj E d 0 70 2 [(2, l0), (0, l1), (0, l2), (0, l3 + 1)] [] T10 D10 Q)))))) :
  zj E d 0 70 2 [(2, l0), (0, l1), (0, l2), (0, l3)] [] T D Q := by
  refine zr_iload_n rfl rfl ?_
  refine zr_aload_n rfl rfl ?_
  obtain ⟨h1, H⟩ := H
  refine zr_getfield (n := 12) rfl h1 (by decide) rfl (by decide) ?_
  obtain ⟨h2, H⟩ := H
  obtain ⟨h3, H⟩ := H
  refine zr_icmp_ge rfl h2 h3 (fun hc => ?_) (fun hc => ?_)
  · replace H := H.1 hc
    exact zr_return rfl rfl rfl H
  · replace H := H.2 hc
    refine zr_aload_n rfl rfl ?_
    refine zr_iload_n rfl rfl ?_
    refine zr_iload_n rfl rfl ?_
    refine zr_aload_n rfl rfl ?_
    refine zr_getfield (n := 12) rfl h1 (by decide) rfl (by decide) ?_
    refine zr_aload_n rfl rfl ?_
    refine zr_iload_n rfl rfl ?_
    refine zr_iload_n rfl rfl ?_
    obtain ⟨h4, H⟩ := H
    obtain ⟨h5, H⟩ := H
    refine zr_invokevirtual (rt2 := 1) rfl rfl rfl rfl rfl h5 (by decide) h4 (zc_mono H ?_)
    intro x6 T6 D6 H
    show zj _ _ _ _ _ [(2, l0), (0, l1), (0, l2), (0, l3)] [(0, x6), (2, (D l0 0)), (0, l3), (0, l1), (2, l0)] _ _ _
    refine zr_iload_n rfl rfl ?_
    obtain ⟨h7, H⟩ := H
    refine zr_invokevirtual (rt2 := 1) rfl rfl rfl rfl rfl h7 (by decide) h4 (zc_mono H ?_)
    intro x8 T8 D8 H
    show zj _ _ _ _ _ [(2, l0), (0, l1), (0, l2), (0, l3)] [(0, x8), (0, l3), (0, l1), (2, l0)] _ _ _
    obtain ⟨h9, H⟩ := H
    refine zr_invokevirtual (rt2 := 0) rfl rfl rfl rfl rfl h9 (by decide) h4 (zc_mono H ?_)
    intro x10 T10 D10 H
    show zj _ _ _ _ _ [(2, l0), (0, l1), (0, l2), (0, l3)] [] _ _ _
    refine zr_iinc rfl rfl rfl ?_
    show zj _ _ _ _ _ [(2, l0), (0, l1), (0, l2), (0, l3 + 1)] [] _ _ _
    refine zr_goto rfl ?_
    exact H
