/-! Conditions of methods, by program (wip/tools/vcg.py). -/
theorem z90_0 {E : List (List Int)} {d : Nat} {T : zT} {D : zD} {Q : Int → zT → zD → Prop}  (l0 : Int) (l1 : Int) 
  (H : zin (zi_and l0 2147483647) ∧ 0 < l1 ∧ l1 ≤ 2147483647 ∧ Q ((zi_and l0 2147483647).tmod l1) T D) :
  zj E d 1 90 0 [(0, l0), (0, l1)] [] T D Q := by
  refine zr_iload_n rfl rfl ?_
  refine zr_ldc rfl rfl ?_
  refine zr_iand rfl ?_
  refine zr_iload_n rfl rfl ?_
  obtain ⟨h1, H⟩ := H
  obtain ⟨h2, H⟩ := H
  obtain ⟨h3, H⟩ := H
  refine zr_irem rfl h1 h2 h3 ?_
  exact zr_ireturn rfl rfl rfl H
theorem e90 {E : List (List Int)} {d : Nat} {T : zT} {D : zD} {Q : Int → zT → zD → Prop}  (l0 : Int) (l1 : Int) 
  (H : zin (zi_and l0 2147483647) ∧ 0 < l1 ∧ l1 ≤ 2147483647 ∧ Q ((zi_and l0 2147483647).tmod l1) T D) :
  zc E d 1 90 [(0, l0), (0, l1)] T D Q :=
  zc_of (ls := [(0, l0), (0, l1)]) (fun _ => rfl) (z90_0  l0 l1 H)
theorem z91_0 {E : List (List Int)} {d : Nat} {T : zT} {D : zD} {Q : Int → zT → zD → Prop} {sc : List Int} (hsc : E[0]? = some sc) (l1 : Int) 
  (H : zin l1 ∧ zin (sc.length : Int) ∧ ((l1 ≥ (sc.length : Int) → Q (790386105 * (l1 + 3)) T D) ∧ (l1 < (sc.length : Int) → 0 ≤ l1 ∧ l1 < (sc.length : Int) ∧ (sc.length : Int) ≤ 2147483647 ∧ Q (sc.getD (l1).toNat 0) T D))) :
  zj E d 1 91 0 [(2, (-2)), (0, l1)] [] T D Q := by
  refine zr_iload_n rfl rfl ?_
  refine zr_aload_n rfl rfl ?_
  refine zr_arraylengthE (l := sc) rfl hsc (by decide) ?_
  obtain ⟨h1, H⟩ := H
  obtain ⟨h2, H⟩ := H
  refine zr_icmp_ge rfl h1 h2 (fun hc => ?_) (fun hc => ?_)
  · replace H := H.1 hc
    refine zr_ldc rfl rfl ?_
    refine zr_iload_n rfl rfl ?_
    refine zr_iconst rfl ?_
    refine zr_iadd rfl ?_
    refine zr_imul rfl ?_
    exact zr_ireturn rfl rfl rfl H
  · replace H := H.2 hc
    refine zr_aload_n rfl rfl ?_
    refine zr_iload_n rfl rfl ?_
    obtain ⟨h3, H⟩ := H
    obtain ⟨h4, H⟩ := H
    obtain ⟨h5, H⟩ := H
    refine zr_ialoadE (l := sc) rfl hsc (by decide) h3 h4 h5 ?_
    refine zr_goto rfl ?_
    exact zr_ireturn rfl rfl rfl H
theorem e91 {E : List (List Int)} {d : Nat} {T : zT} {D : zD} {Q : Int → zT → zD → Prop} {sc : List Int} (hsc : E[0]? = some sc) (l1 : Int) 
  (H : zin l1 ∧ zin (sc.length : Int) ∧ ((l1 ≥ (sc.length : Int) → Q (790386105 * (l1 + 3)) T D) ∧ (l1 < (sc.length : Int) → 0 ≤ l1 ∧ l1 < (sc.length : Int) ∧ (sc.length : Int) ≤ 2147483647 ∧ Q (sc.getD (l1).toNat 0) T D))) :
  zc E d 1 91 [(2, (-2)), (0, l1)] T D Q :=
  zc_of (ls := [(2, (-2)), (0, l1)]) (fun _ => rfl) (z91_0 hsc l1 H)
theorem z92_0 {E : List (List Int)} {d : Nat} {T : zT} {D : zD} {Q : Int → zT → zD → Prop}  (l0 : Int) (l1 : Int) (l3 : Int) (l4 : Int) (l5 : Int) 
  (H : 0 < d ∧ zc E (d - 1) 1 91 [(2, (-2)), (0, l3)] (T ++ [(50, (60 : Int).toNat)]) (znew D T.length (List.replicate (60 : Int).toNat 0)) (fun x2 T2 D2 => zc E (d - 1) 1 90 [(0, x2), (0, (l4 + 2))] T2 D2 (fun x3 T3 D3 => zj E d 2 92 25 [(2, l0), (0, l1), (2, (-2)), (0, l3), (0, l4), (0, l5), (2, (T.length : Int)), (0, (x3 - 1)), (0, 0)] [] T3 D3 Q))) :
  zj E d 2 92 0 [(2, l0), (0, l1), (2, (-2)), (0, l3), (0, l4), (0, l5), (9, 0), (9, 0), (9, 0)] [] T D Q := by
  refine zr_bipush rfl ?_
  refine zr_newarray rfl (by decide) (by decide) ?_
  refine zr_astore rfl rfl ?_
  show zj _ _ _ _ _ [(2, l0), (0, l1), (2, (-2)), (0, l3), (0, l4), (0, l5), (2, (T.length : Int)), (9, 0), (9, 0)] [] _ _ _
  refine zr_aload_n rfl rfl ?_
  refine zr_iload_n rfl rfl ?_
  obtain ⟨h1, H⟩ := H
  refine zr_invokestatic (rt2 := 1) rfl rfl rfl rfl rfl h1 (zc_mono H ?_)
  intro x2 T2 D2 H
  show zj _ _ _ _ _ [(2, l0), (0, l1), (2, (-2)), (0, l3), (0, l4), (0, l5), (2, (T.length : Int)), (9, 0), (9, 0)] [(0, x2)] _ _ _
  refine zr_iload rfl rfl ?_
  refine zr_iconst rfl ?_
  refine zr_iadd rfl ?_
  refine zr_invokestatic (rt2 := 1) rfl rfl rfl rfl rfl h1 (zc_mono H ?_)
  intro x3 T3 D3 H
  show zj _ _ _ _ _ [(2, l0), (0, l1), (2, (-2)), (0, l3), (0, l4), (0, l5), (2, (T.length : Int)), (9, 0), (9, 0)] [(0, x3)] _ _ _
  refine zr_iconst rfl ?_
  refine zr_isub rfl ?_
  refine zr_istore rfl rfl ?_
  show zj _ _ _ _ _ [(2, l0), (0, l1), (2, (-2)), (0, l3), (0, l4), (0, l5), (2, (T.length : Int)), (0, (x3 - 1)), (9, 0)] [] _ _ _
  refine zr_iconst rfl ?_
  refine zr_istore rfl rfl ?_
  show zj _ _ _ _ _ [(2, l0), (0, l1), (2, (-2)), (0, l3), (0, l4), (0, l5), (2, (T.length : Int)), (0, (x3 - 1)), (0, 0)] [] _ _ _
  exact H
theorem e92 {E : List (List Int)} {d : Nat} {T : zT} {D : zD} {Q : Int → zT → zD → Prop}  (l0 : Int) (l1 : Int) (l3 : Int) (l4 : Int) (l5 : Int) 
  (H : 0 < d ∧ zc E (d - 1) 1 91 [(2, (-2)), (0, l3)] (T ++ [(50, (60 : Int).toNat)]) (znew D T.length (List.replicate (60 : Int).toNat 0)) (fun x2 T2 D2 => zc E (d - 1) 1 90 [(0, x2), (0, (l4 + 2))] T2 D2 (fun x3 T3 D3 => zj E d 2 92 25 [(2, l0), (0, l1), (2, (-2)), (0, l3), (0, l4), (0, l5), (2, (T.length : Int)), (0, (x3 - 1)), (0, 0)] [] T3 D3 Q))) :
  zc E d 2 92 [(2, l0), (0, l1), (2, (-2)), (0, l3), (0, l4), (0, l5)] T D Q :=
  zc_of (ls := [(2, l0), (0, l1), (2, (-2)), (0, l3), (0, l4), (0, l5), (9, 0), (9, 0), (9, 0)]) (fun _ => rfl) (z92_0  l0 l1 l3 l4 l5 H)
theorem z92_25 {E : List (List Int)} {d : Nat} {T : zT} {D : zD} {Q : Int → zT → zD → Prop}  (l0 : Int) (l1 : Int) (l3 : Int) (l4 : Int) (l5 : Int) (l6 : Int) (l7 : Int) (l8 : Int) 
  (H : zin l8 ∧ ((l8 > 24 → -1 ≤ l6 ∧ Q l6 T D) ∧ (l8 ≤ 24 → zin l7 ∧ ((l8 ≤ l7 → 0 < d ∧ zc E (d - 1) 1 91 [(2, (-2)), (0, ((l3 + 1) + (l8.tmod 4)))] T D (fun x5 T5 D5 => zc E (d - 1) 1 90 [(0, (zi_xor (zi_shr x5 ((l8.tdiv 4) * 4)) (l8 * 911))), (0, l5)] T5 D5 (fun x6 T6 D6 => zar T6 l6 50 l8 ∧ zk T6 l0 = 7 ∧ zc E (d - 1) 1 93 [(2, l0), (0, l1), (0, l8), (0, ((zu D6 l6 l8 x6) l6 l8))] T6 (zu D6 l6 l8 x6) (fun x9 T9 D9 => zj E d 2 92 25 [(2, l0), (0, l1), (2, (-2)), (0, l3), (0, l4), (0, l5), (2, l6), (0, l7), (0, l8 + 1)] [] T9 D9 Q)))) ∧ (l8 > l7 → zar T l6 50 l8 ∧ 0 < d ∧ zk T l0 = 7 ∧ zc E (d - 1) 1 93 [(2, l0), (0, l1), (0, l8), (0, ((zu D l6 l8 0) l6 l8))] T (zu D l6 l8 0) (fun x13 T13 D13 => zj E d 2 92 25 [(2, l0), (0, l1), (2, (-2)), (0, l3), (0, l4), (0, l5), (2, l6), (0, l7), (0, l8 + 1)] [] T13 D13 Q)))))) :
  zj E d 2 92 25 [(2, l0), (0, l1), (2, (-2)), (0, l3), (0, l4), (0, l5), (2, l6), (0, l7), (0, l8)] [] T D Q := by
  refine zr_iload rfl rfl ?_
  refine zr_bipush rfl ?_
  obtain ⟨h1, H⟩ := H
  refine zr_icmp_gt rfl h1 (zin_c (by decide)) (fun hc => ?_) (fun hc => ?_)
  · replace H := H.1 hc
    refine zr_aload rfl rfl ?_
    obtain ⟨h2, H⟩ := H
    exact zr_areturn rfl rfl rfl h2 H
  · replace H := H.2 hc
    refine zr_aload rfl rfl ?_
    refine zr_iload rfl rfl ?_
    refine zr_iload rfl rfl ?_
    refine zr_iload rfl rfl ?_
    obtain ⟨h3, H⟩ := H
    refine zr_icmp_le rfl h1 h3 (fun hc => ?_) (fun hc => ?_)
    · replace H := H.1 hc
      refine zr_aload_n rfl rfl ?_
      refine zr_iload_n rfl rfl ?_
      refine zr_iconst rfl ?_
      refine zr_iadd rfl ?_
      refine zr_iload rfl rfl ?_
      refine zr_iconst rfl ?_
      refine zr_irem rfl h1 (by decide) (by decide) ?_
      refine zr_iadd rfl ?_
      obtain ⟨h4, H⟩ := H
      refine zr_invokestatic (rt2 := 1) rfl rfl rfl rfl rfl h4 (zc_mono H ?_)
      intro x5 T5 D5 H
      show zj _ _ _ _ _ [(2, l0), (0, l1), (2, (-2)), (0, l3), (0, l4), (0, l5), (2, l6), (0, l7), (0, l8)] [(0, x5), (0, l8), (2, l6)] _ _ _
      refine zr_iload rfl rfl ?_
      refine zr_iconst rfl ?_
      refine zr_idiv rfl h1 (by decide) (by decide) ?_
      refine zr_iconst rfl ?_
      refine zr_imul rfl ?_
      refine zr_ishr rfl ?_
      refine zr_iload rfl rfl ?_
      refine zr_sipush rfl ?_
      refine zr_imul rfl ?_
      refine zr_ixor rfl ?_
      refine zr_iload rfl rfl ?_
      refine zr_invokestatic (rt2 := 1) rfl rfl rfl rfl rfl h4 (zc_mono H ?_)
      intro x6 T6 D6 H
      show zj _ _ _ _ _ [(2, l0), (0, l1), (2, (-2)), (0, l3), (0, l4), (0, l5), (2, l6), (0, l7), (0, l8)] [(0, x6), (0, l8), (2, l6)] _ _ _
      obtain ⟨h7, H⟩ := H
      refine zr_iastore rfl h7 ?_
      refine zr_aload_n rfl rfl ?_
      refine zr_iload_n rfl rfl ?_
      refine zr_iload rfl rfl ?_
      refine zr_aload rfl rfl ?_
      refine zr_iload rfl rfl ?_
      refine zr_iaload rfl h7 ?_
      obtain ⟨h8, H⟩ := H
      refine zr_invokevirtual (rt2 := 1) rfl rfl rfl rfl rfl h8 (by decide) h4 (zc_mono H ?_)
      intro x9 T9 D9 H
      show zj _ _ _ _ _ [(2, l0), (0, l1), (2, (-2)), (0, l3), (0, l4), (0, l5), (2, l6), (0, l7), (0, l8)] [(0, x9)] _ _ _
      refine zr_pop rfl rfl ?_
      refine zr_iinc rfl rfl rfl ?_
      show zj _ _ _ _ _ [(2, l0), (0, l1), (2, (-2)), (0, l3), (0, l4), (0, l5), (2, l6), (0, l7), (0, l8 + 1)] [] _ _ _
      refine zr_goto rfl ?_
      exact H
    · replace H := H.2 hc
      refine zr_iconst rfl ?_
      refine zr_goto rfl ?_
      obtain ⟨h10, H⟩ := H
      refine zr_iastore rfl h10 ?_
      refine zr_aload_n rfl rfl ?_
      refine zr_iload_n rfl rfl ?_
      refine zr_iload rfl rfl ?_
      refine zr_aload rfl rfl ?_
      refine zr_iload rfl rfl ?_
      refine zr_iaload rfl h10 ?_
      obtain ⟨h11, H⟩ := H
      obtain ⟨h12, H⟩ := H
      refine zr_invokevirtual (rt2 := 1) rfl rfl rfl rfl rfl h12 (by decide) h11 (zc_mono H ?_)
      intro x13 T13 D13 H
      show zj _ _ _ _ _ [(2, l0), (0, l1), (2, (-2)), (0, l3), (0, l4), (0, l5), (2, l6), (0, l7), (0, l8)] [(0, x13)] _ _ _
      refine zr_pop rfl rfl ?_
      refine zr_iinc rfl rfl rfl ?_
      show zj _ _ _ _ _ [(2, l0), (0, l1), (2, (-2)), (0, l3), (0, l4), (0, l5), (2, l6), (0, l7), (0, l8 + 1)] [] _ _ _
      refine zr_goto rfl ?_
      exact H
theorem z93_0 {E : List (List Int)} {d : Nat} {T : zT} {D : zD} {Q : Int → zT → zD → Prop}  (l0 : Int) (l1 : Int) (l2 : Int) (l3 : Int) 
  (H : 0 < d ∧ zk T l0 = 7 ∧ zc E (d - 1) 2 17 [(2, l0), (0, l1)] T D (fun x3 T3 D3 => zc E (d - 1) 0 18 [(0, l2)] T3 D3 (fun x4 T4 D4 => zob T4 l0 7 11 ∧ zk T4 (D4 l0 0) = 1 ∧ zc E (d - 1) 1 31 [(2, (D4 l0 0)), (0, l3)] T4 D4 (fun x7 T7 D7 => zk T7 x3 = 3 ∧ zc E (d - 1) 0 32 [(2, x3), (0, l2), (0, x7)] T7 D7 (fun x9 T9 D9 => zk T9 x3 = 3 ∧ zc E (d - 1) 1 21 [(2, x3)] T9 D9 (fun x11 T11 D11 => Q x11 T11 D11)))))) :
  zj E d 1 93 0 [(2, l0), (0, l1), (0, l2), (0, l3), (9, 0)] [] T D Q := by
  refine zr_aload_n rfl rfl ?_
  refine zr_iload_n rfl rfl ?_
  obtain ⟨h1, H⟩ := H
  obtain ⟨h2, H⟩ := H
  refine zr_invokevirtual (rt2 := 2) rfl rfl rfl rfl rfl h2 (by decide) h1 (zc_mono H ?_)
  intro x3 T3 D3 H
  show zj _ _ _ _ _ [(2, l0), (0, l1), (0, l2), (0, l3), (9, 0)] [(2, x3)] _ _ _
  refine zr_astore rfl rfl ?_
  show zj _ _ _ _ _ [(2, l0), (0, l1), (0, l2), (0, l3), (2, x3)] [] _ _ _
  refine zr_iload_n rfl rfl ?_
  refine zr_invokestatic (rt2 := 0) rfl rfl rfl rfl rfl h1 (zc_mono H ?_)
  intro x4 T4 D4 H
  show zj _ _ _ _ _ [(2, l0), (0, l1), (0, l2), (0, l3), (2, x3)] [] _ _ _
  refine zr_aload rfl rfl ?_
  refine zr_iload_n rfl rfl ?_
  refine zr_aload_n rfl rfl ?_
  obtain ⟨h5, H⟩ := H
  refine zr_getfield (n := 11) rfl h5 (by decide) rfl (by decide) ?_
  refine zr_iload_n rfl rfl ?_
  obtain ⟨h6, H⟩ := H
  refine zr_invokevirtual (rt2 := 1) rfl rfl rfl rfl rfl h6 (by decide) h1 (zc_mono H ?_)
  intro x7 T7 D7 H
  show zj _ _ _ _ _ [(2, l0), (0, l1), (0, l2), (0, l3), (2, x3)] [(0, x7), (0, l2), (2, x3)] _ _ _
  obtain ⟨h8, H⟩ := H
  refine zr_invokevirtual (rt2 := 0) rfl rfl rfl rfl rfl h8 (by decide) h1 (zc_mono H ?_)
  intro x9 T9 D9 H
  show zj _ _ _ _ _ [(2, l0), (0, l1), (0, l2), (0, l3), (2, x3)] [] _ _ _
  refine zr_aload rfl rfl ?_
  obtain ⟨h10, H⟩ := H
  refine zr_invokevirtual (rt2 := 1) rfl rfl rfl rfl rfl h10 (by decide) h1 (zc_mono H ?_)
  intro x11 T11 D11 H
  show zj _ _ _ _ _ [(2, l0), (0, l1), (0, l2), (0, l3), (2, x3)] [(0, x11)] _ _ _
  exact zr_ireturn rfl rfl rfl H
theorem e93 {E : List (List Int)} {d : Nat} {T : zT} {D : zD} {Q : Int → zT → zD → Prop}  (l0 : Int) (l1 : Int) (l2 : Int) (l3 : Int) 
  (H : 0 < d ∧ zk T l0 = 7 ∧ zc E (d - 1) 2 17 [(2, l0), (0, l1)] T D (fun x3 T3 D3 => zc E (d - 1) 0 18 [(0, l2)] T3 D3 (fun x4 T4 D4 => zob T4 l0 7 11 ∧ zk T4 (D4 l0 0) = 1 ∧ zc E (d - 1) 1 31 [(2, (D4 l0 0)), (0, l3)] T4 D4 (fun x7 T7 D7 => zk T7 x3 = 3 ∧ zc E (d - 1) 0 32 [(2, x3), (0, l2), (0, x7)] T7 D7 (fun x9 T9 D9 => zk T9 x3 = 3 ∧ zc E (d - 1) 1 21 [(2, x3)] T9 D9 (fun x11 T11 D11 => Q x11 T11 D11)))))) :
  zc E d 1 93 [(2, l0), (0, l1), (0, l2), (0, l3)] T D Q :=
  zc_of (ls := [(2, l0), (0, l1), (0, l2), (0, l3), (9, 0)]) (fun _ => rfl) (z93_0  l0 l1 l2 l3 H)
theorem z94_0 {E : List (List Int)} {d : Nat} {T : zT} {D : zD} {Q : Int → zT → zD → Prop}  (l0 : Int) 
  (H : zk T l0 = 50 ∧ zj E d 1 94 5 [(2, l0), (0, ((zn T l0) - 1))] [] T D Q) :
  zj E d 1 94 0 [(2, l0), (9, 0)] [] T D Q := by
  refine zr_aload_n rfl rfl ?_
  obtain ⟨h1, H⟩ := H
  refine zr_arraylength rfl (Or.inl h1) ?_
  refine zr_iconst rfl ?_
  refine zr_isub rfl ?_
  refine zr_istore_n rfl rfl ?_
  show zj _ _ _ _ _ [(2, l0), (0, ((zn T l0) - 1))] [] _ _ _
  exact H
theorem e94 {E : List (List Int)} {d : Nat} {T : zT} {D : zD} {Q : Int → zT → zD → Prop}  (l0 : Int) 
  (H : zk T l0 = 50 ∧ zj E d 1 94 5 [(2, l0), (0, ((zn T l0) - 1))] [] T D Q) :
  zc E d 1 94 [(2, l0)] T D Q :=
  zc_of (ls := [(2, l0), (9, 0)]) (fun _ => rfl) (z94_0  l0 H)
theorem z94_5 {E : List (List Int)} {d : Nat} {T : zT} {D : zD} {Q : Int → zT → zD → Prop}  (l0 : Int) (l1 : Int) 
  (H : zin l1 ∧ ((l1 < 0 → Q l1 T D) ∧ (l1 ≥ 0 → zar T l0 50 l1 ∧ zin (D l0 l1) ∧ (((D l0 l1) ≠ 0 → Q l1 T D) ∧ ((D l0 l1) = 0 → zj E d 1 94 5 [(2, l0), (0, l1 + (-1))] [] T D Q))))) :
  zj E d 1 94 5 [(2, l0), (0, l1)] [] T D Q := by
  refine zr_iload_n rfl rfl ?_
  obtain ⟨h1, H⟩ := H
  refine zr_if_lt rfl h1 (fun hc => ?_) (fun hc => ?_)
  · replace H := H.1 hc
    refine zr_iload_n rfl rfl ?_
    exact zr_ireturn rfl rfl rfl H
  · replace H := H.2 hc
    refine zr_aload_n rfl rfl ?_
    refine zr_iload_n rfl rfl ?_
    obtain ⟨h2, H⟩ := H
    refine zr_iaload rfl h2 ?_
    obtain ⟨h3, H⟩ := H
    refine zr_if_ne rfl h3 (fun hc => ?_) (fun hc => ?_)
    · replace H := H.1 hc
      refine zr_iload_n rfl rfl ?_
      exact zr_ireturn rfl rfl rfl H
    · replace H := H.2 hc
      refine zr_iinc rfl rfl rfl ?_
      show zj _ _ _ _ _ [(2, l0), (0, l1 + (-1))] [] _ _ _
      refine zr_goto rfl ?_
      exact H
theorem z95_0 {E : List (List Int)} {d : Nat} {T : zT} {D : zD} {Q : Int → zT → zD → Prop}  (l0 : Int) (l1 : Int) (l2 : Int) 
  (H : 0 < d ∧ zk T l0 = 7 ∧ zc E (d - 1) 1 20 [(2, l0), (0, l1)] T D (fun x3 T3 D3 => zc E (d - 1) 1 94 [(2, l2)] T3 D3 (fun x4 T4 D4 => zin x3 ∧ zin x4 ∧ ((x3 = x4 → zj E d 1 95 16 [(2, l0), (0, l1), (2, l2), (0, 0)] [] T4 D4 Q) ∧ (x3 ≠ x4 → Q 0 T4 D4))))) :
  zj E d 1 95 0 [(2, l0), (0, l1), (2, l2), (9, 0)] [] T D Q := by
  refine zr_aload_n rfl rfl ?_
  refine zr_iload_n rfl rfl ?_
  obtain ⟨h1, H⟩ := H
  obtain ⟨h2, H⟩ := H
  refine zr_invokevirtual (rt2 := 1) rfl rfl rfl rfl rfl h2 (by decide) h1 (zc_mono H ?_)
  intro x3 T3 D3 H
  show zj _ _ _ _ _ [(2, l0), (0, l1), (2, l2), (9, 0)] [(0, x3)] _ _ _
  refine zr_aload_n rfl rfl ?_
  refine zr_invokestatic (rt2 := 1) rfl rfl rfl rfl rfl h1 (zc_mono H ?_)
  intro x4 T4 D4 H
  show zj _ _ _ _ _ [(2, l0), (0, l1), (2, l2), (9, 0)] [(0, x4), (0, x3)] _ _ _
  obtain ⟨h5, H⟩ := H
  obtain ⟨h6, H⟩ := H
  refine zr_icmp_eq rfl h5 h6 (fun hc => ?_) (fun hc => ?_)
  · replace H := H.1 hc
    refine zr_iconst rfl ?_
    refine zr_istore_n rfl rfl ?_
    show zj _ _ _ _ _ [(2, l0), (0, l1), (2, l2), (0, 0)] [] _ _ _
    exact H
  · replace H := H.2 hc
    refine zr_iconst rfl ?_
    exact zr_ireturn rfl rfl rfl H
theorem e95 {E : List (List Int)} {d : Nat} {T : zT} {D : zD} {Q : Int → zT → zD → Prop}  (l0 : Int) (l1 : Int) (l2 : Int) 
  (H : 0 < d ∧ zk T l0 = 7 ∧ zc E (d - 1) 1 20 [(2, l0), (0, l1)] T D (fun x3 T3 D3 => zc E (d - 1) 1 94 [(2, l2)] T3 D3 (fun x4 T4 D4 => zin x3 ∧ zin x4 ∧ ((x3 = x4 → zj E d 1 95 16 [(2, l0), (0, l1), (2, l2), (0, 0)] [] T4 D4 Q) ∧ (x3 ≠ x4 → Q 0 T4 D4))))) :
  zc E d 1 95 [(2, l0), (0, l1), (2, l2)] T D Q :=
  zc_of (ls := [(2, l0), (0, l1), (2, l2), (9, 0)]) (fun _ => rfl) (z95_0  l0 l1 l2 H)
theorem z95_16 {E : List (List Int)} {d : Nat} {T : zT} {D : zD} {Q : Int → zT → zD → Prop}  (l0 : Int) (l1 : Int) (l2 : Int) (l3 : Int) 
  (H : zin l3 ∧ ((l3 > 24 → Q 1 T D) ∧ (l3 ≤ 24 → 0 < d ∧ zk T l0 = 7 ∧ zc E (d - 1) 1 16 [(2, l0), (0, l1), (0, l3)] T D (fun x4 T4 D4 => zar T4 l2 50 l3 ∧ zin x4 ∧ zin (D4 l2 l3) ∧ ((x4 = (D4 l2 l3) → zj E d 1 95 16 [(2, l0), (0, l1), (2, l2), (0, l3 + 1)] [] T4 D4 Q) ∧ (x4 ≠ (D4 l2 l3) → Q 0 T4 D4)))))) :
  zj E d 1 95 16 [(2, l0), (0, l1), (2, l2), (0, l3)] [] T D Q := by
  refine zr_iload_n rfl rfl ?_
  refine zr_bipush rfl ?_
  obtain ⟨h1, H⟩ := H
  refine zr_icmp_gt rfl h1 (zin_c (by decide)) (fun hc => ?_) (fun hc => ?_)
  · replace H := H.1 hc
    refine zr_iconst rfl ?_
    exact zr_ireturn rfl rfl rfl H
  · replace H := H.2 hc
    refine zr_aload_n rfl rfl ?_
    refine zr_iload_n rfl rfl ?_
    refine zr_iload_n rfl rfl ?_
    obtain ⟨h2, H⟩ := H
    obtain ⟨h3, H⟩ := H
    refine zr_invokevirtual (rt2 := 1) rfl rfl rfl rfl rfl h3 (by decide) h2 (zc_mono H ?_)
    intro x4 T4 D4 H
    show zj _ _ _ _ _ [(2, l0), (0, l1), (2, l2), (0, l3)] [(0, x4)] _ _ _
    refine zr_aload_n rfl rfl ?_
    refine zr_iload_n rfl rfl ?_
    obtain ⟨h5, H⟩ := H
    refine zr_iaload rfl h5 ?_
    obtain ⟨h6, H⟩ := H
    obtain ⟨h7, H⟩ := H
    refine zr_icmp_eq rfl h6 h7 (fun hc => ?_) (fun hc => ?_)
    · replace H := H.1 hc
      refine zr_iinc rfl rfl rfl ?_
      show zj _ _ _ _ _ [(2, l0), (0, l1), (2, l2), (0, l3 + 1)] [] _ _ _
      refine zr_goto rfl ?_
      exact H
    · replace H := H.2 hc
      refine zr_iconst rfl ?_
      exact zr_ireturn rfl rfl rfl H
theorem z96_0 {E : List (List Int)} {d : Nat} {T : zT} {D : zD} {Q : Int → zT → zD → Prop}  (l0 : Int) (l1 : Int) (l2 : Int) 
  (H : zj E d 2 96 8 [(2, l0), (2, l1), (0, l2), (2, (T.length : Int)), (0, 0), (9, 0)] [] (T ++ [(50, (60 : Int).toNat)]) (znew D T.length (List.replicate (60 : Int).toNat 0)) Q) :
  zj E d 2 96 0 [(2, l0), (2, l1), (0, l2), (9, 0), (9, 0), (9, 0)] [] T D Q := by
  refine zr_bipush rfl ?_
  refine zr_newarray rfl (by decide) (by decide) ?_
  refine zr_astore_n rfl rfl ?_
  show zj _ _ _ _ _ [(2, l0), (2, l1), (0, l2), (2, (T.length : Int)), (9, 0), (9, 0)] [] _ _ _
  refine zr_iconst rfl ?_
  refine zr_istore rfl rfl ?_
  show zj _ _ _ _ _ [(2, l0), (2, l1), (0, l2), (2, (T.length : Int)), (0, 0), (9, 0)] [] _ _ _
  exact H
theorem e96 {E : List (List Int)} {d : Nat} {T : zT} {D : zD} {Q : Int → zT → zD → Prop}  (l0 : Int) (l1 : Int) (l2 : Int) 
  (H : zj E d 2 96 8 [(2, l0), (2, l1), (0, l2), (2, (T.length : Int)), (0, 0), (9, 0)] [] (T ++ [(50, (60 : Int).toNat)]) (znew D T.length (List.replicate (60 : Int).toNat 0)) Q) :
  zc E d 2 96 [(2, l0), (2, l1), (0, l2)] T D Q :=
  zc_of (ls := [(2, l0), (2, l1), (0, l2), (9, 0), (9, 0), (9, 0)]) (fun _ => rfl) (z96_0  l0 l1 l2 H)
theorem z96_8 {E : List (List Int)} {d : Nat} {T : zT} {D : zD} {Q : Int → zT → zD → Prop}  (l0 : Int) (l1 : Int) (l2 : Int) (l3 : Int) (l4 : Int) (w5 : zv_V) (hw5 : zs_wide w5 = false)
  (H : 0 < d ∧ zc E (d - 1) 1 94 [(2, l0)] T D (fun x2 T2 D2 => zin l4 ∧ zin x2 ∧ ((l4 > x2 → -1 ≤ l3 ∧ Q l3 T2 D2) ∧ (l4 ≤ x2 → zj E d 2 96 20 [(2, l0), (2, l1), (0, l2), (2, l3), (0, l4), (0, 0)] [] T2 D2 Q)))) :
  zj E d 2 96 8 [(2, l0), (2, l1), (0, l2), (2, l3), (0, l4), w5] [] T D Q := by
  refine zr_iload rfl rfl ?_
  refine zr_aload_n rfl rfl ?_
  obtain ⟨h1, H⟩ := H
  refine zr_invokestatic (rt2 := 1) rfl rfl rfl rfl rfl h1 (zc_mono H ?_)
  intro x2 T2 D2 H
  show zj _ _ _ _ _ [(2, l0), (2, l1), (0, l2), (2, l3), (0, l4), w5] [(0, x2), (0, l4)] _ _ _
  obtain ⟨h3, H⟩ := H
  obtain ⟨h4, H⟩ := H
  refine zr_icmp_gt rfl h3 h4 (fun hc => ?_) (fun hc => ?_)
  · replace H := H.1 hc
    refine zr_aload_n rfl rfl ?_
    obtain ⟨h5, H⟩ := H
    exact zr_areturn rfl rfl rfl h5 H
  · replace H := H.2 hc
    refine zr_iconst rfl ?_
    refine zr_istore rfl rfl ?_
    show zj _ _ _ _ _ [(2, l0), (2, l1), (0, l2), (2, l3), (0, l4), (0, 0)] [] _ _ _
    exact H
theorem z96_20 {E : List (List Int)} {d : Nat} {T : zT} {D : zD} {Q : Int → zT → zD → Prop}  (l0 : Int) (l1 : Int) (l2 : Int) (l3 : Int) (l4 : Int) (l5 : Int) 
  (H : 0 < d ∧ zc E (d - 1) 1 94 [(2, l1)] T D (fun x2 T2 D2 => zin l5 ∧ zin x2 ∧ ((l5 > x2 → zj E d 2 96 8 [(2, l0), (2, l1), (0, l2), (2, l3), (0, l4 + 1), (0, l5)] [] T2 D2 Q) ∧ (l5 ≤ x2 → zar T2 l3 50 (l4 + l5) ∧ zar T2 l0 50 l4 ∧ zar T2 l1 50 l5 ∧ zin ((D2 l3 (l4 + l5)) + ((D2 l0 l4) * (D2 l1 l5))) ∧ 0 < l2 ∧ l2 ≤ 2147483647 ∧ zj E d 2 96 20 [(2, l0), (2, l1), (0, l2), (2, l3), (0, l4), (0, l5 + 1)] [] T2 (zu D2 l3 (l4 + l5) (((D2 l3 (l4 + l5)) + ((D2 l0 l4) * (D2 l1 l5))).tmod l2)) Q)))) :
  zj E d 2 96 20 [(2, l0), (2, l1), (0, l2), (2, l3), (0, l4), (0, l5)] [] T D Q := by
  refine zr_iload rfl rfl ?_
  refine zr_aload_n rfl rfl ?_
  obtain ⟨h1, H⟩ := H
  refine zr_invokestatic (rt2 := 1) rfl rfl rfl rfl rfl h1 (zc_mono H ?_)
  intro x2 T2 D2 H
  show zj _ _ _ _ _ [(2, l0), (2, l1), (0, l2), (2, l3), (0, l4), (0, l5)] [(0, x2), (0, l5)] _ _ _
  obtain ⟨h3, H⟩ := H
  obtain ⟨h4, H⟩ := H
  refine zr_icmp_gt rfl h3 h4 (fun hc => ?_) (fun hc => ?_)
  · replace H := H.1 hc
    refine zr_iinc rfl rfl rfl ?_
    show zj _ _ _ _ _ [(2, l0), (2, l1), (0, l2), (2, l3), (0, l4 + 1), (0, l5)] [] _ _ _
    refine zr_goto rfl ?_
    exact H
  · replace H := H.2 hc
    refine zr_aload_n rfl rfl ?_
    refine zr_iload rfl rfl ?_
    refine zr_iload rfl rfl ?_
    refine zr_iadd rfl ?_
    refine zr_aload_n rfl rfl ?_
    refine zr_iload rfl rfl ?_
    refine zr_iload rfl rfl ?_
    refine zr_iadd rfl ?_
    obtain ⟨h5, H⟩ := H
    refine zr_iaload rfl h5 ?_
    refine zr_aload_n rfl rfl ?_
    refine zr_iload rfl rfl ?_
    obtain ⟨h6, H⟩ := H
    refine zr_iaload rfl h6 ?_
    refine zr_aload_n rfl rfl ?_
    refine zr_iload rfl rfl ?_
    obtain ⟨h7, H⟩ := H
    refine zr_iaload rfl h7 ?_
    refine zr_imul rfl ?_
    refine zr_iadd rfl ?_
    refine zr_iload_n rfl rfl ?_
    obtain ⟨h8, H⟩ := H
    obtain ⟨h9, H⟩ := H
    obtain ⟨h10, H⟩ := H
    refine zr_irem rfl h8 h9 h10 ?_
    refine zr_iastore rfl h5 ?_
    refine zr_iinc rfl rfl rfl ?_
    show zj _ _ _ _ _ [(2, l0), (2, l1), (0, l2), (2, l3), (0, l4), (0, l5 + 1)] [] _ _ _
    refine zr_goto rfl ?_
    exact H
