/-! Conditions of methods, by program (wip/tools/vcg.py). -/
theorem z97_0 {E : List (List Int)} {d : Nat} {T : zT} {D : zD} {Q : Int → zT → zD → Prop} (hpr : E[1]? = some zx_primes)  
  (H : 0 < d ∧ zk (T ++ [(7, 11)]) (T.length : Int) = 7 ∧ zc E (d - 1) 0 0 [(2, (T.length : Int))] (T ++ [(7, 11)]) (znew D T.length [-1, -1, -1, -1, -1, -1, -1, -1, -1, -1, -1]) (fun x3 T3 D3 => zc E (d - 1) 1 91 [(2, (-2)), (0, 0)] T3 D3 (fun x4 T4 D4 => zc E (d - 1) 1 90 [(0, x4), (0, 8)] T4 D4 (fun x5 T5 D5 => 0 ≤ x5 ∧ x5 < 8 ∧ zj E d 1 97 23 [(2, (-2)), (2, (T.length : Int)), (0, (zx_primes.getD (x5).toNat 0)), (9, 0), (9, 0), (9, 0), (9, 0), (9, 0), (9, 0), (9, 0), (9, 0), (9, 0)] [] T5 D5 Q)))) :
  zj E d 1 97 0 [(2, (-2)), (9, 0), (9, 0), (9, 0), (9, 0), (9, 0), (9, 0), (9, 0), (9, 0), (9, 0), (9, 0), (9, 0)] [] T D Q := by
  refine zr_new rfl rfl ?_
  refine zr_dup rfl rfl ?_
  obtain ⟨h1, H⟩ := H
  obtain ⟨h2, H⟩ := H
  refine zr_invokespecial (rt2 := 0) rfl rfl rfl rfl rfl h2 (by decide) h1 (zc_mono H ?_)
  intro x3 T3 D3 H
  show zj _ _ _ _ _ [(2, (-2)), (9, 0), (9, 0), (9, 0), (9, 0), (9, 0), (9, 0), (9, 0), (9, 0), (9, 0), (9, 0), (9, 0)] [(2, (T.length : Int))] _ _ _
  refine zr_astore_n rfl rfl ?_
  show zj _ _ _ _ _ [(2, (-2)), (2, (T.length : Int)), (9, 0), (9, 0), (9, 0), (9, 0), (9, 0), (9, 0), (9, 0), (9, 0), (9, 0), (9, 0)] [] _ _ _
  refine zr_getstatic rfl rfl ?_
  refine zr_aload_n rfl rfl ?_
  refine zr_iconst rfl ?_
  refine zr_invokestatic (rt2 := 1) rfl rfl rfl rfl rfl h1 (zc_mono H ?_)
  intro x4 T4 D4 H
  show zj _ _ _ _ _ [(2, (-2)), (2, (T.length : Int)), (9, 0), (9, 0), (9, 0), (9, 0), (9, 0), (9, 0), (9, 0), (9, 0), (9, 0), (9, 0)] [(0, x4), (2, (-3))] _ _ _
  refine zr_bipush rfl ?_
  refine zr_invokestatic (rt2 := 1) rfl rfl rfl rfl rfl h1 (zc_mono H ?_)
  intro x5 T5 D5 H
  show zj _ _ _ _ _ [(2, (-2)), (2, (T.length : Int)), (9, 0), (9, 0), (9, 0), (9, 0), (9, 0), (9, 0), (9, 0), (9, 0), (9, 0), (9, 0)] [(0, x5), (2, (-3))] _ _ _
  obtain ⟨h6, H⟩ := H
  obtain ⟨h7, H⟩ := H
  refine zr_ialoadE (l := zx_primes) rfl hpr (by decide) h6 h7 (by decide) ?_
  refine zr_istore_n rfl rfl ?_
  show zj _ _ _ _ _ [(2, (-2)), (2, (T.length : Int)), (0, (zx_primes.getD (x5).toNat 0)), (9, 0), (9, 0), (9, 0), (9, 0), (9, 0), (9, 0), (9, 0), (9, 0), (9, 0)] [] _ _ _
  exact H
theorem z97_23 {E : List (List Int)} {d : Nat} {T : zT} {D : zD} {Q : Int → zT → zD → Prop}  (l1 : Int) (l2 : Int) 
  (H : 0 < d ∧ zk T l1 = 7 ∧ zc E (d - 1) 1 10 [(2, l1), (0, l2)] T D (fun x3 T3 D3 => zj E d 1 97 29 [(2, (-2)), (2, l1), (0, l2), (9, 0), (9, 0), (9, 0), (9, 0), (9, 0), (9, 0), (9, 0), (9, 0), (9, 0)] [] T3 D3 Q)) :
  zj E d 1 97 23 [(2, (-2)), (2, l1), (0, l2), (9, 0), (9, 0), (9, 0), (9, 0), (9, 0), (9, 0), (9, 0), (9, 0), (9, 0)] [] T D Q := by
  refine zr_aload_n rfl rfl ?_
  refine zr_iload_n rfl rfl ?_
  obtain ⟨h1, H⟩ := H
  obtain ⟨h2, H⟩ := H
  refine zr_invokevirtual (rt2 := 1) rfl rfl rfl rfl rfl h2 (by decide) h1 (zc_mono H ?_)
  intro x3 T3 D3 H
  show zj _ _ _ _ _ [(2, (-2)), (2, l1), (0, l2), (9, 0), (9, 0), (9, 0), (9, 0), (9, 0), (9, 0), (9, 0), (9, 0), (9, 0)] [(0, x3)] _ _ _
  refine zr_pop rfl rfl ?_
  exact H
theorem z97_29 {E : List (List Int)} {d : Nat} {T : zT} {D : zD} {Q : Int → zT → zD → Prop}  (l1 : Int) (l2 : Int) 
  (H : 0 < d ∧ zc E (d - 1) 2 92 [(2, l1), (0, 0), (2, (-2)), (0, 1), (0, 7), (0, l2)] T D (fun x2 T2 D2 => zj E d 1 97 40 [(2, (-2)), (2, l1), (0, l2), (2, x2), (9, 0), (9, 0), (9, 0), (9, 0), (9, 0), (9, 0), (9, 0), (9, 0)] [] T2 D2 Q)) :
  zj E d 1 97 29 [(2, (-2)), (2, l1), (0, l2), (9, 0), (9, 0), (9, 0), (9, 0), (9, 0), (9, 0), (9, 0), (9, 0), (9, 0)] [] T D Q := by
  refine zr_aload_n rfl rfl ?_
  refine zr_iconst rfl ?_
  refine zr_aload_n rfl rfl ?_
  refine zr_iconst rfl ?_
  refine zr_bipush rfl ?_
  refine zr_iload_n rfl rfl ?_
  obtain ⟨h1, H⟩ := H
  refine zr_invokestatic (rt2 := 2) rfl rfl rfl rfl rfl h1 (zc_mono H ?_)
  intro x2 T2 D2 H
  show zj _ _ _ _ _ [(2, (-2)), (2, l1), (0, l2), (9, 0), (9, 0), (9, 0), (9, 0), (9, 0), (9, 0), (9, 0), (9, 0), (9, 0)] [(2, x2)] _ _ _
  refine zr_astore_n rfl rfl ?_
  show zj _ _ _ _ _ [(2, (-2)), (2, l1), (0, l2), (2, x2), (9, 0), (9, 0), (9, 0), (9, 0), (9, 0), (9, 0), (9, 0), (9, 0)] [] _ _ _
  exact H
theorem z97_40 {E : List (List Int)} {d : Nat} {T : zT} {D : zD} {Q : Int → zT → zD → Prop}  (l1 : Int) (l2 : Int) (l3 : Int) 
  (H : 0 < d ∧ zc E (d - 1) 2 92 [(2, l1), (0, 1), (2, (-2)), (0, 6), (0, 7), (0, l2)] T D (fun x2 T2 D2 => zj E d 1 97 53 [(2, (-2)), (2, l1), (0, l2), (2, l3), (2, x2), (9, 0), (9, 0), (9, 0), (9, 0), (9, 0), (9, 0), (9, 0)] [] T2 D2 Q)) :
  zj E d 1 97 40 [(2, (-2)), (2, l1), (0, l2), (2, l3), (9, 0), (9, 0), (9, 0), (9, 0), (9, 0), (9, 0), (9, 0), (9, 0)] [] T D Q := by
  refine zr_aload_n rfl rfl ?_
  refine zr_iconst rfl ?_
  refine zr_aload_n rfl rfl ?_
  refine zr_bipush rfl ?_
  refine zr_bipush rfl ?_
  refine zr_iload_n rfl rfl ?_
  obtain ⟨h1, H⟩ := H
  refine zr_invokestatic (rt2 := 2) rfl rfl rfl rfl rfl h1 (zc_mono H ?_)
  intro x2 T2 D2 H
  show zj _ _ _ _ _ [(2, (-2)), (2, l1), (0, l2), (2, l3), (9, 0), (9, 0), (9, 0), (9, 0), (9, 0), (9, 0), (9, 0), (9, 0)] [(2, x2)] _ _ _
  refine zr_astore rfl rfl ?_
  show zj _ _ _ _ _ [(2, (-2)), (2, l1), (0, l2), (2, l3), (2, x2), (9, 0), (9, 0), (9, 0), (9, 0), (9, 0), (9, 0), (9, 0)] [] _ _ _
  exact H
theorem z97_53 {E : List (List Int)} {d : Nat} {T : zT} {D : zD} {Q : Int → zT → zD → Prop}  (l1 : Int) (l2 : Int) (l3 : Int) (l4 : Int) 
  (H : 0 < d ∧ zc E (d - 1) 2 92 [(2, l1), (0, 2), (2, (-2)), (0, 11), (0, 7), (0, l2)] T D (fun x2 T2 D2 => zj E d 1 97 66 [(2, (-2)), (2, l1), (0, l2), (2, l3), (2, l4), (2, x2), (9, 0), (9, 0), (9, 0), (9, 0), (9, 0), (9, 0)] [] T2 D2 Q)) :
  zj E d 1 97 53 [(2, (-2)), (2, l1), (0, l2), (2, l3), (2, l4), (9, 0), (9, 0), (9, 0), (9, 0), (9, 0), (9, 0), (9, 0)] [] T D Q := by
  refine zr_aload_n rfl rfl ?_
  refine zr_iconst rfl ?_
  refine zr_aload_n rfl rfl ?_
  refine zr_bipush rfl ?_
  refine zr_bipush rfl ?_
  refine zr_iload_n rfl rfl ?_
  obtain ⟨h1, H⟩ := H
  refine zr_invokestatic (rt2 := 2) rfl rfl rfl rfl rfl h1 (zc_mono H ?_)
  intro x2 T2 D2 H
  show zj _ _ _ _ _ [(2, (-2)), (2, l1), (0, l2), (2, l3), (2, l4), (9, 0), (9, 0), (9, 0), (9, 0), (9, 0), (9, 0), (9, 0)] [(2, x2)] _ _ _
  refine zr_astore rfl rfl ?_
  show zj _ _ _ _ _ [(2, (-2)), (2, l1), (0, l2), (2, l3), (2, l4), (2, x2), (9, 0), (9, 0), (9, 0), (9, 0), (9, 0), (9, 0)] [] _ _ _
  exact H
theorem z97_66 {E : List (List Int)} {d : Nat} {T : zT} {D : zD} {Q : Int → zT → zD → Prop}  (l1 : Int) (l2 : Int) (l3 : Int) (l4 : Int) (l5 : Int) 
  (H : 0 < d ∧ zk T l1 = 7 ∧ zc E (d - 1) 1 22 [(2, l1), (0, 0), (0, 1), (0, 2), (0, 3)] T D (fun x3 T3 D3 => zj E d 1 97 75 [(2, (-2)), (2, l1), (0, l2), (2, l3), (2, l4), (2, l5), (9, 0), (9, 0), (9, 0), (9, 0), (9, 0), (9, 0)] [] T3 D3 Q)) :
  zj E d 1 97 66 [(2, (-2)), (2, l1), (0, l2), (2, l3), (2, l4), (2, l5), (9, 0), (9, 0), (9, 0), (9, 0), (9, 0), (9, 0)] [] T D Q := by
  refine zr_aload_n rfl rfl ?_
  refine zr_iconst rfl ?_
  refine zr_iconst rfl ?_
  refine zr_iconst rfl ?_
  refine zr_iconst rfl ?_
  obtain ⟨h1, H⟩ := H
  obtain ⟨h2, H⟩ := H
  refine zr_invokevirtual (rt2 := 1) rfl rfl rfl rfl rfl h2 (by decide) h1 (zc_mono H ?_)
  intro x3 T3 D3 H
  show zj _ _ _ _ _ [(2, (-2)), (2, l1), (0, l2), (2, l3), (2, l4), (2, l5), (9, 0), (9, 0), (9, 0), (9, 0), (9, 0), (9, 0)] [(0, x3)] _ _ _
  refine zr_pop rfl rfl ?_
  exact H
theorem z97_75 {E : List (List Int)} {d : Nat} {T : zT} {D : zD} {Q : Int → zT → zD → Prop}  (l1 : Int) (l2 : Int) (l3 : Int) (l4 : Int) (l5 : Int) 
  (H : 0 < d ∧ zk T l1 = 7 ∧ zc E (d - 1) 1 22 [(2, l1), (0, 2), (0, 0), (0, 3), (0, 3)] T D (fun x3 T3 D3 => zj E d 1 97 84 [(2, (-2)), (2, l1), (0, l2), (2, l3), (2, l4), (2, l5), (9, 0), (9, 0), (9, 0), (9, 0), (9, 0), (9, 0)] [] T3 D3 Q)) :
  zj E d 1 97 75 [(2, (-2)), (2, l1), (0, l2), (2, l3), (2, l4), (2, l5), (9, 0), (9, 0), (9, 0), (9, 0), (9, 0), (9, 0)] [] T D Q := by
  refine zr_aload_n rfl rfl ?_
  refine zr_iconst rfl ?_
  refine zr_iconst rfl ?_
  refine zr_iconst rfl ?_
  refine zr_iconst rfl ?_
  obtain ⟨h1, H⟩ := H
  obtain ⟨h2, H⟩ := H
  refine zr_invokevirtual (rt2 := 1) rfl rfl rfl rfl rfl h2 (by decide) h1 (zc_mono H ?_)
  intro x3 T3 D3 H
  show zj _ _ _ _ _ [(2, (-2)), (2, l1), (0, l2), (2, l3), (2, l4), (2, l5), (9, 0), (9, 0), (9, 0), (9, 0), (9, 0), (9, 0)] [(0, x3)] _ _ _
  refine zr_pop rfl rfl ?_
  exact H
theorem z97_84 {E : List (List Int)} {d : Nat} {T : zT} {D : zD} {Q : Int → zT → zD → Prop}  (l1 : Int) (l2 : Int) (l3 : Int) (l4 : Int) (l5 : Int) 
  (H : 0 < d ∧ zk T l1 = 7 ∧ zc E (d - 1) 1 22 [(2, l1), (0, 2), (0, 0), (0, 1), (0, 4)] T D (fun x3 T3 D3 => zj E d 1 97 93 [(2, (-2)), (2, l1), (0, l2), (2, l3), (2, l4), (2, l5), (9, 0), (9, 0), (9, 0), (9, 0), (9, 0), (9, 0)] [] T3 D3 Q)) :
  zj E d 1 97 84 [(2, (-2)), (2, l1), (0, l2), (2, l3), (2, l4), (2, l5), (9, 0), (9, 0), (9, 0), (9, 0), (9, 0), (9, 0)] [] T D Q := by
  refine zr_aload_n rfl rfl ?_
  refine zr_iconst rfl ?_
  refine zr_iconst rfl ?_
  refine zr_iconst rfl ?_
  refine zr_iconst rfl ?_
  obtain ⟨h1, H⟩ := H
  obtain ⟨h2, H⟩ := H
  refine zr_invokevirtual (rt2 := 1) rfl rfl rfl rfl rfl h2 (by decide) h1 (zc_mono H ?_)
  intro x3 T3 D3 H
  show zj _ _ _ _ _ [(2, (-2)), (2, l1), (0, l2), (2, l3), (2, l4), (2, l5), (9, 0), (9, 0), (9, 0), (9, 0), (9, 0), (9, 0)] [(0, x3)] _ _ _
  refine zr_pop rfl rfl ?_
  exact H
theorem z97_93 {E : List (List Int)} {d : Nat} {T : zT} {D : zD} {Q : Int → zT → zD → Prop}  (l1 : Int) (l2 : Int) (l3 : Int) (l4 : Int) (l5 : Int) 
  (H : 0 < d ∧ zk T l1 = 7 ∧ zc E (d - 1) 1 22 [(2, l1), (0, 2), (0, 2), (0, 0), (0, 5)] T D (fun x3 T3 D3 => zj E d 1 97 102 [(2, (-2)), (2, l1), (0, l2), (2, l3), (2, l4), (2, l5), (9, 0), (9, 0), (9, 0), (9, 0), (9, 0), (9, 0)] [] T3 D3 Q)) :
  zj E d 1 97 93 [(2, (-2)), (2, l1), (0, l2), (2, l3), (2, l4), (2, l5), (9, 0), (9, 0), (9, 0), (9, 0), (9, 0), (9, 0)] [] T D Q := by
  refine zr_aload_n rfl rfl ?_
  refine zr_iconst rfl ?_
  refine zr_iconst rfl ?_
  refine zr_iconst rfl ?_
  refine zr_iconst rfl ?_
  obtain ⟨h1, H⟩ := H
  obtain ⟨h2, H⟩ := H
  refine zr_invokevirtual (rt2 := 1) rfl rfl rfl rfl rfl h2 (by decide) h1 (zc_mono H ?_)
  intro x3 T3 D3 H
  show zj _ _ _ _ _ [(2, (-2)), (2, l1), (0, l2), (2, l3), (2, l4), (2, l5), (9, 0), (9, 0), (9, 0), (9, 0), (9, 0), (9, 0)] [(0, x3)] _ _ _
  refine zr_pop rfl rfl ?_
  exact H
theorem z97_102 {E : List (List Int)} {d : Nat} {T : zT} {D : zD} {Q : Int → zT → zD → Prop}  (l1 : Int) (l2 : Int) (l3 : Int) (l4 : Int) (l5 : Int) 
  (H : 0 < d ∧ zk T l1 = 7 ∧ zc E (d - 1) 1 22 [(2, l1), (0, 0), (0, 4), (0, 5), (0, 4)] T D (fun x3 T3 D3 => zj E d 1 97 111 [(2, (-2)), (2, l1), (0, l2), (2, l3), (2, l4), (2, l5), (9, 0), (9, 0), (9, 0), (9, 0), (9, 0), (9, 0)] [] T3 D3 Q)) :
  zj E d 1 97 102 [(2, (-2)), (2, l1), (0, l2), (2, l3), (2, l4), (2, l5), (9, 0), (9, 0), (9, 0), (9, 0), (9, 0), (9, 0)] [] T D Q := by
  refine zr_aload_n rfl rfl ?_
  refine zr_iconst rfl ?_
  refine zr_iconst rfl ?_
  refine zr_iconst rfl ?_
  refine zr_iconst rfl ?_
  obtain ⟨h1, H⟩ := H
  obtain ⟨h2, H⟩ := H
  refine zr_invokevirtual (rt2 := 1) rfl rfl rfl rfl rfl h2 (by decide) h1 (zc_mono H ?_)
  intro x3 T3 D3 H
  show zj _ _ _ _ _ [(2, (-2)), (2, l1), (0, l2), (2, l3), (2, l4), (2, l5), (9, 0), (9, 0), (9, 0), (9, 0), (9, 0), (9, 0)] [(0, x3)] _ _ _
  refine zr_pop rfl rfl ?_
  exact H
theorem z97_111 {E : List (List Int)} {d : Nat} {T : zT} {D : zD} {Q : Int → zT → zD → Prop}  (l1 : Int) (l2 : Int) (l3 : Int) (l4 : Int) (l5 : Int) 
  (H : zj E d 1 97 114 [(2, (-2)), (2, l1), (0, l2), (2, l3), (2, l4), (2, l5), (0, 0), (9, 0), (9, 0), (9, 0), (9, 0), (9, 0)] [] T D Q) :
  zj E d 1 97 111 [(2, (-2)), (2, l1), (0, l2), (2, l3), (2, l4), (2, l5), (9, 0), (9, 0), (9, 0), (9, 0), (9, 0), (9, 0)] [] T D Q := by
  refine zr_iconst rfl ?_
  refine zr_istore rfl rfl ?_
  show zj _ _ _ _ _ [(2, (-2)), (2, l1), (0, l2), (2, l3), (2, l4), (2, l5), (0, 0), (9, 0), (9, 0), (9, 0), (9, 0), (9, 0)] [] _ _ _
  exact H
theorem z97_114 {E : List (List Int)} {d : Nat} {T : zT} {D : zD} {Q : Int → zT → zD → Prop}  (l1 : Int) (l2 : Int) (l3 : Int) (l4 : Int) (l5 : Int) (l6 : Int) 
  (H : zin l6 ∧ ((l6 > 24 → zj E d 1 97 146 [(2, (-2)), (2, l1), (0, l2), (2, l3), (2, l4), (2, l5), (0, l6), (9, 0), (9, 0), (9, 0), (9, 0), (9, 0)] [] T D Q) ∧ (l6 ≤ 24 → 0 < d ∧ zk T l1 = 7 ∧ zc E (d - 1) 1 16 [(2, l1), (0, 3), (0, l6)] T D (fun x4 T4 D4 => zk T4 l1 = 7 ∧ zc E (d - 1) 1 16 [(2, l1), (0, 4), (0, l6)] T4 D4 (fun x6 T6 D6 => zin x4 ∧ zin x6 ∧ ((x4 = x6 → zj E d 1 97 114 [(2, (-2)), (2, l1), (0, l2), (2, l3), (2, l4), (2, l5), (0, l6 + 1), (9, 0), (9, 0), (9, 0), (9, 0), (9, 0)] [] T6 D6 Q) ∧ (x4 ≠ x6 → Q 0 T6 D6))))))) :
  zj E d 1 97 114 [(2, (-2)), (2, l1), (0, l2), (2, l3), (2, l4), (2, l5), (0, l6), (9, 0), (9, 0), (9, 0), (9, 0), (9, 0)] [] T D Q := by
  refine zr_iload rfl rfl ?_
  refine zr_bipush rfl ?_
  obtain ⟨h1, H⟩ := H
  refine zr_icmp_gt rfl h1 (zin_c (by decide)) (fun hc => ?_) (fun hc => ?_)
  · replace H := H.1 hc
    exact H
  · replace H := H.2 hc
    refine zr_aload_n rfl rfl ?_
    refine zr_iconst rfl ?_
    refine zr_iload rfl rfl ?_
    obtain ⟨h2, H⟩ := H
    obtain ⟨h3, H⟩ := H
    refine zr_invokevirtual (rt2 := 1) rfl rfl rfl rfl rfl h3 (by decide) h2 (zc_mono H ?_)
    intro x4 T4 D4 H
    show zj _ _ _ _ _ [(2, (-2)), (2, l1), (0, l2), (2, l3), (2, l4), (2, l5), (0, l6), (9, 0), (9, 0), (9, 0), (9, 0), (9, 0)] [(0, x4)] _ _ _
    refine zr_aload_n rfl rfl ?_
    refine zr_iconst rfl ?_
    refine zr_iload rfl rfl ?_
    obtain ⟨h5, H⟩ := H
    refine zr_invokevirtual (rt2 := 1) rfl rfl rfl rfl rfl h5 (by decide) h2 (zc_mono H ?_)
    intro x6 T6 D6 H
    show zj _ _ _ _ _ [(2, (-2)), (2, l1), (0, l2), (2, l3), (2, l4), (2, l5), (0, l6), (9, 0), (9, 0), (9, 0), (9, 0), (9, 0)] [(0, x6), (0, x4)] _ _ _
    obtain ⟨h7, H⟩ := H
    obtain ⟨h8, H⟩ := H
    refine zr_icmp_eq rfl h7 h8 (fun hc => ?_) (fun hc => ?_)
    · replace H := H.1 hc
      refine zr_iinc rfl rfl rfl ?_
      show zj _ _ _ _ _ [(2, (-2)), (2, l1), (0, l2), (2, l3), (2, l4), (2, l5), (0, l6 + 1), (9, 0), (9, 0), (9, 0), (9, 0), (9, 0)] [] _ _ _
      refine zr_goto rfl ?_
      exact H
    · replace H := H.2 hc
      refine zr_iconst rfl ?_
      exact zr_ireturn rfl rfl rfl H
theorem z97_146 {E : List (List Int)} {d : Nat} {T : zT} {D : zD} {Q : Int → zT → zD → Prop}  (l1 : Int) (l2 : Int) (l3 : Int) (l4 : Int) (l5 : Int) (l6 : Int) 
  (H : 0 < d ∧ zk T l1 = 7 ∧ zc E (d - 1) 1 22 [(2, l1), (0, 1), (0, 0), (0, 0), (0, 5)] T D (fun x3 T3 D3 => zin x3 ∧ ((x3 ≠ (-1) → zj E d 1 97 194 [(2, (-2)), (2, l1), (0, l2), (2, l3), (2, l4), (2, l5), (0, l6), (9, 0), (9, 0), (9, 0), (9, 0), (9, 0)] [] T3 D3 Q) ∧ (x3 = (-1) → zj E d 1 97 158 [(2, (-2)), (2, l1), (0, l2), (2, l3), (2, l4), (2, l5), (0, l6), (9, 0), (9, 0), (9, 0), (9, 0), (9, 0)] [] T3 D3 Q)))) :
  zj E d 1 97 146 [(2, (-2)), (2, l1), (0, l2), (2, l3), (2, l4), (2, l5), (0, l6), (9, 0), (9, 0), (9, 0), (9, 0), (9, 0)] [] T D Q := by
  refine zr_aload_n rfl rfl ?_
  refine zr_iconst rfl ?_
  refine zr_iconst rfl ?_
  refine zr_iconst rfl ?_
  refine zr_iconst rfl ?_
  obtain ⟨h1, H⟩ := H
  obtain ⟨h2, H⟩ := H
  refine zr_invokevirtual (rt2 := 1) rfl rfl rfl rfl rfl h2 (by decide) h1 (zc_mono H ?_)
  intro x3 T3 D3 H
  show zj _ _ _ _ _ [(2, (-2)), (2, l1), (0, l2), (2, l3), (2, l4), (2, l5), (0, l6), (9, 0), (9, 0), (9, 0), (9, 0), (9, 0)] [(0, x3)] _ _ _
  refine zr_iconst rfl ?_
  obtain ⟨h4, H⟩ := H
  refine zr_icmp_ne rfl h4 (zin_c (by decide)) (fun hc => ?_) (fun hc => ?_)
  · replace H := H.1 hc
    exact H
  · replace H := H.2 hc
    exact H
theorem z97_158 {E : List (List Int)} {d : Nat} {T : zT} {D : zD} {Q : Int → zT → zD → Prop}  (l1 : Int) (l2 : Int) (l3 : Int) (l4 : Int) (l5 : Int) (l6 : Int) 
  (H : 0 < d ∧ zk T l1 = 7 ∧ zc E (d - 1) 1 22 [(2, l1), (0, 1), (0, 0), (0, 1), (0, 5)] T D (fun x3 T3 D3 => zin x3 ∧ ((x3 < (-1) → zj E d 1 97 194 [(2, (-2)), (2, l1), (0, l2), (2, l3), (2, l4), (2, l5), (0, l6), (9, 0), (9, 0), (9, 0), (9, 0), (9, 0)] [] T3 D3 Q) ∧ (x3 ≥ (-1) → zj E d 1 97 170 [(2, (-2)), (2, l1), (0, l2), (2, l3), (2, l4), (2, l5), (0, l6), (9, 0), (9, 0), (9, 0), (9, 0), (9, 0)] [] T3 D3 Q)))) :
  zj E d 1 97 158 [(2, (-2)), (2, l1), (0, l2), (2, l3), (2, l4), (2, l5), (0, l6), (9, 0), (9, 0), (9, 0), (9, 0), (9, 0)] [] T D Q := by
  refine zr_aload_n rfl rfl ?_
  refine zr_iconst rfl ?_
  refine zr_iconst rfl ?_
  refine zr_iconst rfl ?_
  refine zr_iconst rfl ?_
  obtain ⟨h1, H⟩ := H
  obtain ⟨h2, H⟩ := H
  refine zr_invokevirtual (rt2 := 1) rfl rfl rfl rfl rfl h2 (by decide) h1 (zc_mono H ?_)
  intro x3 T3 D3 H
  show zj _ _ _ _ _ [(2, (-2)), (2, l1), (0, l2), (2, l3), (2, l4), (2, l5), (0, l6), (9, 0), (9, 0), (9, 0), (9, 0), (9, 0)] [(0, x3)] _ _ _
  refine zr_iconst rfl ?_
  obtain ⟨h4, H⟩ := H
  refine zr_icmp_lt rfl h4 (zin_c (by decide)) (fun hc => ?_) (fun hc => ?_)
  · replace H := H.1 hc
    exact H
  · replace H := H.2 hc
    exact H
theorem z97_170 {E : List (List Int)} {d : Nat} {T : zT} {D : zD} {Q : Int → zT → zD → Prop}  (l1 : Int) (l2 : Int) (l3 : Int) (l4 : Int) (l5 : Int) (l6 : Int) 
  (H : 0 < d ∧ zk T l1 = 7 ∧ zc E (d - 1) 1 22 [(2, l1), (0, 0), (0, 5), (0, 1), (0, 5)] T D (fun x3 T3 D3 => zc E (d - 1) 1 94 [(2, l3)] T3 D3 (fun x4 T4 D4 => zin x3 ∧ zin x4 ∧ ((x3 ≠ x4 → zj E d 1 97 194 [(2, (-2)), (2, l1), (0, l2), (2, l3), (2, l4), (2, l5), (0, l6), (9, 0), (9, 0), (9, 0), (9, 0), (9, 0)] [] T4 D4 Q) ∧ (x3 = x4 → zj E d 1 97 185 [(2, (-2)), (2, l1), (0, l2), (2, l3), (2, l4), (2, l5), (0, l6), (9, 0), (9, 0), (9, 0), (9, 0), (9, 0)] [] T4 D4 Q))))) :
  zj E d 1 97 170 [(2, (-2)), (2, l1), (0, l2), (2, l3), (2, l4), (2, l5), (0, l6), (9, 0), (9, 0), (9, 0), (9, 0), (9, 0)] [] T D Q := by
  refine zr_aload_n rfl rfl ?_
  refine zr_iconst rfl ?_
  refine zr_iconst rfl ?_
  refine zr_iconst rfl ?_
  refine zr_iconst rfl ?_
  obtain ⟨h1, H⟩ := H
  obtain ⟨h2, H⟩ := H
  refine zr_invokevirtual (rt2 := 1) rfl rfl rfl rfl rfl h2 (by decide) h1 (zc_mono H ?_)
  intro x3 T3 D3 H
  show zj _ _ _ _ _ [(2, (-2)), (2, l1), (0, l2), (2, l3), (2, l4), (2, l5), (0, l6), (9, 0), (9, 0), (9, 0), (9, 0), (9, 0)] [(0, x3)] _ _ _
  refine zr_aload_n rfl rfl ?_
  refine zr_invokestatic (rt2 := 1) rfl rfl rfl rfl rfl h1 (zc_mono H ?_)
  intro x4 T4 D4 H
  show zj _ _ _ _ _ [(2, (-2)), (2, l1), (0, l2), (2, l3), (2, l4), (2, l5), (0, l6), (9, 0), (9, 0), (9, 0), (9, 0), (9, 0)] [(0, x4), (0, x3)] _ _ _
  obtain ⟨h5, H⟩ := H
  obtain ⟨h6, H⟩ := H
  refine zr_icmp_ne rfl h5 h6 (fun hc => ?_) (fun hc => ?_)
  · replace H := H.1 hc
    exact H
  · replace H := H.2 hc
    exact H
theorem z97_185 {E : List (List Int)} {d : Nat} {T : zT} {D : zD} {Q : Int → zT → zD → Prop}  (l1 : Int) (l2 : Int) (l3 : Int) (l4 : Int) (l5 : Int) (l6 : Int) 
  (H : 0 < d ∧ zc E (d - 1) 1 95 [(2, l1), (0, 5), (2, l3)] T D (fun x2 T2 D2 => zin x2 ∧ ((x2 ≠ 0 → zj E d 1 97 196 [(2, (-2)), (2, l1), (0, l2), (2, l3), (2, l4), (2, l5), (0, l6), (9, 0), (9, 0), (9, 0), (9, 0), (9, 0)] [] T2 D2 Q) ∧ (x2 = 0 → zj E d 1 97 194 [(2, (-2)), (2, l1), (0, l2), (2, l3), (2, l4), (2, l5), (0, l6), (9, 0), (9, 0), (9, 0), (9, 0), (9, 0)] [] T2 D2 Q)))) :
  zj E d 1 97 185 [(2, (-2)), (2, l1), (0, l2), (2, l3), (2, l4), (2, l5), (0, l6), (9, 0), (9, 0), (9, 0), (9, 0), (9, 0)] [] T D Q := by
  refine zr_aload_n rfl rfl ?_
  refine zr_iconst rfl ?_
  refine zr_aload_n rfl rfl ?_
  obtain ⟨h1, H⟩ := H
  refine zr_invokestatic (rt2 := 1) rfl rfl rfl rfl rfl h1 (zc_mono H ?_)
  intro x2 T2 D2 H
  show zj _ _ _ _ _ [(2, (-2)), (2, l1), (0, l2), (2, l3), (2, l4), (2, l5), (0, l6), (9, 0), (9, 0), (9, 0), (9, 0), (9, 0)] [(0, x2)] _ _ _
  obtain ⟨h3, H⟩ := H
  refine zr_if_ne rfl h3 (fun hc => ?_) (fun hc => ?_)
  · replace H := H.1 hc
    exact H
  · replace H := H.2 hc
    exact H
theorem z97_194 {E : List (List Int)} {d : Nat} {T : zT} {D : zD} {Q : Int → zT → zD → Prop}  (l1 : Int) (l2 : Int) (l3 : Int) (l4 : Int) (l5 : Int) (l6 : Int) 
  (H : Q 0 T D) :
  zj E d 1 97 194 [(2, (-2)), (2, l1), (0, l2), (2, l3), (2, l4), (2, l5), (0, l6), (9, 0), (9, 0), (9, 0), (9, 0), (9, 0)] [] T D Q := by
  refine zr_iconst rfl ?_
  exact zr_ireturn rfl rfl rfl H
theorem z97_196 {E : List (List Int)} {d : Nat} {T : zT} {D : zD} {Q : Int → zT → zD → Prop}  (l1 : Int) (l2 : Int) (l3 : Int) (l4 : Int) (l5 : Int) (l6 : Int) 
  (H : 0 < d ∧ zk T l1 = 7 ∧ zc E (d - 1) 1 22 [(2, l1), (0, 2), (0, 0), (0, 1), (0, 5)] T D (fun x3 T3 D3 => zj E d 1 97 205 [(2, (-2)), (2, l1), (0, l2), (2, l3), (2, l4), (2, l5), (0, l6), (9, 0), (9, 0), (9, 0), (9, 0), (9, 0)] [] T3 D3 Q)) :
  zj E d 1 97 196 [(2, (-2)), (2, l1), (0, l2), (2, l3), (2, l4), (2, l5), (0, l6), (9, 0), (9, 0), (9, 0), (9, 0), (9, 0)] [] T D Q := by
  refine zr_aload_n rfl rfl ?_
  refine zr_iconst rfl ?_
  refine zr_iconst rfl ?_
  refine zr_iconst rfl ?_
  refine zr_iconst rfl ?_
  obtain ⟨h1, H⟩ := H
  obtain ⟨h2, H⟩ := H
  refine zr_invokevirtual (rt2 := 1) rfl rfl rfl rfl rfl h2 (by decide) h1 (zc_mono H ?_)
  intro x3 T3 D3 H
  show zj _ _ _ _ _ [(2, (-2)), (2, l1), (0, l2), (2, l3), (2, l4), (2, l5), (0, l6), (9, 0), (9, 0), (9, 0), (9, 0), (9, 0)] [(0, x3)] _ _ _
  refine zr_pop rfl rfl ?_
  exact H
theorem z97_205 {E : List (List Int)} {d : Nat} {T : zT} {D : zD} {Q : Int → zT → zD → Prop}  (l1 : Int) (l2 : Int) (l3 : Int) (l4 : Int) (l5 : Int) (l6 : Int) 
  (H : 0 < d ∧ zk T l1 = 7 ∧ zc E (d - 1) 1 22 [(2, l1), (0, 5), (0, 5), (0, 0), (0, 5)] T D (fun x3 T3 D3 => zj E d 1 97 214 [(2, (-2)), (2, l1), (0, l2), (2, l3), (2, l4), (2, l5), (0, l6), (9, 0), (9, 0), (9, 0), (9, 0), (9, 0)] [] T3 D3 Q)) :
  zj E d 1 97 205 [(2, (-2)), (2, l1), (0, l2), (2, l3), (2, l4), (2, l5), (0, l6), (9, 0), (9, 0), (9, 0), (9, 0), (9, 0)] [] T D Q := by
  refine zr_aload_n rfl rfl ?_
  refine zr_iconst rfl ?_
  refine zr_iconst rfl ?_
  refine zr_iconst rfl ?_
  refine zr_iconst rfl ?_
  obtain ⟨h1, H⟩ := H
  obtain ⟨h2, H⟩ := H
  refine zr_invokevirtual (rt2 := 1) rfl rfl rfl rfl rfl h2 (by decide) h1 (zc_mono H ?_)
  intro x3 T3 D3 H
  show zj _ _ _ _ _ [(2, (-2)), (2, l1), (0, l2), (2, l3), (2, l4), (2, l5), (0, l6), (9, 0), (9, 0), (9, 0), (9, 0), (9, 0)] [(0, x3)] _ _ _
  refine zr_pop rfl rfl ?_
  exact H
theorem z97_214 {E : List (List Int)} {d : Nat} {T : zT} {D : zD} {Q : Int → zT → zD → Prop}  (l1 : Int) (l2 : Int) (l3 : Int) (l4 : Int) (l5 : Int) (l6 : Int) 
  (H : 0 < d ∧ zk T l1 = 7 ∧ zc E (d - 1) 1 22 [(2, l1), (0, 5), (0, 0), (0, 0), (0, 6)] T D (fun x3 T3 D3 => zj E d 1 97 224 [(2, (-2)), (2, l1), (0, l2), (2, l3), (2, l4), (2, l5), (0, l6), (9, 0), (9, 0), (9, 0), (9, 0), (9, 0)] [] T3 D3 Q)) :
  zj E d 1 97 214 [(2, (-2)), (2, l1), (0, l2), (2, l3), (2, l4), (2, l5), (0, l6), (9, 0), (9, 0), (9, 0), (9, 0), (9, 0)] [] T D Q := by
  refine zr_aload_n rfl rfl ?_
  refine zr_iconst rfl ?_
  refine zr_iconst rfl ?_
  refine zr_iconst rfl ?_
  refine zr_bipush rfl ?_
  obtain ⟨h1, H⟩ := H
  obtain ⟨h2, H⟩ := H
  refine zr_invokevirtual (rt2 := 1) rfl rfl rfl rfl rfl h2 (by decide) h1 (zc_mono H ?_)
  intro x3 T3 D3 H
  show zj _ _ _ _ _ [(2, (-2)), (2, l1), (0, l2), (2, l3), (2, l4), (2, l5), (0, l6), (9, 0), (9, 0), (9, 0), (9, 0), (9, 0)] [(0, x3)] _ _ _
  refine zr_pop rfl rfl ?_
  exact H
theorem z97_224 {E : List (List Int)} {d : Nat} {T : zT} {D : zD} {Q : Int → zT → zD → Prop}  (l1 : Int) (l2 : Int) (l3 : Int) (l4 : Int) (l5 : Int) (l6 : Int) 
  (H : 0 < d ∧ zk T l1 = 7 ∧ zc E (d - 1) 1 22 [(2, l1), (0, 2), (0, 6), (0, 1), (0, 6)] T D (fun x3 T3 D3 => zj E d 1 97 235 [(2, (-2)), (2, l1), (0, l2), (2, l3), (2, l4), (2, l5), (0, l6), (9, 0), (9, 0), (9, 0), (9, 0), (9, 0)] [] T3 D3 Q)) :
  zj E d 1 97 224 [(2, (-2)), (2, l1), (0, l2), (2, l3), (2, l4), (2, l5), (0, l6), (9, 0), (9, 0), (9, 0), (9, 0), (9, 0)] [] T D Q := by
  refine zr_aload_n rfl rfl ?_
  refine zr_iconst rfl ?_
  refine zr_bipush rfl ?_
  refine zr_iconst rfl ?_
  refine zr_bipush rfl ?_
  obtain ⟨h1, H⟩ := H
  obtain ⟨h2, H⟩ := H
  refine zr_invokevirtual (rt2 := 1) rfl rfl rfl rfl rfl h2 (by decide) h1 (zc_mono H ?_)
  intro x3 T3 D3 H
  show zj _ _ _ _ _ [(2, (-2)), (2, l1), (0, l2), (2, l3), (2, l4), (2, l5), (0, l6), (9, 0), (9, 0), (9, 0), (9, 0), (9, 0)] [(0, x3)] _ _ _
  refine zr_pop rfl rfl ?_
  exact H
theorem z97_235 {E : List (List Int)} {d : Nat} {T : zT} {D : zD} {Q : Int → zT → zD → Prop}  (l1 : Int) (l2 : Int) (l3 : Int) (l4 : Int) (l5 : Int) (l6 : Int) 
  (H : 0 < d ∧ zk T l1 = 7 ∧ zc E (d - 1) 1 22 [(2, l1), (0, 5), (0, 1), (0, 0), (0, 7)] T D (fun x3 T3 D3 => zj E d 1 97 245 [(2, (-2)), (2, l1), (0, l2), (2, l3), (2, l4), (2, l5), (0, l6), (9, 0), (9, 0), (9, 0), (9, 0), (9, 0)] [] T3 D3 Q)) :
  zj E d 1 97 235 [(2, (-2)), (2, l1), (0, l2), (2, l3), (2, l4), (2, l5), (0, l6), (9, 0), (9, 0), (9, 0), (9, 0), (9, 0)] [] T D Q := by
  refine zr_aload_n rfl rfl ?_
  refine zr_iconst rfl ?_
  refine zr_iconst rfl ?_
  refine zr_iconst rfl ?_
  refine zr_bipush rfl ?_
  obtain ⟨h1, H⟩ := H
  obtain ⟨h2, H⟩ := H
  refine zr_invokevirtual (rt2 := 1) rfl rfl rfl rfl rfl h2 (by decide) h1 (zc_mono H ?_)
  intro x3 T3 D3 H
  show zj _ _ _ _ _ [(2, (-2)), (2, l1), (0, l2), (2, l3), (2, l4), (2, l5), (0, l6), (9, 0), (9, 0), (9, 0), (9, 0), (9, 0)] [(0, x3)] _ _ _
  refine zr_pop rfl rfl ?_
  exact H
theorem z97_245 {E : List (List Int)} {d : Nat} {T : zT} {D : zD} {Q : Int → zT → zD → Prop}  (l1 : Int) (l2 : Int) (l3 : Int) (l4 : Int) (l5 : Int) (l6 : Int) 
  (H : 0 < d ∧ zk T l1 = 7 ∧ zc E (d - 1) 1 22 [(2, l1), (0, 2), (0, 7), (0, 0), (0, 7)] T D (fun x3 T3 D3 => zj E d 1 97 256 [(2, (-2)), (2, l1), (0, l2), (2, l3), (2, l4), (2, l5), (0, l6), (9, 0), (9, 0), (9, 0), (9, 0), (9, 0)] [] T3 D3 Q)) :
  zj E d 1 97 245 [(2, (-2)), (2, l1), (0, l2), (2, l3), (2, l4), (2, l5), (0, l6), (9, 0), (9, 0), (9, 0), (9, 0), (9, 0)] [] T D Q := by
  refine zr_aload_n rfl rfl ?_
  refine zr_iconst rfl ?_
  refine zr_bipush rfl ?_
  refine zr_iconst rfl ?_
  refine zr_bipush rfl ?_
  obtain ⟨h1, H⟩ := H
  obtain ⟨h2, H⟩ := H
  refine zr_invokevirtual (rt2 := 1) rfl rfl rfl rfl rfl h2 (by decide) h1 (zc_mono H ?_)
  intro x3 T3 D3 H
  show zj _ _ _ _ _ [(2, (-2)), (2, l1), (0, l2), (2, l3), (2, l4), (2, l5), (0, l6), (9, 0), (9, 0), (9, 0), (9, 0), (9, 0)] [(0, x3)] _ _ _
  refine zr_pop rfl rfl ?_
  exact H
theorem z97_256 {E : List (List Int)} {d : Nat} {T : zT} {D : zD} {Q : Int → zT → zD → Prop}  (l1 : Int) (l2 : Int) (l3 : Int) (l4 : Int) (l5 : Int) (l6 : Int) 
  (H : 0 < d ∧ zk T l1 = 7 ∧ zc E (d - 1) 1 22 [(2, l1), (0, 0), (0, 6), (0, 7), (0, 6)] T D (fun x3 T3 D3 => zj E d 1 97 268 [(2, (-2)), (2, l1), (0, l2), (2, l3), (2, l4), (2, l5), (0, l6), (9, 0), (9, 0), (9, 0), (9, 0), (9, 0)] [] T3 D3 Q)) :
  zj E d 1 97 256 [(2, (-2)), (2, l1), (0, l2), (2, l3), (2, l4), (2, l5), (0, l6), (9, 0), (9, 0), (9, 0), (9, 0), (9, 0)] [] T D Q := by
  refine zr_aload_n rfl rfl ?_
  refine zr_iconst rfl ?_
  refine zr_bipush rfl ?_
  refine zr_bipush rfl ?_
  refine zr_bipush rfl ?_
  obtain ⟨h1, H⟩ := H
  obtain ⟨h2, H⟩ := H
  refine zr_invokevirtual (rt2 := 1) rfl rfl rfl rfl rfl h2 (by decide) h1 (zc_mono H ?_)
  intro x3 T3 D3 H
  show zj _ _ _ _ _ [(2, (-2)), (2, l1), (0, l2), (2, l3), (2, l4), (2, l5), (0, l6), (9, 0), (9, 0), (9, 0), (9, 0), (9, 0)] [(0, x3)] _ _ _
  refine zr_pop rfl rfl ?_
  exact H
theorem z97_268 {E : List (List Int)} {d : Nat} {T : zT} {D : zD} {Q : Int → zT → zD → Prop}  (l1 : Int) (l2 : Int) (l3 : Int) (l4 : Int) (l5 : Int) (l6 : Int) 
  (H : 0 < d ∧ zk T l1 = 7 ∧ zc E (d - 1) 1 22 [(2, l1), (0, 1), (0, 5), (0, 6), (0, 5)] T D (fun x3 T3 D3 => zj E d 1 97 278 [(2, (-2)), (2, l1), (0, l2), (2, l3), (2, l4), (2, l5), (0, l6), (9, 0), (9, 0), (9, 0), (9, 0), (9, 0)] [] T3 D3 Q)) :
  zj E d 1 97 268 [(2, (-2)), (2, l1), (0, l2), (2, l3), (2, l4), (2, l5), (0, l6), (9, 0), (9, 0), (9, 0), (9, 0), (9, 0)] [] T D Q := by
  refine zr_aload_n rfl rfl ?_
  refine zr_iconst rfl ?_
  refine zr_iconst rfl ?_
  refine zr_bipush rfl ?_
  refine zr_iconst rfl ?_
  obtain ⟨h1, H⟩ := H
  obtain ⟨h2, H⟩ := H
  refine zr_invokevirtual (rt2 := 1) rfl rfl rfl rfl rfl h2 (by decide) h1 (zc_mono H ?_)
  intro x3 T3 D3 H
  show zj _ _ _ _ _ [(2, (-2)), (2, l1), (0, l2), (2, l3), (2, l4), (2, l5), (0, l6), (9, 0), (9, 0), (9, 0), (9, 0), (9, 0)] [(0, x3)] _ _ _
  refine zr_pop rfl rfl ?_
  exact H
theorem z97_278 {E : List (List Int)} {d : Nat} {T : zT} {D : zD} {Q : Int → zT → zD → Prop}  (l1 : Int) (l2 : Int) (l3 : Int) (l4 : Int) (l5 : Int) (l6 : Int) 
  (H : 0 < d ∧ zk T l1 = 7 ∧ zc E (d - 1) 1 20 [(2, l1), (0, 5)] T D (fun x3 T3 D3 => zin x3 ∧ ((x3 = (-1) → zj E d 1 97 289 [(2, (-2)), (2, l1), (0, l2), (2, l3), (2, l4), (2, l5), (0, l6), (9, 0), (9, 0), (9, 0), (9, 0), (9, 0)] [] T3 D3 Q) ∧ (x3 ≠ (-1) → Q 0 T3 D3)))) :
  zj E d 1 97 278 [(2, (-2)), (2, l1), (0, l2), (2, l3), (2, l4), (2, l5), (0, l6), (9, 0), (9, 0), (9, 0), (9, 0), (9, 0)] [] T D Q := by
  refine zr_aload_n rfl rfl ?_
  refine zr_iconst rfl ?_
  obtain ⟨h1, H⟩ := H
  obtain ⟨h2, H⟩ := H
  refine zr_invokevirtual (rt2 := 1) rfl rfl rfl rfl rfl h2 (by decide) h1 (zc_mono H ?_)
  intro x3 T3 D3 H
  show zj _ _ _ _ _ [(2, (-2)), (2, l1), (0, l2), (2, l3), (2, l4), (2, l5), (0, l6), (9, 0), (9, 0), (9, 0), (9, 0), (9, 0)] [(0, x3)] _ _ _
  refine zr_iconst rfl ?_
  obtain ⟨h4, H⟩ := H
  refine zr_icmp_eq rfl h4 (zin_c (by decide)) (fun hc => ?_) (fun hc => ?_)
  · replace H := H.1 hc
    exact H
  · replace H := H.2 hc
    refine zr_iconst rfl ?_
    exact zr_ireturn rfl rfl rfl H
theorem z97_289 {E : List (List Int)} {d : Nat} {T : zT} {D : zD} {Q : Int → zT → zD → Prop}  (l1 : Int) (l2 : Int) (l3 : Int) (l4 : Int) (l5 : Int) (l6 : Int) 
  (H : 0 < d ∧ zc E (d - 1) 1 91 [(2, (-2)), (0, 14)] T D (fun x2 T2 D2 => zj E d 1 97 297 [(2, (-2)), (2, l1), (0, l2), (2, l3), (2, l4), (2, l5), (0, x2), (9, 0), (9, 0), (9, 0), (9, 0), (9, 0)] [] T2 D2 Q)) :
  zj E d 1 97 289 [(2, (-2)), (2, l1), (0, l2), (2, l3), (2, l4), (2, l5), (0, l6), (9, 0), (9, 0), (9, 0), (9, 0), (9, 0)] [] T D Q := by
  refine zr_aload_n rfl rfl ?_
  refine zr_bipush rfl ?_
  obtain ⟨h1, H⟩ := H
  refine zr_invokestatic (rt2 := 1) rfl rfl rfl rfl rfl h1 (zc_mono H ?_)
  intro x2 T2 D2 H
  show zj _ _ _ _ _ [(2, (-2)), (2, l1), (0, l2), (2, l3), (2, l4), (2, l5), (0, l6), (9, 0), (9, 0), (9, 0), (9, 0), (9, 0)] [(0, x2)] _ _ _
  refine zr_istore rfl rfl ?_
  show zj _ _ _ _ _ [(2, (-2)), (2, l1), (0, l2), (2, l3), (2, l4), (2, l5), (0, x2), (9, 0), (9, 0), (9, 0), (9, 0), (9, 0)] [] _ _ _
  exact H
theorem z97_297 {E : List (List Int)} {d : Nat} {T : zT} {D : zD} {Q : Int → zT → zD → Prop}  (l1 : Int) (l2 : Int) (l3 : Int) (l4 : Int) (l5 : Int) (l6 : Int) 
  (H : 0 < d ∧ zk T l1 = 7 ∧ zc E (d - 1) 1 22 [(2, l1), (0, 0), (0, 0), (0, 1), (0, 5)] T D (fun x3 T3 D3 => zj E d 1 97 306 [(2, (-2)), (2, l1), (0, l2), (2, l3), (2, l4), (2, l5), (0, l6), (9, 0), (9, 0), (9, 0), (9, 0), (9, 0)] [] T3 D3 Q)) :
  zj E d 1 97 297 [(2, (-2)), (2, l1), (0, l2), (2, l3), (2, l4), (2, l5), (0, l6), (9, 0), (9, 0), (9, 0), (9, 0), (9, 0)] [] T D Q := by
  refine zr_aload_n rfl rfl ?_
  refine zr_iconst rfl ?_
  refine zr_iconst rfl ?_
  refine zr_iconst rfl ?_
  refine zr_iconst rfl ?_
  obtain ⟨h1, H⟩ := H
  obtain ⟨h2, H⟩ := H
  refine zr_invokevirtual (rt2 := 1) rfl rfl rfl rfl rfl h2 (by decide) h1 (zc_mono H ?_)
  intro x3 T3 D3 H
  show zj _ _ _ _ _ [(2, (-2)), (2, l1), (0, l2), (2, l3), (2, l4), (2, l5), (0, l6), (9, 0), (9, 0), (9, 0), (9, 0), (9, 0)] [(0, x3)] _ _ _
  refine zr_pop rfl rfl ?_
  exact H
theorem z97_306 {E : List (List Int)} {d : Nat} {T : zT} {D : zD} {Q : Int → zT → zD → Prop}  (l1 : Int) (l2 : Int) (l3 : Int) (l4 : Int) (l5 : Int) (l6 : Int) 
  (H : 0 < d ∧ zk T l1 = 7 ∧ zc E (d - 1) 1 22 [(2, l1), (0, 2), (0, 0), (0, 1), (0, 6)] T D (fun x3 T3 D3 => zj E d 1 97 316 [(2, (-2)), (2, l1), (0, l2), (2, l3), (2, l4), (2, l5), (0, l6), (9, 0), (9, 0), (9, 0), (9, 0), (9, 0)] [] T3 D3 Q)) :
  zj E d 1 97 306 [(2, (-2)), (2, l1), (0, l2), (2, l3), (2, l4), (2, l5), (0, l6), (9, 0), (9, 0), (9, 0), (9, 0), (9, 0)] [] T D Q := by
  refine zr_aload_n rfl rfl ?_
  refine zr_iconst rfl ?_
  refine zr_iconst rfl ?_
  refine zr_iconst rfl ?_
  refine zr_bipush rfl ?_
  obtain ⟨h1, H⟩ := H
  obtain ⟨h2, H⟩ := H
  refine zr_invokevirtual (rt2 := 1) rfl rfl rfl rfl rfl h2 (by decide) h1 (zc_mono H ?_)
  intro x3 T3 D3 H
  show zj _ _ _ _ _ [(2, (-2)), (2, l1), (0, l2), (2, l3), (2, l4), (2, l5), (0, l6), (9, 0), (9, 0), (9, 0), (9, 0), (9, 0)] [(0, x3)] _ _ _
  refine zr_pop rfl rfl ?_
  exact H
theorem z97_316 {E : List (List Int)} {d : Nat} {T : zT} {D : zD} {Q : Int → zT → zD → Prop}  (l1 : Int) (l2 : Int) (l3 : Int) (l4 : Int) (l5 : Int) (l6 : Int) 
  (H : 0 < d ∧ zk T l1 = 7 ∧ zc E (d - 1) 1 55 [(2, l1), (0, 5), (0, l6)] T D (fun x3 T3 D3 => zk T3 l1 = 7 ∧ zc E (d - 1) 1 55 [(2, l1), (0, 0), (0, l6)] T3 D3 (fun x5 T5 D5 => zk T5 l1 = 7 ∧ zc E (d - 1) 1 55 [(2, l1), (0, 1), (0, l6)] T5 D5 (fun x7 T7 D7 => zin (x5 + x7) ∧ 0 < l2 ∧ l2 ≤ 2147483647 ∧ zin x3 ∧ zin ((x5 + x7).tmod l2) ∧ ((x3 ≠ ((x5 + x7).tmod l2) → Q 0 T7 D7) ∧ (x3 = ((x5 + x7).tmod l2) → zj E d 1 97 343 [(2, (-2)), (2, l1), (0, l2), (2, l3), (2, l4), (2, l5), (0, l6), (9, 0), (9, 0), (9, 0), (9, 0), (9, 0)] [] T7 D7 Q)))))) :
  zj E d 1 97 316 [(2, (-2)), (2, l1), (0, l2), (2, l3), (2, l4), (2, l5), (0, l6), (9, 0), (9, 0), (9, 0), (9, 0), (9, 0)] [] T D Q := by
  refine zr_aload_n rfl rfl ?_
  refine zr_iconst rfl ?_
  refine zr_iload rfl rfl ?_
  obtain ⟨h1, H⟩ := H
  obtain ⟨h2, H⟩ := H
  refine zr_invokevirtual (rt2 := 1) rfl rfl rfl rfl rfl h2 (by decide) h1 (zc_mono H ?_)
  intro x3 T3 D3 H
  show zj _ _ _ _ _ [(2, (-2)), (2, l1), (0, l2), (2, l3), (2, l4), (2, l5), (0, l6), (9, 0), (9, 0), (9, 0), (9, 0), (9, 0)] [(0, x3)] _ _ _
  refine zr_aload_n rfl rfl ?_
  refine zr_iconst rfl ?_
  refine zr_iload rfl rfl ?_
  obtain ⟨h4, H⟩ := H
  refine zr_invokevirtual (rt2 := 1) rfl rfl rfl rfl rfl h4 (by decide) h1 (zc_mono H ?_)
  intro x5 T5 D5 H
  show zj _ _ _ _ _ [(2, (-2)), (2, l1), (0, l2), (2, l3), (2, l4), (2, l5), (0, l6), (9, 0), (9, 0), (9, 0), (9, 0), (9, 0)] [(0, x5), (0, x3)] _ _ _
  refine zr_aload_n rfl rfl ?_
  refine zr_iconst rfl ?_
  refine zr_iload rfl rfl ?_
  obtain ⟨h6, H⟩ := H
  refine zr_invokevirtual (rt2 := 1) rfl rfl rfl rfl rfl h6 (by decide) h1 (zc_mono H ?_)
  intro x7 T7 D7 H
  show zj _ _ _ _ _ [(2, (-2)), (2, l1), (0, l2), (2, l3), (2, l4), (2, l5), (0, l6), (9, 0), (9, 0), (9, 0), (9, 0), (9, 0)] [(0, x7), (0, x5), (0, x3)] _ _ _
  refine zr_iadd rfl ?_
  refine zr_iload_n rfl rfl ?_
  obtain ⟨h8, H⟩ := H
  obtain ⟨h9, H⟩ := H
  obtain ⟨h10, H⟩ := H
  refine zr_irem rfl h8 h9 h10 ?_
  obtain ⟨h11, H⟩ := H
  obtain ⟨h12, H⟩ := H
  refine zr_icmp_ne rfl h11 h12 (fun hc => ?_) (fun hc => ?_)
  · replace H := H.1 hc
    refine zr_iconst rfl ?_
    exact zr_ireturn rfl rfl rfl H
  · replace H := H.2 hc
    exact H
theorem z97_343 {E : List (List Int)} {d : Nat} {T : zT} {D : zD} {Q : Int → zT → zD → Prop}  (l1 : Int) (l2 : Int) (l3 : Int) (l4 : Int) (l5 : Int) (l6 : Int) 
  (H : 0 < d ∧ zk T l1 = 7 ∧ zc E (d - 1) 1 55 [(2, l1), (0, 6), (0, l6)] T D (fun x3 T3 D3 => zk T3 l1 = 7 ∧ zc E (d - 1) 1 55 [(2, l1), (0, 0), (0, l6)] T3 D3 (fun x5 T5 D5 => zk T5 l1 = 7 ∧ zc E (d - 1) 1 55 [(2, l1), (0, 1), (0, l6)] T5 D5 (fun x7 T7 D7 => zin (x5 * x7) ∧ 0 < l2 ∧ l2 ≤ 2147483647 ∧ zin x3 ∧ zin ((x5 * x7).tmod l2) ∧ ((x3 = ((x5 * x7).tmod l2) → zj E d 1 97 373 [(2, (-2)), (2, l1), (0, l2), (2, l3), (2, l4), (2, l5), (0, l6), (9, 0), (9, 0), (9, 0), (9, 0), (9, 0)] [] T7 D7 Q) ∧ (x3 ≠ ((x5 * x7).tmod l2) → Q 0 T7 D7)))))) :
  zj E d 1 97 343 [(2, (-2)), (2, l1), (0, l2), (2, l3), (2, l4), (2, l5), (0, l6), (9, 0), (9, 0), (9, 0), (9, 0), (9, 0)] [] T D Q := by
  refine zr_aload_n rfl rfl ?_
  refine zr_bipush rfl ?_
  refine zr_iload rfl rfl ?_
  obtain ⟨h1, H⟩ := H
  obtain ⟨h2, H⟩ := H
  refine zr_invokevirtual (rt2 := 1) rfl rfl rfl rfl rfl h2 (by decide) h1 (zc_mono H ?_)
  intro x3 T3 D3 H
  show zj _ _ _ _ _ [(2, (-2)), (2, l1), (0, l2), (2, l3), (2, l4), (2, l5), (0, l6), (9, 0), (9, 0), (9, 0), (9, 0), (9, 0)] [(0, x3)] _ _ _
  refine zr_aload_n rfl rfl ?_
  refine zr_iconst rfl ?_
  refine zr_iload rfl rfl ?_
  obtain ⟨h4, H⟩ := H
  refine zr_invokevirtual (rt2 := 1) rfl rfl rfl rfl rfl h4 (by decide) h1 (zc_mono H ?_)
  intro x5 T5 D5 H
  show zj _ _ _ _ _ [(2, (-2)), (2, l1), (0, l2), (2, l3), (2, l4), (2, l5), (0, l6), (9, 0), (9, 0), (9, 0), (9, 0), (9, 0)] [(0, x5), (0, x3)] _ _ _
  refine zr_aload_n rfl rfl ?_
  refine zr_iconst rfl ?_
  refine zr_iload rfl rfl ?_
  obtain ⟨h6, H⟩ := H
  refine zr_invokevirtual (rt2 := 1) rfl rfl rfl rfl rfl h6 (by decide) h1 (zc_mono H ?_)
  intro x7 T7 D7 H
  show zj _ _ _ _ _ [(2, (-2)), (2, l1), (0, l2), (2, l3), (2, l4), (2, l5), (0, l6), (9, 0), (9, 0), (9, 0), (9, 0), (9, 0)] [(0, x7), (0, x5), (0, x3)] _ _ _
  refine zr_imul rfl ?_
  refine zr_iload_n rfl rfl ?_
  obtain ⟨h8, H⟩ := H
  obtain ⟨h9, H⟩ := H
  obtain ⟨h10, H⟩ := H
  refine zr_irem rfl h8 h9 h10 ?_
  obtain ⟨h11, H⟩ := H
  obtain ⟨h12, H⟩ := H
  refine zr_icmp_eq rfl h11 h12 (fun hc => ?_) (fun hc => ?_)
  · replace H := H.1 hc
    exact H
  · replace H := H.2 hc
    refine zr_iconst rfl ?_
    exact zr_ireturn rfl rfl rfl H
theorem z97_373 {E : List (List Int)} {d : Nat} {T : zT} {D : zD} {Q : Int → zT → zD → Prop}  (l1 : Int) (l2 : Int) (l3 : Int) (l4 : Int) (l5 : Int) (l6 : Int) 
  (H : 0 < d ∧ zc E (d - 1) 1 94 [(2, l3)] T D (fun x2 T2 D2 => zin x2 ∧ ((x2 ≤ 3 → zj E d 1 97 390 [(2, (-2)), (2, l1), (0, l2), (2, l3), (2, l4), (2, l5), (0, l6), (9, 0), (9, 0), (9, 0), (9, 0), (9, 0)] [] T2 D2 Q) ∧ (x2 > 3 → zc E (d - 1) 1 94 [(2, l4)] T2 D2 (fun x4 T4 D4 => zin x4 ∧ ((x4 ≥ 3 → zj E d 1 97 442 [(2, (-2)), (2, l1), (0, l2), (2, l3), (2, l4), (2, l5), (0, l6), (9, 0), (9, 0), (9, 0), (9, 0), (9, 0)] [] T4 D4 Q) ∧ (x4 < 3 → zj E d 1 97 390 [(2, (-2)), (2, l1), (0, l2), (2, l3), (2, l4), (2, l5), (0, l6), (9, 0), (9, 0), (9, 0), (9, 0), (9, 0)] [] T4 D4 Q))))))) :
  zj E d 1 97 373 [(2, (-2)), (2, l1), (0, l2), (2, l3), (2, l4), (2, l5), (0, l6), (9, 0), (9, 0), (9, 0), (9, 0), (9, 0)] [] T D Q := by
  refine zr_aload_n rfl rfl ?_
  obtain ⟨h1, H⟩ := H
  refine zr_invokestatic (rt2 := 1) rfl rfl rfl rfl rfl h1 (zc_mono H ?_)
  intro x2 T2 D2 H
  show zj _ _ _ _ _ [(2, (-2)), (2, l1), (0, l2), (2, l3), (2, l4), (2, l5), (0, l6), (9, 0), (9, 0), (9, 0), (9, 0), (9, 0)] [(0, x2)] _ _ _
  refine zr_iconst rfl ?_
  obtain ⟨h3, H⟩ := H
  refine zr_icmp_le rfl h3 (zin_c (by decide)) (fun hc => ?_) (fun hc => ?_)
  · replace H := H.1 hc
    exact H
  · replace H := H.2 hc
    refine zr_aload rfl rfl ?_
    refine zr_invokestatic (rt2 := 1) rfl rfl rfl rfl rfl h1 (zc_mono H ?_)
    intro x4 T4 D4 H
    show zj _ _ _ _ _ [(2, (-2)), (2, l1), (0, l2), (2, l3), (2, l4), (2, l5), (0, l6), (9, 0), (9, 0), (9, 0), (9, 0), (9, 0)] [(0, x4)] _ _ _
    refine zr_iconst rfl ?_
    obtain ⟨h5, H⟩ := H
    refine zr_icmp_ge rfl h5 (zin_c (by decide)) (fun hc => ?_) (fun hc => ?_)
    · replace H := H.1 hc
      exact H
    · replace H := H.2 hc
      exact H
theorem z97_390 {E : List (List Int)} {d : Nat} {T : zT} {D : zD} {Q : Int → zT → zD → Prop}  (l1 : Int) (l2 : Int) (l3 : Int) (l4 : Int) (l5 : Int) (l6 : Int) 
  (H : 0 < d ∧ zk T l1 = 7 ∧ zc E (d - 1) 1 22 [(2, l1), (0, 3), (0, 0), (0, 1), (0, 5)] T D (fun x3 T3 D3 => zc E (d - 1) 1 94 [(2, l3)] T3 D3 (fun x4 T4 D4 => zc E (d - 1) 1 94 [(2, l4)] T4 D4 (fun x5 T5 D5 => zin x5 ∧ zin (x4 * (if 1 < x5 then x5 else 1)) ∧ (((x4 * (if 1 < x5 then x5 else 1)) > 24 → zj E d 1 97 442 [(2, (-2)), (2, l1), (0, l2), (2, l3), (2, l4), (2, l5), (0, l6), (9, 0), (9, 0), (9, 0), (9, 0), (9, 0)] [] T5 D5 Q) ∧ ((x4 * (if 1 < x5 then x5 else 1)) ≤ 24 → zk T5 l1 = 7 ∧ zc E (d - 1) 1 55 [(2, l1), (0, 5), (0, l6)] T5 D5 (fun x9 T9 D9 => zk T9 l1 = 7 ∧ zc E (d - 1) 1 55 [(2, l1), (0, 1), (0, l6)] T9 D9 (fun x11 T11 D11 => zk T11 l1 = 7 ∧ zc E (d - 1) 1 55 [(2, l1), (0, 0), (0, x11)] T11 D11 (fun x13 T13 D13 => zin x9 ∧ zin x13 ∧ ((x9 = x13 → zj E d 1 97 442 [(2, (-2)), (2, l1), (0, l2), (2, l3), (2, l4), (2, l5), (0, l6), (9, 0), (9, 0), (9, 0), (9, 0), (9, 0)] [] T13 D13 Q) ∧ (x9 ≠ x13 → Q 0 T13 D13))))))))))) :
  zj E d 1 97 390 [(2, (-2)), (2, l1), (0, l2), (2, l3), (2, l4), (2, l5), (0, l6), (9, 0), (9, 0), (9, 0), (9, 0), (9, 0)] [] T D Q := by
  refine zr_aload_n rfl rfl ?_
  refine zr_iconst rfl ?_
  refine zr_iconst rfl ?_
  refine zr_iconst rfl ?_
  refine zr_iconst rfl ?_
  obtain ⟨h1, H⟩ := H
  obtain ⟨h2, H⟩ := H
  refine zr_invokevirtual (rt2 := 1) rfl rfl rfl rfl rfl h2 (by decide) h1 (zc_mono H ?_)
  intro x3 T3 D3 H
  show zj _ _ _ _ _ [(2, (-2)), (2, l1), (0, l2), (2, l3), (2, l4), (2, l5), (0, l6), (9, 0), (9, 0), (9, 0), (9, 0), (9, 0)] [(0, x3)] _ _ _
  refine zr_pop rfl rfl ?_
  refine zr_aload_n rfl rfl ?_
  refine zr_invokestatic (rt2 := 1) rfl rfl rfl rfl rfl h1 (zc_mono H ?_)
  intro x4 T4 D4 H
  show zj _ _ _ _ _ [(2, (-2)), (2, l1), (0, l2), (2, l3), (2, l4), (2, l5), (0, l6), (9, 0), (9, 0), (9, 0), (9, 0), (9, 0)] [(0, x4)] _ _ _
  refine zr_iconst rfl ?_
  refine zr_aload rfl rfl ?_
  refine zr_invokestatic (rt2 := 1) rfl rfl rfl rfl rfl h1 (zc_mono H ?_)
  intro x5 T5 D5 H
  show zj _ _ _ _ _ [(2, (-2)), (2, l1), (0, l2), (2, l3), (2, l4), (2, l5), (0, l6), (9, 0), (9, 0), (9, 0), (9, 0), (9, 0)] [(0, x5), (0, 1), (0, x4)] _ _ _
  obtain ⟨h6, H⟩ := H
  refine zr_mmax rfl rfl (zin_c (by decide)) h6 rfl ?_
  refine zr_imul rfl ?_
  refine zr_bipush rfl ?_
  obtain ⟨h7, H⟩ := H
  refine zr_icmp_gt rfl h7 (zin_c (by decide)) (fun hc => ?_) (fun hc => ?_)
  · replace H := H.1 hc
    exact H
  · replace H := H.2 hc
    refine zr_aload_n rfl rfl ?_
    refine zr_iconst rfl ?_
    refine zr_iload rfl rfl ?_
    obtain ⟨h8, H⟩ := H
    refine zr_invokevirtual (rt2 := 1) rfl rfl rfl rfl rfl h8 (by decide) h1 (zc_mono H ?_)
    intro x9 T9 D9 H
    show zj _ _ _ _ _ [(2, (-2)), (2, l1), (0, l2), (2, l3), (2, l4), (2, l5), (0, l6), (9, 0), (9, 0), (9, 0), (9, 0), (9, 0)] [(0, x9)] _ _ _
    refine zr_aload_n rfl rfl ?_
    refine zr_iconst rfl ?_
    refine zr_aload_n rfl rfl ?_
    refine zr_iconst rfl ?_
    refine zr_iload rfl rfl ?_
    obtain ⟨h10, H⟩ := H
    refine zr_invokevirtual (rt2 := 1) rfl rfl rfl rfl rfl h10 (by decide) h1 (zc_mono H ?_)
    intro x11 T11 D11 H
    show zj _ _ _ _ _ [(2, (-2)), (2, l1), (0, l2), (2, l3), (2, l4), (2, l5), (0, l6), (9, 0), (9, 0), (9, 0), (9, 0), (9, 0)] [(0, x11), (0, 0), (2, l1), (0, x9)] _ _ _
    obtain ⟨h12, H⟩ := H
    refine zr_invokevirtual (rt2 := 1) rfl rfl rfl rfl rfl h12 (by decide) h1 (zc_mono H ?_)
    intro x13 T13 D13 H
    show zj _ _ _ _ _ [(2, (-2)), (2, l1), (0, l2), (2, l3), (2, l4), (2, l5), (0, l6), (9, 0), (9, 0), (9, 0), (9, 0), (9, 0)] [(0, x13), (0, x9)] _ _ _
    obtain ⟨h14, H⟩ := H
    obtain ⟨h15, H⟩ := H
    refine zr_icmp_eq rfl h14 h15 (fun hc => ?_) (fun hc => ?_)
    · replace H := H.1 hc
      exact H
    · replace H := H.2 hc
      refine zr_iconst rfl ?_
      exact zr_ireturn rfl rfl rfl H
theorem z97_442 {E : List (List Int)} {d : Nat} {T : zT} {D : zD} {Q : Int → zT → zD → Prop}  (l1 : Int) (l2 : Int) (l3 : Int) (l4 : Int) (l5 : Int) (l6 : Int) 
  (H : 0 < d ∧ zc E (d - 1) 1 94 [(2, l4)] T D (fun x2 T2 D2 => zin x2 ∧ ((x2 < 0 → zj E d 1 97 534 [(2, (-2)), (2, l1), (0, l2), (2, l3), (2, l4), (2, l5), (0, l6), (9, 0), (9, 0), (9, 0), (9, 0), (9, 0)] [] T2 D2 Q) ∧ (x2 ≥ 0 → zj E d 1 97 450 [(2, (-2)), (2, l1), (0, l2), (2, l3), (2, l4), (2, l5), (0, l6), (9, 0), (9, 0), (9, 0), (9, 0), (9, 0)] [] T2 D2 Q)))) :
  zj E d 1 97 442 [(2, (-2)), (2, l1), (0, l2), (2, l3), (2, l4), (2, l5), (0, l6), (9, 0), (9, 0), (9, 0), (9, 0), (9, 0)] [] T D Q := by
  refine zr_aload rfl rfl ?_
  obtain ⟨h1, H⟩ := H
  refine zr_invokestatic (rt2 := 1) rfl rfl rfl rfl rfl h1 (zc_mono H ?_)
  intro x2 T2 D2 H
  show zj _ _ _ _ _ [(2, (-2)), (2, l1), (0, l2), (2, l3), (2, l4), (2, l5), (0, l6), (9, 0), (9, 0), (9, 0), (9, 0), (9, 0)] [(0, x2)] _ _ _
  obtain ⟨h3, H⟩ := H
  refine zr_if_lt rfl h3 (fun hc => ?_) (fun hc => ?_)
  · replace H := H.1 hc
    exact H
  · replace H := H.2 hc
    exact H
theorem z97_450 {E : List (List Int)} {d : Nat} {T : zT} {D : zD} {Q : Int → zT → zD → Prop}  (l1 : Int) (l2 : Int) (l3 : Int) (l4 : Int) (l5 : Int) (l6 : Int) 
  (H : 0 < d ∧ zc E (d - 1) 1 91 [(2, (-2)), (0, 15)] T D (fun x2 T2 D2 => zc E (d - 1) 1 90 [(0, x2), (0, 900000)] T2 D2 (fun x3 T3 D3 => zj E d 1 97 463 [(2, (-2)), (2, l1), (0, l2), (2, l3), (2, l4), (2, l5), (0, l6), (0, x3), (9, 0), (9, 0), (9, 0), (9, 0)] [] T3 D3 Q))) :
  zj E d 1 97 450 [(2, (-2)), (2, l1), (0, l2), (2, l3), (2, l4), (2, l5), (0, l6), (9, 0), (9, 0), (9, 0), (9, 0), (9, 0)] [] T D Q := by
  refine zr_aload_n rfl rfl ?_
  refine zr_bipush rfl ?_
  obtain ⟨h1, H⟩ := H
  refine zr_invokestatic (rt2 := 1) rfl rfl rfl rfl rfl h1 (zc_mono H ?_)
  intro x2 T2 D2 H
  show zj _ _ _ _ _ [(2, (-2)), (2, l1), (0, l2), (2, l3), (2, l4), (2, l5), (0, l6), (9, 0), (9, 0), (9, 0), (9, 0), (9, 0)] [(0, x2)] _ _ _
  refine zr_ldc rfl rfl ?_
  refine zr_invokestatic (rt2 := 1) rfl rfl rfl rfl rfl h1 (zc_mono H ?_)
  intro x3 T3 D3 H
  show zj _ _ _ _ _ [(2, (-2)), (2, l1), (0, l2), (2, l3), (2, l4), (2, l5), (0, l6), (9, 0), (9, 0), (9, 0), (9, 0), (9, 0)] [(0, x3)] _ _ _
  refine zr_istore rfl rfl ?_
  show zj _ _ _ _ _ [(2, (-2)), (2, l1), (0, l2), (2, l3), (2, l4), (2, l5), (0, l6), (0, x3), (9, 0), (9, 0), (9, 0), (9, 0)] [] _ _ _
  exact H
theorem z97_463 {E : List (List Int)} {d : Nat} {T : zT} {D : zD} {Q : Int → zT → zD → Prop}  (l1 : Int) (l2 : Int) (l3 : Int) (l4 : Int) (l5 : Int) (l6 : Int) (l7 : Int) 
  (H : 0 < d ∧ zk T l1 = 7 ∧ zc E (d - 1) 1 51 [(2, l1), (0, 0), (0, l7), (0, 1), (0, 3)] T D (fun x3 T3 D3 => zj E d 1 97 473 [(2, (-2)), (2, l1), (0, l2), (2, l3), (2, l4), (2, l5), (0, l6), (0, l7), (9, 0), (9, 0), (9, 0), (9, 0)] [] T3 D3 Q)) :
  zj E d 1 97 463 [(2, (-2)), (2, l1), (0, l2), (2, l3), (2, l4), (2, l5), (0, l6), (0, l7), (9, 0), (9, 0), (9, 0), (9, 0)] [] T D Q := by
  refine zr_aload_n rfl rfl ?_
  refine zr_iconst rfl ?_
  refine zr_iload rfl rfl ?_
  refine zr_iconst rfl ?_
  refine zr_iconst rfl ?_
  obtain ⟨h1, H⟩ := H
  obtain ⟨h2, H⟩ := H
  refine zr_invokevirtual (rt2 := 1) rfl rfl rfl rfl rfl h2 (by decide) h1 (zc_mono H ?_)
  intro x3 T3 D3 H
  show zj _ _ _ _ _ [(2, (-2)), (2, l1), (0, l2), (2, l3), (2, l4), (2, l5), (0, l6), (0, l7), (9, 0), (9, 0), (9, 0), (9, 0)] [(0, x3)] _ _ _
  refine zr_pop rfl rfl ?_
  exact H
theorem z97_473 {E : List (List Int)} {d : Nat} {T : zT} {D : zD} {Q : Int → zT → zD → Prop}  (l1 : Int) (l2 : Int) (l3 : Int) (l4 : Int) (l5 : Int) (l6 : Int) (l7 : Int) 
  (H : 0 < d ∧ zk T l1 = 7 ∧ zc E (d - 1) 1 51 [(2, l1), (0, 0), (0, 77), (0, 1), (0, 4)] T D (fun x3 T3 D3 => zj E d 1 97 483 [(2, (-2)), (2, l1), (0, l2), (2, l3), (2, l4), (2, l5), (0, l6), (0, l7), (9, 0), (9, 0), (9, 0), (9, 0)] [] T3 D3 Q)) :
  zj E d 1 97 473 [(2, (-2)), (2, l1), (0, l2), (2, l3), (2, l4), (2, l5), (0, l6), (0, l7), (9, 0), (9, 0), (9, 0), (9, 0)] [] T D Q := by
  refine zr_aload_n rfl rfl ?_
  refine zr_iconst rfl ?_
  refine zr_bipush rfl ?_
  refine zr_iconst rfl ?_
  refine zr_iconst rfl ?_
  obtain ⟨h1, H⟩ := H
  obtain ⟨h2, H⟩ := H
  refine zr_invokevirtual (rt2 := 1) rfl rfl rfl rfl rfl h2 (by decide) h1 (zc_mono H ?_)
  intro x3 T3 D3 H
  show zj _ _ _ _ _ [(2, (-2)), (2, l1), (0, l2), (2, l3), (2, l4), (2, l5), (0, l6), (0, l7), (9, 0), (9, 0), (9, 0), (9, 0)] [(0, x3)] _ _ _
  refine zr_pop rfl rfl ?_
  exact H
theorem z97_483 {E : List (List Int)} {d : Nat} {T : zT} {D : zD} {Q : Int → zT → zD → Prop}  (l1 : Int) (l2 : Int) (l3 : Int) (l4 : Int) (l5 : Int) (l6 : Int) (l7 : Int) 
  (H : 0 < d ∧ zk T l1 = 7 ∧ zc E (d - 1) 1 22 [(2, l1), (0, 2), (0, 3), (0, 4), (0, 3)] T D (fun x3 T3 D3 => zj E d 1 97 492 [(2, (-2)), (2, l1), (0, l2), (2, l3), (2, l4), (2, l5), (0, l6), (0, l7), (9, 0), (9, 0), (9, 0), (9, 0)] [] T3 D3 Q)) :
  zj E d 1 97 483 [(2, (-2)), (2, l1), (0, l2), (2, l3), (2, l4), (2, l5), (0, l6), (0, l7), (9, 0), (9, 0), (9, 0), (9, 0)] [] T D Q := by
  refine zr_aload_n rfl rfl ?_
  refine zr_iconst rfl ?_
  refine zr_iconst rfl ?_
  refine zr_iconst rfl ?_
  refine zr_iconst rfl ?_
  obtain ⟨h1, H⟩ := H
  obtain ⟨h2, H⟩ := H
  refine zr_invokevirtual (rt2 := 1) rfl rfl rfl rfl rfl h2 (by decide) h1 (zc_mono H ?_)
  intro x3 T3 D3 H
  show zj _ _ _ _ _ [(2, (-2)), (2, l1), (0, l2), (2, l3), (2, l4), (2, l5), (0, l6), (0, l7), (9, 0), (9, 0), (9, 0), (9, 0)] [(0, x3)] _ _ _
  refine zr_pop rfl rfl ?_
  exact H
theorem z97_492 {E : List (List Int)} {d : Nat} {T : zT} {D : zD} {Q : Int → zT → zD → Prop}  (l1 : Int) (l2 : Int) (l3 : Int) (l4 : Int) (l5 : Int) (l6 : Int) (l7 : Int) 
  (H : 0 < d ∧ zk T l1 = 7 ∧ zc E (d - 1) 1 43 [(2, l1), (0, 3), (0, 1), (0, 4), (0, 3)] T D (fun x3 T3 D3 => zj E d 1 97 501 [(2, (-2)), (2, l1), (0, l2), (2, l3), (2, l4), (2, l5), (0, l6), (0, l7), (9, 0), (9, 0), (9, 0), (9, 0)] [] T3 D3 Q)) :
  zj E d 1 97 492 [(2, (-2)), (2, l1), (0, l2), (2, l3), (2, l4), (2, l5), (0, l6), (0, l7), (9, 0), (9, 0), (9, 0), (9, 0)] [] T D Q := by
  refine zr_aload_n rfl rfl ?_
  refine zr_iconst rfl ?_
  refine zr_iconst rfl ?_
  refine zr_iconst rfl ?_
  refine zr_iconst rfl ?_
  obtain ⟨h1, H⟩ := H
  obtain ⟨h2, H⟩ := H
  refine zr_invokevirtual (rt2 := 1) rfl rfl rfl rfl rfl h2 (by decide) h1 (zc_mono H ?_)
  intro x3 T3 D3 H
  show zj _ _ _ _ _ [(2, (-2)), (2, l1), (0, l2), (2, l3), (2, l4), (2, l5), (0, l6), (0, l7), (9, 0), (9, 0), (9, 0), (9, 0)] [(0, x3)] _ _ _
  refine zr_pop rfl rfl ?_
  exact H
theorem z97_501 {E : List (List Int)} {d : Nat} {T : zT} {D : zD} {Q : Int → zT → zD → Prop}  (l1 : Int) (l2 : Int) (l3 : Int) (l4 : Int) (l5 : Int) (l6 : Int) (l7 : Int) 
  (H : 0 < d ∧ zk T l1 = 7 ∧ zc E (d - 1) 1 51 [(2, l1), (0, 0), (0, (l7 + 77)), (0, 1), (0, 4)] T D (fun x3 T3 D3 => zj E d 1 97 514 [(2, (-2)), (2, l1), (0, l2), (2, l3), (2, l4), (2, l5), (0, l6), (0, l7), (9, 0), (9, 0), (9, 0), (9, 0)] [] T3 D3 Q)) :
  zj E d 1 97 501 [(2, (-2)), (2, l1), (0, l2), (2, l3), (2, l4), (2, l5), (0, l6), (0, l7), (9, 0), (9, 0), (9, 0), (9, 0)] [] T D Q := by
  refine zr_aload_n rfl rfl ?_
  refine zr_iconst rfl ?_
  refine zr_iload rfl rfl ?_
  refine zr_bipush rfl ?_
  refine zr_iadd rfl ?_
  refine zr_iconst rfl ?_
  refine zr_iconst rfl ?_
  obtain ⟨h1, H⟩ := H
  obtain ⟨h2, H⟩ := H
  refine zr_invokevirtual (rt2 := 1) rfl rfl rfl rfl rfl h2 (by decide) h1 (zc_mono H ?_)
  intro x3 T3 D3 H
  show zj _ _ _ _ _ [(2, (-2)), (2, l1), (0, l2), (2, l3), (2, l4), (2, l5), (0, l6), (0, l7), (9, 0), (9, 0), (9, 0), (9, 0)] [(0, x3)] _ _ _
  refine zr_pop rfl rfl ?_
  exact H
theorem z97_514 {E : List (List Int)} {d : Nat} {T : zT} {D : zD} {Q : Int → zT → zD → Prop}  (l1 : Int) (l2 : Int) (l3 : Int) (l4 : Int) (l5 : Int) (l6 : Int) (l7 : Int) 
  (H : 0 < d ∧ zk T l1 = 7 ∧ zc E (d - 1) 1 22 [(2, l1), (0, 1), (0, 3), (0, 4), (0, 3)] T D (fun x3 T3 D3 => zj E d 1 97 523 [(2, (-2)), (2, l1), (0, l2), (2, l3), (2, l4), (2, l5), (0, l6), (0, l7), (9, 0), (9, 0), (9, 0), (9, 0)] [] T3 D3 Q)) :
  zj E d 1 97 514 [(2, (-2)), (2, l1), (0, l2), (2, l3), (2, l4), (2, l5), (0, l6), (0, l7), (9, 0), (9, 0), (9, 0), (9, 0)] [] T D Q := by
  refine zr_aload_n rfl rfl ?_
  refine zr_iconst rfl ?_
  refine zr_iconst rfl ?_
  refine zr_iconst rfl ?_
  refine zr_iconst rfl ?_
  obtain ⟨h1, H⟩ := H
  obtain ⟨h2, H⟩ := H
  refine zr_invokevirtual (rt2 := 1) rfl rfl rfl rfl rfl h2 (by decide) h1 (zc_mono H ?_)
  intro x3 T3 D3 H
  show zj _ _ _ _ _ [(2, (-2)), (2, l1), (0, l2), (2, l3), (2, l4), (2, l5), (0, l6), (0, l7), (9, 0), (9, 0), (9, 0), (9, 0)] [(0, x3)] _ _ _
  refine zr_pop rfl rfl ?_
  exact H
theorem z97_523 {E : List (List Int)} {d : Nat} {T : zT} {D : zD} {Q : Int → zT → zD → Prop}  (l1 : Int) (l2 : Int) (l3 : Int) (l4 : Int) (l5 : Int) (l6 : Int) (l7 : Int) 
  (H : 0 < d ∧ zk T l1 = 7 ∧ zc E (d - 1) 1 20 [(2, l1), (0, 3)] T D (fun x3 T3 D3 => zin x3 ∧ ((x3 = (-1) → zj E d 1 97 534 [(2, (-2)), (2, l1), (0, l2), (2, l3), (2, l4), (2, l5), (0, l6), (0, l7), (9, 0), (9, 0), (9, 0), (9, 0)] [] T3 D3 Q) ∧ (x3 ≠ (-1) → Q 0 T3 D3)))) :
  zj E d 1 97 523 [(2, (-2)), (2, l1), (0, l2), (2, l3), (2, l4), (2, l5), (0, l6), (0, l7), (9, 0), (9, 0), (9, 0), (9, 0)] [] T D Q := by
  refine zr_aload_n rfl rfl ?_
  refine zr_iconst rfl ?_
  obtain ⟨h1, H⟩ := H
  obtain ⟨h2, H⟩ := H
  refine zr_invokevirtual (rt2 := 1) rfl rfl rfl rfl rfl h2 (by decide) h1 (zc_mono H ?_)
  intro x3 T3 D3 H
  show zj _ _ _ _ _ [(2, (-2)), (2, l1), (0, l2), (2, l3), (2, l4), (2, l5), (0, l6), (0, l7), (9, 0), (9, 0), (9, 0), (9, 0)] [(0, x3)] _ _ _
  refine zr_iconst rfl ?_
  obtain ⟨h4, H⟩ := H
  refine zr_icmp_eq rfl h4 (zin_c (by decide)) (fun hc => ?_) (fun hc => ?_)
  · replace H := H.1 hc
    exact H
  · replace H := H.2 hc
    refine zr_iconst rfl ?_
    exact zr_ireturn rfl rfl rfl H
theorem z97_534 {E : List (List Int)} {d : Nat} {T : zT} {D : zD} {Q : Int → zT → zD → Prop}  (l1 : Int) (l2 : Int) (l3 : Int) (l4 : Int) (l5 : Int) (l6 : Int) (w7 : zv_V) (hw7 : zs_wide w7 = false)
  (H : 0 < d ∧ zk T l1 = 7 ∧ zc E (d - 1) 1 22 [(2, l1), (0, 4), (0, 0), (0, 1), (0, 3)] T D (fun x3 T3 D3 => zj E d 1 97 543 [(2, (-2)), (2, l1), (0, l2), (2, l3), (2, l4), (2, l5), (0, l6), w7, (9, 0), (9, 0), (9, 0), (9, 0)] [] T3 D3 Q)) :
  zj E d 1 97 534 [(2, (-2)), (2, l1), (0, l2), (2, l3), (2, l4), (2, l5), (0, l6), w7, (9, 0), (9, 0), (9, 0), (9, 0)] [] T D Q := by
  refine zr_aload_n rfl rfl ?_
  refine zr_iconst rfl ?_
  refine zr_iconst rfl ?_
  refine zr_iconst rfl ?_
  refine zr_iconst rfl ?_
  obtain ⟨h1, H⟩ := H
  obtain ⟨h2, H⟩ := H
  refine zr_invokevirtual (rt2 := 1) rfl rfl rfl rfl rfl h2 (by decide) h1 (zc_mono H ?_)
  intro x3 T3 D3 H
  show zj _ _ _ _ _ [(2, (-2)), (2, l1), (0, l2), (2, l3), (2, l4), (2, l5), (0, l6), w7, (9, 0), (9, 0), (9, 0), (9, 0)] [(0, x3)] _ _ _
  refine zr_pop rfl rfl ?_
  exact H
theorem z97_543 {E : List (List Int)} {d : Nat} {T : zT} {D : zD} {Q : Int → zT → zD → Prop}  (l1 : Int) (l2 : Int) (l3 : Int) (l4 : Int) (l5 : Int) (l6 : Int) (w7 : zv_V) (hw7 : zs_wide w7 = false)
  (H : 0 < d ∧ zk T l1 = 7 ∧ zc E (d - 1) 1 44 [(2, l1), (0, 0), (0, 1), (0, 4), (0, 5)] T D (fun x3 T3 D3 => zj E d 1 97 552 [(2, (-2)), (2, l1), (0, l2), (2, l3), (2, l4), (2, l5), (0, l6), w7, (9, 0), (9, 0), (9, 0), (9, 0)] [] T3 D3 Q)) :
  zj E d 1 97 543 [(2, (-2)), (2, l1), (0, l2), (2, l3), (2, l4), (2, l5), (0, l6), w7, (9, 0), (9, 0), (9, 0), (9, 0)] [] T D Q := by
  refine zr_aload_n rfl rfl ?_
  refine zr_iconst rfl ?_
  refine zr_iconst rfl ?_
  refine zr_iconst rfl ?_
  refine zr_iconst rfl ?_
  obtain ⟨h1, H⟩ := H
  obtain ⟨h2, H⟩ := H
  refine zr_invokevirtual (rt2 := 1) rfl rfl rfl rfl rfl h2 (by decide) h1 (zc_mono H ?_)
  intro x3 T3 D3 H
  show zj _ _ _ _ _ [(2, (-2)), (2, l1), (0, l2), (2, l3), (2, l4), (2, l5), (0, l6), w7, (9, 0), (9, 0), (9, 0), (9, 0)] [(0, x3)] _ _ _
  refine zr_pop rfl rfl ?_
  exact H
theorem z97_552 {E : List (List Int)} {d : Nat} {T : zT} {D : zD} {Q : Int → zT → zD → Prop}  (l1 : Int) (l2 : Int) (l3 : Int) (l4 : Int) (l5 : Int) (l6 : Int) (w7 : zv_V) (hw7 : zs_wide w7 = false)
  (H : 0 < d ∧ zk T l1 = 7 ∧ zc E (d - 1) 1 22 [(2, l1), (0, 2), (0, 4), (0, 0), (0, 4)] T D (fun x3 T3 D3 => zj E d 1 97 561 [(2, (-2)), (2, l1), (0, l2), (2, l3), (2, l4), (2, l5), (0, l6), w7, (9, 0), (9, 0), (9, 0), (9, 0)] [] T3 D3 Q)) :
  zj E d 1 97 552 [(2, (-2)), (2, l1), (0, l2), (2, l3), (2, l4), (2, l5), (0, l6), w7, (9, 0), (9, 0), (9, 0), (9, 0)] [] T D Q := by
  refine zr_aload_n rfl rfl ?_
  refine zr_iconst rfl ?_
  refine zr_iconst rfl ?_
  refine zr_iconst rfl ?_
  refine zr_iconst rfl ?_
  obtain ⟨h1, H⟩ := H
  obtain ⟨h2, H⟩ := H
  refine zr_invokevirtual (rt2 := 1) rfl rfl rfl rfl rfl h2 (by decide) h1 (zc_mono H ?_)
  intro x3 T3 D3 H
  show zj _ _ _ _ _ [(2, (-2)), (2, l1), (0, l2), (2, l3), (2, l4), (2, l5), (0, l6), w7, (9, 0), (9, 0), (9, 0), (9, 0)] [(0, x3)] _ _ _
  refine zr_pop rfl rfl ?_
  exact H
theorem z97_561 {E : List (List Int)} {d : Nat} {T : zT} {D : zD} {Q : Int → zT → zD → Prop}  (l1 : Int) (l2 : Int) (l3 : Int) (l4 : Int) (l5 : Int) (l6 : Int) (w7 : zv_V) (hw7 : zs_wide w7 = false)
  (H : 0 < d ∧ zk T l1 = 7 ∧ zc E (d - 1) 1 22 [(2, l1), (0, 2), (0, 5), (0, 1), (0, 5)] T D (fun x3 T3 D3 => zj E d 1 97 570 [(2, (-2)), (2, l1), (0, l2), (2, l3), (2, l4), (2, l5), (0, l6), w7, (9, 0), (9, 0), (9, 0), (9, 0)] [] T3 D3 Q)) :
  zj E d 1 97 561 [(2, (-2)), (2, l1), (0, l2), (2, l3), (2, l4), (2, l5), (0, l6), w7, (9, 0), (9, 0), (9, 0), (9, 0)] [] T D Q := by
  refine zr_aload_n rfl rfl ?_
  refine zr_iconst rfl ?_
  refine zr_iconst rfl ?_
  refine zr_iconst rfl ?_
  refine zr_iconst rfl ?_
  obtain ⟨h1, H⟩ := H
  obtain ⟨h2, H⟩ := H
  refine zr_invokevirtual (rt2 := 1) rfl rfl rfl rfl rfl h2 (by decide) h1 (zc_mono H ?_)
  intro x3 T3 D3 H
  show zj _ _ _ _ _ [(2, (-2)), (2, l1), (0, l2), (2, l3), (2, l4), (2, l5), (0, l6), w7, (9, 0), (9, 0), (9, 0), (9, 0)] [(0, x3)] _ _ _
  refine zr_pop rfl rfl ?_
  exact H
theorem z97_570 {E : List (List Int)} {d : Nat} {T : zT} {D : zD} {Q : Int → zT → zD → Prop}  (l1 : Int) (l2 : Int) (l3 : Int) (l4 : Int) (l5 : Int) (l6 : Int) (w7 : zv_V) (hw7 : zs_wide w7 = false)
  (H : 0 < d ∧ zk T l1 = 7 ∧ zc E (d - 1) 1 22 [(2, l1), (0, 0), (0, 4), (0, 5), (0, 4)] T D (fun x3 T3 D3 => zj E d 1 97 579 [(2, (-2)), (2, l1), (0, l2), (2, l3), (2, l4), (2, l5), (0, l6), w7, (9, 0), (9, 0), (9, 0), (9, 0)] [] T3 D3 Q)) :
  zj E d 1 97 570 [(2, (-2)), (2, l1), (0, l2), (2, l3), (2, l4), (2, l5), (0, l6), w7, (9, 0), (9, 0), (9, 0), (9, 0)] [] T D Q := by
  refine zr_aload_n rfl rfl ?_
  refine zr_iconst rfl ?_
  refine zr_iconst rfl ?_
  refine zr_iconst rfl ?_
  refine zr_iconst rfl ?_
  obtain ⟨h1, H⟩ := H
  obtain ⟨h2, H⟩ := H
  refine zr_invokevirtual (rt2 := 1) rfl rfl rfl rfl rfl h2 (by decide) h1 (zc_mono H ?_)
  intro x3 T3 D3 H
  show zj _ _ _ _ _ [(2, (-2)), (2, l1), (0, l2), (2, l3), (2, l4), (2, l5), (0, l6), w7, (9, 0), (9, 0), (9, 0), (9, 0)] [(0, x3)] _ _ _
  refine zr_pop rfl rfl ?_
  exact H
theorem z97_579 {E : List (List Int)} {d : Nat} {T : zT} {D : zD} {Q : Int → zT → zD → Prop}  (l1 : Int) (l2 : Int) (l3 : Int) (l4 : Int) (l5 : Int) (l6 : Int) (w7 : zv_V) (hw7 : zs_wide w7 = false)
  (H : 0 < d ∧ zk T l1 = 7 ∧ zc E (d - 1) 1 22 [(2, l1), (0, 1), (0, 4), (0, 3), (0, 4)] T D (fun x3 T3 D3 => zj E d 1 97 588 [(2, (-2)), (2, l1), (0, l2), (2, l3), (2, l4), (2, l5), (0, l6), w7, (9, 0), (9, 0), (9, 0), (9, 0)] [] T3 D3 Q)) :
  zj E d 1 97 579 [(2, (-2)), (2, l1), (0, l2), (2, l3), (2, l4), (2, l5), (0, l6), w7, (9, 0), (9, 0), (9, 0), (9, 0)] [] T D Q := by
  refine zr_aload_n rfl rfl ?_
  refine zr_iconst rfl ?_
  refine zr_iconst rfl ?_
  refine zr_iconst rfl ?_
  refine zr_iconst rfl ?_
  obtain ⟨h1, H⟩ := H
  obtain ⟨h2, H⟩ := H
  refine zr_invokevirtual (rt2 := 1) rfl rfl rfl rfl rfl h2 (by decide) h1 (zc_mono H ?_)
  intro x3 T3 D3 H
  show zj _ _ _ _ _ [(2, (-2)), (2, l1), (0, l2), (2, l3), (2, l4), (2, l5), (0, l6), w7, (9, 0), (9, 0), (9, 0), (9, 0)] [(0, x3)] _ _ _
  refine zr_pop rfl rfl ?_
  exact H
theorem z97_588 {E : List (List Int)} {d : Nat} {T : zT} {D : zD} {Q : Int → zT → zD → Prop}  (l1 : Int) (l2 : Int) (l3 : Int) (l4 : Int) (l5 : Int) (l6 : Int) (w7 : zv_V) (hw7 : zs_wide w7 = false)
  (H : 0 < d ∧ zk T l1 = 7 ∧ zc E (d - 1) 1 20 [(2, l1), (0, 4)] T D (fun x3 T3 D3 => zin x3 ∧ ((x3 = (-1) → zj E d 1 97 599 [(2, (-2)), (2, l1), (0, l2), (2, l3), (2, l4), (2, l5), (0, l6), w7, (9, 0), (9, 0), (9, 0), (9, 0)] [] T3 D3 Q) ∧ (x3 ≠ (-1) → Q 0 T3 D3)))) :
  zj E d 1 97 588 [(2, (-2)), (2, l1), (0, l2), (2, l3), (2, l4), (2, l5), (0, l6), w7, (9, 0), (9, 0), (9, 0), (9, 0)] [] T D Q := by
  refine zr_aload_n rfl rfl ?_
  refine zr_iconst rfl ?_
  obtain ⟨h1, H⟩ := H
  obtain ⟨h2, H⟩ := H
  refine zr_invokevirtual (rt2 := 1) rfl rfl rfl rfl rfl h2 (by decide) h1 (zc_mono H ?_)
  intro x3 T3 D3 H
  show zj _ _ _ _ _ [(2, (-2)), (2, l1), (0, l2), (2, l3), (2, l4), (2, l5), (0, l6), w7, (9, 0), (9, 0), (9, 0), (9, 0)] [(0, x3)] _ _ _
  refine zr_iconst rfl ?_
  obtain ⟨h4, H⟩ := H
  refine zr_icmp_eq rfl h4 (zin_c (by decide)) (fun hc => ?_) (fun hc => ?_)
  · replace H := H.1 hc
    exact H
  · replace H := H.2 hc
    refine zr_iconst rfl ?_
    exact zr_ireturn rfl rfl rfl H
theorem z97_599 {E : List (List Int)} {d : Nat} {T : zT} {D : zD} {Q : Int → zT → zD → Prop}  (l1 : Int) (l2 : Int) (l3 : Int) (l4 : Int) (l5 : Int) (l6 : Int) (w7 : zv_V) (hw7 : zs_wide w7 = false)
  (H : 0 < d ∧ zc E (d - 1) 1 94 [(2, l4)] T D (fun x2 T2 D2 => zin x2 ∧ ((x2 < 0 → zj E d 1 97 648 [(2, (-2)), (2, l1), (0, l2), (2, l3), (2, l4), (2, l5), (0, l6), w7, (9, 0), (9, 0), (9, 0), (9, 0)] [] T2 D2 Q) ∧ (x2 ≥ 0 → zj E d 1 97 607 [(2, (-2)), (2, l1), (0, l2), (2, l3), (2, l4), (2, l5), (0, l6), w7, (9, 0), (9, 0), (9, 0), (9, 0)] [] T2 D2 Q)))) :
  zj E d 1 97 599 [(2, (-2)), (2, l1), (0, l2), (2, l3), (2, l4), (2, l5), (0, l6), w7, (9, 0), (9, 0), (9, 0), (9, 0)] [] T D Q := by
  refine zr_aload rfl rfl ?_
  obtain ⟨h1, H⟩ := H
  refine zr_invokestatic (rt2 := 1) rfl rfl rfl rfl rfl h1 (zc_mono H ?_)
  intro x2 T2 D2 H
  show zj _ _ _ _ _ [(2, (-2)), (2, l1), (0, l2), (2, l3), (2, l4), (2, l5), (0, l6), w7, (9, 0), (9, 0), (9, 0), (9, 0)] [(0, x2)] _ _ _
  obtain ⟨h3, H⟩ := H
  refine zr_if_lt rfl h3 (fun hc => ?_) (fun hc => ?_)
  · replace H := H.1 hc
    exact H
  · replace H := H.2 hc
    exact H
theorem z97_607 {E : List (List Int)} {d : Nat} {T : zT} {D : zD} {Q : Int → zT → zD → Prop}  (l1 : Int) (l2 : Int) (l3 : Int) (l4 : Int) (l5 : Int) (l6 : Int) (w7 : zv_V) (hw7 : zs_wide w7 = false)
  (H : 0 < d ∧ zk T l1 = 7 ∧ zc E (d - 1) 1 43 [(2, l1), (0, 0), (0, 1), (0, 8), (0, 9)] T D (fun x3 T3 D3 => zj E d 1 97 618 [(2, (-2)), (2, l1), (0, l2), (2, l3), (2, l4), (2, l5), (0, l6), w7, (9, 0), (9, 0), (9, 0), (9, 0)] [] T3 D3 Q)) :
  zj E d 1 97 607 [(2, (-2)), (2, l1), (0, l2), (2, l3), (2, l4), (2, l5), (0, l6), w7, (9, 0), (9, 0), (9, 0), (9, 0)] [] T D Q := by
  refine zr_aload_n rfl rfl ?_
  refine zr_iconst rfl ?_
  refine zr_iconst rfl ?_
  refine zr_bipush rfl ?_
  refine zr_bipush rfl ?_
  obtain ⟨h1, H⟩ := H
  obtain ⟨h2, H⟩ := H
  refine zr_invokevirtual (rt2 := 1) rfl rfl rfl rfl rfl h2 (by decide) h1 (zc_mono H ?_)
  intro x3 T3 D3 H
  show zj _ _ _ _ _ [(2, (-2)), (2, l1), (0, l2), (2, l3), (2, l4), (2, l5), (0, l6), w7, (9, 0), (9, 0), (9, 0), (9, 0)] [(0, x3)] _ _ _
  refine zr_pop rfl rfl ?_
  exact H
theorem z97_618 {E : List (List Int)} {d : Nat} {T : zT} {D : zD} {Q : Int → zT → zD → Prop}  (l1 : Int) (l2 : Int) (l3 : Int) (l4 : Int) (l5 : Int) (l6 : Int) (w7 : zv_V) (hw7 : zs_wide w7 = false)
  (H : 0 < d ∧ zk T l1 = 7 ∧ zc E (d - 1) 1 22 [(2, l1), (0, 4), (0, 1), (0, 9), (0, 4)] T D (fun x3 T3 D3 => zj E d 1 97 628 [(2, (-2)), (2, l1), (0, l2), (2, l3), (2, l4), (2, l5), (0, l6), w7, (9, 0), (9, 0), (9, 0), (9, 0)] [] T3 D3 Q)) :
  zj E d 1 97 618 [(2, (-2)), (2, l1), (0, l2), (2, l3), (2, l4), (2, l5), (0, l6), w7, (9, 0), (9, 0), (9, 0), (9, 0)] [] T D Q := by
  refine zr_aload_n rfl rfl ?_
  refine zr_iconst rfl ?_
  refine zr_iconst rfl ?_
  refine zr_bipush rfl ?_
  refine zr_iconst rfl ?_
  obtain ⟨h1, H⟩ := H
  obtain ⟨h2, H⟩ := H
  refine zr_invokevirtual (rt2 := 1) rfl rfl rfl rfl rfl h2 (by decide) h1 (zc_mono H ?_)
  intro x3 T3 D3 H
  show zj _ _ _ _ _ [(2, (-2)), (2, l1), (0, l2), (2, l3), (2, l4), (2, l5), (0, l6), w7, (9, 0), (9, 0), (9, 0), (9, 0)] [(0, x3)] _ _ _
  refine zr_pop rfl rfl ?_
  exact H
theorem z97_628 {E : List (List Int)} {d : Nat} {T : zT} {D : zD} {Q : Int → zT → zD → Prop}  (l1 : Int) (l2 : Int) (l3 : Int) (l4 : Int) (l5 : Int) (l6 : Int) (w7 : zv_V) (hw7 : zs_wide w7 = false)
  (H : 0 < d ∧ zk T l1 = 7 ∧ zc E (d - 1) 1 22 [(2, l1), (0, 1), (0, 4), (0, 3), (0, 4)] T D (fun x3 T3 D3 => zj E d 1 97 637 [(2, (-2)), (2, l1), (0, l2), (2, l3), (2, l4), (2, l5), (0, l6), w7, (9, 0), (9, 0), (9, 0), (9, 0)] [] T3 D3 Q)) :
  zj E d 1 97 628 [(2, (-2)), (2, l1), (0, l2), (2, l3), (2, l4), (2, l5), (0, l6), w7, (9, 0), (9, 0), (9, 0), (9, 0)] [] T D Q := by
  refine zr_aload_n rfl rfl ?_
  refine zr_iconst rfl ?_
  refine zr_iconst rfl ?_
  refine zr_iconst rfl ?_
  refine zr_iconst rfl ?_
  obtain ⟨h1, H⟩ := H
  obtain ⟨h2, H⟩ := H
  refine zr_invokevirtual (rt2 := 1) rfl rfl rfl rfl rfl h2 (by decide) h1 (zc_mono H ?_)
  intro x3 T3 D3 H
  show zj _ _ _ _ _ [(2, (-2)), (2, l1), (0, l2), (2, l3), (2, l4), (2, l5), (0, l6), w7, (9, 0), (9, 0), (9, 0), (9, 0)] [(0, x3)] _ _ _
  refine zr_pop rfl rfl ?_
  exact H
theorem z97_637 {E : List (List Int)} {d : Nat} {T : zT} {D : zD} {Q : Int → zT → zD → Prop}  (l1 : Int) (l2 : Int) (l3 : Int) (l4 : Int) (l5 : Int) (l6 : Int) (w7 : zv_V) (hw7 : zs_wide w7 = false)
  (H : 0 < d ∧ zk T l1 = 7 ∧ zc E (d - 1) 1 20 [(2, l1), (0, 4)] T D (fun x3 T3 D3 => zin x3 ∧ ((x3 = (-1) → zj E d 1 97 648 [(2, (-2)), (2, l1), (0, l2), (2, l3), (2, l4), (2, l5), (0, l6), w7, (9, 0), (9, 0), (9, 0), (9, 0)] [] T3 D3 Q) ∧ (x3 ≠ (-1) → Q 0 T3 D3)))) :
  zj E d 1 97 637 [(2, (-2)), (2, l1), (0, l2), (2, l3), (2, l4), (2, l5), (0, l6), w7, (9, 0), (9, 0), (9, 0), (9, 0)] [] T D Q := by
  refine zr_aload_n rfl rfl ?_
  refine zr_iconst rfl ?_
  obtain ⟨h1, H⟩ := H
  obtain ⟨h2, H⟩ := H
  refine zr_invokevirtual (rt2 := 1) rfl rfl rfl rfl rfl h2 (by decide) h1 (zc_mono H ?_)
  intro x3 T3 D3 H
  show zj _ _ _ _ _ [(2, (-2)), (2, l1), (0, l2), (2, l3), (2, l4), (2, l5), (0, l6), w7, (9, 0), (9, 0), (9, 0), (9, 0)] [(0, x3)] _ _ _
  refine zr_iconst rfl ?_
  obtain ⟨h4, H⟩ := H
  refine zr_icmp_eq rfl h4 (zin_c (by decide)) (fun hc => ?_) (fun hc => ?_)
  · replace H := H.1 hc
    exact H
  · replace H := H.2 hc
    refine zr_iconst rfl ?_
    exact zr_ireturn rfl rfl rfl H
theorem z97_648 {E : List (List Int)} {d : Nat} {T : zT} {D : zD} {Q : Int → zT → zD → Prop}  (l1 : Int) (l2 : Int) (l3 : Int) (l4 : Int) (l5 : Int) (l6 : Int) (w7 : zv_V) (hw7 : zs_wide w7 = false)
  (H : 0 < d ∧ zk T l1 = 7 ∧ zc E (d - 1) 1 22 [(2, l1), (0, 2), (0, 0), (0, 1), (0, 6)] T D (fun x3 T3 D3 => zj E d 1 97 658 [(2, (-2)), (2, l1), (0, l2), (2, l3), (2, l4), (2, l5), (0, l6), w7, (9, 0), (9, 0), (9, 0), (9, 0)] [] T3 D3 Q)) :
  zj E d 1 97 648 [(2, (-2)), (2, l1), (0, l2), (2, l3), (2, l4), (2, l5), (0, l6), w7, (9, 0), (9, 0), (9, 0), (9, 0)] [] T D Q := by
  refine zr_aload_n rfl rfl ?_
  refine zr_iconst rfl ?_
  refine zr_iconst rfl ?_
  refine zr_iconst rfl ?_
  refine zr_bipush rfl ?_
  obtain ⟨h1, H⟩ := H
  obtain ⟨h2, H⟩ := H
  refine zr_invokevirtual (rt2 := 1) rfl rfl rfl rfl rfl h2 (by decide) h1 (zc_mono H ?_)
  intro x3 T3 D3 H
  show zj _ _ _ _ _ [(2, (-2)), (2, l1), (0, l2), (2, l3), (2, l4), (2, l5), (0, l6), w7, (9, 0), (9, 0), (9, 0), (9, 0)] [(0, x3)] _ _ _
  refine zr_pop rfl rfl ?_
  exact H
theorem z97_658 {E : List (List Int)} {d : Nat} {T : zT} {D : zD} {Q : Int → zT → zD → Prop}  (l1 : Int) (l2 : Int) (l3 : Int) (l4 : Int) (l5 : Int) (l6 : Int) (w7 : zv_V) (hw7 : zs_wide w7 = false)
  (H : 0 < d ∧ zk T l1 = 7 ∧ zc E (d - 1) 1 20 [(2, l1), (0, 6)] T D (fun x3 T3 D3 => zin x3 ∧ ((x3 ≥ 0 → zj E d 1 97 688 [(2, (-2)), (2, l1), (0, l2), (2, l3), (2, l4), (2, l5), (0, l6), w7, (9, 0), (9, 0), (9, 0), (9, 0)] [] T3 D3 Q) ∧ (x3 < 0 → zj E d 1 97 667 [(2, (-2)), (2, l1), (0, l2), (2, l3), (2, l4), (2, l5), (0, l6), w7, (9, 0), (9, 0), (9, 0), (9, 0)] [] T3 D3 Q)))) :
  zj E d 1 97 658 [(2, (-2)), (2, l1), (0, l2), (2, l3), (2, l4), (2, l5), (0, l6), w7, (9, 0), (9, 0), (9, 0), (9, 0)] [] T D Q := by
  refine zr_aload_n rfl rfl ?_
  refine zr_bipush rfl ?_
  obtain ⟨h1, H⟩ := H
  obtain ⟨h2, H⟩ := H
  refine zr_invokevirtual (rt2 := 1) rfl rfl rfl rfl rfl h2 (by decide) h1 (zc_mono H ?_)
  intro x3 T3 D3 H
  show zj _ _ _ _ _ [(2, (-2)), (2, l1), (0, l2), (2, l3), (2, l4), (2, l5), (0, l6), w7, (9, 0), (9, 0), (9, 0), (9, 0)] [(0, x3)] _ _ _
  obtain ⟨h4, H⟩ := H
  refine zr_if_ge rfl h4 (fun hc => ?_) (fun hc => ?_)
  · replace H := H.1 hc
    exact H
  · replace H := H.2 hc
    exact H
theorem z97_667 {E : List (List Int)} {d : Nat} {T : zT} {D : zD} {Q : Int → zT → zD → Prop}  (l1 : Int) (l2 : Int) (l3 : Int) (l4 : Int) (l5 : Int) (l6 : Int) (w7 : zv_V) (hw7 : zs_wide w7 = false)
  (H : 0 < d ∧ zc E (d - 1) 1 94 [(2, l3)] T D (fun x2 T2 D2 => zin x2 ∧ ((x2 < 0 → Q 1 T2 D2) ∧ (x2 ≥ 0 → zj E d 1 97 674 [(2, (-2)), (2, l1), (0, l2), (2, l3), (2, l4), (2, l5), (0, l6), w7, (9, 0), (9, 0), (9, 0), (9, 0)] [] T2 D2 Q)))) :
  zj E d 1 97 667 [(2, (-2)), (2, l1), (0, l2), (2, l3), (2, l4), (2, l5), (0, l6), w7, (9, 0), (9, 0), (9, 0), (9, 0)] [] T D Q := by
  refine zr_aload_n rfl rfl ?_
  obtain ⟨h1, H⟩ := H
  refine zr_invokestatic (rt2 := 1) rfl rfl rfl rfl rfl h1 (zc_mono H ?_)
  intro x2 T2 D2 H
  show zj _ _ _ _ _ [(2, (-2)), (2, l1), (0, l2), (2, l3), (2, l4), (2, l5), (0, l6), w7, (9, 0), (9, 0), (9, 0), (9, 0)] [(0, x2)] _ _ _
  obtain ⟨h3, H⟩ := H
  refine zr_if_lt rfl h3 (fun hc => ?_) (fun hc => ?_)
  · replace H := H.1 hc
    refine zr_iconst rfl ?_
    refine zr_goto rfl ?_
    exact zr_ireturn rfl rfl rfl H
  · replace H := H.2 hc
    exact H
theorem z97_674 {E : List (List Int)} {d : Nat} {T : zT} {D : zD} {Q : Int → zT → zD → Prop}  (l1 : Int) (l2 : Int) (l3 : Int) (l4 : Int) (l5 : Int) (l6 : Int) (w7 : zv_V) (hw7 : zs_wide w7 = false)
  (H : 0 < d ∧ zc E (d - 1) 1 94 [(2, l4)] T D (fun x2 T2 D2 => zin x2 ∧ ((x2 ≥ 0 → Q 0 T2 D2) ∧ (x2 < 0 → Q 1 T2 D2)))) :
  zj E d 1 97 674 [(2, (-2)), (2, l1), (0, l2), (2, l3), (2, l4), (2, l5), (0, l6), w7, (9, 0), (9, 0), (9, 0), (9, 0)] [] T D Q := by
  refine zr_aload rfl rfl ?_
  obtain ⟨h1, H⟩ := H
  refine zr_invokestatic (rt2 := 1) rfl rfl rfl rfl rfl h1 (zc_mono H ?_)
  intro x2 T2 D2 H
  show zj _ _ _ _ _ [(2, (-2)), (2, l1), (0, l2), (2, l3), (2, l4), (2, l5), (0, l6), w7, (9, 0), (9, 0), (9, 0), (9, 0)] [(0, x2)] _ _ _
  obtain ⟨h3, H⟩ := H
  refine zr_if_ge rfl h3 (fun hc => ?_) (fun hc => ?_)
  · replace H := H.1 hc
    refine zr_iconst rfl ?_
    exact zr_ireturn rfl rfl rfl H
  · replace H := H.2 hc
    refine zr_iconst rfl ?_
    refine zr_goto rfl ?_
    exact zr_ireturn rfl rfl rfl H
theorem z97_688 {E : List (List Int)} {d : Nat} {T : zT} {D : zD} {Q : Int → zT → zD → Prop}  (l1 : Int) (l2 : Int) (l3 : Int) (l4 : Int) (l5 : Int) (l6 : Int) (w7 : zv_V) (hw7 : zs_wide w7 = false)
  (H : 0 < d ∧ zk T l1 = 7 ∧ zc E (d - 1) 1 57 [(2, l1), (0, 6)] T D (fun x3 T3 D3 => zj E d 1 97 696 [(2, (-2)), (2, l1), (0, l2), (2, l3), (2, l4), (2, l5), (0, l6), (0, x3), (9, 0), (9, 0), (9, 0), (9, 0)] [] T3 D3 Q)) :
  zj E d 1 97 688 [(2, (-2)), (2, l1), (0, l2), (2, l3), (2, l4), (2, l5), (0, l6), w7, (9, 0), (9, 0), (9, 0), (9, 0)] [] T D Q := by
  refine zr_aload_n rfl rfl ?_
  refine zr_bipush rfl ?_
  obtain ⟨h1, H⟩ := H
  obtain ⟨h2, H⟩ := H
  refine zr_invokevirtual (rt2 := 1) rfl rfl rfl rfl rfl h2 (by decide) h1 (zc_mono H ?_)
  intro x3 T3 D3 H
  show zj _ _ _ _ _ [(2, (-2)), (2, l1), (0, l2), (2, l3), (2, l4), (2, l5), (0, l6), w7, (9, 0), (9, 0), (9, 0), (9, 0)] [(0, x3)] _ _ _
  refine zr_istore rfl rfl ?_
  show zj _ _ _ _ _ [(2, (-2)), (2, l1), (0, l2), (2, l3), (2, l4), (2, l5), (0, l6), (0, x3), (9, 0), (9, 0), (9, 0), (9, 0)] [] _ _ _
  exact H
theorem z97_696 {E : List (List Int)} {d : Nat} {T : zT} {D : zD} {Q : Int → zT → zD → Prop}  (l1 : Int) (l2 : Int) (l3 : Int) (l4 : Int) (l5 : Int) (l6 : Int) (l7 : Int) 
  (H : zj E d 1 97 702 [(2, (-2)), (2, l1), (0, l2), (2, l3), (2, l4), (2, l5), (0, l6), (0, l7), (2, (T.length : Int)), (9, 0), (9, 0), (9, 0)] [] (T ++ [(50, (60 : Int).toNat)]) (znew D T.length (List.replicate (60 : Int).toNat 0)) Q) :
  zj E d 1 97 696 [(2, (-2)), (2, l1), (0, l2), (2, l3), (2, l4), (2, l5), (0, l6), (0, l7), (9, 0), (9, 0), (9, 0), (9, 0)] [] T D Q := by
  refine zr_bipush rfl ?_
  refine zr_newarray rfl (by decide) (by decide) ?_
  refine zr_astore rfl rfl ?_
  show zj _ _ _ _ _ [(2, (-2)), (2, l1), (0, l2), (2, l3), (2, l4), (2, l5), (0, l6), (0, l7), (2, (T.length : Int)), (9, 0), (9, 0), (9, 0)] [] _ _ _
  exact H
theorem z97_702 {E : List (List Int)} {d : Nat} {T : zT} {D : zD} {Q : Int → zT → zD → Prop}  (l1 : Int) (l2 : Int) (l3 : Int) (l4 : Int) (l5 : Int) (l6 : Int) (l7 : Int) (l8 : Int) 
  (H : 0 < d ∧ zk T l1 = 7 ∧ zc E (d - 1) 1 20 [(2, l1), (0, 6)] T D (fun x3 T3 D3 => zk T3 l1 = 7 ∧ zc E (d - 1) 1 16 [(2, l1), (0, 6), (0, x3)] T3 D3 (fun x5 T5 D5 => zar T5 l8 50 0 ∧ zj E d 1 97 718 [(2, (-2)), (2, l1), (0, l2), (2, l3), (2, l4), (2, l5), (0, l6), (0, l7), (2, l8), (9, 0), (9, 0), (9, 0)] [] T5 (zu D5 l8 0 x5) Q))) :
  zj E d 1 97 702 [(2, (-2)), (2, l1), (0, l2), (2, l3), (2, l4), (2, l5), (0, l6), (0, l7), (2, l8), (9, 0), (9, 0), (9, 0)] [] T D Q := by
  refine zr_aload rfl rfl ?_
  refine zr_iconst rfl ?_
  refine zr_aload_n rfl rfl ?_
  refine zr_bipush rfl ?_
  refine zr_aload_n rfl rfl ?_
  refine zr_bipush rfl ?_
  obtain ⟨h1, H⟩ := H
  obtain ⟨h2, H⟩ := H
  refine zr_invokevirtual (rt2 := 1) rfl rfl rfl rfl rfl h2 (by decide) h1 (zc_mono H ?_)
  intro x3 T3 D3 H
  show zj _ _ _ _ _ [(2, (-2)), (2, l1), (0, l2), (2, l3), (2, l4), (2, l5), (0, l6), (0, l7), (2, l8), (9, 0), (9, 0), (9, 0)] [(0, x3), (0, 6), (2, l1), (0, 0), (2, l8)] _ _ _
  obtain ⟨h4, H⟩ := H
  refine zr_invokevirtual (rt2 := 1) rfl rfl rfl rfl rfl h4 (by decide) h1 (zc_mono H ?_)
  intro x5 T5 D5 H
  show zj _ _ _ _ _ [(2, (-2)), (2, l1), (0, l2), (2, l3), (2, l4), (2, l5), (0, l6), (0, l7), (2, l8), (9, 0), (9, 0), (9, 0)] [(0, x5), (0, 0), (2, l8)] _ _ _
  obtain ⟨h6, H⟩ := H
  refine zr_iastore rfl h6 ?_
  exact H
theorem z97_718 {E : List (List Int)} {d : Nat} {T : zT} {D : zD} {Q : Int → zT → zD → Prop}  (l1 : Int) (l2 : Int) (l3 : Int) (l4 : Int) (l5 : Int) (l6 : Int) (l7 : Int) (l8 : Int) 
  (H : zj E d 1 97 721 [(2, (-2)), (2, l1), (0, l2), (2, l3), (2, l4), (2, l5), (0, l6), (0, l7), (2, l8), (0, 0), (9, 0), (9, 0)] [] T D Q) :
  zj E d 1 97 718 [(2, (-2)), (2, l1), (0, l2), (2, l3), (2, l4), (2, l5), (0, l6), (0, l7), (2, l8), (9, 0), (9, 0), (9, 0)] [] T D Q := by
  refine zr_iconst rfl ?_
  refine zr_istore rfl rfl ?_
  show zj _ _ _ _ _ [(2, (-2)), (2, l1), (0, l2), (2, l3), (2, l4), (2, l5), (0, l6), (0, l7), (2, l8), (0, 0), (9, 0), (9, 0)] [] _ _ _
  exact H
theorem z97_721 {E : List (List Int)} {d : Nat} {T : zT} {D : zD} {Q : Int → zT → zD → Prop}  (l1 : Int) (l2 : Int) (l3 : Int) (l4 : Int) (l5 : Int) (l6 : Int) (l7 : Int) (l8 : Int) (l9 : Int) (w10 : zv_V) (w11 : zv_V) (hw10 : zs_wide w10 = false) (hw11 : zs_wide w11 = false)
  (H : zin l9 ∧ zin l7 ∧ ((l9 ≥ l7 → zj E d 1 97 864 [(2, (-2)), (2, l1), (0, l2), (2, l3), (2, l4), (2, l5), (0, l6), (0, l7), (2, l8), (0, l9), w10, w11] [] T D Q) ∧ (l9 < l7 → zj E d 1 97 728 [(2, (-2)), (2, l1), (0, l2), (2, l3), (2, l4), (2, l5), (0, l6), (0, l7), (2, l8), (0, l9), w10, w11] [] T D Q))) :
  zj E d 1 97 721 [(2, (-2)), (2, l1), (0, l2), (2, l3), (2, l4), (2, l5), (0, l6), (0, l7), (2, l8), (0, l9), w10, w11] [] T D Q := by
  refine zr_iload rfl rfl ?_
  refine zr_iload rfl rfl ?_
  obtain ⟨h1, H⟩ := H
  obtain ⟨h2, H⟩ := H
  refine zr_icmp_ge rfl h1 h2 (fun hc => ?_) (fun hc => ?_)
  · replace H := H.1 hc
    exact H
  · replace H := H.2 hc
    exact H
theorem z97_728 {E : List (List Int)} {d : Nat} {T : zT} {D : zD} {Q : Int → zT → zD → Prop}  (l1 : Int) (l2 : Int) (l3 : Int) (l4 : Int) (l5 : Int) (l6 : Int) (l7 : Int) (l8 : Int) (l9 : Int) (w10 : zv_V) (w11 : zv_V) (hw10 : zs_wide w10 = false) (hw11 : zs_wide w11 = false)
  (H : 0 < d ∧ zk T l1 = 7 ∧ zc E (d - 1) 1 87 [(2, l1), (0, l9), (0, 7)] T D (fun x3 T3 D3 => zj E d 1 97 737 [(2, (-2)), (2, l1), (0, l2), (2, l3), (2, l4), (2, l5), (0, l6), (0, l7), (2, l8), (0, l9), w10, w11] [] T3 D3 Q)) :
  zj E d 1 97 728 [(2, (-2)), (2, l1), (0, l2), (2, l3), (2, l4), (2, l5), (0, l6), (0, l7), (2, l8), (0, l9), w10, w11] [] T D Q := by
  refine zr_aload_n rfl rfl ?_
  refine zr_iload rfl rfl ?_
  refine zr_bipush rfl ?_
  obtain ⟨h1, H⟩ := H
  obtain ⟨h2, H⟩ := H
  refine zr_invokevirtual (rt2 := 1) rfl rfl rfl rfl rfl h2 (by decide) h1 (zc_mono H ?_)
  intro x3 T3 D3 H
  show zj _ _ _ _ _ [(2, (-2)), (2, l1), (0, l2), (2, l3), (2, l4), (2, l5), (0, l6), (0, l7), (2, l8), (0, l9), w10, w11] [(0, x3)] _ _ _
  refine zr_pop rfl rfl ?_
  exact H
theorem z97_737 {E : List (List Int)} {d : Nat} {T : zT} {D : zD} {Q : Int → zT → zD → Prop}  (l1 : Int) (l2 : Int) (l3 : Int) (l4 : Int) (l5 : Int) (l6 : Int) (l7 : Int) (l8 : Int) (l9 : Int) (w10 : zv_V) (w11 : zv_V) (hw10 : zs_wide w10 = false) (hw11 : zs_wide w11 = false)
  (H : zj E d 1 97 743 [(2, (-2)), (2, l1), (0, l2), (2, l3), (2, l4), (2, l5), (0, l6), (0, l7), (2, l8), (0, l9), (2, (T.length : Int)), w11] [] (T ++ [(50, (60 : Int).toNat)]) (znew D T.length (List.replicate (60 : Int).toNat 0)) Q) :
  zj E d 1 97 737 [(2, (-2)), (2, l1), (0, l2), (2, l3), (2, l4), (2, l5), (0, l6), (0, l7), (2, l8), (0, l9), w10, w11] [] T D Q := by
  refine zr_bipush rfl ?_
  refine zr_newarray rfl (by decide) (by decide) ?_
  refine zr_astore rfl rfl ?_
  show zj _ _ _ _ _ [(2, (-2)), (2, l1), (0, l2), (2, l3), (2, l4), (2, l5), (0, l6), (0, l7), (2, l8), (0, l9), (2, (T.length : Int)), w11] [] _ _ _
  exact H
theorem z97_743 {E : List (List Int)} {d : Nat} {T : zT} {D : zD} {Q : Int → zT → zD → Prop}  (l1 : Int) (l2 : Int) (l3 : Int) (l4 : Int) (l5 : Int) (l6 : Int) (l7 : Int) (l8 : Int) (l9 : Int) (l10 : Int) (w11 : zv_V) (hw11 : zs_wide w11 = false)
  (H : zj E d 1 97 746 [(2, (-2)), (2, l1), (0, l2), (2, l3), (2, l4), (2, l5), (0, l6), (0, l7), (2, l8), (0, l9), (2, l10), (0, 0)] [] T D Q) :
  zj E d 1 97 743 [(2, (-2)), (2, l1), (0, l2), (2, l3), (2, l4), (2, l5), (0, l6), (0, l7), (2, l8), (0, l9), (2, l10), w11] [] T D Q := by
  refine zr_iconst rfl ?_
  refine zr_istore rfl rfl ?_
  show zj _ _ _ _ _ [(2, (-2)), (2, l1), (0, l2), (2, l3), (2, l4), (2, l5), (0, l6), (0, l7), (2, l8), (0, l9), (2, l10), (0, 0)] [] _ _ _
  exact H
theorem z97_746 {E : List (List Int)} {d : Nat} {T : zT} {D : zD} {Q : Int → zT → zD → Prop}  (l1 : Int) (l2 : Int) (l3 : Int) (l4 : Int) (l5 : Int) (l6 : Int) (l7 : Int) (l8 : Int) (l9 : Int) (l10 : Int) (l11 : Int) 
  (H : zin l11 ∧ ((l11 > 24 → zj E d 1 97 772 [(2, (-2)), (2, l1), (0, l2), (2, l3), (2, l4), (2, l5), (0, l6), (0, l7), (2, l8), (0, l9), (2, l10), (0, l11)] [] T D Q) ∧ (l11 ≤ 24 → 0 < d ∧ zk T l1 = 7 ∧ zc E (d - 1) 1 16 [(2, l1), (0, 7), (0, l11)] T D (fun x4 T4 D4 => zar T4 l10 50 l11 ∧ zj E d 1 97 746 [(2, (-2)), (2, l1), (0, l2), (2, l3), (2, l4), (2, l5), (0, l6), (0, l7), (2, l8), (0, l9), (2, l10), (0, l11 + 1)] [] T4 (zu D4 l10 l11 x4) Q)))) :
  zj E d 1 97 746 [(2, (-2)), (2, l1), (0, l2), (2, l3), (2, l4), (2, l5), (0, l6), (0, l7), (2, l8), (0, l9), (2, l10), (0, l11)] [] T D Q := by
  refine zr_iload rfl rfl ?_
  refine zr_bipush rfl ?_
  obtain ⟨h1, H⟩ := H
  refine zr_icmp_gt rfl h1 (zin_c (by decide)) (fun hc => ?_) (fun hc => ?_)
  · replace H := H.1 hc
    exact H
  · replace H := H.2 hc
    refine zr_aload rfl rfl ?_
    refine zr_iload rfl rfl ?_
    refine zr_aload_n rfl rfl ?_
    refine zr_bipush rfl ?_
    refine zr_iload rfl rfl ?_
    obtain ⟨h2, H⟩ := H
    obtain ⟨h3, H⟩ := H
    refine zr_invokevirtual (rt2 := 1) rfl rfl rfl rfl rfl h3 (by decide) h2 (zc_mono H ?_)
    intro x4 T4 D4 H
    show zj _ _ _ _ _ [(2, (-2)), (2, l1), (0, l2), (2, l3), (2, l4), (2, l5), (0, l6), (0, l7), (2, l8), (0, l9), (2, l10), (0, l11)] [(0, x4), (0, l11), (2, l10)] _ _ _
    obtain ⟨h5, H⟩ := H
    refine zr_iastore rfl h5 ?_
    refine zr_iinc rfl rfl rfl ?_
    show zj _ _ _ _ _ [(2, (-2)), (2, l1), (0, l2), (2, l3), (2, l4), (2, l5), (0, l6), (0, l7), (2, l8), (0, l9), (2, l10), (0, l11 + 1)] [] _ _ _
    refine zr_goto rfl ?_
    exact H
theorem z97_772 {E : List (List Int)} {d : Nat} {T : zT} {D : zD} {Q : Int → zT → zD → Prop}  (l1 : Int) (l2 : Int) (l3 : Int) (l4 : Int) (l5 : Int) (l6 : Int) (l7 : Int) (l8 : Int) (l9 : Int) (l10 : Int) (l11 : Int) 
  (H : 0 < d ∧ zk T l1 = 7 ∧ zc E (d - 1) 1 88 [(2, l1), (0, 7)] T D (fun x3 T3 D3 => zin x3 ∧ ((x3 = 0 → Q 0 T3 D3) ∧ (x3 ≠ 0 → zj E d 1 97 781 [(2, (-2)), (2, l1), (0, l2), (2, l3), (2, l4), (2, l5), (0, l6), (0, l7), (2, l8), (0, l9), (2, l10), (0, l11)] [] T3 D3 Q)))) :
  zj E d 1 97 772 [(2, (-2)), (2, l1), (0, l2), (2, l3), (2, l4), (2, l5), (0, l6), (0, l7), (2, l8), (0, l9), (2, l10), (0, l11)] [] T D Q := by
  refine zr_aload_n rfl rfl ?_
  refine zr_bipush rfl ?_
  obtain ⟨h1, H⟩ := H
  obtain ⟨h2, H⟩ := H
  refine zr_invokevirtual (rt2 := 1) rfl rfl rfl rfl rfl h2 (by decide) h1 (zc_mono H ?_)
  intro x3 T3 D3 H
  show zj _ _ _ _ _ [(2, (-2)), (2, l1), (0, l2), (2, l3), (2, l4), (2, l5), (0, l6), (0, l7), (2, l8), (0, l9), (2, l10), (0, l11)] [(0, x3)] _ _ _
  obtain ⟨h4, H⟩ := H
  refine zr_if_eq rfl h4 (fun hc => ?_) (fun hc => ?_)
  · replace H := H.1 hc
    refine zr_iconst rfl ?_
    exact zr_ireturn rfl rfl rfl H
  · replace H := H.2 hc
    exact H
theorem z97_781 {E : List (List Int)} {d : Nat} {T : zT} {D : zD} {Q : Int → zT → zD → Prop}  (l1 : Int) (l2 : Int) (l3 : Int) (l4 : Int) (l5 : Int) (l6 : Int) (l7 : Int) (l8 : Int) (l9 : Int) (l10 : Int) (l11 : Int) 
  (H : 0 < d ∧ zc E (d - 1) 1 94 [(2, l10)] T D (fun x2 T2 D2 => zar T2 l10 50 x2 ∧ zin (D2 l10 x2) ∧ (((D2 l10 x2) = 1 → zj E d 1 97 795 [(2, (-2)), (2, l1), (0, l2), (2, l3), (2, l4), (2, l5), (0, l6), (0, l7), (2, l8), (0, l9), (2, l10), (0, l11)] [] T2 D2 Q) ∧ ((D2 l10 x2) ≠ 1 → Q 0 T2 D2)))) :
  zj E d 1 97 781 [(2, (-2)), (2, l1), (0, l2), (2, l3), (2, l4), (2, l5), (0, l6), (0, l7), (2, l8), (0, l9), (2, l10), (0, l11)] [] T D Q := by
  refine zr_aload rfl rfl ?_
  refine zr_aload rfl rfl ?_
  obtain ⟨h1, H⟩ := H
  refine zr_invokestatic (rt2 := 1) rfl rfl rfl rfl rfl h1 (zc_mono H ?_)
  intro x2 T2 D2 H
  show zj _ _ _ _ _ [(2, (-2)), (2, l1), (0, l2), (2, l3), (2, l4), (2, l5), (0, l6), (0, l7), (2, l8), (0, l9), (2, l10), (0, l11)] [(0, x2), (2, l10)] _ _ _
  obtain ⟨h3, H⟩ := H
  refine zr_iaload rfl h3 ?_
  refine zr_iconst rfl ?_
  obtain ⟨h4, H⟩ := H
  refine zr_icmp_eq rfl h4 (zin_c (by decide)) (fun hc => ?_) (fun hc => ?_)
  · replace H := H.1 hc
    exact H
  · replace H := H.2 hc
    refine zr_iconst rfl ?_
    exact zr_ireturn rfl rfl rfl H
theorem z97_795 {E : List (List Int)} {d : Nat} {T : zT} {D : zD} {Q : Int → zT → zD → Prop}  (l1 : Int) (l2 : Int) (l3 : Int) (l4 : Int) (l5 : Int) (l6 : Int) (l7 : Int) (l8 : Int) (l9 : Int) (l10 : Int) (l11 : Int) 
  (H : 0 < d ∧ zk T l1 = 7 ∧ zc E (d - 1) 1 43 [(2, l1), (0, 0), (0, 7), (0, 8), (0, 9)] T D (fun x3 T3 D3 => zin x3 ∧ ((x3 = (-1) → zj E d 1 97 827 [(2, (-2)), (2, l1), (0, l2), (2, l3), (2, l4), (2, l5), (0, l6), (0, l7), (2, l8), (0, l9), (2, l10), (0, l11)] [] T3 D3 Q) ∧ (x3 ≠ (-1) → zj E d 1 97 810 [(2, (-2)), (2, l1), (0, l2), (2, l3), (2, l4), (2, l5), (0, l6), (0, l7), (2, l8), (0, l9), (2, l10), (0, l11)] [] T3 D3 Q)))) :
  zj E d 1 97 795 [(2, (-2)), (2, l1), (0, l2), (2, l3), (2, l4), (2, l5), (0, l6), (0, l7), (2, l8), (0, l9), (2, l10), (0, l11)] [] T D Q := by
  refine zr_aload_n rfl rfl ?_
  refine zr_iconst rfl ?_
  refine zr_bipush rfl ?_
  refine zr_bipush rfl ?_
  refine zr_bipush rfl ?_
  obtain ⟨h1, H⟩ := H
  obtain ⟨h2, H⟩ := H
  refine zr_invokevirtual (rt2 := 1) rfl rfl rfl rfl rfl h2 (by decide) h1 (zc_mono H ?_)
  intro x3 T3 D3 H
  show zj _ _ _ _ _ [(2, (-2)), (2, l1), (0, l2), (2, l3), (2, l4), (2, l5), (0, l6), (0, l7), (2, l8), (0, l9), (2, l10), (0, l11)] [(0, x3)] _ _ _
  refine zr_iconst rfl ?_
  obtain ⟨h4, H⟩ := H
  refine zr_icmp_eq rfl h4 (zin_c (by decide)) (fun hc => ?_) (fun hc => ?_)
  · replace H := H.1 hc
    exact H
  · replace H := H.2 hc
    exact H
theorem z97_810 {E : List (List Int)} {d : Nat} {T : zT} {D : zD} {Q : Int → zT → zD → Prop}  (l1 : Int) (l2 : Int) (l3 : Int) (l4 : Int) (l5 : Int) (l6 : Int) (l7 : Int) (l8 : Int) (l9 : Int) (l10 : Int) (l11 : Int) 
  (H : 0 < d ∧ zk T l1 = 7 ∧ zc E (d - 1) 1 43 [(2, l1), (0, 1), (0, 7), (0, 8), (0, 9)] T D (fun x3 T3 D3 => zin x3 ∧ ((x3 = (-1) → zj E d 1 97 827 [(2, (-2)), (2, l1), (0, l2), (2, l3), (2, l4), (2, l5), (0, l6), (0, l7), (2, l8), (0, l9), (2, l10), (0, l11)] [] T3 D3 Q) ∧ (x3 ≠ (-1) → Q 0 T3 D3)))) :
  zj E d 1 97 810 [(2, (-2)), (2, l1), (0, l2), (2, l3), (2, l4), (2, l5), (0, l6), (0, l7), (2, l8), (0, l9), (2, l10), (0, l11)] [] T D Q := by
  refine zr_aload_n rfl rfl ?_
  refine zr_iconst rfl ?_
  refine zr_bipush rfl ?_
  refine zr_bipush rfl ?_
  refine zr_bipush rfl ?_
  obtain ⟨h1, H⟩ := H
  obtain ⟨h2, H⟩ := H
  refine zr_invokevirtual (rt2 := 1) rfl rfl rfl rfl rfl h2 (by decide) h1 (zc_mono H ?_)
  intro x3 T3 D3 H
  show zj _ _ _ _ _ [(2, (-2)), (2, l1), (0, l2), (2, l3), (2, l4), (2, l5), (0, l6), (0, l7), (2, l8), (0, l9), (2, l10), (0, l11)] [(0, x3)] _ _ _
  refine zr_iconst rfl ?_
  obtain ⟨h4, H⟩ := H
  refine zr_icmp_eq rfl h4 (zin_c (by decide)) (fun hc => ?_) (fun hc => ?_)
  · replace H := H.1 hc
    exact H
  · replace H := H.2 hc
    refine zr_iconst rfl ?_
    exact zr_ireturn rfl rfl rfl H
theorem z97_827 {E : List (List Int)} {d : Nat} {T : zT} {D : zD} {Q : Int → zT → zD → Prop}  (l1 : Int) (l2 : Int) (l3 : Int) (l4 : Int) (l5 : Int) (l6 : Int) (l7 : Int) (l8 : Int) (l9 : Int) (l10 : Int) (l11 : Int) 
  (H : zj E d 1 97 830 [(2, (-2)), (2, l1), (0, l2), (2, l3), (2, l4), (2, l5), (0, l6), (0, l7), (2, l8), (0, l9), (2, l10), (0, 0)] [] T D Q) :
  zj E d 1 97 827 [(2, (-2)), (2, l1), (0, l2), (2, l3), (2, l4), (2, l5), (0, l6), (0, l7), (2, l8), (0, l9), (2, l10), (0, l11)] [] T D Q := by
  refine zr_iconst rfl ?_
  refine zr_istore rfl rfl ?_
  show zj _ _ _ _ _ [(2, (-2)), (2, l1), (0, l2), (2, l3), (2, l4), (2, l5), (0, l6), (0, l7), (2, l8), (0, l9), (2, l10), (0, 0)] [] _ _ _
  exact H
theorem z97_830 {E : List (List Int)} {d : Nat} {T : zT} {D : zD} {Q : Int → zT → zD → Prop}  (l1 : Int) (l2 : Int) (l3 : Int) (l4 : Int) (l5 : Int) (l6 : Int) (l7 : Int) (l8 : Int) (l9 : Int) (l10 : Int) (l11 : Int) 
  (H : 0 < d ∧ zk T l1 = 7 ∧ zc E (d - 1) 1 84 [(2, l1), (0, l9), (0, 1)] T D (fun x3 T3 D3 => zin l11 ∧ zin x3 ∧ ((l11 ≥ x3 → zj E d 1 97 858 [(2, (-2)), (2, l1), (0, l2), (2, l3), (2, l4), (2, l5), (0, l6), (0, l7), (2, l8), (0, l9), (2, l10), (0, l11)] [] T3 D3 Q) ∧ (l11 < x3 → zj E d 1 97 842 [(2, (-2)), (2, l1), (0, l2), (2, l3), (2, l4), (2, l5), (0, l6), (0, l7), (2, l8), (0, l9), (2, l10), (0, l11)] [] T3 D3 Q)))) :
  zj E d 1 97 830 [(2, (-2)), (2, l1), (0, l2), (2, l3), (2, l4), (2, l5), (0, l6), (0, l7), (2, l8), (0, l9), (2, l10), (0, l11)] [] T D Q := by
  refine zr_iload rfl rfl ?_
  refine zr_aload_n rfl rfl ?_
  refine zr_iload rfl rfl ?_
  refine zr_iconst rfl ?_
  obtain ⟨h1, H⟩ := H
  obtain ⟨h2, H⟩ := H
  refine zr_invokevirtual (rt2 := 1) rfl rfl rfl rfl rfl h2 (by decide) h1 (zc_mono H ?_)
  intro x3 T3 D3 H
  show zj _ _ _ _ _ [(2, (-2)), (2, l1), (0, l2), (2, l3), (2, l4), (2, l5), (0, l6), (0, l7), (2, l8), (0, l9), (2, l10), (0, l11)] [(0, x3), (0, l11)] _ _ _
  obtain ⟨h4, H⟩ := H
  obtain ⟨h5, H⟩ := H
  refine zr_icmp_ge rfl h4 h5 (fun hc => ?_) (fun hc => ?_)
  · replace H := H.1 hc
    exact H
  · replace H := H.2 hc
    exact H
theorem z97_842 {E : List (List Int)} {d : Nat} {T : zT} {D : zD} {Q : Int → zT → zD → Prop}  (l1 : Int) (l2 : Int) (l3 : Int) (l4 : Int) (l5 : Int) (l6 : Int) (l7 : Int) (l8 : Int) (l9 : Int) (l10 : Int) (l11 : Int) 
  (H : 0 < d ∧ zc E (d - 1) 2 96 [(2, l8), (2, l10), (0, l2)] T D (fun x2 T2 D2 => zj E d 1 97 830 [(2, (-2)), (2, l1), (0, l2), (2, l3), (2, l4), (2, l5), (0, l6), (0, l7), (2, x2), (0, l9), (2, l10), (0, l11 + 1)] [] T2 D2 Q)) :
  zj E d 1 97 842 [(2, (-2)), (2, l1), (0, l2), (2, l3), (2, l4), (2, l5), (0, l6), (0, l7), (2, l8), (0, l9), (2, l10), (0, l11)] [] T D Q := by
  refine zr_aload rfl rfl ?_
  refine zr_aload rfl rfl ?_
  refine zr_iload_n rfl rfl ?_
  obtain ⟨h1, H⟩ := H
  refine zr_invokestatic (rt2 := 2) rfl rfl rfl rfl rfl h1 (zc_mono H ?_)
  intro x2 T2 D2 H
  show zj _ _ _ _ _ [(2, (-2)), (2, l1), (0, l2), (2, l3), (2, l4), (2, l5), (0, l6), (0, l7), (2, l8), (0, l9), (2, l10), (0, l11)] [(2, x2)] _ _ _
  refine zr_astore rfl rfl ?_
  show zj _ _ _ _ _ [(2, (-2)), (2, l1), (0, l2), (2, l3), (2, l4), (2, l5), (0, l6), (0, l7), (2, x2), (0, l9), (2, l10), (0, l11)] [] _ _ _
  refine zr_iinc rfl rfl rfl ?_
  show zj _ _ _ _ _ [(2, (-2)), (2, l1), (0, l2), (2, l3), (2, l4), (2, l5), (0, l6), (0, l7), (2, x2), (0, l9), (2, l10), (0, l11 + 1)] [] _ _ _
  refine zr_goto rfl ?_
  exact H
theorem z97_858 {E : List (List Int)} {d : Nat} {T : zT} {D : zD} {Q : Int → zT → zD → Prop}  (l1 : Int) (l2 : Int) (l3 : Int) (l4 : Int) (l5 : Int) (l6 : Int) (l7 : Int) (l8 : Int) (l9 : Int) (l10 : Int) (l11 : Int) 
  (H : zj E d 1 97 721 [(2, (-2)), (2, l1), (0, l2), (2, l3), (2, l4), (2, l5), (0, l6), (0, l7), (2, l8), (0, l9 + 1), (2, l10), (0, l11)] [] T D Q) :
  zj E d 1 97 858 [(2, (-2)), (2, l1), (0, l2), (2, l3), (2, l4), (2, l5), (0, l6), (0, l7), (2, l8), (0, l9), (2, l10), (0, l11)] [] T D Q := by
  refine zr_iinc rfl rfl rfl ?_
  show zj _ _ _ _ _ [(2, (-2)), (2, l1), (0, l2), (2, l3), (2, l4), (2, l5), (0, l6), (0, l7), (2, l8), (0, l9 + 1), (2, l10), (0, l11)] [] _ _ _
  refine zr_goto rfl ?_
  exact H
theorem z97_864 {E : List (List Int)} {d : Nat} {T : zT} {D : zD} {Q : Int → zT → zD → Prop}  (l1 : Int) (l2 : Int) (l3 : Int) (l4 : Int) (l5 : Int) (l6 : Int) (l7 : Int) (l8 : Int) (l9 : Int) (w10 : zv_V) (w11 : zv_V) (hw10 : zs_wide w10 = false) (hw11 : zs_wide w11 = false)
  (H : 0 < d ∧ zc E (d - 1) 1 95 [(2, l1), (0, 6), (2, l8)] T D (fun x2 T2 D2 => zin x2 ∧ ((x2 = 0 → Q 0 T2 D2) ∧ (x2 ≠ 0 → zj E d 1 97 875 [(2, (-2)), (2, l1), (0, l2), (2, l3), (2, l4), (2, l5), (0, l6), (0, l7), (2, l8), (0, l9), w10, w11] [] T2 D2 Q)))) :
  zj E d 1 97 864 [(2, (-2)), (2, l1), (0, l2), (2, l3), (2, l4), (2, l5), (0, l6), (0, l7), (2, l8), (0, l9), w10, w11] [] T D Q := by
  refine zr_aload_n rfl rfl ?_
  refine zr_bipush rfl ?_
  refine zr_aload rfl rfl ?_
  obtain ⟨h1, H⟩ := H
  refine zr_invokestatic (rt2 := 1) rfl rfl rfl rfl rfl h1 (zc_mono H ?_)
  intro x2 T2 D2 H
  show zj _ _ _ _ _ [(2, (-2)), (2, l1), (0, l2), (2, l3), (2, l4), (2, l5), (0, l6), (0, l7), (2, l8), (0, l9), w10, w11] [(0, x2)] _ _ _
  obtain ⟨h3, H⟩ := H
  refine zr_if_eq rfl h3 (fun hc => ?_) (fun hc => ?_)
  · replace H := H.1 hc
    refine zr_iconst rfl ?_
    exact zr_ireturn rfl rfl rfl H
  · replace H := H.2 hc
    exact H
theorem z97_875 {E : List (List Int)} {d : Nat} {T : zT} {D : zD} {Q : Int → zT → zD → Prop}  (l1 : Int) (l2 : Int) (l3 : Int) (l4 : Int) (l5 : Int) (l6 : Int) (l7 : Int) (l8 : Int) (l9 : Int) (w10 : zv_V) (w11 : zv_V) (hw10 : zs_wide w10 = false) (hw11 : zs_wide w11 = false)
  (H : 0 < d ∧ zc E (d - 1) 1 95 [(2, l1), (0, 2), (2, l5)] T D (fun x2 T2 D2 => zin x2 ∧ ((x2 = 0 → Q 0 T2 D2) ∧ (x2 ≠ 0 → Q 1 T2 D2)))) :
  zj E d 1 97 875 [(2, (-2)), (2, l1), (0, l2), (2, l3), (2, l4), (2, l5), (0, l6), (0, l7), (2, l8), (0, l9), w10, w11] [] T D Q := by
  refine zr_aload_n rfl rfl ?_
  refine zr_iconst rfl ?_
  refine zr_aload rfl rfl ?_
  obtain ⟨h1, H⟩ := H
  refine zr_invokestatic (rt2 := 1) rfl rfl rfl rfl rfl h1 (zc_mono H ?_)
  intro x2 T2 D2 H
  show zj _ _ _ _ _ [(2, (-2)), (2, l1), (0, l2), (2, l3), (2, l4), (2, l5), (0, l6), (0, l7), (2, l8), (0, l9), w10, w11] [(0, x2)] _ _ _
  obtain ⟨h3, H⟩ := H
  refine zr_if_eq rfl h3 (fun hc => ?_) (fun hc => ?_)
  · replace H := H.1 hc
    refine zr_iconst rfl ?_
    exact zr_ireturn rfl rfl rfl H
  · replace H := H.2 hc
    refine zr_iconst rfl ?_
    refine zr_goto rfl ?_
    exact zr_ireturn rfl rfl rfl H
