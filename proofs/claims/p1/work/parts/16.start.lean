/-! The claim out of the walk: what holds at the law's entry is what the walk asks. -/
theorem zx_lw {args : Array Value} {s : State} (hts : ∀ w ∈ lw_tbl, w.before args s = true) : ∀ w ∈ zx_TB, w.before args s = true := fun w hw => hts w (List.mem_filter.mp hw).1
def zx_instB (C : String) : Bool := lw_tbl.any (fun w => match w with
  | .instantiable C' _ => C' == C
  | _ => false)
theorem zx_inst1 {C : String} (h : zx_instB C = true) : ∃ n, Cond.instantiable C n ∈ lw_tbl := by
  obtain ⟨w, hw, e⟩ := List.any_eq_true.mp h
  split at e
  · rename_i C' n
    exact ⟨n, (beq_iff_eq.mp e) ▸ hw⟩
  · cases e
theorem zx_instA : (zvCl.all (fun r => zx_instB r.1)) = true := by decide +kernel
theorem zx_Kn {args : Array Value} {s : State} (hts : ∀ w ∈ lw_tbl, w.before args s = true) : ∃ D : va_G, ∀ (c : Nat) (q : vw_C), zvCl[c]? = some q → u_Kn s q.1 q.2.1 q.2.2 (D.1 c) (D.2 c) := by
  have h : ∀ c : Nat, ∃ d : ClassId × (Nat → Nat), ∀ q : vw_C, zvCl[c]? = some q → u_Kn s q.1 q.2.1 q.2.2 d.1 d.2 := by
    intro c
    cases hq : zvCl[c]? with
    | none => exact ⟨(0, fun _ => 0), fun q h => by cases h⟩
    | some r =>
      obtain ⟨n, hn⟩ := zx_inst1 (List.all_eq_true.mp zx_instA r (List.mem_of_getElem? hq))
      obtain ⟨cC, iS, h⟩ := u_known (zx_lw hts) (zx_in c r hq) (hts _ hn)
      exact ⟨(cC, iS), fun q h' => by cases h'; exact h⟩
  exact ⟨(fun c => (Classical.choose (h c)).1, fun c => (Classical.choose (h c)).2), fun c q hq => Classical.choose_spec (h c) q hq⟩
theorem zx_arrI {args : Array Value} {s : State} (h : (Cond.arrayClass .int).before args s = true) : ∃ cA, ArrOfT s cA .int ∧ va_RA s cA .int := by
  obtain ⟨c, k, comp, h1, h2, h3⟩ := Cond.arrayClass_spec h
  exact ⟨c, fun n z => ⟨fun k h => (by cases h), k, h2, comp, h3⟩, h1⟩
theorem zx_arrL {args : Array Value} {s : State} (h : (Cond.arrayClass .long).before args s = true) : ∃ cA, ArrOfT s cA .long ∧ va_RA s cA .long := by
  obtain ⟨c, k, comp, h1, h2, h3⟩ := Cond.arrayClass_spec h
  exact ⟨c, fun n z => ⟨fun k h => (by cases h), k, h2, comp, h3⟩, h1⟩
theorem zx_arrO {C : String} {args : Array Value} {s : State} (h : (Cond.arrayOver (.object C)).before args s = true) : ∃ cA, ArrOfT s cA (.object C) ∧ va_RA s cA (.object C) := by
  obtain ⟨comp, c, k, h1, -, h2, h3, h4⟩ := Cond.arrayOver_spec h
  exact ⟨c, fun n z => ⟨fun k h => (by cases h), k, h2, comp, h3⟩, k, comp, h2, h3, h1, h4⟩
def zx_mem (ws : List Cond) (w : Cond) : Bool := ws.any (fun w' => decide (w' = w))
theorem zx_mem_of {ws : List Cond} {w : Cond} (h : zx_mem ws w = true) : w ∈ ws := by
  obtain ⟨w', hw, e⟩ := List.any_eq_true.mp h
  exact of_decide_eq_true e ▸ hw
theorem zx_nestA : (zx_nest.all (fun q => zx_mem lw_tbl (.fieldLinkNest q.1 q.2.1 q.2.2.1 q.2.2.2.1 q.2.2.2.2.1 q.2.2.2.2.2))) = true := by decide +kernel
theorem zx_castA : (zx_cast.all (fun q => zx_mem lw_tbl (.castable q.1 q.2))) = true := by decide +kernel
theorem zx_declA : (zx_decl.all (fun q => zx_mem lw_tbl (.declares q))) = true := by decide +kernel
theorem zx_strsA : (zx_strs.all (fun q => zx_mem lw_tbl (.stringRef q.1 q.2.1 q.2.2) && zx_mem (flatC (Jvm.Cond.and given_1 narrow_1)) (.exactly (.string q.1 q.2.1) "java/lang/String"))) = true := by decide +kernel
theorem zx_Kof {args : Array Value} {s : State} (hts : ∀ w ∈ lw_tbl, w.before args s = true) (hgv : (Jvm.Cond.and given_1 narrow_1).before args s = true) : ∃ (D : va_G) (cI cL cQ : ClassId), zx_K D cI cL cQ s := by
  obtain ⟨D, hD⟩ := zx_Kn hts
  have hs := flat_of_before _ hgv
  have ho := hts (.arrayOver (.object "PolyLathe$Poly")) (by decide +kernel)
  obtain ⟨cI, h1⟩ := zx_arrI (hts (.arrayClass .int) (by decide +kernel))
  obtain ⟨cL, h3⟩ := zx_arrL (hts (.arrayClass .long) (by decide +kernel))
  obtain ⟨cQ, h2⟩ := zx_arrO ho
  refine ⟨D, cI, cL, cQ, ⟨hD, fun k q hq => ?_⟩, va_AO.of ho, fun q hq => ?_, fun q hq => ?_, fun q hq => ?_, fun i j p q hi hj hne => ?_, fun q hq => ?_⟩
  · match k, hq with
    | 0, hq => cases hq; exact h1
    | 1, hq => cases hq; exact h2
    | 2, hq => cases hq; exact h3
    | k + 3, hq => cases hq
  · exact va_Nw.of rfl (hts _ (zx_mem_of (List.all_eq_true.mp zx_castA q hq)))
  · exact va_Nw.of rfl (hts _ (zx_mem_of (List.all_eq_true.mp zx_declA q hq)))
  · have hq2 := Bool.and_eq_true_iff.mp (List.all_eq_true.mp zx_strsA q hq)
    obtain ⟨a, c, cell, k, e1, -⟩ := Cond.exactly_spec (hs _ (zx_mem_of hq2.2))
    exact ⟨a, hts _ (zx_mem_of hq2.1), e1⟩
  · match i, j, hi, hj, hne with
    | 0, 0, _, _, hne => exact absurd rfl hne
    | 1, 1, _, _, hne => exact absurd rfl hne
    | 2, 2, _, _, hne => exact absurd rfl hne
    | 0, 1, hi, hj, _ => cases hi; cases hj; exact va_Nc.of (hs _ (by decide +kernel))
    | 0, 2, hi, hj, _ => cases hi; cases hj; exact va_Nc.of (hs _ (by decide +kernel))
    | 1, 0, hi, hj, _ => cases hi; cases hj; exact va_Nc.of (hs _ (by decide +kernel))
    | 1, 2, hi, hj, _ => cases hi; cases hj; exact va_Nc.of (hs _ (by decide +kernel))
    | 2, 0, hi, hj, _ => cases hi; cases hj; exact va_Nc.of (hs _ (by decide +kernel))
    | 2, 1, hi, hj, _ => cases hi; cases hj; exact va_Nc.of (hs _ (by decide +kernel))
    | i + 3, _, hi, _, _ => cases hi
    | _, j + 3, _, hj, _ => cases hj
  · exact va_Nw.of rfl (hts _ (zx_mem_of (List.all_eq_true.mp zx_nestA q hq)))
def zx_script (L : Nat) (xs : Nat → Int32) : List Int := (List.range L).map (fun j => (xs j).toInt)
theorem zx_Eof {s : State} {b0 L : Nat} {xs : Nat → Int32} (hX : va_X b0 L xs s s.heap) {pre : Nat → Nat} (hp : pre 0 = b0) : zx_E s.heap.size pre [zx_script L xs] s s.heap := by
  subst hp
  intro i li hi
  match i, hi with
  | 0, hi =>
    cases hi
    obtain ⟨scr, h1, h2, h3, h4, h5⟩ := hX
    refine ⟨(Array.getElem?_eq_some_iff.mp h1).1, scr, h1, h2, h3, ?_, ?_, fun j hj => ?_⟩
    · simp [zx_script, h4]
    · simp only [zx_script, List.length_map, List.length_range, h4]
    · have hjL : j < L := by simpa [zx_script] using hj
      rw [h5 j hjL]
      simp [zx_script, List.getD_eq_getElem?_getD, hjL]
  | i + 1, hi => cases hi
theorem zx_Gof {args : Array Value} {s : State} (hts : ∀ w ∈ lw_tbl, w.before args s = true) (hgv : (Jvm.Cond.and given_1 narrow_1).before args s = true) (b : Nat) : ∃ pre : Nat → Nat, pre 0 = b ∧ zx_G s.heap.size pre s s.heap := by
  have hs := flat_of_before _ hgv
  have hA : ∀ a : Nat, a < s.heap.size → ¬ s.heap.size ≤ a := fun a h => Nat.not_le.mpr h
  have g1 : vx_Zq Bundle.tN "UNASSIGNED_STACK" Bundle.steD (fun q => s.heap.size ≤ q) s s.heap := vx_Zqof (hts _ (by decide +kernel)) (hts _ (by decide +kernel)) (hs _ (by decide +kernel)) hA
  have g2 : vx_Zq Bundle.tN "SUPPRESSED_SENTINEL" Bundle.listD (fun q => s.heap.size ≤ q) s s.heap := vx_Zqof (hts _ (by decide +kernel)) (hts _ (by decide +kernel)) (hs _ (by decide +kernel)) hA
  obtain ⟨adK, adV, hSS, hev⟩ := vk_Sof (args := args) (s := s) (N := 1) (tm := fun _ => Term.string "PolyLatheModel" 184) (len := [1]) (byt := [[48]]) (A := fun q => s.heap.size ≤ q)
    (fun i hi => by
      have h0 : i = 0 := by omega
      subst h0
      decide)
    (fun i hi => by
      have h0 : i = 0 := by omega
      subst h0
      exact hs _ (by decide +kernel))
    (fun i hi => by
      have h0 : i = 0 := by omega
      subst h0
      exact hs _ (by decide +kernel))
    (fun i hi => by
      have h0 : i = 0 := by omega
      subst h0
      exact hs _ (by decide +kernel))
    (fun i hi => by
      have h0 : i = 0 := by omega
      subst h0
      exact hs _ (by decide +kernel))
    (fun i hi j hj => by
      have h0 : i = 0 := by omega
      subst h0
      have hj1 : j < 1 := hj
      have h1 : j = 0 := by omega
      subst h1
      exact hs _ (by decide +kernel))
    (fun i j hi hj hne => by omega) hA
  have g3 : vk_S 1 [1] [[48]] (fun _ => adK 0) (fun _ => adV 0) (fun q => s.heap.size ≤ q) s s.heap := ⟨fun i hi => by
    have h0 : i = 0 := by omega
    subst h0
    exact hSS.1 0 hi, fun i j hi hj _ => by omega⟩
  have g4 : va_Z "java/lang/String" "COMPACT_STRINGS" "Z" (.int 1) (fun q => s.heap.size ≤ q) s s.heap := va_Zof (args := args) (hts _ (by decide +kernel)) (hts _ (by decide +kernel)) (va_eqt (hs (.eq (.static "java/lang/String" "COMPACT_STRINGS" "Z") (.int 1)) (by decide +kernel))) hA
  have g5 : va_Zq "jdk/internal/util/Preconditions" "SIOOBE_FORMATTER" "Ljava/util/function/BiFunction;" (fun q => s.heap.size ≤ q) s s.heap := va_Zqof (args := args) (hts _ (by decide +kernel)) (hts _ (by decide +kernel)) (hs _ (by decide +kernel)) hA
  have g6 : vk_R "PolyLatheModel" 184 "0" (adK 0) s := vk_R.of (A := args) (hts _ (by decide +kernel)) (hev 0 (by decide))
  rcases g5 with g5 | ⟨t, g5⟩
  · exact ⟨fun i => match i with | 0 => b | 1 => adK 0 | 2 => adV 0 | _ => 0, rfl, ⟨g1, g2⟩, g3, g4, g5, g6⟩
  · exact ⟨fun i => match i with | 0 => b | 1 => adK 0 | 2 => adV 0 | _ => t + 1, rfl, ⟨g1, g2⟩, g3, g4, g5, g6⟩
theorem zm_lawat : ∃ mm, zm_at zk_law = some mm ∧ mm.1 = x ∧ mm.2.1 = code ∧ mm.2.2.1 = 9 ∧ mm.2.2.2.1 = ret := ⟨_, rfl, rfl, rfl, rfl, rfl⟩
theorem zm_lawh : zk_hh zk_law = [] := by decide +kernel
def zx_law0 : zv_F := (zk_law, 0, [(2, -2)] ++ List.replicate 8 (9, 0), [], [])
theorem zx_flags {l : Launch} (h : l.flags = flags0) : l.stackTraces = false := by
  unfold Launch.stackTraces
  rw [h]
  decide
/-- the claim, out of what the walk reckons -/
theorem zx_start {p : Program} {e : Env} {s : State} {m : MethodId} {below : List Frame} {meth : Method} {c : Code} (l : Launch) (hflags : l.flags = flags0) {b L f d : Nat} {xs : Nat → Int32} {h : zv_H} (C0 : lw_At p s m meth c b L xs) (hrun : zs_exec [zx_script L xs] f d zx_law0 = some (1, (0, 1), h)) (hd : d ≤ 2000) (hc : h.length ≤ 600002) (hs : zx_sl h ≤ 7302232) :
    W p l e room_1 s m #[Value.ref b] below meth c s.heap [] 0 0 (lw_Z below #[Value.ref b] s) (entryFrame m ([Value.ref b] : List Value).toArray 9) := by
  obtain ⟨hx, hb, hr, hml, hown, hts, hX, hbl, hlocks, hgv, hnm, htab⟩ := C0
  obtain ⟨D, cI, cL, cQ, hK⟩ := zx_Kof hts hgv
  obtain ⟨pre, hp0, hGG⟩ := zx_Gof hts hgv b
  have hE := zx_Eof hX hp0
  have hmap : ([(2, -2)] : List zv_V).map (zc_v s.heap.size pre) = [Value.ref b] := by
    show [zc_ref s.heap.size pre (-2)] = _
    rw [zc_ref_p (by decide)]
    show [Value.ref (pre 0)] = _
    rw [hp0]
  obtain ⟨mm, hm, e1, e2, e3, e4⟩ := zm_lawat
  have C : zx_C p s m #[Value.ref b] meth c s.heap.size pre D cI cL cQ [zx_script L xs] zk_law mm := 
    ⟨hx, hm, hb.trans e2.symm, hr.trans e4.symm, hml.trans e3.symm, by rw [e1]; exact hown, zx_lw hts, hlocks, by rw [e1]; exact hnm, hK, hE, Nat.le_refl _, hGG, by rw [htab, zm_lawh]; rfl⟩
  have hW := zx_runs (l := l) (b := s.heap.size) (pre := pre) (D := D) (cI := cI) (cL := cL) (cQ := cQ) (E := [zx_script L xs]) (zx_flags hflags) f d zx_law0 (1, (0, 1), h) mm p e room_1 s m #[Value.ref b] below meth c 0 0 h.length (zx_sl h) hrun C (by show d + 10 ≤ 2048; omega) (by show (d + 4) * 40 ≤ 84000; omega) rfl rfl hc hs
  rw [lg_entry_eq]
  have hl := lv_entry [Value.ref b] (n := 9) (Nat.le_of_ble_eq_true rfl)
  rw [← hml] at hl ⊢
  have hl2 : lv_has _ c.maxLocals (zx_lv s.heap.size pre ([(2, -2)] ++ List.replicate 8 (9, 0))) := zx_entry_lv (as := [(2, -2)]) (by rw [hmap]; exact hl) 8
  intro T hT0 X
  obtain ⟨t1, a1, o, b1, b2, hQ, Ls, hF, hfree⟩ := hW s.heap [] _ 0 0 ⟨fun k q h => (by cases h), rfl⟩ ⟨Nat.le_refl _, fun _ _ _ => rfl, fun q hq => absurd hq List.not_mem_nil⟩ hl2 (by rw [hml]; rfl) rfl rfl T hT0 X
  refine ⟨t1, a1, o, b1, b2, hQ.1, ?_⟩
  obtain ⟨f1, f2, f3⟩ := hF
  obtain ⟨g1, g2, g3, g4, g5, g6⟩ := f3
  have f4 : s.sameButNew ({ t1 with vm := s.vm } : State) [] 600002 7302232 := ⟨g1, g2, by omega, g4, by omega, fun a cc hcc => by
    obtain ⟨c1, k1, k2, k3, k4⟩ := g6 a cc hcc
    exact ⟨c1, k1, k2, k3, fun i _ => k4 i (fun hm => absurd (hfree _ hm) (Nat.not_le.mpr (Array.getElem?_eq_some_iff.mp hcc).1))⟩⟩
  exact lw_closed (d0 := s.drawn) (Drawn.sameBut.refl s.drawn lw_cs) f1 f2 f4
