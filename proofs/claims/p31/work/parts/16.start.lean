/-! The claim out of the walk: what holds at the law's entry is what the walk asks. -/
theorem zx_lw {args : Array Value} {s : State} (hts : ∀ w ∈ lw_tbl, w.before args s = true) : ∀ w ∈ zx_TB, w.before args s = true := fun w hw => hts w (List.mem_filter.mp hw).1
def zx_instB (C : String) : Bool := lw_tbl.any (fun w => match w with
  | .instantiable C' _ => C' == C
  | _ => false)
theorem zx_inst1 {C : String} (h : zx_instB C = true) : ∃ n, Cond.instantiable C n ∈ lw_tbl := by
  obtain ⟨w, hw, e⟩ := List.any_eq_true.mp h
  split at e
  · rename_i C' n
    exact ⟨n, (beq_iff_eq.mp e) ▸ hw⟩
  · cases e
theorem zx_instA : (vwCl.all (fun r => zx_instB r.1)) = true := by decide +kernel
theorem zx_Kn {args : Array Value} {s : State} (hts : ∀ w ∈ lw_tbl, w.before args s = true) : ∃ D : va_G, ∀ (c : Nat) (q : vw_C), vwCl[c]? = some q → u_Kn s q.1 q.2.1 q.2.2 (D.1 c) (D.2 c) := by
  have h : ∀ c : Nat, ∃ d : ClassId × (Nat → Nat), ∀ q : vw_C, vwCl[c]? = some q → u_Kn s q.1 q.2.1 q.2.2 d.1 d.2 := by
    intro c
    cases hq : vwCl[c]? with
    | none => exact ⟨(0, fun _ => 0), fun q h => by cases h⟩
    | some r =>
      obtain ⟨n, hn⟩ := zx_inst1 (List.all_eq_true.mp zx_instA r (List.mem_of_getElem? hq))
      obtain ⟨cC, iS, h⟩ := u_known (zx_lw hts) (zx_in c r hq) (hts _ hn)
      exact ⟨(cC, iS), fun q h' => by cases h'; exact h⟩
  exact ⟨(fun c => (Classical.choose (h c)).1, fun c => (Classical.choose (h c)).2), fun c q hq => Classical.choose_spec (h c) q hq⟩
theorem zx_arrI {args : Array Value} {s : State} (h : (Cond.arrayClass .int).before args s = true) : ∃ cA, ArrOfT s cA .int ∧ va_RA s cA .int := by
  obtain ⟨c, k, comp, h1, h2, h3⟩ := Cond.arrayClass_spec h
  exact ⟨c, fun n z => ⟨fun k h => (by cases h), k, h2, comp, h3⟩, h1⟩
theorem zx_arrO {C : String} {args : Array Value} {s : State} (h : (Cond.arrayOver (.object C)).before args s = true) : ∃ cA, ArrOfT s cA (.object C) ∧ va_RA s cA (.object C) := by
  obtain ⟨comp, c, k, h1, -, h2, h3, h4⟩ := Cond.arrayOver_spec h
  exact ⟨c, fun n z => ⟨fun k h => (by cases h), k, h2, comp, h3⟩, k, comp, h2, h3, h1, h4⟩
theorem zx_nestA : (zx_nest.all (fun q => lw_tbl.any (fun w => decide (w = Cond.fieldLinkNest q.1 q.2.1 q.2.2.1 q.2.2.2.1 q.2.2.2.2.1 q.2.2.2.2.2)))) = true := by decide +kernel
theorem zx_Kof {args : Array Value} {s : State} (hts : ∀ w ∈ lw_tbl, w.before args s = true) : ∃ (D : va_G) (cI cQ : ClassId), zx_K D cI cQ s := by
  obtain ⟨D, hD⟩ := zx_Kn hts
  have ho := hts (.arrayOver (.object "PolyLathe$Poly")) (by decide +kernel)
  obtain ⟨cI, h1⟩ := zx_arrI (hts (.arrayClass .int) (by decide +kernel))
  obtain ⟨cQ, h2⟩ := zx_arrO ho
  refine ⟨D, cI, cQ, ⟨hD, fun k q hq => ?_⟩, va_AO.of ho, fun q hq => ?_⟩
  · match k, hq with
    | 0, hq => cases hq; exact h1
    | 1, hq => cases hq; exact h2
    | k + 2, hq => cases hq
  · obtain ⟨w, hw, e⟩ := List.any_eq_true.mp (List.all_eq_true.mp zx_nestA q hq)
    exact va_Nw.of rfl (of_decide_eq_true e ▸ hts w hw)
def zx_primes : List Int := [2, 3, 5, 7, 11, 13, 31, 97]
def zx_script (L : Nat) (xs : Nat → Int32) : List Int := (List.range L).map (fun j => (xs j).toInt)
def zx_pre (b t : Nat) : Nat → Nat := fun i => if i = 0 then b else t
/-- the table of primes, out of what the Statement gives -/
theorem zx_primesT {args : Array Value} {s : State} (hgv : (Jvm.Cond.and given_1 narrow_1).before args s = true) : ∃ t : Nat, (Term.static "PolyLatheLaw" "PRIMES" "[I").eval args s none [] s = some (.ref t) ∧ va_T .int t 8 (fun j => .int (Int32.ofInt (zx_primes.getD j 0))) (fun q => s.heap.size ≤ q) s s.heap := by
  have hs := flat_of_before _ hgv
  refine va_Tof (by decide) (hs _ (by decide +kernel)) (va_eqt (hs _ (by decide +kernel))) (fun j hj => ?_) (fun a h => Nat.not_le.mpr h)
  match j, hj with
  | 0, _ => exact va_eqt (z := 2) (hs _ (by decide +kernel))
  | 1, _ => exact va_eqt (z := 3) (hs _ (by decide +kernel))
  | 2, _ => exact va_eqt (z := 5) (hs _ (by decide +kernel))
  | 3, _ => exact va_eqt (z := 7) (hs _ (by decide +kernel))
  | 4, _ => exact va_eqt (z := 11) (hs _ (by decide +kernel))
  | 5, _ => exact va_eqt (z := 13) (hs _ (by decide +kernel))
  | 6, _ => exact va_eqt (z := 31) (hs _ (by decide +kernel))
  | 7, _ => exact va_eqt (z := 97) (hs _ (by decide +kernel))
  | j + 8, hj => exact absurd hj (by omega)
theorem zx_Eof {s : State} {b0 t L : Nat} {xs : Nat → Int32} (hX : va_X b0 L xs s s.heap) (hT : va_T .int t 8 (fun j => .int (Int32.ofInt (zx_primes.getD j 0))) (fun q => s.heap.size ≤ q) s s.heap) : zx_E s.heap.size (zx_pre b0 t) [zx_script L xs, zx_primes] s s.heap := by
  intro i li hi
  match i, hi with
  | 0, hi =>
    cases hi
    obtain ⟨scr, h1, h2, h3, h4, h5⟩ := hX
    refine ⟨(Array.getElem?_eq_some_iff.mp h1).1, scr, h1, h2, h3, ?_, ?_, fun j hj => ?_⟩
    · simp [zx_script, h4]
    · simp only [zx_script, List.length_map, List.length_range, h4]
    · have hjL : j < L := by simpa [zx_script] using hj
      rw [h5 j hjL]
      simp [zx_script, List.getD_eq_getElem?_getD, hjL]
  | 1, hi =>
    cases hi
    obtain ⟨cell, h1, h2, h3, h4, h5, h6, -⟩ := hT
    exact ⟨(Array.getElem?_eq_some_iff.mp h1).1, cell, h1, h2, h3, h4, h5, h6⟩
  | i + 2, hi => cases hi
theorem zm_lawat : ∃ mm, zm_at zk_law = some mm ∧ mm.1 = x ∧ mm.2.1 = code ∧ mm.2.2.1 = 12 ∧ mm.2.2.2.1 = ret := ⟨_, rfl, rfl, rfl, rfl, rfl⟩
def zx_law0 : zv_F := (zk_law, 0, [(2, -2)] ++ List.replicate 11 (9, 0), [], [])
/-- the claim, out of what the walk reckons -/
theorem zx_start {p : Program} {e : Env} {s : State} {m : MethodId} {below : List Frame} {meth : Method} {c : Code} (l : Launch) {b L f d : Nat} {xs : Nat → Int32} {h : zv_H} (C0 : lw_At p s m meth c b L xs) (hrun : zs_exec [zx_script L xs, zx_primes] f d zx_law0 = some (1, (0, 1), h)) (hd : d ≤ 8) (hc : h.length ≤ 600086) (hs : zx_sl h ≤ 7301442) :
    W p l e room_1 s m #[Value.ref b] below meth c s.heap [] 0 0 (lw_Z below #[Value.ref b] s) (entryFrame m ([Value.ref b] : List Value).toArray 12) := by
  obtain ⟨hx, hb, hr, hml, hown, hts, hX, hbl, hlocks, hgv, hnm⟩ := C0
  obtain ⟨D, cI, cQ, hK⟩ := zx_Kof hts
  obtain ⟨t, ht, hT⟩ := zx_primesT hgv
  have hE := zx_Eof hX hT
  obtain ⟨mm, hm, e1, e2, e3, e4⟩ := zm_lawat
  have hZ : va_Z "PolyLatheLaw" "PRIMES" "[I" (.ref t) (fun q => s.heap.size ≤ q) s s.heap := va_Zref (hts _ (by decide +kernel)) (hts _ (by decide +kernel)) ht (fun a h => Nat.not_le.mpr h)
  have hL := hts (.fieldLink "PolyLatheLaw" zk_gs "PolyLatheLaw" "PRIMES" "[I") (by decide +kernel)
  have C : zx_C p s m #[Value.ref b] meth c s.heap.size (zx_pre b t) D cI cQ [zx_script L xs, zx_primes] zk_law mm := by
    refine ⟨hx, hm, hb.trans e2.symm, hr.trans e4.symm, hml.trans e3.symm, by rw [e1]; exact hown, zx_lw hts, hlocks, by rw [e1]; exact hnm, hK, hE, Nat.le_refl _, fun _ => ⟨hZ, fun _ _ => hL⟩⟩
  have hW := zx_runs (l := l) (b := s.heap.size) (pre := zx_pre b t) (D := D) (cI := cI) (cQ := cQ) (E := [zx_script L xs, zx_primes]) f d zx_law0 (1, (0, 1), h) mm p e room_1 s m #[Value.ref b] below meth c 0 0 h.length (zx_sl h) hrun C (by show d + 1 ≤ 11; omega) (by show (d + 1) * 40 ≤ 396; omega) rfl rfl hc hs
  rw [lg_entry_eq]
  have hl := lv_entry [Value.ref b] (n := 12) (Nat.le_of_ble_eq_true rfl)
  rw [← hml] at hl ⊢
  have hl2 : lv_has _ c.maxLocals (zx_lv s.heap.size (zx_pre b t) ([(2, -2)] ++ List.replicate 11 (9, 0))) := zx_entry_lv (as := [(2, -2)]) rfl hl 11
  intro T hT0 X
  obtain ⟨t1, a1, o, b1, b2, hQ, Ls, hF, hfree⟩ := hW s.heap [] _ 0 0 ⟨fun k q h => (by cases h), rfl⟩ ⟨Nat.le_refl _, fun _ _ _ => rfl, fun q hq => absurd hq List.not_mem_nil⟩ hl2 (by rw [hml]; rfl) rfl rfl T hT0 X
  refine ⟨t1, a1, o, b1, b2, hQ.1, ?_⟩
  obtain ⟨f1, f2, f3⟩ := hF
  obtain ⟨g1, g2, g3, g4, g5, g6⟩ := f3
  exact ⟨f1, f2, g1, g2, by omega, g4, by omega, fun a cc hcc => by
    obtain ⟨c1, k1, k2, k3, k4⟩ := g6 a cc hcc
    exact ⟨c1, k1, k2, k3, fun i _ => k4 i (fun hm => absurd (hfree _ hm) (Nat.not_le.mpr (Array.getElem?_eq_some_iff.mp hcc).1))⟩⟩
