/-! The heap grows only; then: what the walk reckons, the machine does. -/
def zo_ok (y : Nat) (h : zv_H) (S : zv_S) : Prop := match S with
  | .inl fr => fr.1 = y ∧ h.length ≤ fr.2.2.2.2.length ∧ zx_sl h ≤ zx_sl fr.2.2.2.2
  | .inr (.inl c) => c.2.2.1 = y ∧ c.2.2.2.2.2.2 = h
  | .inr (.inr r) => h.length ≤ r.2.2.length ∧ zx_sl h ≤ zx_sl r.2.2 ∧ (r.1 = 2 → zm_ini y = false ∧ zh_find zh_tabs y = [])
section
variable {E : List (List Int)} {y pc len a0 b0 : Nat} {v0 : Int} {ls st : List zv_V} {h : zv_H} {S : zv_S}
theorem zo_nx {pc' : Nat} {ls' st' : List zv_V} (e : zs_nx y pc' ls' st' h = some S) : zo_ok y h S := by
  rw [zs_nx_inv e]
  exact ⟨rfl, Nat.le_refl _, Nat.le_refl _⟩
theorem zo_goto {q : Bool} {t pc' : Nat} {ls' st' : List zv_V} (e : zs_goto q y t pc' ls' st' h = some S) : zo_ok y h S := by
  rw [zs_goto_inv e]
  exact ⟨rfl, Nat.le_refl _, Nat.le_refl _⟩
theorem zo_call {t : Nat} (e : zs_call y pc t ls st h = some S) : zo_ok y h S := by
  obtain ⟨mt, -, -, -, rfl⟩ := zs_call_inv e
  exact ⟨rfl, rfl⟩
theorem zo_ret {t : Nat} {f : Nat → Int → Bool} (e : zs_ret y st t f h = some S) : zo_ok y h S := by
  obtain ⟨mt, x, -, -, -, rfl⟩ := zs_ret_inv e
  exact ⟨Nat.le_refl _, Nat.le_refl _, fun q => absurd (show (1 : Nat) = 2 from q) (by decide)⟩
theorem zo_set {pc' : Nat} {ls' st' : List zv_V} {q : Int} {c c' : zv_C} (hc : zh_at h q = some c) (hl : c'.2.length = c.2.length) (e : zs_nx y pc' ls' st' (h.set q.toNat c') = some S) : zo_ok y h S := by
  rw [zs_nx_inv e]
  obtain ⟨-, hc⟩ := zh_at_inv hc
  exact ⟨rfl, by simp, by show zx_sl h ≤ zx_sl (h.set _ _); rw [zx_sl_set hc hl]; exact Nat.le_refl _⟩
theorem zo_push {pc' : Nat} {ls' st' : List zv_V} {c' : zv_C} (e : zs_nx y pc' ls' st' (h ++ [c']) = some S) : zo_ok y h S := by
  rw [zs_nx_inv e]
  exact ⟨rfl, by simp, by show zx_sl h ≤ zx_sl (h ++ _); rw [zx_sl_push]; omega⟩
theorem zo_cond {q : Bool} {u v : Option zv_S} (hu : u = some S → zo_ok y h S) (hv : v = some S → zo_ok y h S) (e : cond q u v = some S) : zo_ok y h S := by
  cases q
  · exact hv e
  · exact hu e
theorem zo_1_ok {t : Nat} {s' : List zv_V} {k : Int → List zv_V → Option zv_S} (hk : ∀ x r, k x r = some S → zo_ok y h S) (e : zo_1 s' t k = some S) : zo_ok y h S := by
  obtain ⟨x, r, -, e⟩ := zo_1_inv e
  exact hk x r e
theorem zo_g_ok {q : Bool} {k : Option zv_S} (hk : k = some S → zo_ok y h S) (e : zo_g q k = some S) : zo_ok y h S := hk (zo_g_inv e).2
theorem zo_o_ok {β : Type} {o : Option β} {k : β → Option zv_S} (hk : ∀ x, o = some x → k x = some S → zo_ok y h S) (e : zo_o o k = some S) : zo_ok y h S := by
  obtain ⟨x, hx, e⟩ := zo_o_inv e
  exact hk x hx e
theorem zo_copy (e : zs_copy y pc ls st h = some S) : zo_ok y h S := by
  unfold zs_copy at e
  revert e
  exact zo_1_ok (fun x r => zo_1_ok (fun x r => zo_1_ok (fun x r => zo_1_ok (fun x r => zo_1_ok (fun x r => zo_o_ok (fun x hx0 => zo_o_ok (fun x hx => zo_o_ok (fun n _ => zo_o_ok (fun sp _ => zo_o_ok (fun dp _ => zo_g_ok (zo_set hx (by simp [zi_cpy]))))))))))))
theorem zs_ins_ok {ins : Instr} (hz : zs_ins E y pc ls st h ins len a0 b0 v0 = some S) : zo_ok y h S := by
  cases ins with
  | iconst n => simp only [zs_ins, zs_load, zs_store, zs_int2] at hz; revert hz; exact zo_nx
  | bipush n => simp only [zs_ins, zs_load, zs_store, zs_int2] at hz; revert hz; exact zo_nx
  | sipush n => simp only [zs_ins, zs_load, zs_store, zs_int2] at hz; revert hz; exact zo_nx
  | ldc n => simp only [zs_ins, zs_load, zs_store, zs_int2] at hz; revert hz; exact zo_cond zo_nx (zo_g_ok zo_nx)
  | getstatic n => simp only [zs_ins] at hz; revert hz; exact zo_cond zo_nx (zo_g_ok zo_nx)
  | baload => simp only [zs_ins] at hz; revert hz; exact zo_1_ok (fun x r => zo_1_ok (fun x r => zo_g_ok zo_nx))
  | i2c => simp only [zs_ins] at hz; revert hz; exact zo_1_ok (fun x r => zo_g_ok zo_nx)
  | ldc_w n => simp only [zs_ins, zs_load, zs_store, zs_int2] at hz; revert hz; exact zo_g_ok zo_nx
  | iload_n n => simp only [zs_ins, zs_load, zs_store, zs_int2] at hz; revert hz; exact zo_o_ok (fun x _ => zo_g_ok zo_nx)
  | iload n => simp only [zs_ins, zs_load, zs_store, zs_int2] at hz; revert hz; exact zo_o_ok (fun x _ => zo_g_ok zo_nx)
  | aload_n n => simp only [zs_ins, zs_load, zs_store, zs_int2] at hz; revert hz; exact zo_o_ok (fun x _ => zo_g_ok zo_nx)
  | aload n => simp only [zs_ins, zs_load, zs_store, zs_int2] at hz; revert hz; exact zo_o_ok (fun x _ => zo_g_ok zo_nx)
  | istore_n n => simp only [zs_ins, zs_load, zs_store, zs_int2] at hz; revert hz; exact zo_1_ok (fun x r => zo_g_ok zo_nx)
  | istore n => simp only [zs_ins, zs_load, zs_store, zs_int2] at hz; revert hz; exact zo_1_ok (fun x r => zo_g_ok zo_nx)
  | astore_n n => simp only [zs_ins, zs_load, zs_store, zs_int2] at hz; revert hz; exact zo_1_ok (fun x r => zo_g_ok zo_nx)
  | astore n => simp only [zs_ins, zs_load, zs_store, zs_int2] at hz; revert hz; exact zo_1_ok (fun x r => zo_g_ok zo_nx)
  | iinc n k => simp only [zs_ins, zs_load, zs_store, zs_int2] at hz; revert hz; exact zo_o_ok (fun x _ => zo_g_ok zo_nx)
  | iadd => simp only [zs_ins, zs_load, zs_store, zs_int2] at hz; revert hz; exact zo_1_ok (fun x r => zo_1_ok (fun x r => zo_nx))
  | isub => simp only [zs_ins, zs_load, zs_store, zs_int2] at hz; revert hz; exact zo_1_ok (fun x r => zo_1_ok (fun x r => zo_nx))
  | imul => simp only [zs_ins, zs_load, zs_store, zs_int2] at hz; revert hz; exact zo_1_ok (fun x r => zo_1_ok (fun x r => zo_nx))
  | iand => simp only [zs_ins, zs_load, zs_store, zs_int2] at hz; revert hz; exact zo_1_ok (fun x r => zo_1_ok (fun x r => zo_nx))
  | ixor => simp only [zs_ins, zs_load, zs_store, zs_int2] at hz; revert hz; exact zo_1_ok (fun x r => zo_1_ok (fun x r => zo_nx))
  | ishr => simp only [zs_ins, zs_load, zs_store, zs_int2] at hz; revert hz; exact zo_1_ok (fun x r => zo_1_ok (fun x r => zo_nx))
  | irem => simp only [zs_ins, zs_load, zs_store, zs_int2] at hz; revert hz; exact zo_1_ok (fun x r => zo_1_ok (fun x r => zo_g_ok zo_nx))
  | idiv => simp only [zs_ins, zs_load, zs_store, zs_int2] at hz; revert hz; exact zo_1_ok (fun x r => zo_1_ok (fun x r => zo_g_ok zo_nx))
  | ineg => simp only [zs_ins, zs_load, zs_store, zs_int2] at hz; revert hz; exact zo_1_ok (fun x r => zo_nx)
  | dup => simp only [zs_ins, zs_load, zs_store, zs_int2] at hz; revert hz; exact zo_o_ok (fun x _ => zo_g_ok zo_nx)
  | pop => simp only [zs_ins, zs_load, zs_store, zs_int2] at hz; revert hz; exact zo_o_ok (fun x _ => zo_g_ok zo_nx)
  | goto o => simp only [zs_ins, zs_load, zs_store, zs_int2] at hz; revert hz; exact zo_nx
  | ifCond cd o => simp only [zs_ins, zs_load, zs_store, zs_int2] at hz; revert hz; exact zo_1_ok (fun x r => zo_goto)
  | if_icmp cd o => simp only [zs_ins, zs_load, zs_store, zs_int2] at hz; revert hz; exact zo_1_ok (fun x r => zo_1_ok (fun x r => zo_goto))
  | ifnull o => simp only [zs_ins, zs_load, zs_store, zs_int2] at hz; revert hz; exact zo_1_ok (fun x r => zo_goto)
  | ifnonnull o => simp only [zs_ins, zs_load, zs_store, zs_int2] at hz; revert hz; exact zo_1_ok (fun x r => zo_goto)
  | aconst_null => simp only [zs_ins, zs_load, zs_store, zs_int2] at hz; revert hz; exact zo_nx
  | tableswitch d lo hi offs => simp only [zs_ins, zs_load, zs_store, zs_int2] at hz; revert hz; exact zo_1_ok (fun x r => zo_cond (zo_g_ok zo_nx) (zo_o_ok (fun x _ => zo_g_ok zo_nx)))
  | iaload => simp only [zs_ins, zs_load, zs_store, zs_int2] at hz; revert hz; exact zo_1_ok (fun x r => zo_1_ok (fun x r => zo_cond (zo_o_ok (fun x _ => zo_g_ok (zo_o_ok (fun x _ => zo_nx)))) (zo_g_ok (zo_o_ok (fun x _ => zo_o_ok (fun x _ => zo_nx))))))
  | iastore => simp only [zs_ins, zs_load, zs_store, zs_int2] at hz; revert hz; exact zo_1_ok (fun x r => zo_1_ok (fun x r => zo_1_ok (fun x r => zo_o_ok (fun x hx => zo_g_ok (zo_o_ok (fun j _ => zo_set hx (by simp)))))))
  | arraylength => simp only [zs_ins, zs_load, zs_store, zs_int2] at hz; revert hz; exact zo_1_ok (fun x r => zo_cond (zo_o_ok (fun x _ => zo_g_ok zo_nx)) (zo_cond zo_nx (zo_g_ok (zo_o_ok (fun x _ => zo_nx)))))
  | aaload => simp only [zs_ins, zs_load, zs_store, zs_int2] at hz; revert hz; exact zo_1_ok (fun x r => zo_1_ok (fun x r => zo_o_ok (fun x _ => zo_g_ok (zo_o_ok (fun x _ => zo_g_ok zo_nx)))))
  | aastore => simp only [zs_ins, zs_load, zs_store, zs_int2] at hz; revert hz; exact zo_1_ok (fun x r => zo_1_ok (fun x r => zo_1_ok (fun x r => zo_o_ok (fun x hx => zo_g_ok (zo_o_ok (fun j _ => zo_o_ok (fun x _ => zo_g_ok (zo_set hx (by simp)))))))))
  | getfield ix => simp only [zs_ins, zs_load, zs_store, zs_int2] at hz; revert hz; exact zo_cond (zo_1_ok (fun x r => zo_g_ok (zo_cond zo_nx (zo_g_ok zo_nx)))) <| zo_1_ok (fun x r => zo_o_ok (fun x _ => zo_g_ok (zo_o_ok (fun x _ => zo_o_ok (fun x _ => zo_nx)))))
  | putfield ix => simp only [zs_ins, zs_load, zs_store, zs_int2] at hz; revert hz; exact zo_o_ok (fun x _ => zo_1_ok (fun x r => zo_o_ok (fun x hx => zo_g_ok (zo_o_ok (fun x _ => zo_g_ok (zo_set hx (by simp)))))))
  | new ix =>
    simp only [zs_ins] at hz
    revert hz
    refine zo_cond (fun hz => ?_) (zo_o_ok (fun x _ => zo_push))
    obtain ⟨g0, hz2⟩ := zo_g_inv hz
    simp only [Bool.and_eq_true, Bool.not_eq_true'] at g0
    rw [← Option.some.inj hz2]
    exact ⟨by simp, by show zx_sl h ≤ zx_sl (h ++ _); rw [zx_sl_push]; omega, fun _ => ⟨g0.1.2, List.isEmpty_iff.mp g0.2⟩⟩
  | newarray t =>
    cases t with
    | int => simp only [zs_ins] at hz; revert hz; exact zo_1_ok (fun x r => zo_g_ok zo_push)
    | long => simp only [zs_ins] at hz; revert hz; exact zo_1_ok (fun x r => zo_g_ok zo_push)
    | _ => exact nomatch (show (none : Option zv_S) = some S from hz)
  | lconst n => revert hz; exact zo_nx
  | dconst n => revert hz; exact zo_g_ok zo_nx
  | ldc2_w n => revert hz; exact zo_nx
  | lload_n n => simp only [zs_ins, zs_load] at hz; revert hz; exact zo_o_ok (fun x _ => zo_g_ok zo_nx)
  | lload n => simp only [zs_ins, zs_load] at hz; revert hz; exact zo_o_ok (fun x _ => zo_g_ok zo_nx)
  | dload_n n => simp only [zs_ins, zs_load] at hz; revert hz; exact zo_o_ok (fun x _ => zo_g_ok zo_nx)
  | dload n => simp only [zs_ins, zs_load] at hz; revert hz; exact zo_o_ok (fun x _ => zo_g_ok zo_nx)
  | lstore_n n => simp only [zs_ins, zs_store2] at hz; revert hz; exact zo_1_ok (fun x r => zo_g_ok zo_nx)
  | lstore n => simp only [zs_ins, zs_store2] at hz; revert hz; exact zo_1_ok (fun x r => zo_g_ok zo_nx)
  | dstore_n n => simp only [zs_ins, zs_store2] at hz; revert hz; exact zo_1_ok (fun x r => zo_g_ok zo_nx)
  | dstore n => simp only [zs_ins, zs_store2] at hz; revert hz; exact zo_1_ok (fun x r => zo_g_ok zo_nx)
  | ladd => simp only [zs_ins, zs_long2] at hz; revert hz; exact zo_1_ok (fun x r => zo_1_ok (fun x r => zo_nx))
  | lmul => simp only [zs_ins, zs_long2] at hz; revert hz; exact zo_1_ok (fun x r => zo_1_ok (fun x r => zo_nx))
  | i2l => simp only [zs_ins] at hz; revert hz; exact zo_1_ok (fun x r => zo_nx)
  | lcmp => simp only [zs_ins] at hz; revert hz; exact zo_1_ok (fun x r => zo_1_ok (fun x r => zo_nx))
  | dcmp op => simp only [zs_ins] at hz; revert hz; exact zo_1_ok (fun x r => zo_1_ok (fun x r => zo_g_ok zo_nx))
  | iushr => simp only [zs_ins, zs_int2] at hz; revert hz; exact zo_1_ok (fun x r => zo_1_ok (fun x r => zo_nx))
  | laload => simp only [zs_ins] at hz; revert hz; exact zo_1_ok (fun x r => zo_1_ok (fun x r => zo_o_ok (fun x _ => zo_g_ok (zo_o_ok (fun x _ => zo_nx)))))
  | lastore => simp only [zs_ins] at hz; revert hz; exact zo_1_ok (fun x r => zo_1_ok (fun x r => zo_1_ok (fun x r => zo_o_ok (fun x hx => zo_g_ok (zo_o_ok (fun j _ => zo_set hx (by simp)))))))
  | lreturn => simp only [zs_ins] at hz; revert hz; exact zo_ret
  | dreturn => simp only [zs_ins] at hz; revert hz; exact zo_ret
  | anewarray ix => simp only [zs_ins, zs_load, zs_store, zs_int2] at hz; revert hz; exact zo_1_ok (fun x r => zo_g_ok zo_push)
  | invokevirtual ix => simp only [zs_ins, zs_load, zs_store, zs_int2] at hz; revert hz; exact zo_o_ok (fun x _ => zo_g_ok zo_call)
  | invokestatic ix => simp only [zs_ins, zs_load, zs_store, zs_int2] at hz; revert hz; exact zo_cond (zo_copy) (zo_cond (zo_g_ok (zo_1_ok (fun x r => zo_1_ok (fun x r => zo_g_ok zo_nx)))) (zo_g_ok zo_call))
  | invokespecial ix => simp only [zs_ins, zs_load, zs_store, zs_int2] at hz; revert hz; exact zo_cond (zo_1_ok (fun x r => zo_g_ok zo_nx)) (zo_o_ok (fun x _ => zo_g_ok zo_call))
  | ireturn => simp only [zs_ins, zs_load, zs_store, zs_int2] at hz; revert hz; exact zo_ret
  | areturn => simp only [zs_ins, zs_load, zs_store, zs_int2] at hz; revert hz; exact zo_ret
  | return_ =>
    simp only [zs_ins] at hz
    obtain ⟨mt, -, hz1⟩ := zo_o_inv hz
    obtain ⟨-, hz2⟩ := zo_g_inv hz1
    rw [← Option.some.inj hz2]
    exact ⟨Nat.le_refl _, Nat.le_refl _, fun q => absurd (show (0 : Nat) = 2 from q) (by decide)⟩
  | _ => exact nomatch (show (none : Option zv_S) = some S from hz)
theorem zs_step_inv {fr : zv_F} (hz : zs_step E fr = some S) : ∃ ins len a b w v, zt_at fr.1 fr.2.1 = some (ins, len, a, b, w, v) ∧ zs_ins E fr.1 fr.2.1 fr.2.2.1 fr.2.2.2.1 fr.2.2.2.2 ins len a b v = some S := by
  obtain ⟨y, pc, ls, st, h⟩ := fr
  obtain ⟨⟨ins, len, a, b, w, v⟩, h1, h2⟩ := zo_o_inv hz
  exact ⟨ins, len, a, b, w, v, h1, h2⟩
theorem zs_step_ok {fr : zv_F} (hz : zs_step E fr = some S) : zo_ok fr.1 fr.2.2.2.2 S := by
  obtain ⟨ins, len, a, b, w, v, -, h2⟩ := zs_step_inv hz
  exact zs_ins_ok h2
theorem zs_hand_inv {y t : Nat} {ls : List zv_V} {g' : zv_F} (e : zs_hand y t ls h = some g') : g'.1 = y ∧ g'.2.2.2.2 = h := by
  unfold zs_hand at e
  cases ht : zt_at y t with
  | none => rw [ht] at e; cases e
  | some it =>
    obtain ⟨ins, len, a, rest⟩ := it
    rw [ht] at e
    cases ins with
    | astore_n n =>
      obtain ⟨-, e2⟩ := zo_g_inv e
      rw [← Option.some.inj e2]
      exact ⟨rfl, rfl⟩
    | astore n =>
      obtain ⟨-, e2⟩ := zo_g_inv e
      rw [← Option.some.inj e2]
      exact ⟨rfl, rfl⟩
    | _ => cases e
theorem zs_back_i {r : zv_R} {g g' : zv_F} (h : zs_back r g = some g') : g'.1 = g.1 ∧ g'.2.2.2.2 = r.2.2 := by
  obtain ⟨k, v, h'⟩ := r
  obtain ⟨y, pc, ls, st, hh⟩ := g
  match k, h with
  | 0, h => cases h; exact ⟨rfl, rfl⟩
  | 1, h => cases h; exact ⟨rfl, rfl⟩
  | 2, h =>
    obtain ⟨t, -, e⟩ := zo_o_inv (show (zo_o (zh_pick (zh_find zh_tabs y) (pc - 3) v.1) fun t => zs_hand y t ls h') = some g' from h)
    exact zs_hand_inv e
  | k + 3, h => cases h
theorem zs_back_h {r : zv_R} {g g' : zv_F} (h : zs_back r g = some g') : g'.2.2.2.2 = r.2.2 := (zs_back_i h).2
theorem zs_entry_h {t : Nat} {as : List zv_V} {fr : zv_F} (e : zs_entry t as h = some fr) : fr.2.2.2.2 = h := by
  obtain ⟨mt, -, e1⟩ := zo_o_inv e
  obtain ⟨-, e2⟩ := zo_g_inv e1
  rw [← Option.some.inj e2]
theorem zs_mono : ∀ (f d : Nat) (fr : zv_F) (r : zv_R), zs_exec E f d fr = some r → fr.2.2.2.2.length ≤ r.2.2.length ∧ zx_sl fr.2.2.2.2 ≤ zx_sl r.2.2 ∧ (r.1 = 2 → zm_ini fr.1 = false ∧ zh_find zh_tabs fr.1 = []) := by
  intro f
  induction f with
  | zero => intro d fr r h; cases h
  | succ f ih =>
    intro d fr r h
    rw [zs_exec] at h
    cases hs : zs_step E fr with
    | none => rw [hs] at h; cases h
    | some S =>
      rw [hs] at h
      have hok := zs_step_ok hs
      match S, hok, h with
      | .inl fr', hok, h =>
        have := ih d fr' r h
        rw [hok.1] at this
        exact ⟨Nat.le_trans hok.2.1 this.1, Nat.le_trans hok.2.2 this.2.1, this.2.2⟩
      | .inr (.inr r'), hok, h =>
        cases h
        exact hok
      | .inr (.inl (t, as, g)), hok, h =>
        have hok1 : g.1 = fr.1 := hok.1
        have hok : g.2.2.2.2 = fr.2.2.2.2 := hok.2
        cases d with
        | zero => cases h
        | succ d =>
          simp only at h
          cases he : zs_entry t as g.2.2.2.2 with
          | none => rw [he] at h; cases h
          | some fr' =>
            rw [he] at h
            simp only at h
            cases hc : zs_exec E f d fr' with
            | none => rw [hc] at h; cases h
            | some r' =>
              rw [hc] at h
              simp only at h
              have h1 := ih d fr' r' hc
              rw [zs_entry_h he, hok] at h1
              cases hb : zs_back r' g with
              | none =>
                rw [hb] at h
                simp only at h
                by_cases hq : (Nat.beq r'.1 2 && List.isEmpty (zh_find zh_tabs g.1) && !zm_ini g.1) = true
                · rw [hq, cond_true] at h
                  cases h
                  simp only [Bool.and_eq_true, Bool.not_eq_true'] at hq
                  rw [hok1] at hq
                  exact ⟨h1.1, h1.2.1, fun _ => ⟨hq.2, List.isEmpty_iff.mp hq.1.2⟩⟩
                · rw [Bool.not_eq_true] at hq
                  rw [hq] at h
                  cases h
              | some g' =>
                rw [hb] at h
                simp only at h
                have h2 := ih (d + 1) g' r h
                rw [zs_back_h hb, (zs_back_i hb).1, hok1] at h2
                exact ⟨Nat.le_trans h1.1 h2.1, Nat.le_trans h1.2.1 h2.2.1, h2.2.2⟩
end
