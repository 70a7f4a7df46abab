/-! Each small function does what its instruction does: calls, answers, new rows, copies. -/
section
variable {pc len a b l' t : Nat} {v : Int} {ins : Instr}
theorem zq_popi : ∀ (n : Nat) (st as : List zv_V) (k : List zv_V → List zv_V → Bool) (z : Bool), (n ≤ st.length → k ((st.take n).reverse ++ as) (st.drop n) = z) → zq_pop n st as k z = z := by
  intro n
  induction n with
  | zero => intro st as k z h; exact h (Nat.zero_le _)
  | succ n ih =>
    intro st as k z h
    cases st with
    | nil => rfl
    | cons w r =>
      show zq_pop n r (w :: as) k z = z
      refine ih r (w :: as) k z (fun hn => ?_)
      have h1 := h (Nat.succ_le_succ hn)
      rw [List.take_succ_cons, List.reverse_cons, List.append_assoc] at h1
      exact h1
theorem zs_cat_le (w : zv_V) : zs_cat w ≤ 2 := by
  unfold zs_cat
  cases zs_wide w <;> decide
theorem zq_fewi {l : List zv_V} (h : zq_few l = true) : Nat.ble (l.map zs_cat).sum 8 = true := by
  refine Nat.ble_eq_true_of_le ?_
  match l, h with
  | [], _ => exact Nat.zero_le _
  | [x], _ =>
    have := zs_cat_le x
    simp only [List.map_cons, List.map_nil, List.sum_cons, List.sum_nil]
    omega
  | [x, y], _ =>
    have := zs_cat_le x
    have := zs_cat_le y
    simp only [List.map_cons, List.map_nil, List.sum_cons, List.sum_nil]
    omega
  | [x, y, z], _ =>
    have := zs_cat_le x
    have := zs_cat_le y
    have := zs_cat_le z
    simp only [List.map_cons, List.map_nil, List.sum_cons, List.sum_nil]
    omega
  | [x, y, z, w], _ =>
    have := zs_cat_le x
    have := zs_cat_le y
    have := zs_cat_le z
    have := zs_cat_le w
    simp only [List.map_cons, List.map_nil, List.sum_cons, List.sum_nil]
    omega
  | x :: y :: z :: w :: u :: r, h => cases h
theorem zs_call_fw {m : zm_M} {y : Nat} {ls st : List zv_V} {h : zv_H} (hm : zm_at t = some m) (hl : m.2.2.2.2.2.1 ≤ st.length) (hf : zq_few (st.drop m.2.2.2.2.2.1) = true) : zs_call y pc t ls st h = some (.inr (.inl (t, (st.take m.2.2.2.2.2.1).reverse, (y, pc + 3, ls, st.drop m.2.2.2.2.2.1, h)))) := by
  unfold zs_call
  rw [hm]
  obtain ⟨m1, m2, m3, m4, m5, n, m7⟩ := m
  show zo_g (Nat.ble n st.length && Nat.ble ((st.drop n).map zs_cat).sum 8) _ = _
  rw [Nat.ble_eq_true_of_le hl, zq_fewi hf]
  rfl
theorem zqg_call {ix : Nat} {m : zm_M} (hm : zm_at a = some m) (h9 : Nat.ble 9000 a = false) (hb : Nat.beq b 1 = true) : zq_gc (zy_sem pc (.invokestatic ix) len a b v) (zq_call (pc + 3) a m.2.2.2.2.2.1) := by
  intro E e y ls st h κ z hk
  refine zq_popi _ _ _ _ _ (fun hl => ?_)
  refine zq_cif (fun hf => ?_) rfl
  rw [List.append_nil]
  have h3 : Nat.beq a 9003 = false := by
    cases hq : Nat.beq a 9003 with
    | false => rfl
    | true =>
      have := Nat.eq_of_beq_eq_true hq
      subst this
      exact absurd h9 (by decide)
  refine hk _ _ _ _ _ _ (zy_sem_pl ?_ ?_ (fun q => ?_) rfl)
  · show cond (Nat.beq a 9003) (zy_nk 5 st) (cond (Nat.ble 9000 a) (zy_nk 2 st) true) = true
    rw [h3, h9]; rfl
  · show cond (Nat.beq a 9003) (zs_copy y pc ls st h) (cond (Nat.ble 9000 a) _ (zo_g (Nat.beq b 1) (zs_call y pc a ls st h))) = _
    rw [h3, h9, hb]
    exact zs_call_fw hm hl hf
  · exact rfl
theorem zq_recvi {h : zv_H} {k : Nat} {as : List zv_V} (hr : zq_recv h k as = true) : ∃ q r l, as = (2, Int.ofNat q) :: r ∧ zq_sml q = true ∧ h[q]? = some (k, l) := by
  cases as with
  | nil => cases hr
  | cons w r =>
    obtain ⟨t, x⟩ := w
    cases x with
    | negSucc n => cases hr
    | ofNat q =>
      have hr2 : zq_c (zq_a (Nat.beq t 2) (zq_sml q)) (zq_cell h q false (fun k' _ => Nat.beq k' k)) false = true := hr
      cases hb : zq_a (Nat.beq t 2) (zq_sml q) with
      | false => rw [hb] at hr2; cases hr2
      | true =>
        rw [hb] at hr2
        have b1 := zq_ai hb
        have e1 : t = 2 := Nat.eq_of_beq_eq_true b1.1
        subst e1
        have hr3 : zq_cell h q false (fun k' _ => Nat.beq k' k) = true := hr2
        rw [zq_len_at] at hr3
        cases hc : h[q]? with
        | none => rw [hc] at hr3; cases hr3
        | some c =>
          obtain ⟨k', l⟩ := c
          rw [hc] at hr3
          have e2 : k' = k := Nat.eq_of_beq_eq_true hr3
          subst e2
          exact ⟨q, r, l, rfl, b1.2, hc⟩
theorem zq_callv_pf {m : zm_M} {y : Nat} {ls st : List zv_V} {h : zv_H} (hm : zm_at a = some m) (h99 : Nat.beq m.2.2.2.2.2.2.1 99 = false) (hl : m.2.2.2.2.2.1 ≤ st.length) (hr : zq_recv h m.2.2.2.2.2.2.1 ((st.take m.2.2.2.2.2.1).reverse) = true) : zy_rc a st = true ∧ zs_recv h m.2.2.2.2.2.2.1 ((st.take m.2.2.2.2.2.1).reverse) = true := by
  obtain ⟨q, r, l, e1, e2, e3⟩ := zq_recvi hr
  constructor
  · unfold zy_rc
    rw [hm]
    simp only
    cases hn : m.2.2.2.2.2.1 with
    | zero => rfl
    | succ n =>
      rw [hn] at e1 hl
      simp only
      have hs : n < st.length := hl
      have h0 : st.take (n + 1) = st.take n ++ [st[n]] := by
        rw [List.take_add_one, List.getElem?_eq_getElem hs]
        rfl
      rw [h0, List.reverse_append] at e1
      have h1 : st[n] = (2, Int.ofNat q) := (List.cons.inj e1).1
      rw [List.getElem?_eq_getElem hs, h1]
      exact zq_smlt e2
  · rw [e1]
    show (!Nat.beq m.2.2.2.2.2.2.1 99 && (Nat.beq 2 2 && (match zh_at h (Int.ofNat q) with
      | none => false
      | some c => Nat.beq c.1 m.2.2.2.2.2.2.1))) = true
    rw [h99, zh_at_of e3]
    exact Nat.beq_refl _
theorem zqg_callv {m : zm_M} (hm : zm_at a = some m) (h99 : Nat.beq m.2.2.2.2.2.2.1 99 = false) (h1 : ∀ ls st, zy_rc a st = true → zy_ok ls st ins a b v = true) (hn : zy_new ins a = false) (h4 : ∀ e S, zy_nrm e ins S = S) (h2 : ∀ E y ls st h, zs_recv h m.2.2.2.2.2.2.1 ((st.take m.2.2.2.2.2.1).reverse) = true → zs_ins E y pc ls st h ins len a b v = zs_call y pc a ls st h) : zq_gc (zy_sem pc ins len a b v) (zq_callv (pc + 3) a m.2.2.2.2.2.1 m.2.2.2.2.2.2.1) := by
  intro E e y ls st h κ z hk
  refine zq_popi _ _ _ _ _ (fun hl => ?_)
  refine zq_cif (fun hf => ?_) rfl
  rw [List.append_nil] at hf ⊢
  have hf2 := zq_ai hf
  have hp := zq_callv_pf (y := y) (ls := ls) hm h99 hl hf2.2
  exact hk _ _ _ _ _ _ (zy_sem_pl (h1 _ _ hp.1) ((h2 _ _ _ _ _ hp.2).trans (zs_call_fw hm hl hf2.1)) (fun q => by rw [hn] at q; cases q) (h4 ..))
theorem zqg_ret0 {y : Nat} {m : zm_M} (hm : zm_at y = some m) (hr : Nat.beq m.2.2.2.2.1 0 = true) : zq_gr (zy_sem pc .return_ len a b v) y zq_ret0 := by
  intro E e ls st h κ z hk
  cases st with
  | cons w r => rfl
  | nil =>
    refine hk _ (zy_sem_pl rfl ?_ (fun q => by cases q) rfl)
    simp only [zs_ins]
    rw [hm]
    obtain ⟨m1, m2, m3, m4, rc, m7⟩ := m
    show zo_g (Nat.beq rc 0 && true) _ = _
    rw [show Nat.beq rc 0 = true from hr]
    rfl
theorem zqg_ret {y : Nat} {m : zm_M} {bz ng : Bool} {f : Nat → Int → Bool} (hm : zm_at y = some m) (h1 : ∀ ls st, zy_ok ls st ins a b v = zy_nk 1 st) (hn : zy_new ins a = false) (h4 : ∀ e S, zy_nrm e ins S = S) (h2 : ∀ E y ls st h, zs_ins E y pc ls st h ins len a b v = zs_ret y st t f h) (hf : ∀ n : Nat, (!bz || Nat.ble n 1) = true → f m.2.2.2.2.1 (Int.ofNat n) = true) (hfn : ng = true → ∀ n, f m.2.2.2.2.1 (Int.negSucc n) = true) : zq_gr (zy_sem pc ins len a b v) y (zq_ret t bz ng) := by
  intro E e ls st h κ z hk
  cases st with
  | nil => rfl
  | cons w r =>
    obtain ⟨t', x⟩ := w
    show zq_c (zq_a (Nat.beq t' t) (List.isEmpty r)) _ z = z
    refine zq_cif (fun hb => ?_) rfl
    have b1 := zq_ai hb
    have e1 : t' = t := Nat.eq_of_beq_eq_true b1.1
    subst e1
    have e2 : r = [] := List.isEmpty_iff.mp b1.2
    subst e2
    have key : f m.2.2.2.2.1 x = true → zs_ret y [(t', x)] t' f h = some (.inr (.inr (1, (t', x), h))) := by
      intro hfx
      unfold zs_ret
      rw [hm]
      obtain ⟨m1, m2, m3, m4, rc, m7⟩ := m
      show cond (Nat.beq t' t') (zo_g (f rc x && true) _) none = _
      rw [Nat.beq_refl, show f rc x = true from hfx]
      rfl
    cases x with
    | ofNat n =>
      show zq_c (zq_a (zq_sml n) (!bz || Nat.ble n 1)) _ z = z
      refine zq_cif (fun hb2 => ?_) rfl
      have b2 := zq_ai hb2
      refine hk _ (zy_sem_pl ?_ ((h2 ..).trans (key (hf n b2.2))) (fun q => by rw [hn] at q; cases q) (h4 ..))
      rw [h1]
      show (zy_nt (Int.ofNat n) && true) = true
      rw [zq_smlt b2.1]; rfl
    | negSucc n =>
      show zq_c ng _ z = z
      refine zq_cif (fun hb2 => ?_) rfl
      refine hk _ (zy_sem_pl ?_ ((h2 ..).trans (key (hfn hb2 n))) (fun q => by rw [hn] at q; cases q) (h4 ..))
      rw [h1]
      rfl
theorem zqg_obj {ix : Nat} (h9 : Nat.beq a 9999 = true) : zq_g1 (zy_sem pc (.invokespecial ix) len a b v) (zq_obj (pc + 3)) := by
  intro E e y ls st h κ z hk
  cases st with
  | nil => rfl
  | cons w r =>
    obtain ⟨t, x⟩ := w
    cases x with
    | negSucc n => rfl
    | ofNat q =>
      show zq_c (zq_a (zq_a (Nat.beq t 2) (zq_sml q)) (zq_few r)) _ z = z
      refine zq_cif (fun hb => ?_) rfl
      have b1 := zq_ai hb
      have b2 := zq_ai b1.1
      have e1 : t = 2 := Nat.eq_of_beq_eq_true b2.1
      subst e1
      refine hk _ _ _ _ (zy_sem_pl ?_ ?_ (fun q => by cases q) rfl)
      · show cond (Nat.beq a 9999) (zy_nt (Int.ofNat q) && true) (zy_rc a _) = true
        rw [h9, zq_smlt b2.2]; rfl
      · show cond (Nat.beq a 9999) (zo_g (decide (0 ≤ Int.ofNat q) && Nat.ble (r.map zs_cat).sum 8) (zs_nx y (pc + 3) ls r h)) _ = _
        rw [h9, cond_true, show decide (0 ≤ Int.ofNat q) = true from decide_eq_true (Int.natCast_nonneg q), zq_fewi b1.2]
        rfl
theorem zqg_newo {ix : Nat} {l : List Int} (h1 : Nat.ble 100 a = false) (hl : zf_new a = some l) : zq_g1 (zy_sem pc (.new ix) len a b v) (zq_newo (pc + 3) a l) := by
  intro E e y ls st h κ z hk
  refine zq_cif (fun hb => ?_) rfl
  rw [zq_snoc_eq]
  rw [zq_len_eq] at hb ⊢
  refine hk _ _ _ _ (zy_sem_pl rfl ?_ (fun _ => ?_) rfl)
  · show cond (Nat.ble 100 a) _ (zo_o (zf_new a) fun l => zs_nx y (pc + 3) ls ((2, (h.length : Int)) :: st) (h ++ [(a, l)])) = _
    rw [h1, hl]
    rfl
  · show (zy_nt (Int.ofNat h.length) && true) = true
    rw [zq_smlt hb]; rfl
theorem zqg_newa {kd : Nat} {w : Int} (h1 : ∀ ls st, zy_ok ls st ins a b v = zy_nk 1 st) (h4 : ∀ e S, zy_nrm e ins S = S) (h2 : ∀ E y ls h x r, zs_ins E y pc ls ((0, x) :: r) h ins len a b v = zo_g (!decide (Int32.ofInt x < 0) && Nat.ble ((Int32.ofInt x).toNatClampNeg * 4) 536870912) (zs_nx y (pc + l') ls ((2, (h.length : Int)) :: r) (h ++ [(kd, List.replicate (Int32.ofInt x).toNatClampNeg w)]))) : zq_g1 (zy_sem pc ins len a b v) (zq_newa (pc + l') kd w) := by
  intro E e y ls st h κ z hk
  cases st with
  | nil => rfl
  | cons c r =>
    obtain ⟨t, x⟩ := c
    cases x with
    | negSucc n => rfl
    | ofNat n =>
      show zq_c (zq_a (zq_a (Nat.beq t 0) (Nat.ble n 60000000)) (zq_sml (zq_len h))) _ z = z
      refine zq_cif (fun hb => ?_) rfl
      have b1 := zq_ai hb
      have b2 := zq_ai b1.1
      have e1 : t = 0 := Nat.eq_of_beq_eq_true b2.1
      subst e1
      have hn := Nat.le_of_ble_eq_true b2.2
      have hs : zq_sml n = true := Nat.ble_eq_true_of_le (by omega)
      have hnn : (Int32.ofInt (Int.ofNat n)).toInt = (n : Int) := zy_toInt (zq_32 hs)
      have hneg : ¬ Int32.ofInt (Int.ofNat n) < 0 := by
        rw [Int32.lt_iff_toInt_lt, hnn]
        show ¬ (n : Int) < 0
        omega
      have hcl : (Int32.ofInt (Int.ofNat n)).toNatClampNeg = n := by
        show (Int32.ofInt (Int.ofNat n)).toInt.toNat = n
        rw [hnn]
        rfl
      rw [zq_snoc_eq]
      have hb3 := b1.2
      rw [zq_len_eq] at hb3 ⊢
      refine hk _ _ _ _ (zy_sem_pl ?_ ((h2 ..).trans ?_) (fun _ => ?_) (h4 ..))
      · rw [h1]
        show (zy_nt (Int.ofNat n) && true) = true
        rw [zq_smlt hs]; rfl
      · rw [decide_eq_false hneg, hcl, Nat.ble_eq_true_of_le (show n * 4 ≤ 536870912 by omega)]
        rfl
      · show (zy_nt (Int.ofNat h.length) && true) = true
        rw [zq_smlt hb3]; rfl
theorem zqg_aas : zq_g1 (zy_sem pc .aastore len a b v) (zq_aas (pc + 1)) := by
  intro E e y ls st h κ z hk
  cases st with
  | nil => rfl
  | cons w r =>
    obtain ⟨t3, x3⟩ := w
    cases r with
    | nil => rfl
    | cons w r =>
      obtain ⟨t2, x2⟩ := w
      cases r with
      | nil => rfl
      | cons w r =>
        obtain ⟨t1, x1⟩ := w
        cases x3 with
        | negSucc k => rfl
        | ofNat w =>
          cases x2 with
          | negSucc k => rfl
          | ofNat n =>
            cases x1 with
            | negSucc k => rfl
            | ofNat q =>
              show zq_c (zq_a (zq_a (Nat.beq t3 2) (zq_a (Nat.beq t2 0) (Nat.beq t1 2))) (zq_a (zq_sml w) (zq_a (zq_sml n) (zq_sml q)))) _ z = z
              refine zq_cif (fun hb => ?_) rfl
              have b1 := zq_ai hb
              have b0 := zq_ai b1.1
              have b2 := zq_ai b0.2
              have b3 := zq_ai b1.2
              have b4 := zq_ai b3.2
              have e3 : t3 = 2 := Nat.eq_of_beq_eq_true b0.1
              have e2 : t2 = 0 := Nat.eq_of_beq_eq_true b2.1
              have e1 : t1 = 2 := Nat.eq_of_beq_eq_true b2.2
              subst e3; subst e2; subst e1
              rw [zq_len_at]
              cases hc : h[q]? with
              | none => rfl
              | some c =>
                obtain ⟨k, l⟩ := c
                show zq_cell h w z _ = z
                rw [zq_len_at]
                cases hw : h[w]? with
                | none => rfl
                | some cw =>
                  obtain ⟨kw, lw⟩ := cw
                  show zq_c (zq_a (Nat.beq k 52) (Nat.beq kw 3)) _ z = z
                  refine zq_cif (fun hkd => ?_) rfl
                  have hkd := zq_ai hkd
                  have hkd2 : k = 52 := Nat.eq_of_beq_eq_true hkd.1
                  subst hkd2
                  refine zq_wr1i hc (fun hlt => hk _ _ _ _ (zy_sem_pl ?_ ?_ (fun q => by cases q) rfl))
                  · show (zy_nt (Int.ofNat w) && (zy_nt (Int.ofNat n) && (zy_nt (Int.ofNat q) && true))) = true
                    rw [zq_smlt b3.1, zq_smlt b4.1, zq_smlt b4.2]; rfl
                  · show (zo_o (zh_at h (Int.ofNat q)) fun c => zo_g (Nat.beq c.1 52) (zo_o (zi_ix (Int.ofNat n) c.2.length) fun j => zo_o (zh_at h (Int.ofNat w)) fun cx => zo_g (Nat.beq cx.1 3) (zs_nx y (pc + 1) ls r (h.set q (52, c.2.set j (Int.ofNat w)))))) = _
                    rw [zh_at_of hc, zh_at_of hw]
                    show (zo_o (zi_ix (Int.ofNat n) l.length) fun j => zo_g (Nat.beq kw 3) (zs_nx y (pc + 1) ls r (h.set q (52, l.set j (Int.ofNat w))))) = _
                    rw [zi_ixn b4.1 hlt, hkd.2]
                    rfl
theorem zq_segi : ∀ (f : List Int) (sp n : Nat) (k : List Int → Bool) (z : Bool), (sp + n ≤ f.length → k ((f.drop sp).take n) = z) → zq_seg f sp n k z = z := by
  intro f
  induction f with
  | nil =>
    intro sp n k z h
    cases sp with
    | succ sp => rfl
    | zero =>
      cases n with
      | zero => exact h (Nat.le_refl _)
      | succ n => rfl
  | cons x r ih =>
    intro sp n k z h
    cases sp with
    | zero =>
      cases n with
      | zero => exact h (Nat.zero_le _)
      | succ n =>
        show zq_seg r 0 n (fun l => k (x :: l)) z = z
        refine ih 0 n _ z (fun hh => ?_)
        have h1 := h (by simp only [List.length_cons]; omega)
        exact h1
    | succ sp =>
      show zq_seg r sp n k z = z
      refine ih sp n k z (fun hh => ?_)
      exact h (by simp only [List.length_cons]; omega)
theorem zq_overi : ∀ (g : List Int) (dp : Nat) (l : List Int) (k : List Int → Bool) (z : Bool), (dp + l.length ≤ g.length → k (g.take dp ++ (l ++ g.drop (dp + l.length))) = z) → zq_over g dp l k z = z := by
  intro g
  induction g with
  | nil =>
    intro dp l k z h
    cases dp with
    | succ dp => rfl
    | zero =>
      cases l with
      | nil => exact h (Nat.le_refl _)
      | cons w r => rfl
  | cons x r ih =>
    intro dp l k z h
    cases dp with
    | zero =>
      cases l with
      | nil => exact h (Nat.zero_le _)
      | cons w l' =>
        show zq_over r 0 l' (fun r' => k (w :: r')) z = z
        refine ih 0 l' _ z (fun hh => ?_)
        have h1 := h (by simp only [List.length_cons] at hh ⊢; omega)
        have e : 0 + (w :: l').length = (0 + l'.length) + 1 := by simp only [List.length_cons]; omega
        rw [e] at h1
        exact h1
    | succ dp =>
      show zq_over r dp l (fun r' => k (x :: r')) z = z
      refine ih dp l _ z (fun hh => ?_)
      have h1 := h (by simp only [List.length_cons] at hh ⊢; omega)
      have e : dp + 1 + l.length = (dp + l.length) + 1 := by omega
      rw [e] at h1
      exact h1
theorem zi_cpyi {f g : List Int} {sp dp n : Nat} (h1 : sp + n ≤ f.length) (h2 : dp + n ≤ g.length) : zi_cpy f g sp dp n = g.take dp ++ ((f.drop sp).take n ++ g.drop (dp + n)) := by
  have hl1 : (g.take dp).length = dp := by rw [List.length_take]; omega
  have hl2 : ((f.drop sp).take n).length = n := by rw [List.length_take, List.length_drop]; omega
  apply List.ext_getElem?
  intro k
  unfold zi_cpy
  rw [List.getElem?_map]
  by_cases hk : k < g.length
  · rw [List.getElem?_range hk]
    by_cases k1 : k < dp
    · rw [List.getElem?_append_left (by omega), List.getElem?_take_of_lt k1]
      have hb : Nat.ble dp k = false := by
        cases hq : Nat.ble dp k with
        | false => rfl
        | true => have := Nat.le_of_ble_eq_true hq; omega
      show some (cond (Nat.ble dp k && Nat.blt k (dp + n)) (f.getD (sp + (k - dp)) 0) (g.getD k 0)) = _
      rw [hb]
      show some (g.getD k 0) = _
      rw [List.getD_eq_getElem?_getD, List.getElem?_eq_getElem hk]
      rfl
    · rw [List.getElem?_append_right (by omega), hl1]
      have hb : Nat.ble dp k = true := Nat.ble_eq_true_of_le (by omega)
      show some (cond (Nat.ble dp k && Nat.blt k (dp + n)) (f.getD (sp + (k - dp)) 0) (g.getD k 0)) = _
      rw [hb]
      by_cases k2 : k < dp + n
      · rw [List.getElem?_append_left (by omega), List.getElem?_take_of_lt (by omega), List.getElem?_drop]
        rw [show Nat.blt k (dp + n) = true from Nat.ble_eq_true_of_le k2]
        show some (f.getD (sp + (k - dp)) 0) = _
        have hlt : sp + (k - dp) < f.length := by omega
        rw [List.getD_eq_getElem?_getD, List.getElem?_eq_getElem hlt]
        rfl
      · rw [List.getElem?_append_right (by omega), hl2, List.getElem?_drop]
        have hb2 : Nat.blt k (dp + n) = false := by
          cases hq : Nat.blt k (dp + n) with
          | false => rfl
          | true => have : k + 1 ≤ dp + n := Nat.le_of_ble_eq_true hq; omega
        rw [hb2]
        show some (g.getD k 0) = _
        have e : dp + n + (k - dp - n) = k := by omega
        rw [e, List.getD_eq_getElem?_getD, List.getElem?_eq_getElem hk]
        rfl
  · rw [List.getElem?_eq_none (by rw [List.length_range]; omega), List.getElem?_eq_none (by rw [List.length_append, List.length_append, hl1, hl2, List.length_drop]; omega)]
    rfl
theorem zi_posf {n : Nat} (h : zq_sml n = true) : zi_pos (Int.ofNat n) = some n := zi_posn (zq_smli h)
theorem zqg_cpyo {ix : Nat} (h9 : Nat.beq a 9003 = true) : zq_g1 (zy_sem pc (.invokestatic ix) len a b v) (zq_cpyo (pc + 3)) := by
  have ha : a = 9003 := Nat.eq_of_beq_eq_true h9
  intro E e y ls st h κ z hk
  cases st with
  | nil => rfl
  | cons w r =>
    obtain ⟨t5, x5⟩ := w
    cases r with
    | nil => rfl
    | cons w r =>
      obtain ⟨t4, x4⟩ := w
      cases r with
      | nil => rfl
      | cons w r =>
        obtain ⟨t3, x3⟩ := w
        cases r with
        | nil => rfl
        | cons w r =>
          obtain ⟨t2, x2⟩ := w
          cases r with
          | nil => rfl
          | cons w r =>
            obtain ⟨t1, x1⟩ := w
            cases x5 with
            | negSucc k => rfl
            | ofNat n =>
              cases x4 with
              | negSucc k => rfl
              | ofNat dp =>
                cases x3 with
                | negSucc k => rfl
                | ofNat q1 =>
                  cases x2 with
                  | negSucc k => rfl
                  | ofNat sp =>
                    cases x1 with
                    | negSucc k => rfl
                    | ofNat q0 =>
                      show zq_c (zq_a (zq_a (zq_a (Nat.beq t5 0) (Nat.beq t4 0)) (zq_a (Nat.beq t3 2) (zq_a (Nat.beq t2 0) (Nat.beq t1 2)))) (zq_a (zq_a (zq_a (zq_sml n) (zq_sml dp)) (zq_a (zq_sml q1) (zq_a (zq_sml sp) (zq_sml q0)))) (zq_few r))) _ z = z
                      refine zq_cif (fun hb => ?_) rfl
                      have b1 := zq_ai hb
                      have b2 := zq_ai b1.1
                      have b3 := zq_ai b2.1
                      have b4 := zq_ai b2.2
                      have b5 := zq_ai b4.2
                      have c1 := zq_ai b1.2
                      have c2 := zq_ai c1.1
                      have c3 := zq_ai c2.1
                      have c4 := zq_ai c2.2
                      have c5 := zq_ai c4.2
                      have e5 : t5 = 0 := Nat.eq_of_beq_eq_true b3.1
                      have e4 : t4 = 0 := Nat.eq_of_beq_eq_true b3.2
                      have e3 : t3 = 2 := Nat.eq_of_beq_eq_true b4.1
                      have e2 : t2 = 0 := Nat.eq_of_beq_eq_true b5.1
                      have e1 : t1 = 2 := Nat.eq_of_beq_eq_true b5.2
                      subst e5; subst e4; subst e3; subst e2; subst e1
                      rw [zq_len_at]
                      cases h0 : h[q0]? with
                      | none => rfl
                      | some cc0 =>
                        obtain ⟨k0, f⟩ := cc0
                        show zq_cell h q1 z _ = z
                        rw [zq_len_at]
                        cases h1 : h[q1]? with
                        | none => rfl
                        | some cc1 =>
                          obtain ⟨k1, g⟩ := cc1
                          show zq_c (zq_a (Nat.beq k0 50) (Nat.beq k1 50)) _ z = z
                          refine zq_cif (fun hkd => ?_) rfl
                          have hkd := zq_ai hkd
                          refine zq_segi _ _ _ _ _ (fun g1 => ?_)
                          refine zq_overi _ _ _ _ _ (fun g2 => ?_)
                          have hl2 : ((f.drop sp).take n).length = n := by rw [List.length_take, List.length_drop]; omega
                          rw [hl2] at g2 ⊢
                          rw [← zi_cpyi g1 g2, zq_set_eq]
                          cases hblt : Nat.blt q1 h.length with
                          | false => rfl
                          | true =>
                            refine hk _ _ _ _ (zy_sem_pl ?_ ?_ (fun q => ?_) rfl)
                            · show cond (Nat.beq a 9003) (zy_nt (Int.ofNat n) && (zy_nt (Int.ofNat dp) && (zy_nt (Int.ofNat q1) && (zy_nt (Int.ofNat sp) && (zy_nt (Int.ofNat q0) && true))))) _ = true
                              rw [h9, zq_smlt c3.1, zq_smlt c3.2, zq_smlt c4.1, zq_smlt c5.1, zq_smlt c5.2]
                              rfl
                            · show cond (Nat.beq a 9003) (zs_copy y pc ls _ h) _ = _
                              rw [h9, cond_true]
                              exact zs_copy_fw (zh_at_of h0) (zh_at_of h1) (zi_posf c3.1) (zi_posf c5.1) (zi_posf c3.2) (Nat.eq_of_beq_eq_true hkd.1) (Nat.eq_of_beq_eq_true hkd.2) g1 g2 (zq_fewi c1.2)
                            · subst ha
                              cases q
end
