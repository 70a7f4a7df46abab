/-! The fast walk is sound. -/
theorem zq_two_zm (y : Nat) : zq_two zm_all y = zm_at y := by
  unfold zq_two zm_at
  rw [zq_nth_eq]
  cases zm_all[y / 16]? with
  | none => rfl
  | some ts => exact zq_nth_eq ..
theorem zq_of_ok (pc : Nat) (ins : Instr) (len a b : Nat) (v : Int) : ∃ F, zq_of pc ins len a b v = some F ∧ zq_ok (zy_sem pc ins len a b v) F := by
  cases ins with
  | iconst n => exact ⟨_, rfl, zq_w_ok (zqg_push (l' := 1) (fun _ _ => rfl) (fun _ _ => rfl) (fun _ _ _ _ _ => rfl))⟩
  | bipush n => exact ⟨_, rfl, zq_w_ok (zqg_push (l' := 2) (fun _ _ => rfl) (fun _ _ => rfl) (fun _ _ _ _ _ => rfl))⟩
  | sipush n => exact ⟨_, rfl, zq_w_ok (zqg_push (l' := 3) (fun _ _ => rfl) (fun _ _ => rfl) (fun _ _ _ _ _ => rfl))⟩
  | iload_n n => exact ⟨_, rfl, zq_w_ok (zqg_load (l' := 1) (t := 0) (fun _ _ => rfl) rfl (fun _ _ => rfl) (fun _ _ _ _ _ => rfl))⟩
  | iload n => exact ⟨_, rfl, zq_w_ok (zqg_load (l' := 2) (t := 0) (fun _ _ => rfl) rfl (fun _ _ => rfl) (fun _ _ _ _ _ => rfl))⟩
  | aload_n n => exact ⟨_, rfl, zq_w_ok (zqg_load (l' := 1) (t := 2) (fun _ _ => rfl) rfl (fun _ _ => rfl) (fun _ _ _ _ _ => rfl))⟩
  | aload n => exact ⟨_, rfl, zq_w_ok (zqg_load (l' := 2) (t := 2) (fun _ _ => rfl) rfl (fun _ _ => rfl) (fun _ _ _ _ _ => rfl))⟩
  | istore_n n => exact ⟨_, rfl, zq_w_ok (zqg_store (l' := 1) (t := 0) (fun _ _ => rfl) rfl (fun _ _ => rfl) (fun _ _ _ _ _ => rfl))⟩
  | istore n => exact ⟨_, rfl, zq_w_ok (zqg_store (l' := 2) (t := 0) (fun _ _ => rfl) rfl (fun _ _ => rfl) (fun _ _ _ _ _ => rfl))⟩
  | astore_n n => exact ⟨_, rfl, zq_w_ok (zqg_store (l' := 1) (t := 2) (fun _ _ => rfl) rfl (fun _ _ => rfl) (fun _ _ _ _ _ => rfl))⟩
  | astore n => exact ⟨_, rfl, zq_w_ok (zqg_store (l' := 2) (t := 2) (fun _ _ => rfl) rfl (fun _ _ => rfl) (fun _ _ _ _ _ => rfl))⟩
  | iinc n k => exact ⟨_, rfl, zq_w_ok (zqg_inc n k)⟩
  | iadd => exact ⟨_, rfl, zq_w_ok (zqg_bin (g := fun x y => x + y) (funext fun x => funext fun y => zq_addi x y) (fun _ _ => rfl) (fun _ _ => rfl) (fun _ _ _ _ _ => rfl))⟩
  | isub => exact ⟨_, rfl, zq_w_ok (zqg_bin (g := fun x y => x - y) (funext fun x => funext fun y => zq_subi x y) (fun _ _ => rfl) (fun _ _ => rfl) (fun _ _ _ _ _ => rfl))⟩
  | imul => exact ⟨_, rfl, zq_w_ok (zqg_bin (g := fun x y => x * y) (funext fun x => funext fun y => zq_muli x y) (fun _ _ => rfl) (fun _ _ => rfl) (fun _ _ _ _ _ => rfl))⟩
  | ixor => exact ⟨_, rfl, zq_w_ok (zqg_bin (g := zi_xor) rfl (fun _ _ => rfl) (fun _ _ => rfl) (fun _ _ _ _ _ => rfl))⟩
  | iand => exact ⟨_, rfl, zq_w_ok (zqg_bin (g := zi_and) rfl (fun _ _ => rfl) (fun _ _ => rfl) (fun _ _ _ _ _ => rfl))⟩
  | irem => exact ⟨_, rfl, zq_w_ok zqg_rem⟩
  | dup => exact ⟨_, rfl, zq_w_ok zqg_dup⟩
  | goto o => exact ⟨_, rfl, zqg_goto o⟩
  | ifCond c o => exact ⟨_, rfl, zq_w_ok (zqg_ifz c o)⟩
  | if_icmp c o => exact ⟨_, rfl, zq_w_ok (zqg_icmp c o)⟩
  | iaload => exact ⟨_, rfl, zq_w_ok (zqg_al (fun _ _ => rfl) rfl (fun e y pc' ls t x st h hx => by
      show Sum.inl (y, pc', ls, (t, zy_norm e x) :: st, h) = _
      unfold zy_norm
      rw [zy_ntd hx]) (fun E y ls h i q r hq => by
      show cond (decide (0 ≤ q)) _ (zo_g (decide (q ≤ -2)) (zo_o E[(-q - 2).toNat]? fun l => zo_o (zi_ix i l.length) fun j => zs_nx y (pc + 1) ls ((0, l.getD j 0) :: r) h)) = _
      rw [decide_eq_true hq]
      rfl))⟩
  | laload => exact ⟨_, rfl, zq_w_ok (zqg_al (fun _ _ => rfl) rfl (fun e y pc' ls t x st h hx => rfl) (fun E y ls h i q r hq => rfl))⟩
  | aaload => exact ⟨_, rfl, zq_w_ok zqg_aal⟩
  | iastore => exact ⟨_, rfl, zq_w_ok (zqg_as (fun _ _ => rfl) rfl (fun _ _ => rfl) (fun _ _ _ _ _ _ _ _ => rfl))⟩
  | lastore => exact ⟨_, rfl, zq_w_ok (zqg_as (fun _ _ => rfl) rfl (fun _ _ => rfl) (fun _ _ _ _ _ _ _ _ => rfl))⟩
  | aastore => exact ⟨_, rfl, zq_w_ok zqg_aas⟩
  | arraylength => exact ⟨_, rfl, zq_w_ok zqg_ln⟩
  | getfield ix =>
    simp only [zq_of]
    cases ht : zf_tag a b with
    | none => exact ⟨_, rfl, zq_slow_ok _⟩
    | some t => exact ⟨_, rfl, zq_w_ok (zqg_gf ht)⟩
  | putfield ix =>
    simp only [zq_of]
    cases ht : zf_tag a b with
    | none => exact ⟨_, rfl, zq_slow_ok _⟩
    | some t =>
      simp only
      cases h5 : Nat.beq t 5 with
      | true => exact ⟨_, rfl, zq_slow_ok _⟩
      | false => exact ⟨_, rfl, zq_w_ok (zqg_pf ht h5)⟩
  | new ix =>
    simp only [zq_of]
    cases h1 : Nat.ble 100 a with
    | true => exact ⟨_, rfl, zq_slow_ok _⟩
    | false =>
      cases hl : zf_new a with
      | none => exact ⟨_, rfl, zq_slow_ok _⟩
      | some l => exact ⟨_, rfl, zq_w_ok (zqg_newo h1 hl)⟩
  | newarray t =>
    cases t with
    | int => exact ⟨_, rfl, zq_w_ok (zqg_newa (l' := 2) (fun _ _ => rfl) (fun _ _ => rfl) (fun _ _ _ _ _ _ => rfl))⟩
    | _ => exact ⟨_, rfl, zq_slow_ok _⟩
  | anewarray ix => exact ⟨_, rfl, zq_w_ok (zqg_newa (l' := 3) (fun _ _ => rfl) (fun _ _ => rfl) (fun _ _ _ _ _ _ => rfl))⟩
  | invokestatic ix =>
    simp only [zq_of]
    cases h3 : Nat.beq a 9003 with
    | true => exact ⟨_, rfl, zq_w_ok (zqg_cpyo h3)⟩
    | false =>
      simp only
      rw [zq_two_zm]
      cases h9 : Nat.ble 9000 a with
      | true => exact ⟨_, rfl, zq_slow_ok _⟩
      | false =>
        cases hm : zm_at a with
        | none => exact ⟨_, rfl, zq_slow_ok _⟩
        | some m =>
          simp only
          cases hb : Nat.beq b 1 with
          | false => exact ⟨_, rfl, zq_slow_ok _⟩
          | true => exact ⟨_, rfl, zq_wc_ok (zqg_call hm h9 hb)⟩
  | invokevirtual ix =>
    simp only [zq_of]
    rw [zq_two_zm]
    cases hm : zm_at a with
    | none => exact ⟨_, rfl, zq_slow_ok _⟩
    | some m =>
      simp only
      cases hb : (Nat.beq b 0 && Nat.blt m.2.2.2.2.2.2.1 60) with
      | false => exact ⟨_, rfl, zq_slow_ok _⟩
      | true =>
        have hb2 := Bool.and_eq_true_iff.mp hb
        have hlt : m.2.2.2.2.2.2.1 + 1 ≤ 60 := Nat.le_of_ble_eq_true hb2.2
        have h99 : Nat.beq m.2.2.2.2.2.2.1 99 = false := by
          cases hq : Nat.beq m.2.2.2.2.2.2.1 99 with
          | false => rfl
          | true =>
            have := Nat.eq_of_beq_eq_true hq
            omega
        refine ⟨_, rfl, zq_wc_ok (zqg_callv hm h99 (fun _ _ q => q) rfl (fun _ _ => rfl) (fun E y ls st h hr => ?_))⟩
        show (zo_o (zm_at a) fun m => zo_g ((Nat.blt m.2.2.2.2.2.2.1 60 && zs_recv h m.2.2.2.2.2.2.1 ((st.take m.2.2.2.2.2.1).reverse) || zs_recvS m.2.2.2.2.2.2.1 ((st.take m.2.2.2.2.2.1).reverse)) && Nat.beq b 0) (zs_call y pc a ls st h)) = _
        rw [hm]
        show zo_g ((Nat.blt m.2.2.2.2.2.2.1 60 && zs_recv h m.2.2.2.2.2.2.1 ((st.take m.2.2.2.2.2.1).reverse) || zs_recvS m.2.2.2.2.2.2.1 ((st.take m.2.2.2.2.2.1).reverse)) && Nat.beq b 0) (zs_call y pc a ls st h) = _
        rw [hr, hb2.1, hb2.2]
        rfl
  | invokespecial ix =>
    simp only [zq_of]
    cases h3 : Nat.beq a 9999 with
    | true => exact ⟨_, rfl, zq_w_ok (zqg_obj h3)⟩
    | false =>
      simp only
      rw [zq_two_zm]
      cases h9 : Nat.ble 9000 a with
      | true => exact ⟨_, rfl, zq_slow_ok _⟩
      | false =>
        cases hm : zm_at a with
        | none => exact ⟨_, rfl, zq_slow_ok _⟩
        | some m =>
          simp only
          cases hb : (Nat.beq b 2 && !Nat.beq m.2.2.2.2.2.2.1 99) with
          | false => exact ⟨_, rfl, zq_slow_ok _⟩
          | true =>
            have hb2 := Bool.and_eq_true_iff.mp hb
            have h99 : Nat.beq m.2.2.2.2.2.2.1 99 = false := by simpa using hb2.2
            refine ⟨_, rfl, zq_wc_ok (zqg_callv hm h99 (fun ls st q => ?_) rfl (fun _ _ => rfl) (fun E y ls st h hr => ?_))⟩
            · show cond (Nat.beq a 9999) (zy_nk 1 st) (zy_rc a st) = true
              rw [h3]
              exact q
            · show cond (Nat.beq a 9999) _ (zo_o (zm_at a) fun m => zo_g (zs_recv h m.2.2.2.2.2.2.1 ((st.take m.2.2.2.2.2.1).reverse) && Nat.beq b 2) (zs_call y pc a ls st h)) = _
              rw [h3, hm]
              show zo_g (zs_recv h m.2.2.2.2.2.2.1 ((st.take m.2.2.2.2.2.1).reverse) && Nat.beq b 2) (zs_call y pc a ls st h) = _
              rw [hr, hb2.1]
              rfl
  | _ => exact ⟨_, rfl, zq_slow_ok _⟩
theorem zq_ofr_ok (y pc : Nat) (ins : Instr) (len a b : Nat) (v : Int) : ∃ F, zq_ofr y pc ins len a b v = some F ∧ zq_ok (zy_sem pc ins len a b v) F := by
  cases ins with
  | ireturn =>
    simp only [zq_ofr]
    rw [zq_two_zm]
    cases hm : zm_at y with
    | none => exact ⟨_, rfl, zq_slow_ok _⟩
    | some m =>
      simp only
      cases h1 : Nat.beq m.2.2.2.2.1 1 with
      | true => exact ⟨_, rfl, zq_wr_ok (zqg_ret (f := fun rc x => Nat.beq rc 1 || (Nat.beq rc 2 && (decide (x = 0) || decide (x = 1)) || (Nat.beq rc 6 && decide (x = 48) || Nat.beq rc 7 && decide (x = 0)))) hm (fun _ _ => rfl) rfl (fun _ _ => rfl) (fun _ _ _ _ _ => rfl) (fun n _ => by show (Nat.beq m.2.2.2.2.1 1 || _) = true; rw [h1]; rfl) (fun _ n => by show (Nat.beq m.2.2.2.2.1 1 || _) = true; rw [h1]; rfl))⟩
      | false =>
        cases h2 : Nat.beq m.2.2.2.2.1 2 with
        | true =>
          refine ⟨_, rfl, zq_wr_ok (zqg_ret (f := fun rc x => Nat.beq rc 1 || (Nat.beq rc 2 && (decide (x = 0) || decide (x = 1)) || (Nat.beq rc 6 && decide (x = 48) || Nat.beq rc 7 && decide (x = 0)))) hm (fun _ _ => rfl) rfl (fun _ _ => rfl) (fun _ _ _ _ _ => rfl) (fun n hn => ?_) (fun q => by cases q))⟩
          show (Nat.beq m.2.2.2.2.1 1 || (Nat.beq m.2.2.2.2.1 2 && (decide (Int.ofNat n = 0) || decide (Int.ofNat n = 1)) || _)) = true
          rw [h2]
          have hn2 := Nat.le_of_ble_eq_true (show Nat.ble n 1 = true from hn)
          match n, hn2 with
          | 0, _ => simp
          | 1, _ => simp
        | false => exact ⟨_, rfl, zq_slow_ok _⟩
  | areturn =>
    simp only [zq_ofr]
    rw [zq_two_zm]
    cases hm : zm_at y with
    | none => exact ⟨_, rfl, zq_slow_ok _⟩
    | some m =>
      simp only
      cases h1 : Nat.beq m.2.2.2.2.1 3 with
      | true =>
        refine ⟨_, rfl, zq_wr_ok (zqg_ret (f := fun rc x => Nat.beq rc 3 && decide (-1 ≤ x)) hm (fun _ _ => rfl) rfl (fun _ _ => rfl) (fun _ _ _ _ _ => rfl) (fun n _ => ?_) (fun q => by cases q))⟩
        show (Nat.beq m.2.2.2.2.1 3 && decide (-1 ≤ Int.ofNat n)) = true
        rw [h1, decide_eq_true (by show (-1 : Int) ≤ (n : Int); omega)]
        rfl
      | false => exact ⟨_, rfl, zq_slow_ok _⟩
  | return_ =>
    simp only [zq_ofr]
    rw [zq_two_zm]
    cases hm : zm_at y with
    | none => exact ⟨_, rfl, zq_slow_ok _⟩
    | some m =>
      simp only
      cases h1 : Nat.beq m.2.2.2.2.1 0 with
      | true => exact ⟨_, rfl, zq_wr_ok (zqg_ret0 hm h1)⟩
      | false => exact ⟨_, rfl, zq_slow_ok _⟩
  | _ => simp only [zq_ofr]; exact zq_of_ok _ _ _ _ _ _
theorem zq_findi {y pc : Nat} : ∀ {es : List ze_E} {F : zq_F}, zq_find y es pc = some F → ∃ ins len a b w v, zt_find es pc = some (ins, len, a, b, w, v) ∧ zq_ok (zy_sem pc ins len a b v) F := by
  intro es
  induction es with
  | nil => intro F h; cases h
  | cons e es ih =>
    intro F h
    obtain ⟨p, ins, len, a, b, w, v⟩ := e
    have h2 : cond (Nat.beq p pc) (zq_ofr y p ins len a b v) (zq_find y es pc) = some F := h
    show ∃ ins' len' a' b' w' v', cond (Nat.beq p pc) (some (ins, len, a, b, w, v)) (zt_find es pc) = some (ins', len', a', b', w', v') ∧ zq_ok (zy_sem pc ins' len' a' b' v') F
    cases hb : Nat.beq p pc with
    | true =>
      rw [hb] at h2
      have hp : p = pc := Nat.eq_of_beq_eq_true hb
      subst hp
      obtain ⟨F', h3, h4⟩ := zq_ofr_ok y p ins len a b v
      have h5 : zq_ofr y p ins len a b v = some F := h2
      rw [h3] at h5
      cases h5
      exact ⟨ins, len, a, b, w, v, rfl, h4⟩
    | false =>
      rw [hb] at h2
      exact ih h2
theorem zq_ati {y pc : Nat} {F : zq_F} (h : zq_at y pc = some F) : ∃ ins len a b w v, zt_at y pc = some (ins, len, a, b, w, v) ∧ zq_ok (zy_sem pc ins len a b v) F := by
  unfold zq_at zq_two at h
  unfold zt_at zt_tab
  rw [zq_nth_eq] at h
  cases h1 : zt_all[y / 16]? with
  | none => rw [h1] at h; cases h
  | some ts =>
    rw [h1] at h
    simp only at h ⊢
    rw [zq_nth_eq] at h
    cases h2 : ts[y % 16]? with
    | none => rw [h2] at h; cases h
    | some t =>
      rw [h2] at h
      simp only at h ⊢
      rw [zq_nth_eq] at h
      cases h3 : t[pc / 16]? with
      | none => rw [h3] at h; cases h
      | some es =>
        rw [h3] at h
        exact zq_findi h
theorem zq_enti {t : Nat} {as : List zv_V} {h : zv_H} : zq_ent t as h = zs_entry t as h := by
  unfold zq_ent zs_entry
  rw [zq_two_zm]
  cases zm_at t with
  | none => rfl
  | some m => rfl
section
variable {s : Nat → Int} {E : List (List Int)}
def zq_G (s : Nat → Int) (E : List (List Int)) (d : Nat) (fr : zv_F) (k : zy_E → zv_R → Bool) : Prop := ∃ f r e', zy_mod s e' ∧ k e' r = true ∧ zs_exec (E.map (fun l => List.map (zy_f s) l)) f d (zy_fr s fr) = some (zy_r s r)
def zq_Ih (s : Nat → Int) (E : List (List Int)) (ih : zq_I) : Prop := ∀ d e y pc ls st h k, zy_mod s e → ih d e y pc ls st h k = true → zq_G s E d (y, pc, ls, st, h) k
theorem zq_khi {ih : zq_I} (hih : zq_Ih s E ih) (h32 : ∀ i, -2147483648 ≤ s i ∧ s i ≤ 2147483647) {d : Nat} {e : zy_E} {fr : zv_F} {k : zy_E → zv_R → Bool} (hm : zy_mod s e) (h : zq_kh ih d k (zy_step E e fr) = true) : zq_G s E d fr k := by
  cases hz : zy_step E e fr with
  | none => rw [hz] at h; cases h
  | some l =>
    rw [hz] at h
    obtain ⟨p, hp1, hp2, hp3⟩ := zy_stepi hm h32 hz
    have h2 := zy_all1i h p hp1
    obtain ⟨e1, S⟩ := p
    match S, hp3, h2 with
    | .inl (y1, pc1, ls1, st1, h1), hp3, h2 =>
      obtain ⟨f, r, e', k1, k2, k3⟩ := hih d e1 y1 pc1 ls1 st1 h1 k hp2 h2
      refine ⟨f + 1, r, e', k1, k2, ?_⟩
      rw [zs_exec, hp3]
      exact k3
    | .inr (.inr r), hp3, h2 =>
      refine ⟨1, r, e1, hp2, h2, ?_⟩
      rw [zs_exec, hp3]
      rfl
    | .inr (.inl (t, as, (y, pc, ls, st, hh))), hp3, h2 =>
      have h2 : zq_kc ih d e1 y k t as pc ls st hh = true := h2
      cases d with
      | zero => cases h2
      | succ d =>
        unfold zq_kc at h2
        simp only [zq_enti] at h2
        cases hent : zs_entry t as hh with
        | none => rw [hent] at h2; cases h2
        | some fr1 =>
          rw [hent] at h2
          obtain ⟨y1, pc1, ls1, st1, h1⟩ := fr1
          obtain ⟨f1, r1, e2, k1, k2, k3⟩ := hih d e1 y1 pc1 ls1 st1 h1 _ hp2 h2
          have hent' := zy_entry (s := s) hent
          have hbk := zy_back (s := s) (r := r1) (g := (y, pc, ls, st, hh))
          unfold zq_bk at k2
          cases hb : zs_back r1 (y, pc, ls, st, hh) with
          | none =>
            rw [hb] at k2 hbk
            have hcc : (Nat.beq r1.1 2 && List.isEmpty (zh_find zh_tabs y) && !zm_ini y) = true ∧ k e2 r1 = true := by
              cases hc : (Nat.beq r1.1 2 && List.isEmpty (zh_find zh_tabs y) && !zm_ini y) with
              | true =>
                simp only [hc] at k2
                exact ⟨rfl, k2⟩
              | false =>
                simp only [hc] at k2
                cases k2
            refine ⟨f1 + 1, r1, e2, k1, hcc.2, ?_⟩
            rw [zs_exec, hp3]
            show (match zs_entry t (as.map (zy_v s)) (zy_h s hh) with
              | none => none
              | some fr' => match zs_exec (E.map (fun l => List.map (zy_f s) l)) f1 d fr' with
                | none => none
                | some r => match zs_back r (zy_fr s (y, pc, ls, st, hh)) with
                  | none => cond (Nat.beq r.1 2 && List.isEmpty (zh_find zh_tabs y) && !zm_ini y) (some r) none
                  | some g' => zs_exec (E.map (fun l => List.map (zy_f s) l)) f1 (d + 1) g') = _
            rw [hent']
            simp only
            rw [k3]
            simp only
            rw [hbk]
            show cond (Nat.beq r1.1 2 && List.isEmpty (zh_find zh_tabs y) && !zm_ini y) (some (zy_r s r1)) none = _
            rw [hcc.1]
            rfl
          | some g' =>
            rw [hb] at k2 hbk
            obtain ⟨y2, pc2, ls2, st2, hh2⟩ := g'
            obtain ⟨f2, r2, e3, k4, k5, k6⟩ := hih (d + 1) e2 y2 pc2 ls2 st2 hh2 k k1 k2
            refine ⟨max f1 f2 + 1, r2, e3, k4, k5, ?_⟩
            rw [zs_exec, hp3]
            show (match zs_entry t (as.map (zy_v s)) (zy_h s hh) with
              | none => none
              | some fr' => match zs_exec (E.map (fun l => List.map (zy_f s) l)) (max f1 f2) d fr' with
                | none => none
                | some r => match zs_back r (zy_fr s (y, pc, ls, st, hh)) with
                  | none => cond (Nat.beq r.1 2 && List.isEmpty (zh_find zh_tabs y) && !zm_ini y) (some r) none
                  | some g' => zs_exec (E.map (fun l => List.map (zy_f s) l)) (max f1 f2) (d + 1) g') = _
            rw [hent']
            simp only
            rw [zs_more f1 k3 (Nat.le_max_left ..)]
            simp only
            rw [hbk]
            exact zs_more f2 k6 (Nat.le_max_right ..)
theorem zq_onei {ih : zq_I} (hih : zq_Ih s E ih) (h32 : ∀ i, -2147483648 ≤ s i ∧ s i ≤ 2147483647) {d : Nat} {e : zy_E} {y pc : Nat} {ls st : List zv_V} {h : zv_H} {k : zy_E → zv_R → Bool} (hm : zy_mod s e) (hz : zq_one E ih d e y pc ls st h k = true) : zq_G s E d (y, pc, ls, st, h) k := by
  unfold zq_one at hz
  cases hF : zq_at y pc with
  | none => rw [hF] at hz; cases hz
  | some F =>
    rw [hF] at hz
    obtain ⟨ins, len, a, b, w, v, h1, h2⟩ := zq_ati hF
    have h3 : F E e y ls st h (zq_kn ih d e y k) (zq_kc ih d e y k) (k e) (zq_kh ih d k) = true := hz
    rw [h2 E e y ls st h (zq_kn ih d e y k) (zq_kc ih d e y k) (k e) (zq_kh ih d k) ⟨fun _ _ _ _ => rfl, fun _ _ _ _ _ _ => rfl, fun _ => rfl⟩] at h3
    have h4 : zy_step E e (y, pc, ls, st, h) = zy_sem pc ins len a b v E e y ls st h := by
      unfold zy_step zy_sem
      simp only
      rw [h1]
      rfl
    rw [← h4] at h3
    exact zq_khi hih h32 hm h3
theorem zq_sound {hs : List zy_E} (h32 : ∀ i, -2147483648 ≤ s i ∧ s i ≤ 2147483647) (hhs : ∃ e ∈ hs, zy_mod s e) : ∀ n, zq_Ih s E (zq_exec E hs n) := by
  intro n
  induction n with
  | zero => intro d e y pc ls st h k _ hz; cases hz
  | succ n ih =>
    intro d e y pc ls st h k hm hz
    have hz' : zq_c (zq_c (Nat.beq y zk_law) (Nat.beq pc zy_pc0) false) (zq_many E hs (zq_exec E hs n) d y pc ls st h k) (zq_one E (zq_exec E hs n) d e y pc ls st h k) = true := hz
    cases hb : zq_c (Nat.beq y zk_law) (Nat.beq pc zy_pc0) false with
    | true =>
      rw [hb] at hz'
      obtain ⟨e1, he, hm1⟩ := hhs
      exact zq_onei ih h32 hm1 (zy_all1i hz' e1 he)
    | false =>
      rw [hb] at hz'
      exact zq_onei ih h32 hm hz'
end
