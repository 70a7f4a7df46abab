/-! Every instruction that looks at no token. -/
theorem zy_E_map {s : Nat → Int} {E : List (List Int)} (i : Nat) : (E.map (fun l => l.map (zy_f s)))[i]? = E[i]?.map (fun l => l.map (zy_f s)) := List.getElem?_map ..
theorem zy_aaload {s : Nat → Int} {y pc : Nat} {ls st : List zv_V} {h : zv_H} {S : zv_S} (hok : zy_nk 2 st = true) (hz : (zo_1 st 0 fun i r => zo_1 r 2 fun q r => zo_o (zh_at h q) fun c => zo_g (Nat.beq c.1 52) (zo_o (zi_ix i c.2.length) fun j => zo_g (decide (-1 ≤ c.2.getD j 0)) (zs_nx y (pc + 1) ls ((2, c.2.getD j 0) :: r) h))) = some S) (hp : zy_post S = true) : (zo_1 (st.map (zy_v s)) 0 fun i r => zo_1 r 2 fun q r => zo_o (zh_at (zy_h s h) q) fun c => zo_g (Nat.beq c.1 52) (zo_o (zi_ix i c.2.length) fun j => zo_g (decide (-1 ≤ c.2.getD j 0)) (zs_nx y (pc + 1) (ls.map (zy_v s)) ((2, c.2.getD j 0) :: r) (zy_h s h)))) = some (zy_S s S) := by
  have hx : ∀ {x : Int} {r : List zv_V}, S = .inl (y, pc + 1, ls, (2, x) :: r, h) → zy_nt x = true := fun q => by subst q; exact zy_postx hp
  revert hp
  revert S
  intro S hz hx hp
  refine zc_1 (s := s) (P := fun S' => S' = S) (fun i r e => zc_1 (fun q r' e' => ?_)) S hz rfl
  subst e'; subst e
  have k1 := zy_nk1 (s := s) hok
  have k2 := zy_nk1 (s := s) k1.2
  rw [k1.1, k2.1]
  refine zc_o (zy_c s) (zy_hat h q) (fun c _ => zc_g (fun q => q) (fun _ => zc_oi (by rw [show (zy_c s c).2.length = c.2.length from List.length_map _]) (fun j _ => ?_)))
  intro S1 e1 e2
  subst e2
  obtain ⟨g1, g2⟩ := zo_g_inv e1
  have g3 : zy_f s (c.2.getD j 0) = c.2.getD j 0 := zy_ntf (hx (zs_nx_inv g2))
  have g4 : (zy_c s c).2.getD j 0 = c.2.getD j 0 := by
    show (c.2.map (zy_f s)).getD j 0 = _
    rw [zy_getD, g3]
  rw [g4, zs_nx_inv g2]
  show cond _ _ none = _
  rw [g1, cond_true]
  show some _ = some (Sum.inl (y, pc + 1, ls.map (zy_v s), (2, zy_f s (c.2.getD j 0)) :: r'.map (zy_v s), zy_h s h))
  rw [g3]
theorem zy_plain {s : Nat → Int} {y pc len a b : Nat} {v : Int} {ls st : List zv_V} {h : zv_H} {E : List (List Int)} {ins : Instr} (hok : zy_ok ls st ins a b v = true) : zy_Rl s (fun S => zy_new ins a = true → zy_post S = true) (zs_ins E y pc ls st h ins len a b v) (zs_ins (E.map (fun l => l.map (zy_f s))) y pc (ls.map (zy_v s)) (st.map (zy_v s)) (zy_h s h) ins len a b v) := by
  cases ins with
  | iconst n => exact zc_push (fun q => zy_postx (q rfl))
  | bipush n => exact zc_push (fun q => zy_postx (q rfl))
  | sipush n => exact zc_push (fun q => zy_postx (q rfl))
  | ldc n => exact zc_cond rfl (fun _ => zc_push (fun q => zy_postx (q rfl))) (fun _ => zc_g (fun q => q) (fun _ => zc_push (fun _ => rfl)))
  | getstatic n => exact zc_cond rfl (fun _ => zc_push (fun _ => rfl)) (fun _ => zc_g (fun q => q) (fun _ => zc_push (fun _ => rfl)))
  | baload =>
    simp only [zs_ins]
    refine zc_1 (fun x r e => zc_1 (fun x' r' e' => ?_))
    subst e'; subst e
    have k1 := zy_nk1 (s := s) hok
    have k2 := zy_nk1 (s := s) k1.2
    rw [k1.1, k2.1]
    exact zc_g (fun q => q) (fun _ => zc_push (fun _ => rfl))
  | i2c =>
    simp only [zs_ins]
    refine zc_1 (fun x r e => ?_)
    subst e
    rw [(zy_nk1 (s := s) hok).1]
    exact zc_g (fun q => q) (fun _ => zc_push (fun q => zy_postx (q rfl)))
  | ldc_w n => exact zc_g (fun q => q) (fun _ => zc_push (fun q => zy_postx (q rfl)))
  | iload_n n => exact zc_load
  | iload n => exact zc_load
  | aload_n n => exact zc_load
  | aload n => exact zc_load
  | istore_n n => exact zc_store
  | istore n => exact zc_store
  | astore_n n => exact zc_store
  | astore n => exact zc_store
  | iinc n k =>
    simp only [zs_ins]
    refine zc_o (zy_v s) (List.getElem?_map ..) (fun x hx => zc_g (fun q => by rw [zy_pok]; exact q) (fun _ => zc_nx (fun _ => ⟨?_, rfl, rfl⟩)))
    have h1 : (zy_nt x.2 && zy_nt (x.2 + v)) = true := by
      have := hok
      simp only [zy_ok, zy_inc, hx] at this
      exact this
    have h2 := Bool.and_eq_true_iff.mp h1
    rw [List.map_set]
    show (ls.map (zy_v s)).set a (0, zy_f s x.2 + v) = (ls.map (zy_v s)).set a (0, zy_f s (x.2 + v))
    rw [zy_ntf h2.1, zy_ntf h2.2]
  | iadd => exact zc_int2 hok (fun S q => q rfl)
  | isub => exact zc_int2 hok (fun S q => q rfl)
  | imul => exact zc_int2 hok (fun S q => q rfl)
  | iand => exact zc_int2 hok (fun S q => q rfl)
  | ixor => exact zc_int2 hok (fun S q => q rfl)
  | ishr => exact zc_int2 hok (fun S q => q rfl)
  | iushr => exact zc_int2 hok (fun S q => q rfl)
  | irem =>
    simp only [zs_ins]
    refine zc_1 (fun x r e => zc_1 (fun x' r' e' => ?_))
    subst e'; subst e
    have k1 := zy_nk1 (s := s) hok
    have k2 := zy_nk1 (s := s) k1.2
    rw [k1.1, k2.1]
    exact zc_g (fun q => q) (fun _ => zc_push (fun q => zy_postx (q rfl)))
  | idiv =>
    simp only [zs_ins]
    refine zc_1 (fun x r e => zc_1 (fun x' r' e' => ?_))
    subst e'; subst e
    have k1 := zy_nk1 (s := s) hok
    have k2 := zy_nk1 (s := s) k1.2
    rw [k1.1, k2.1]
    exact zc_g (fun q => q) (fun _ => zc_push (fun q => zy_postx (q rfl)))
  | ineg =>
    simp only [zs_ins]
    refine zc_1 (fun x r e => ?_)
    subst e
    rw [(zy_nk1 (s := s) hok).1]
    exact zc_push (fun q => zy_postx (q rfl))
  | dup => exact zc_o (zy_v s) (List.head?_map ..) (fun x _ => zc_g (fun q => q) (fun _ => zc_nx (fun _ => ⟨rfl, rfl, rfl⟩)))
  | pop => exact zc_o (zy_v s) (List.head?_map ..) (fun x _ => zc_g (fun q => q) (fun _ => zc_nx (fun _ => ⟨rfl, by rw [List.map_tail], rfl⟩)))
  | goto o => exact zc_nx (fun _ => ⟨rfl, rfl, rfl⟩)
  | ifCond cd o =>
    simp only [zs_ins]
    refine zc_1 (fun x r e => ?_)
    subst e
    rw [(zy_nk1 (s := s) hok).1]
    exact zc_goto rfl
  | if_icmp cd o =>
    simp only [zs_ins]
    refine zc_1 (fun x r e => zc_1 (fun x' r' e' => ?_))
    subst e'; subst e
    have k1 := zy_nk1 (s := s) hok
    have k2 := zy_nk1 (s := s) k1.2
    rw [k1.1, k2.1]
    exact zc_goto rfl
  | ifnull o =>
    simp only [zs_ins]
    refine zc_1 (fun x r e => ?_)
    subst e
    rw [(zy_nk1 (s := s) hok).1]
    exact zc_goto rfl
  | ifnonnull o =>
    simp only [zs_ins]
    refine zc_1 (fun x r e => ?_)
    subst e
    rw [(zy_nk1 (s := s) hok).1]
    exact zc_goto rfl
  | aconst_null => exact zc_push (fun q => rfl)
  | tableswitch d lo hi offs =>
    simp only [zs_ins]
    refine zc_1 (fun x r e => ?_)
    subst e
    rw [(zy_nk1 (s := s) hok).1]
    exact zc_cond rfl (fun _ => zc_g (fun q => q) (fun _ => zc_nx (fun _ => ⟨rfl, rfl, rfl⟩))) (fun _ => zc_oi rfl (fun o _ => zc_g (fun q => q) (fun _ => zc_nx (fun _ => ⟨rfl, rfl, rfl⟩))))
  | iaload =>
    simp only [zs_ins]
    refine zc_1 (fun x r e => zc_1 (fun x' r' e' => ?_))
    subst e'; subst e
    have k1 := zy_nk1 (s := s) hok
    have k2 := zy_nk1 (s := s) k1.2
    rw [k1.1, k2.1]
    refine zc_cond rfl (fun _ => zc_o (zy_c s) (zy_hat h _) (fun c _ => zc_iacc)) (fun _ => zc_g (fun q => q) (fun _ => zc_o (fun l => l.map (zy_f s)) (zy_E_map _) (fun l _ => zc_oi (by rw [List.length_map]) (fun j _ => zc_nx (fun _ => ⟨rfl, ?_, rfl⟩)))))
    show (0, (l.map (zy_f s)).getD j 0) :: _ = _
    rw [zy_getD]
    rfl
  | iastore =>
    simp only [zs_ins]
    refine zc_1 (fun x r e => zc_1 (fun x' r' e' => zc_1 (fun x'' r'' e'' => ?_)))
    subst e''; subst e'; subst e
    have k1 := zy_nk1 (s := s) (show zy_nk 2 ((0, x') :: (2, x'') :: r'') = true from hok)
    have k2 := zy_nk1 (s := s) k1.2
    exact zc_ists k2.1 k1.1
  | arraylength =>
    simp only [zs_ins]
    refine zc_1 (fun x r e => ?_)
    subst e
    rw [(zy_nk1 (s := s) hok).1]
    refine zc_cond rfl (fun _ => zc_o (zy_c s) (zy_hat h _) (fun c _ => zc_g (fun q => q) (fun _ => ?_))) (fun _ => zc_cond rfl (fun _ => zc_push (fun _ => rfl)) (fun _ => zc_g (fun q => q) (fun _ => zc_o (fun l => l.map (zy_f s)) (zy_E_map _) (fun l _ => ?_))))
    · rw [show (zy_c s c).2.length = c.2.length from List.length_map _]
      exact zc_push (fun q => zy_postx (q rfl))
    · rw [List.length_map]
      exact zc_push (fun q => zy_postx (q rfl))
  | aaload => exact fun S e hP => zy_aaload hok e (hP rfl)
  | aastore =>
    simp only [zs_ins]
    refine zc_1 (fun x r e => zc_1 (fun x' r' e' => zc_1 (fun x'' r'' e'' => ?_)))
    subst e''; subst e'; subst e
    have k1 := zy_nk1 (s := s) hok
    have k2 := zy_nk1 (s := s) k1.2
    have k3 := zy_nk1 (s := s) k2.2
    rw [k1.1, k2.1, k3.1]
    refine zc_o (zy_c s) (zy_hat h _) (fun c _ => zc_g (fun q => q) (fun _ => zc_oi (by rw [show (zy_c s c).2.length = c.2.length from List.length_map _]) (fun j _ => zc_o (zy_c s) (zy_hat h _) (fun cx _ => zc_g (fun q => q) (fun _ => zc_nx (fun _ => ⟨rfl, rfl, ?_⟩))))))
    rw [zy_hset]
    congr 1
    show (52, (c.2.map (zy_f s)).set j x) = (52, (c.2.set j x).map (zy_f s))
    rw [List.map_set, k1.1]
  | getfield ix =>
    simp only [zs_ins]
    refine zc_cond rfl (fun _ => zc_1 (fun x r e => ?_)) (fun _ => zc_1 (fun x r e => ?_))
    · subst e
      rw [(zy_nk1 (s := s) hok).1]
      exact zc_g (fun q => q) (fun _ => zc_cond rfl (fun _ => zc_push (fun _ => rfl)) (fun _ => zc_g (fun q => q) (fun _ => zc_push (fun _ => rfl))))
    subst e
    rw [(zy_nk1 (s := s) hok).1]
    exact zc_o (zy_c s) (zy_hat h _) (fun c _ => zc_g (fun q => q) (fun _ => zc_oi rfl (fun t _ => zc_o (zy_f s) (List.getElem?_map ..) (fun x _ => zc_nx (fun _ => ⟨rfl, rfl, rfl⟩)))))
  | putfield ix =>
    simp only [zs_ins]
    have k0 := Bool.and_eq_true_iff.mp (show (zy_nk 1 st.tail && (zy_nk 1 st || (match zf_tag a b with
      | some t => !Nat.beq t 5
      | none => true))) = true from hok)
    refine zc_o (zy_v s) (List.head?_map ..) (fun x hx => ?_)
    show zy_Rl s _ _ (zo_1 (st.map (zy_v s)).tail 2 _)
    rw [← List.map_tail]
    refine zc_1 (fun q r e => ?_)
    have k1 := k0.1
    rw [e] at k1
    rw [(zy_nk1 (s := s) k1).1]
    refine zc_o (zy_c s) (zy_hat h _) (fun c _ => zc_g (fun q => by rw [show (zy_c s c).2.length = c.2.length from List.length_map _]; exact q) (fun _ => zc_oi rfl (fun t ht => zc_g (fun q1 => ?_) (fun _ => zc_nx (fun _ => ⟨rfl, rfl, ?_⟩)))))
    · have q2 := Bool.and_eq_true_iff.mp q1
      refine Bool.and_eq_true_iff.mpr ⟨q2.1, ?_⟩
      cases h5 : Nat.beq t 5 with
      | false => rfl
      | true =>
        have k3 := k0.2
        rw [ht] at k3
        simp only [h5, Bool.not_true, Bool.or_false] at k3
        have hx2 : zy_f s x.2 = x.2 := by
          cases st with
          | nil => cases hx
          | cons w r0 => cases Option.some.inj hx; exact (zy_nk1 (s := s) k3).1
        show (!true || (decide (zy_f s x.2 = 0) || decide (zy_f s x.2 = 1))) = true
        rw [hx2]
        have := q2.2
        rw [h5] at this
        exact this
    · rw [zy_hset]
      congr 1
      show (a, (c.2.map (zy_f s)).set b (zy_f s x.2)) = (a, (c.2.set b x.2).map (zy_f s))
      rw [List.map_set]
  | new ix =>
    simp only [zs_ins]
    refine zc_cond rfl (fun _ => zc_g (fun q => by rw [zy_cat]; exact q) (fun _ => ?_)) (fun _ => zc_oi rfl (fun l hl => ?_))
    · intro S e hP
      cases Option.some.inj e
      have h1 : zy_nt (h.length : Int) = true := hP rfl
      show some (Sum.inr (Sum.inr (2, (a - 100, ((zy_h s h).length : Int)), zy_h s h ++ [_]))) = some (Sum.inr (Sum.inr (2, (a - 100, zy_f s (h.length : Int)), zy_h s (h ++ [_]))))
      rw [zy_happ, zy_hlen, zy_ntf h1, zy_c50 zy_f0]
    · refine zc_nx (fun q => ?_)
      have h1 : zy_nt (h.length : Int) = true := zy_postx (q rfl)
      refine ⟨rfl, ?_, ?_⟩
      · show _ = (2, zy_f s (h.length : Int)) :: _
        rw [zy_ntf h1, zy_hlen]
      · rw [zy_happ]
        congr 2
        show (a, l) = (a, l.map (zy_f s))
        unfold zf_new at hl
        cases hts : zf_tags[a]? with
        | none => rw [hts] at hl; cases hl
        | some ts => rw [hts] at hl; rw [← Option.some.inj hl, zy_new_l]
  | newarray t =>
    cases t with
    | int =>
      simp only [zs_ins]
      refine zc_1 (fun x r e => ?_)
      subst e
      rw [(zy_nk1 (s := s) hok).1]
      exact zc_g (fun q => q) (fun _ => zy_pushh (zy_c50 zy_f0) (fun q => zy_postx (q rfl)))
    | long =>
      simp only [zs_ins]
      refine zc_1 (fun x r e => ?_)
      subst e
      rw [(zy_nk1 (s := s) hok).1]
      exact zc_g (fun q => q) (fun _ => zy_pushh (zy_c50 zy_f0) (fun q => zy_postx (q rfl)))
    | _ => exact fun S e _ => nomatch (show (none : Option zv_S) = some S from e)
  | anewarray ix =>
    simp only [zs_ins]
    refine zc_1 (fun x r e => ?_)
    subst e
    rw [(zy_nk1 (s := s) hok).1]
    exact zc_g (fun q => q) (fun _ => zy_pushh (zy_c50 zy_f1) (fun q => zy_postx (q rfl)))
  | lconst n => exact zc_push (fun q => zy_postx (q rfl))
  | dconst n => exact zc_g (fun q => q) (fun _ => zc_push (fun q => zy_postx (q rfl)))
  | ldc2_w n => exact zc_push (fun q => zy_postx (q rfl))
  | lload_n n => exact zc_load
  | lload n => exact zc_load
  | dload_n n => exact zc_load
  | dload n => exact zc_load
  | lstore_n n => exact zc_store2
  | lstore n => exact zc_store2
  | dstore_n n => exact zc_store2
  | dstore n => exact zc_store2
  | ladd => exact zc_long2 hok (fun S q => q rfl)
  | lmul => exact zc_long2 hok (fun S q => q rfl)
  | i2l =>
    simp only [zs_ins]
    refine zc_1 (fun x r e => ?_)
    subst e
    rw [(zy_nk1 (s := s) hok).1]
    exact zc_push (fun q => zy_postx (q rfl))
  | lcmp =>
    simp only [zs_ins]
    refine zc_1 (fun x r e => zc_1 (fun x' r' e' => ?_))
    subst e'; subst e
    have k1 := zy_nk1 (s := s) hok
    have k2 := zy_nk1 (s := s) k1.2
    rw [k1.1, k2.1]
    exact zc_push (fun q => zy_postx (q rfl))
  | dcmp op =>
    simp only [zs_ins]
    refine zc_1 (fun x r e => zc_1 (fun x' r' e' => ?_))
    subst e'; subst e
    have k1 := zy_nk1 (s := s) hok
    have k2 := zy_nk1 (s := s) k1.2
    rw [k1.1, k2.1]
    exact zc_g (fun q => q) (fun _ => zc_push (fun q => rfl))
  | laload =>
    simp only [zs_ins]
    refine zc_1 (fun x r e => zc_1 (fun x' r' e' => ?_))
    subst e'; subst e
    have k1 := zy_nk1 (s := s) hok
    have k2 := zy_nk1 (s := s) k1.2
    rw [k1.1, k2.1]
    exact zc_o (zy_c s) (zy_hat h _) (fun c _ => zc_iacc)
  | lastore =>
    simp only [zs_ins]
    refine zc_1 (fun x r e => zc_1 (fun x' r' e' => zc_1 (fun x'' r'' e'' => ?_)))
    subst e''; subst e'; subst e
    have k1 := zy_nk1 (s := s) (show zy_nk 2 ((0, x') :: (2, x'') :: r'') = true from hok)
    have k2 := zy_nk1 (s := s) k1.2
    exact zc_ists k2.1 k1.1
  | lreturn =>
    simp only [zs_ins]
    exact zc_ret (fun rc x r _ q => q)
  | dreturn =>
    simp only [zs_ins]
    exact zc_ret (fun rc x r _ q => q)
  | ireturn =>
    simp only [zs_ins]
    exact zc_ret (fun rc x r e q => by subst e; rw [(zy_nk1 (s := s) hok).1]; exact q)
  | areturn =>
    simp only [zs_ins]
    exact zc_ret (fun rc x r e q => by subst e; rw [(zy_nk1 (s := s) hok).1]; exact q)
  | return_ =>
    simp only [zs_ins]
    refine zc_oi rfl (fun m _ => ?_)
    obtain ⟨m1, m2, m3, m4, m5, m7⟩ := m
    refine zc_g (fun q => ?_) (fun _ => ?_)
    · have q2 := Bool.and_eq_true_iff.mp q
      exact Bool.and_eq_true_iff.mpr ⟨q2.1, by rw [List.isEmpty_iff.mp q2.2]; rfl⟩
    · intro S e _
      cases Option.some.inj e
      show some (Sum.inr (Sum.inr (0, (0, 0), zy_h s h))) = some (Sum.inr (Sum.inr (0, (0, zy_f s 0), zy_h s h)))
      rw [zy_f0]
  | invokevirtual ix =>
    simp only [zs_ins]
    exact zc_oi rfl (fun m hm => zc_g (fun q => by
      have q2 := Bool.and_eq_true_iff.mp q
      refine Bool.and_eq_true_iff.mpr ⟨?_, q2.2⟩
      rcases Bool.or_eq_true_iff.mp q2.1 with q3 | q3
      · have q4 := Bool.and_eq_true_iff.mp q3
        exact Bool.or_eq_true_iff.mpr (.inl (Bool.and_eq_true_iff.mpr ⟨q4.1, zc_recv (zy_rci hm hok) q4.2⟩))
      · exact Bool.or_eq_true_iff.mpr (.inr (zc_recvS q3))) (fun _ => zc_call))
  | invokestatic ix =>
    simp only [zs_ins]
    have hok' : cond (Nat.beq a 9003) (zy_nk 5 st) (cond (Nat.ble 9000 a) (zy_nk 2 st) true) = true := hok
    refine zc_cond rfl (fun h1 => ?_) (fun h1 => zc_cond rfl (fun h2 => ?_) (fun h2 => zc_g (fun q => q) (fun _ => zc_call)))
    · rw [h1, cond_true] at hok'
      exact zc_copy hok'
    · rw [h1, cond_false, h2, cond_true] at hok'
      refine zc_g (fun q => q) (fun _ => zc_1 (fun x r e => zc_1 (fun x' r' e' => ?_)))
      subst e'; subst e
      have k1 := zy_nk1 (s := s) hok'
      have k2 := zy_nk1 (s := s) k1.2
      rw [k1.1, k2.1]
      exact zc_g (fun q => by rw [zy_cat]; exact q) (fun _ => zc_push (fun q => zy_postx (q (by show (Nat.ble 9000 a && !Nat.beq a 9003) = true; rw [h1, h2]; rfl))))
  | invokespecial ix =>
    simp only [zs_ins]
    have hok' : cond (Nat.beq a 9999) (zy_nk 1 st) (zy_rc a st) = true := hok
    refine zc_cond rfl (fun h1 => ?_) (fun h1 => ?_)
    · rw [h1, cond_true] at hok'
      refine zc_1 (fun x r e => ?_)
      subst e
      rw [(zy_nk1 (s := s) hok').1]
      exact zc_g (fun q => by rw [zy_cat]; exact q) (fun _ => zc_nx (fun _ => ⟨rfl, rfl, rfl⟩))
    · rw [h1, cond_false] at hok'
      exact zc_oi rfl (fun m hm => zc_g (fun q => by
        have q2 := Bool.and_eq_true_iff.mp q
        exact Bool.and_eq_true_iff.mpr ⟨zc_recv (zy_rci hm hok') q2.1, q2.2⟩) (fun _ => zc_call))
  | _ => exact fun S e _ => nomatch (show (none : Option zv_S) = some S from e)
