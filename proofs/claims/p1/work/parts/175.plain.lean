/-! What looks at no token does for every script what it does for the token. -/
section
variable {s : Nat → Int}
theorem zy_ntd {x : Int} (h : zy_nt x = true) : zy_dec x = none := by
  cases x with
  | ofNat n =>
    have h1 : Nat.ble zy_T n = false := by simpa [zy_nt] using h
    show cond (Nat.ble zy_T n) _ none = none
    rw [h1]; rfl
  | negSucc n => rfl
theorem zy_ntf {x : Int} (h : zy_nt x = true) : zy_f s x = x := by unfold zy_f; rw [zy_ntd h]
theorem zy_f0 : zy_f s 0 = 0 := zy_ntf rfl
theorem zy_f1 : zy_f s (-1) = -1 := zy_ntf rfl
theorem zy_vw (v : zv_V) : zs_wide (zy_v s v) = zs_wide v := rfl
theorem zy_v9 : zy_v s (9, 0) = (9, 0) := by show (9, zy_f s 0) = _; rw [zy_f0]
theorem zy_cat (l : List zv_V) : (l.map (zy_v s)).map zs_cat = l.map zs_cat := by rw [List.map_map]; rfl
theorem zy_pok (ls : List zv_V) (i : Nat) : zs_pok (ls.map (zy_v s)) i = zs_pok ls i := by
  cases i with
  | zero => rfl
  | succ k =>
    unfold zs_pok
    simp only [List.getElem?_map]
    cases ls[k]? <;> rfl
theorem zy_hlen (h : zv_H) : (zy_h s h).length = h.length := List.length_map _
theorem zy_hget (h : zv_H) (k : Nat) : (zy_h s h)[k]? = h[k]?.map (zy_c s) := List.getElem?_map ..
theorem zy_hat (h : zv_H) (z : Int) : zh_at (zy_h s h) z = (zh_at h z).map (zy_c s) := by
  unfold zh_at
  rw [zy_hget]
  cases decide (0 ≤ z) <;> rfl
theorem zy_hset (h : zv_H) (k : Nat) (c : zv_C) : zy_h s (h.set k c) = (zy_h s h).set k (zy_c s c) := List.map_set ..
theorem zy_happ (h : zv_H) (c : zv_C) : zy_h s (h ++ [c]) = zy_h s h ++ [zy_c s c] := by simp [zy_h]
theorem zy_getD (l : List Int) (j : Nat) : (l.map (zy_f s)).getD j 0 = zy_f s (l.getD j 0) := by
  simp only [List.getD_eq_getElem?_getD, List.getElem?_map]
  cases l[j]? with
  | none => exact zy_f0.symm
  | some x => rfl
theorem zy_rep (n : Nat) {x : Int} (hx : zy_f s x = x) : (List.replicate n x).map (zy_f s) = List.replicate n x := by rw [List.map_replicate, hx]
theorem zy_nk1 {t : Nat} {x : Int} {r : List zv_V} {k : Nat} (h : zy_nk (k + 1) ((t, x) :: r) = true) : zy_f s x = x ∧ zy_nk k r = true := by
  have := Bool.and_eq_true_iff.mp (show (zy_nt x && zy_nk k r) = true from h)
  exact ⟨zy_ntf this.1, this.2⟩
def zy_Rl (s : Nat → Int) (P : zv_S → Prop) (A B : Option zv_S) : Prop := ∀ S, A = some S → P S → B = some (zy_S s S)
variable {P : zv_S → Prop}
theorem zc_nx {y pc : Nat} {ls ls' st st' : List zv_V} {h h' : zv_H} (q : P (.inl (y, pc, ls, st, h)) → ls' = ls.map (zy_v s) ∧ st' = st.map (zy_v s) ∧ h' = zy_h s h) : zy_Rl s P (zs_nx y pc ls st h) (zs_nx y pc ls' st' h') := by
  intro S e hP
  cases Option.some.inj e
  obtain ⟨rfl, rfl, rfl⟩ := q hP
  rfl
theorem zc_1 {st : List zv_V} {t : Nat} {k k' : Int → List zv_V → Option zv_S} (hk : ∀ x r, st = (t, x) :: r → zy_Rl s P (k x r) (k' (zy_f s x) (r.map (zy_v s)))) : zy_Rl s P (zo_1 st t k) (zo_1 (st.map (zy_v s)) t k') := by
  intro S e hP
  obtain ⟨x, r, e1, e2⟩ := zo_1_inv e
  subst e1
  have := hk x r rfl S e2 hP
  show cond (Nat.beq t t) (k' (zy_f s x) (r.map (zy_v s))) none = _
  rw [Nat.beq_refl]
  exact this
theorem zc_g {b b' : Bool} {k k' : Option zv_S} (hb : b = true → b' = true) (hk : b = true → zy_Rl s P k k') : zy_Rl s P (zo_g b k) (zo_g b' k') := by
  intro S e hP
  obtain ⟨e1, e2⟩ := zo_g_inv e
  show cond b' k' none = _
  rw [hb e1]
  exact hk e1 S e2 hP
theorem zc_o {β γ : Type} {o : Option β} {o' : Option γ} {k : β → Option zv_S} {k' : γ → Option zv_S} (g : β → γ) (e : o' = o.map g) (hk : ∀ x, o = some x → zy_Rl s P (k x) (k' (g x))) : zy_Rl s P (zo_o o k) (zo_o o' k') := by
  intro S e0 hP
  obtain ⟨x, e1, e2⟩ := zo_o_inv e0
  rw [e, e1]
  exact hk x e1 S e2 hP
theorem zc_oi {β : Type} {o o' : Option β} {k k' : β → Option zv_S} (e : o' = o) (hk : ∀ x, o = some x → zy_Rl s P (k x) (k' x)) : zy_Rl s P (zo_o o k) (zo_o o' k') :=
  zc_o id (by rw [e]; cases o <;> rfl) hk
theorem zc_cond {b b' : Bool} {A B A' B' : Option zv_S} (e : b' = b) (h1 : b = true → zy_Rl s P A A') (h2 : b = false → zy_Rl s P B B') : zy_Rl s P (cond b A B) (cond b' A' B') := by
  subst e
  cases hb : b' with
  | true => exact h1 hb
  | false => exact h2 hb
theorem zc_goto {b b' : Bool} {y t pc : Nat} {ls st : List zv_V} {h : zv_H} (e : b' = b) : zy_Rl s P (zs_goto b y t pc ls st h) (zs_goto b' y t pc (ls.map (zy_v s)) (st.map (zy_v s)) (zy_h s h)) :=
  zc_cond e (fun _ => zc_nx (fun _ => ⟨rfl, rfl, rfl⟩)) (fun _ => zc_nx (fun _ => ⟨rfl, rfl, rfl⟩))
variable {y pc len a b t : Nat} {v : Int} {ls st : List zv_V} {h : zv_H} {E : List (List Int)}
theorem zc_load : zy_Rl s P (zs_load y pc len a t ls st h) (zs_load y pc len a t (ls.map (zy_v s)) (st.map (zy_v s)) (zy_h s h)) :=
  zc_o (zy_v s) (List.getElem?_map ..) (fun x _ => zc_g (fun q => q) (fun _ => zc_nx (fun _ => ⟨rfl, rfl, rfl⟩)))
theorem zc_store : zy_Rl s P (zs_store y pc len a t ls st h) (zs_store y pc len a t (ls.map (zy_v s)) (st.map (zy_v s)) (zy_h s h)) :=
  zc_1 (fun x r _ => zc_g (fun q => by rw [List.length_map, zy_pok]; exact q) (fun _ => zc_nx (fun _ => ⟨by rw [List.map_set]; rfl, rfl, rfl⟩)))
theorem zc_store2 : zy_Rl s P (zs_store2 y pc len a t ls st h) (zs_store2 y pc len a t (ls.map (zy_v s)) (st.map (zy_v s)) (zy_h s h)) :=
  zc_1 (fun x r _ => zc_g (fun q => by rw [List.length_map, zy_pok]; exact q) (fun _ => zc_nx (fun _ => ⟨by rw [List.map_set, List.map_set, zy_v9]; rfl, rfl, rfl⟩)))
/-- a number that is pushed -/
theorem zc_push {pc' : Nat} {x : Int} {r : List zv_V} (hp : P (.inl (y, pc', ls, (t, x) :: r, h)) → zy_nt x = true) : zy_Rl s P (zs_nx y pc' ls ((t, x) :: r) h) (zs_nx y pc' (ls.map (zy_v s)) ((t, x) :: r.map (zy_v s)) (zy_h s h)) :=
  zc_nx (fun q => ⟨rfl, by show _ = (t, zy_f s x) :: _; rw [zy_ntf (hp q)], rfl⟩)
theorem zc_int2 {g : Int → Int → Int} (hok : zy_nk 2 st = true) (hp : ∀ S, P S → zy_post S = true) : zy_Rl s P (zs_int2 g y pc ls st h) (zs_int2 g y pc (ls.map (zy_v s)) (st.map (zy_v s)) (zy_h s h)) :=
  zc_1 (fun x r e => zc_1 (fun x' r' e' => by
    subst e'
    subst e
    rw [(zy_nk1 hok).1, (zy_nk1 (zy_nk1 (s := s) hok).2).1]
    exact zc_push (fun q => (Bool.and_eq_true_iff.mp (show (zy_nt (g x' x) && true) = true from hp _ q)).1)))
theorem zc_long2 {g : Int → Int → Int} (hok : zy_nk 2 st = true) (hp : ∀ S, P S → zy_post S = true) : zy_Rl s P (zs_long2 g y pc ls st h) (zs_long2 g y pc (ls.map (zy_v s)) (st.map (zy_v s)) (zy_h s h)) :=
  zc_1 (fun x r e => zc_1 (fun x' r' e' => by
    subst e'
    subst e
    rw [(zy_nk1 hok).1, (zy_nk1 (zy_nk1 (s := s) hok).2).1]
    exact zc_push (fun q => (Bool.and_eq_true_iff.mp (show (zy_nt (g x' x) && true) = true from hp _ q)).1)))
theorem zy_postx {pc' : Nat} {x : Int} {r : List zv_V} (q : zy_post (.inl (y, pc', ls, (t, x) :: r, h)) = true) : zy_nt x = true := (Bool.and_eq_true_iff.mp (show (zy_nt x && true) = true from q)).1
theorem zc_call : zy_Rl s P (zs_call y pc t ls st h) (zs_call y pc t (ls.map (zy_v s)) (st.map (zy_v s)) (zy_h s h)) :=
  zc_oi rfl (fun m _ => by
    obtain ⟨m1, m2, m3, m4, m5, n, m7⟩ := m
    refine zc_g (fun q => by rw [List.length_map, ← List.map_drop, zy_cat]; exact q) (fun _ => ?_)
    intro S e _
    cases Option.some.inj e
    show some (Sum.inr (Sum.inl (t, ((st.map (zy_v s)).take n).reverse, (y, pc + 3, ls.map (zy_v s), (st.map (zy_v s)).drop n, zy_h s h)))) = some (Sum.inr (Sum.inl (t, ((st.take n).reverse).map (zy_v s), (y, pc + 3, ls.map (zy_v s), (st.drop n).map (zy_v s), zy_h s h))))
    rw [List.map_reverse, List.map_take, List.map_drop])
theorem zc_ret {f : Nat → Int → Bool} (hf : ∀ rc x r, st = (t, x) :: r → f rc x = true → f rc (zy_f s x) = true) : zy_Rl s P (zs_ret y st t f h) (zs_ret y (st.map (zy_v s)) t f (zy_h s h)) :=
  zc_oi rfl (fun m _ => by
    obtain ⟨m1, m2, m3, m4, m5, m7⟩ := m
    refine zc_1 (fun x r e => zc_g (fun q => ?_) (fun _ => ?_))
    · have q2 := Bool.and_eq_true_iff.mp q
      exact Bool.and_eq_true_iff.mpr ⟨hf _ _ _ e q2.1, by rw [List.isEmpty_iff.mp q2.2]; rfl⟩
    · intro S e _
      cases Option.some.inj e
      rfl)
theorem zc_recv {k n : Nat} (hn : n = 0 ∨ ∃ w, st[n - 1]? = some w ∧ zy_nt w.2 = true) (hr : zs_recv h k ((st.take n).reverse) = true) : zs_recv (zy_h s h) k (((st.map (zy_v s)).take n).reverse) = true := by
  obtain ⟨q, as', li, e1, e2, e3⟩ := zs_recv_inv hr
  have hk := zs_recv_ne hr
  have hq : zy_f s q = q := by
    rcases hn with hn | ⟨w, hw, hn⟩
    · subst hn; simp at e1
    · cases n with
      | zero => simp at e1
      | succ n =>
        have hs : n < st.length := (List.getElem?_eq_some_iff.mp hw).1
        have h1 : ((st.take (n + 1)).reverse)[0]? = some (2, q) := by rw [e1]; rfl
        have hl : 0 < (st.take (n + 1)).length := by
          rw [← List.length_reverse, e1]; exact Nat.succ_pos _
        rw [List.getElem?_reverse hl, List.length_take, Nat.min_eq_left hs] at h1
        have h2 : (st.take (n + 1))[n]? = some (2, q) := by simpa using h1
        rw [List.getElem?_take_of_lt (Nat.lt_succ_self n)] at h2
        have h3 : st[n]? = some w := hw
        rw [h3] at h2
        have h4 : w = (2, q) := Option.some.inj h2
        rw [h4] at hn
        exact zy_ntf hn
  have e4 : ((st.map (zy_v s)).take n).reverse = (2, q) :: as'.map (zy_v s) := by
    rw [← List.map_take, ← List.map_reverse, e1]
    show (2, zy_f s q) :: _ = _
    rw [hq]
  rw [e4]
  have e5 : zh_at h q = some (k, li) := by
    unfold zh_at
    rw [decide_eq_true e2, cond_true, e3]
  show (!Nat.beq k 99 && (Nat.beq 2 2 && (match zh_at (zy_h s h) q with
    | none => false
    | some c => Nat.beq c.1 k))) = true
  rw [zy_hat, e5]
  have hk2 : Nat.beq k 99 = false := by
    cases hb : Nat.beq k 99 with
    | false => rfl
    | true => exact absurd (Nat.eq_of_beq_eq_true hb) hk
  rw [hk2]
  exact Nat.beq_refl k
theorem zc_recvS {k n : Nat} (hr : zs_recvS k ((st.take n).reverse) = true) : zs_recvS k (((st.map (zy_v s)).take n).reverse) = true := by
  obtain ⟨as', h1, h60⟩ := zs_recvS_inv hr
  subst h60
  rw [← List.map_take, ← List.map_reverse, h1]
  show (Nat.beq 60 60 && (Nat.beq 2 2 && decide (zy_f s (-3) = -3))) = true
  rw [zy_ntf rfl]
  rfl
theorem zy_rci {m : zm_M} (hm : zm_at a = some m) (hr : zy_rc a st = true) : m.2.2.2.2.2.1 = 0 ∨ ∃ w, st[m.2.2.2.2.2.1 - 1]? = some w ∧ zy_nt w.2 = true := by
  unfold zy_rc at hr
  rw [hm] at hr
  simp only at hr
  cases hn : m.2.2.2.2.2.1 with
  | zero => exact .inl rfl
  | succ n =>
    rw [hn] at hr
    simp only at hr
    cases hs : st[n]? with
    | none => rw [hs] at hr; cases hr
    | some w => rw [hs] at hr; exact .inr ⟨w, hs, hr⟩
theorem zc_copy (hok : zy_nk 5 st = true) : zy_Rl s P (zs_copy y pc ls st h) (zs_copy y pc (ls.map (zy_v s)) (st.map (zy_v s)) (zy_h s h)) := by
  unfold zs_copy
  refine zc_1 (fun n r1 e1 => zc_1 (fun dp r2 e2 => zc_1 (fun q1 r3 e3 => zc_1 (fun sp r4 e4 => zc_1 (fun q0 r5 e5 => ?_)))))
  subst e5; subst e4; subst e3; subst e2; subst e1
  have k1 := zy_nk1 (s := s) hok
  have k2 := zy_nk1 (s := s) k1.2
  have k3 := zy_nk1 (s := s) k2.2
  have k4 := zy_nk1 (s := s) k3.2
  have k5 := zy_nk1 (s := s) k4.2
  rw [k1.1, k2.1, k3.1, k4.1, k5.1]
  refine zc_o (zy_c s) (zy_hat h q0) (fun c0 h0 => zc_o (zy_c s) (zy_hat h q1) (fun c1 h1 => zc_oi rfl (fun n' _ => zc_oi rfl (fun sp' _ => zc_oi rfl (fun dp' _ => zc_g (fun q => ?_) (fun q => zc_nx (fun _ => ⟨rfl, rfl, ?_⟩)))))))
  · have l0 : (zy_c s c0).2.length = c0.2.length := List.length_map _
    have l1 : (zy_c s c1).2.length = c1.2.length := List.length_map _
    rw [l0, l1, zy_cat]
    exact q
  · rw [zy_hset]
    congr 1
    show (50, zi_cpy (c0.2.map (zy_f s)) (c1.2.map (zy_f s)) sp' dp' n') = (50, (zi_cpy c0.2 c1.2 sp' dp' n').map (zy_f s))
    congr 1
    unfold zi_cpy
    rw [List.length_map, List.map_map]
    refine List.map_congr_left (fun k _ => ?_)
    show _ = zy_f s (cond _ _ _)
    rw [zy_getD, zy_getD]
    cases (Nat.ble dp' k && Nat.blt k (dp' + n')) <;> rfl
theorem zy_new_l {ts : List Nat} : (ts.map (fun t => cond (Nat.beq t 2) (-1) 0)).map (zy_f s) = ts.map (fun t => cond (Nat.beq t 2) (-1 : Int) 0) := by
  rw [List.map_map]
  refine List.map_congr_left (fun k _ => ?_)
  show zy_f s (cond _ _ _) = _
  cases Nat.beq k 2
  · exact zy_f0
  · exact zy_f1
theorem zy_pushh {pc' : Nat} {c : zv_C} {r : List zv_V} (hc : zy_c s c = c) (hp : P (.inl (y, pc', ls, (2, (h.length : Int)) :: r, h ++ [c])) → zy_nt (h.length : Int) = true) : zy_Rl s P (zs_nx y pc' ls ((2, (h.length : Int)) :: r) (h ++ [c])) (zs_nx y pc' (ls.map (zy_v s)) ((2, ((zy_h s h).length : Int)) :: r.map (zy_v s)) (zy_h s h ++ [c])) :=
  zc_nx (fun q => ⟨rfl, by show _ = (2, zy_f s _) :: _; rw [zy_ntf (hp q), zy_hlen], by rw [zy_happ, hc]⟩)
theorem zy_c50 {k n : Nat} {x : Int} (hx : zy_f s x = x) : zy_c s (k, List.replicate n x) = (k, List.replicate n x) := by
  show (k, (List.replicate n x).map (zy_f s)) = _
  rw [zy_rep n hx]
theorem zc_iacc {kd t0 : Nat} {i : Int} {c : zv_C} {r : List zv_V} : zy_Rl s P (zo_g (Nat.beq c.1 kd) (zo_o (zi_ix i c.2.length) fun j => zs_nx y (pc + 1) ls ((t0, c.2.getD j 0) :: r) h)) (zo_g (Nat.beq (zy_c s c).1 kd) (zo_o (zi_ix i (zy_c s c).2.length) fun j => zs_nx y (pc + 1) (ls.map (zy_v s)) ((t0, (zy_c s c).2.getD j 0) :: r.map (zy_v s)) (zy_h s h))) :=
  zc_g (fun q => q) (fun _ => zc_oi (by rw [show (zy_c s c).2.length = c.2.length from List.length_map _]) (fun j _ => zc_nx (fun _ => ⟨rfl, by show (t0, (c.2.map (zy_f s)).getD j 0) :: _ = _; rw [zy_getD]; rfl, rfl⟩)))
theorem zc_ists {kd : Nat} {i x q : Int} {r : List zv_V} (hq : zy_f s q = q) (hi : zy_f s i = i) : zy_Rl s P (zo_o (zh_at h q) fun c => zo_g (Nat.beq c.1 kd) (zo_o (zi_ix i c.2.length) fun j => zs_nx y (pc + 1) ls r (h.set q.toNat (kd, c.2.set j x)))) (zo_o (zh_at (zy_h s h) (zy_f s q)) fun c => zo_g (Nat.beq c.1 kd) (zo_o (zi_ix (zy_f s i) c.2.length) fun j => zs_nx y (pc + 1) (ls.map (zy_v s)) (r.map (zy_v s)) ((zy_h s h).set (zy_f s q).toNat (kd, c.2.set j (zy_f s x))))) := by
  rw [hq, hi]
  refine zc_o (zy_c s) (zy_hat h q) (fun c _ => zc_g (fun q => q) (fun _ => zc_oi (by rw [show (zy_c s c).2.length = c.2.length from List.length_map _]) (fun j _ => zc_nx (fun _ => ⟨rfl, rfl, ?_⟩))))
  rw [zy_hset]
  congr 1
  show (kd, (c.2.map (zy_f s)).set j (zy_f s x)) = (kd, (c.2.set j x).map (zy_f s))
  rw [List.map_set]
end
