/-! Each small function does what its instruction does: the rest. -/
section
variable {pc len a b l' t : Nat} {v : Int} {ins : Instr}
theorem zq_tgi {c : ClassFile.Cond} {x w : Int} (a n : Nat) : (x < w → cond (zy_ic c x w) a n = (zq_tg c a n).1) ∧ (x = w → cond (zy_ic c x w) a n = (zq_tg c a n).2.1) ∧ (w < x → cond (zy_ic c x w) a n = (zq_tg c a n).2.2) := by
  refine ⟨fun h => ?_, fun h => ?_, fun h => ?_⟩
  · cases c with
    | eq => show cond (decide (x = w)) a n = n; rw [decide_eq_false (by omega)]; rfl
    | ne => show cond (!decide (x = w)) a n = a; rw [decide_eq_false (by omega)]; rfl
    | lt => show cond (decide (x < w)) a n = a; rw [decide_eq_true h]; rfl
    | ge => show cond (decide (x ≥ w)) a n = n; rw [decide_eq_false (by omega)]; rfl
    | gt => show cond (decide (x > w)) a n = n; rw [decide_eq_false (by omega)]; rfl
    | le => show cond (decide (x ≤ w)) a n = a; rw [decide_eq_true (by omega)]; rfl
  · cases c with
    | eq => show cond (decide (x = w)) a n = a; rw [decide_eq_true h]; rfl
    | ne => show cond (!decide (x = w)) a n = n; rw [decide_eq_true h]; rfl
    | lt => show cond (decide (x < w)) a n = n; rw [decide_eq_false (by omega)]; rfl
    | ge => show cond (decide (x ≥ w)) a n = a; rw [decide_eq_true (by omega)]; rfl
    | gt => show cond (decide (x > w)) a n = n; rw [decide_eq_false (by omega)]; rfl
    | le => show cond (decide (x ≤ w)) a n = a; rw [decide_eq_true (by omega)]; rfl
  · cases c with
    | eq => show cond (decide (x = w)) a n = n; rw [decide_eq_false (by omega)]; rfl
    | ne => show cond (!decide (x = w)) a n = a; rw [decide_eq_false (by omega)]; rfl
    | lt => show cond (decide (x < w)) a n = n; rw [decide_eq_false (by omega)]; rfl
    | ge => show cond (decide (x ≥ w)) a n = a; rw [decide_eq_true (by omega)]; rfl
    | gt => show cond (decide (x > w)) a n = a; rw [decide_eq_true (by omega)]; rfl
    | le => show cond (decide (x ≤ w)) a n = n; rw [decide_eq_false (by omega)]; rfl
theorem zs_gotoi {q : Bool} {y t pc : Nat} {ls st : List zv_V} {h : zv_H} : zs_goto q y t pc ls st h = some (.inl (y, cond q t (pc + 3), ls, st, h)) := by
  cases q <;> rfl
theorem zq_32 {n : Nat} (h : zq_sml n = true) : -2147483648 ≤ Int.ofNat n ∧ Int.ofNat n ≤ 2147483647 := ⟨by show -2147483648 ≤ (n : Int); omega, zq_smli h⟩
theorem zq_32n {n : Nat} (h : zq_sml n = true) : -2147483648 ≤ Int.negSucc n ∧ Int.negSucc n ≤ 2147483647 := by
  have := zq_smli h
  omega
theorem zqg_ifz (c : ClassFile.Cond) (o : Int) : zq_g1 (zy_sem pc (.ifCond c o) len a b v) (zq_ifz (zq_tg c a (pc + 3)).1 (zq_tg c a (pc + 3)).2.1 (zq_tg c a (pc + 3)).2.2) := by
  intro E e y ls st h κ z hk
  cases st with
  | nil => rfl
  | cons w r =>
    obtain ⟨t, x⟩ := w
    have key : t = 0 → -2147483648 ≤ x ∧ x ≤ 2147483647 → zy_nt x = true → κ (cond (zy_ic c x 0) a (pc + 3)) ls r h = z := by
      intro ht hx hn
      subst ht
      refine hk _ _ _ _ (zy_sem_pl (by show (zy_nt x && true) = true; rw [hn]; rfl) ?_ (fun q => by cases q) rfl)
      show zs_goto (zi_cmp c (Int32.ofInt x) (Int32.ofInt 0)) y a pc ls r h = _
      rw [zs_gotoi, zy_icmp hx ⟨by omega, by omega⟩]
    show zq_c (Nat.beq t 0) _ z = z
    refine zq_cif (fun hb => ?_) rfl
    have ht : t = 0 := Nat.eq_of_beq_eq_true hb
    cases x with
    | ofNat n =>
      show zq_c (zq_sml n) _ z = z
      refine zq_cif (fun hs => ?_) rfl
      have k1 := key ht (zq_32 hs) (zq_smlt hs)
      cases n with
      | zero =>
        rw [(zq_tgi (x := Int.ofNat 0) (w := 0) a (pc + 3)).2.1 rfl] at k1
        exact k1
      | succ n =>
        rw [(zq_tgi a (pc + 3)).2.2 (by show (0 : Int) < ((n + 1 : Nat) : Int); omega)] at k1
        exact k1
    | negSucc n =>
      show zq_c (zq_sml n) _ z = z
      refine zq_cif (fun hs => ?_) rfl
      have k1 := key ht (zq_32n hs) rfl
      rw [(zq_tgi a (pc + 3)).1 (by omega)] at k1
      exact k1
theorem zqg_icmp (c : ClassFile.Cond) (o : Int) : zq_g1 (zy_sem pc (.if_icmp c o) len a b v) (zq_icmp (zq_tg c a (pc + 3)).1 (zq_tg c a (pc + 3)).2.1 (zq_tg c a (pc + 3)).2.2) := by
  intro E e y ls st h κ z hk
  cases st with
  | nil => rfl
  | cons w r =>
    obtain ⟨t2, x2⟩ := w
    cases r with
    | nil => rfl
    | cons w r =>
      obtain ⟨t1, x1⟩ := w
      have key : t2 = 0 → t1 = 0 → -2147483648 ≤ x2 ∧ x2 ≤ 2147483647 → -2147483648 ≤ x1 ∧ x1 ≤ 2147483647 → zy_nt x2 = true → zy_nt x1 = true → κ (cond (zy_ic c x1 x2) a (pc + 3)) ls r h = z := by
        intro e2 e1 h2 h1 n2 n1
        subst e2; subst e1
        refine hk _ _ _ _ (zy_sem_pl (by show (zy_nt x2 && (zy_nt x1 && true)) = true; rw [n1, n2]; rfl) ?_ (fun q => by cases q) rfl)
        show zs_goto (zi_cmp c (Int32.ofInt x1) (Int32.ofInt x2)) y a pc ls r h = _
        rw [zs_gotoi, zy_icmp h1 h2]
      show zq_c (zq_a (Nat.beq t2 0) (Nat.beq t1 0)) _ z = z
      refine zq_cif (fun hb => ?_) rfl
      have hb1 := zq_ai hb
      have e2 : t2 = 0 := Nat.eq_of_beq_eq_true hb1.1
      have e1 : t1 = 0 := Nat.eq_of_beq_eq_true hb1.2
      cases x2 with
      | ofNat k =>
        show zq_c (zq_sml k) _ z = z
        refine zq_cif (fun hsk => ?_) rfl
        cases x1 with
        | ofNat n =>
          show zq_c (zq_sml n) _ z = z
          refine zq_cif (fun hsn => ?_) rfl
          have k1 := key e2 e1 (zq_32 hsk) (zq_32 hsn) (zq_smlt hsk) (zq_smlt hsn)
          cases hkn : Nat.ble k n with
          | true =>
            have h1 := Nat.le_of_ble_eq_true hkn
            show zq_c (Nat.beq n k) _ _ = z
            cases hnk : Nat.beq n k with
            | true =>
              have h2 : n = k := Nat.eq_of_beq_eq_true hnk
              rw [(zq_tgi a (pc + 3)).2.1 (congrArg Int.ofNat h2)] at k1
              exact k1
            | false =>
              have h2 : n ≠ k := fun q => by subst q; rw [Nat.beq_refl] at hnk; cases hnk
              rw [(zq_tgi a (pc + 3)).2.2 (by show (k : Int) < (n : Int); omega)] at k1
              exact k1
          | false =>
            have h1 : ¬ k ≤ n := fun q => by rw [Nat.ble_eq_true_of_le q] at hkn; cases hkn
            rw [(zq_tgi a (pc + 3)).1 (by show (n : Int) < (k : Int); omega)] at k1
            exact k1
        | negSucc n =>
          show zq_c (zq_sml n) _ z = z
          refine zq_cif (fun hsn => ?_) rfl
          have k1 := key e2 e1 (zq_32 hsk) (zq_32n hsn) (zq_smlt hsk) rfl
          rw [(zq_tgi a (pc + 3)).1 (by show Int.negSucc n < (k : Int); omega)] at k1
          exact k1
      | negSucc k =>
        show zq_c (zq_sml k) _ z = z
        refine zq_cif (fun hsk => ?_) rfl
        cases x1 with
        | ofNat n =>
          show zq_c (zq_sml n) _ z = z
          refine zq_cif (fun hsn => ?_) rfl
          have k1 := key e2 e1 (zq_32n hsk) (zq_32 hsn) rfl (zq_smlt hsn)
          rw [(zq_tgi a (pc + 3)).2.2 (by show Int.negSucc k < (n : Int); omega)] at k1
          exact k1
        | negSucc n => rfl
theorem zqg_goto (o : Int) : zq_ok (zy_sem pc (.goto o) len a b v) (zq_goto a) := fun E e y ls st h κ κc κr H hc => zq_n hc (zy_sem_pl rfl rfl (fun q => by cases q) rfl)
theorem zqg_al {kd : Nat} (h1 : ∀ ls st, zy_ok ls st ins a b v = zy_nk 2 st) (hn : zy_new ins a = false) (h4 : ∀ e y pc' ls t x st h, zy_nt x = true → zy_nrm e ins (.inl (y, pc', ls, (t, x) :: st, h)) = .inl (y, pc', ls, (t, x) :: st, h)) (h2 : ∀ E y ls h i q r, 0 ≤ q → zs_ins E y pc ls ((0, i) :: (2, q) :: r) h ins len a b v = zo_o (zh_at h q) fun c => zo_g (Nat.beq c.1 kd) (zo_o (zi_ix i c.2.length) fun j => zs_nx y (pc + 1) ls ((t, c.2.getD j 0) :: r) h)) : zq_g1 (zy_sem pc ins len a b v) (zq_al (pc + 1) kd t) := by
  intro E e y ls st h κ z hk
  cases st with
  | nil => rfl
  | cons w r =>
    obtain ⟨t2, x2⟩ := w
    cases r with
    | nil => rfl
    | cons w r =>
      obtain ⟨t1, x1⟩ := w
      cases x2 with
      | negSucc k => rfl
      | ofNat n =>
        cases x1 with
        | negSucc k => rfl
        | ofNat q =>
          show zq_c (zq_a (zq_a (Nat.beq t2 0) (Nat.beq t1 2)) (zq_a (zq_sml n) (zq_sml q))) _ z = z
          refine zq_cif (fun hb => ?_) rfl
          have b1 := zq_ai hb
          have b2 := zq_ai b1.1
          have b3 := zq_ai b1.2
          have e2 : t2 = 0 := Nat.eq_of_beq_eq_true b2.1
          have e1 : t1 = 2 := Nat.eq_of_beq_eq_true b2.2
          subst e2; subst e1
          rw [zq_len_at]
          cases hc : h[q]? with
          | none => rfl
          | some c =>
            obtain ⟨k, l⟩ := c
            show zq_c (Nat.beq k kd) _ z = z
            refine zq_cif (fun hkd => ?_) rfl
            rw [zq_get_eq]
            cases hl : l[n]? with
            | none => rfl
            | some x =>
              show zq_c (zy_nt x) _ z = z
              refine zq_cif (fun hx => ?_) rfl
              refine hk _ _ _ _ (zy_sem_pl ?_ ((h2 _ _ _ _ _ _ _ (Int.natCast_nonneg q)).trans ?_) (fun q => by rw [hn] at q; cases q) (h4 _ _ _ _ _ _ _ _ hx))
              · rw [h1]
                show (zy_nt (Int.ofNat n) && (zy_nt (Int.ofNat q) && true)) = true
                rw [zq_smlt b3.1, zq_smlt b3.2]; rfl
              · rw [show zh_at h ((q : Nat) : Int) = some (k, l) from zh_at_of hc]
                show zo_g (Nat.beq k kd) (zo_o (zi_ix (Int.ofNat n) l.length) fun j => zs_nx y (pc + 1) ls ((t, l.getD j 0) :: r) h) = _
                rw [hkd, zi_ixn b3.1 (List.getElem?_eq_some_iff.mp hl).1]
                show some (Sum.inl (y, pc + 1, ls, (t, l.getD n 0) :: r, h)) = _
                rw [List.getD_eq_getElem?_getD, hl]
                rfl
theorem zqg_aal : zq_g1 (zy_sem pc .aaload len a b v) (zq_aal (pc + 1)) := by
  intro E e y ls st h κ z hk
  cases st with
  | nil => rfl
  | cons w r =>
    obtain ⟨t2, x2⟩ := w
    cases r with
    | nil => rfl
    | cons w r =>
      obtain ⟨t1, x1⟩ := w
      cases x2 with
      | negSucc k => rfl
      | ofNat n =>
        cases x1 with
        | negSucc k => rfl
        | ofNat q =>
          show zq_c (zq_a (zq_a (Nat.beq t2 0) (Nat.beq t1 2)) (zq_a (zq_sml n) (zq_sml q))) _ z = z
          refine zq_cif (fun hb => ?_) rfl
          have b1 := zq_ai hb
          have b2 := zq_ai b1.1
          have b3 := zq_ai b1.2
          have e2 : t2 = 0 := Nat.eq_of_beq_eq_true b2.1
          have e1 : t1 = 2 := Nat.eq_of_beq_eq_true b2.2
          subst e2; subst e1
          rw [zq_len_at]
          cases hc : h[q]? with
          | none => rfl
          | some c =>
            obtain ⟨k, l⟩ := c
            show zq_c (Nat.beq k 52) _ z = z
            refine zq_cif (fun hkd => ?_) rfl
            rw [zq_get_eq]
            cases hl : l[n]? with
            | none => rfl
            | some x =>
              cases x with
              | negSucc w => rfl
              | ofNat w =>
                show zq_c (zq_sml w) _ z = z
                refine zq_cif (fun hx => ?_) rfl
                refine hk _ _ _ _ (zy_sem_pl ?_ ?_ (fun _ => ?_) rfl)
                · show (zy_nt (Int.ofNat n) && (zy_nt (Int.ofNat q) && true)) = true
                  rw [zq_smlt b3.1, zq_smlt b3.2]; rfl
                · show (zo_o (zh_at h (Int.ofNat q)) fun c => zo_g (Nat.beq c.1 52) (zo_o (zi_ix (Int.ofNat n) c.2.length) fun j => zo_g (decide (-1 ≤ c.2.getD j 0)) (zs_nx y (pc + 1) ls ((2, c.2.getD j 0) :: r) h))) = _
                  rw [zh_at_of hc]
                  show zo_g (Nat.beq k 52) (zo_o (zi_ix (Int.ofNat n) l.length) fun j => zo_g (decide (-1 ≤ l.getD j 0)) (zs_nx y (pc + 1) ls ((2, l.getD j 0) :: r) h)) = _
                  rw [hkd, zi_ixn b3.1 (List.getElem?_eq_some_iff.mp hl).1]
                  show zo_g (decide (-1 ≤ l.getD n 0)) (zs_nx y (pc + 1) ls ((2, l.getD n 0) :: r) h) = _
                  rw [List.getD_eq_getElem?_getD, hl]
                  show zo_g (decide (-1 ≤ Int.ofNat w)) _ = _
                  rw [decide_eq_true (by show (-1 : Int) ≤ (w : Int); omega)]
                  rfl
                · show (zy_nt (Int.ofNat w) && true) = true
                  rw [zq_smlt hx]; rfl
theorem zqg_as {kd : Nat} (h1 : ∀ ls st, zy_ok ls st ins a b v = zy_nk 2 st.tail) (hn : zy_new ins a = false) (h4 : ∀ e S, zy_nrm e ins S = S) (h2 : ∀ E y ls h x i q r, zs_ins E y pc ls ((t, x) :: (0, i) :: (2, q) :: r) h ins len a b v = zo_o (zh_at h q) fun c => zo_g (Nat.beq c.1 kd) (zo_o (zi_ix i c.2.length) fun j => zs_nx y (pc + 1) ls r (h.set q.toNat (kd, c.2.set j x)))) : zq_g1 (zy_sem pc ins len a b v) (zq_as (pc + 1) kd t) := by
  intro E e y ls st h κ z hk
  cases st with
  | nil => rfl
  | cons w r =>
    obtain ⟨t3, x3⟩ := w
    cases r with
    | nil => rfl
    | cons w r =>
      obtain ⟨t2, x2⟩ := w
      cases r with
      | nil => rfl
      | cons w r =>
        obtain ⟨t1, x1⟩ := w
        cases x2 with
        | negSucc k => rfl
        | ofNat n =>
          cases x1 with
          | negSucc k => rfl
          | ofNat q =>
            show zq_c (zq_a (zq_a (Nat.beq t3 t) (zq_a (Nat.beq t2 0) (Nat.beq t1 2))) (zq_a (zq_sml n) (zq_sml q))) _ z = z
            refine zq_cif (fun hb => ?_) rfl
            have b1 := zq_ai hb
            have b0 := zq_ai b1.1
            have b2 := zq_ai b0.2
            have b3 := zq_ai b1.2
            have e3 : t3 = t := Nat.eq_of_beq_eq_true b0.1
            have e2 : t2 = 0 := Nat.eq_of_beq_eq_true b2.1
            have e1 : t1 = 2 := Nat.eq_of_beq_eq_true b2.2
            subst e3; subst e2; subst e1
            rw [zq_len_at]
            cases hc : h[q]? with
            | none => rfl
            | some c =>
              obtain ⟨k, l⟩ := c
              show zq_c (Nat.beq k kd) _ z = z
              refine zq_cif (fun hkd => ?_) rfl
              have hkd2 : k = kd := Nat.eq_of_beq_eq_true hkd
              subst hkd2
              refine zq_wr1i hc (fun hlt => hk _ _ _ _ (zy_sem_pl ?_ ((h2 ..).trans ?_) (fun q => by rw [hn] at q; cases q) (h4 ..)))
              · rw [h1]
                show (zy_nt (Int.ofNat n) && (zy_nt (Int.ofNat q) && true)) = true
                rw [zq_smlt b3.1, zq_smlt b3.2]; rfl
              · rw [zh_at_of hc]
                show zo_g (Nat.beq k k) (zo_o (zi_ix (Int.ofNat n) l.length) fun j => zs_nx y (pc + 1) ls r (h.set q (k, l.set j x3))) = _
                rw [hkd, zi_ixn b3.1 hlt]
                rfl
theorem zf_tag60 {t0 : Nat} (ht : zf_tag a b = some t0) : Nat.beq a 60 = false := by
  cases hq : Nat.beq a 60 with
  | false => rfl
  | true =>
    have := Nat.eq_of_beq_eq_true hq
    subst this
    have h0 : zf_tag 60 b = none := rfl
    rw [h0] at ht
    cases ht
theorem zqg_gf {ix t0 : Nat} (ht : zf_tag a b = some t0) : zq_g1 (zy_sem pc (.getfield ix) len a b v) (zq_gf (pc + 3) a b (zf_vt t0)) := by
  intro E e y ls st h κ z hk
  cases st with
  | nil => rfl
  | cons w r =>
    obtain ⟨t1, x1⟩ := w
    cases x1 with
    | negSucc k => rfl
    | ofNat q =>
      show zq_c (zq_a (Nat.beq t1 2) (zq_sml q)) _ z = z
      refine zq_cif (fun hb => ?_) rfl
      have b1 := zq_ai hb
      have e1 : t1 = 2 := Nat.eq_of_beq_eq_true b1.1
      subst e1
      rw [zq_len_at]
      cases hc : h[q]? with
      | none => rfl
      | some c =>
        obtain ⟨k, l⟩ := c
        show zq_c (Nat.beq k a) _ z = z
        refine zq_cif (fun hkd => ?_) rfl
        rw [zq_get_eq]
        cases hl : l[b]? with
        | none => rfl
        | some x =>
          refine hk _ _ _ _ (zy_sem_pl ?_ ?_ (fun q => by cases q) rfl)
          · show (zy_nt (Int.ofNat q) && true) = true
            rw [zq_smlt b1.2]; rfl
          · show cond (Nat.beq a 60) _ (zo_o (zh_at h (Int.ofNat q)) fun c => zo_g (Nat.beq c.1 a) (zo_o (zf_tag a b) fun t => zo_o c.2[b]? fun x => zs_nx y (pc + 3) ls ((zf_vt t, x) :: r) h)) = _
            rw [zf_tag60 ht, cond_false, zh_at_of hc, ht]
            show zo_g (Nat.beq k a) (zo_o l[b]? fun x => zs_nx y (pc + 3) ls ((zf_vt t0, x) :: r) h) = _
            rw [hkd, hl]
            rfl
theorem zqg_pf {ix t0 : Nat} (ht : zf_tag a b = some t0) (h5 : Nat.beq t0 5 = false) : zq_g1 (zy_sem pc (.putfield ix) len a b v) (zq_pf (pc + 3) a b (zf_vt t0)) := by
  intro E e y ls st h κ z hk
  cases st with
  | nil => rfl
  | cons w r =>
    obtain ⟨t2, x2⟩ := w
    cases r with
    | nil => rfl
    | cons w r =>
      obtain ⟨t1, x1⟩ := w
      cases x1 with
      | negSucc k => rfl
      | ofNat q =>
        show zq_c (zq_a (zq_a (Nat.beq t2 (zf_vt t0)) (Nat.beq t1 2)) (zq_sml q)) _ z = z
        refine zq_cif (fun hb => ?_) rfl
        have b1 := zq_ai hb
        have b2 := zq_ai b1.1
        have e1 : t1 = 2 := Nat.eq_of_beq_eq_true b2.2
        subst e1
        rw [zq_len_at]
        cases hc : h[q]? with
        | none => rfl
        | some c =>
          obtain ⟨k, l⟩ := c
          show zq_c (Nat.beq k a) _ z = z
          refine zq_cif (fun hkd => ?_) rfl
          have hkd2 : k = a := Nat.eq_of_beq_eq_true hkd
          subst hkd2
          refine zq_wr1i hc (fun hlt => hk _ _ _ _ (zy_sem_pl ?_ ?_ (fun q => by cases q) rfl))
          · show ((zy_nt (Int.ofNat q) && true) && (zy_nk 1 ((t2, x2) :: (2, Int.ofNat q) :: r) || (match zf_tag k b with
              | some t => !Nat.beq t 5
              | none => true))) = true
            rw [zq_smlt b1.2, ht]
            show (true && (_ || !Nat.beq t0 5)) = true
            rw [h5]
            simp
          · show (zo_o (zh_at h (Int.ofNat q)) fun c => zo_g (Nat.beq c.1 k && Nat.blt b c.2.length) (zo_o (zf_tag k b) fun t =>
              zo_g (Nat.beq t2 (zf_vt t) && (!Nat.beq t 5 || (decide (x2 = 0) || decide (x2 = 1)))) (zs_nx y (pc + 3) ls r (h.set q (k, c.2.set b x2))))) = _
            rw [zh_at_of hc, ht]
            show zo_g (Nat.beq k k && Nat.blt b l.length) (zo_g (Nat.beq t2 (zf_vt t0) && (!Nat.beq t0 5 || (decide (x2 = 0) || decide (x2 = 1)))) (zs_nx y (pc + 3) ls r (h.set q (k, l.set b x2)))) = _
            rw [hkd, b2.1, h5, show Nat.blt b l.length = true from Nat.ble_eq_true_of_le hlt]
            rfl
theorem zqg_ln : zq_g1 (zy_sem pc .arraylength len a b v) (zq_ln (pc + 1)) := by
  intro E e y ls st h κ z hk
  cases st with
  | nil => rfl
  | cons w r =>
    obtain ⟨t1, x1⟩ := w
    cases x1 with
    | negSucc k => rfl
    | ofNat q =>
      show zq_c (zq_a (Nat.beq t1 2) (zq_sml q)) _ z = z
      refine zq_cif (fun hb => ?_) rfl
      have b1 := zq_ai hb
      have e1 : t1 = 2 := Nat.eq_of_beq_eq_true b1.1
      subst e1
      rw [zq_len_at]
      cases hc : h[q]? with
      | none => rfl
      | some c =>
        obtain ⟨k, l⟩ := c
        show zq_c (zq_a (Nat.beq k 50 || Nat.beq k 52) (zq_sml (zq_len l))) _ z = z
        refine zq_cif (fun hkd => ?_) rfl
        have b4 := zq_ai hkd
        rw [zq_len_eq] at b4 ⊢
        refine hk _ _ _ _ (zy_sem_pl ?_ ?_ (fun _ => ?_) rfl)
        · show (zy_nt (Int.ofNat q) && true) = true
          rw [zq_smlt b1.2]; rfl
        · show cond (decide (0 ≤ Int.ofNat q)) (zo_o (zh_at h (Int.ofNat q)) fun c => zo_g (Nat.beq c.1 50 || Nat.beq c.1 52) (zs_nx y (pc + 1) ls ((0, (c.2.length : Int)) :: r) h)) (cond (decide (Int.ofNat q = -4)) (zs_nx y (pc + 1) ls ((0, 1) :: r) h) <| zo_g (decide (Int.ofNat q ≤ -2)) (zo_o E[(-(Int.ofNat q) - 2).toNat]? fun l => zs_nx y (pc + 1) ls ((0, (l.length : Int)) :: r) h)) = _
          rw [show decide (0 ≤ Int.ofNat q) = true from decide_eq_true (Int.natCast_nonneg q), cond_true, zh_at_of hc]
          show zo_g (Nat.beq k 50 || Nat.beq k 52) _ = _
          rw [b4.1]
          rfl
        · show (zy_nt (Int.ofNat l.length) && true) = true
          rw [zq_smlt b4.2]; rfl
theorem zqg_dup : zq_g1 (zy_sem pc .dup len a b v) (zq_dup (pc + 1)) := by
  intro E e y ls st h κ z hk
  cases st with
  | nil => rfl
  | cons w r =>
    obtain ⟨t, x⟩ := w
    show zq_c (Nat.beq t 0 || Nat.beq t 2) _ z = z
    refine zq_cif (fun hb => ?_) rfl
    refine hk _ _ _ _ (zy_sem_pl rfl ?_ (fun q => by cases q) rfl)
    have hw : zs_wide (t, x) = false := by
      rcases (Bool.or_eq_true_iff.mp hb) with h | h
      · have : t = 0 := Nat.eq_of_beq_eq_true h
        subst this; rfl
      · have : t = 2 := Nat.eq_of_beq_eq_true h
        subst this; rfl
    show zo_g (!zs_wide (t, x)) (zs_nx y (pc + 1) ls ((t, x) :: (t, x) :: r) h) = _
    rw [hw]
    rfl
end
