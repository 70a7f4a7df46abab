/-! Many scripts at one go. A number from zy_T on (a token) stands for what a script's place says: place, kind, two numbers. -/
abbrev zy_E : Type := List (Int × Int) × List (Nat × Nat × Int × Int)
def zy_T : Nat := 1606938044258990275541962092341162602522202993782792835301376
def zy_dec (x : Int) : Option (Nat × Nat × Nat × Nat) := match x with
  | .ofNat n => cond (Nat.ble zy_T n) (some ((n - zy_T) % 8, (n - zy_T) / 8 % 8, (n - zy_T) / 64 % 1048576, (n - zy_T) / 67108864)) none
  | .negSucc _ => none
def zy_nt (x : Int) : Bool := match x with
  | .ofNat n => !Nat.ble zy_T n
  | .negSucc _ => true
def zy_mkt (i k c1 c0 : Nat) : Int := Int.ofNat (zy_T + (i + 8 * (k + 8 * (c1 + 1048576 * c0))))
def zy_val (s : Nat → Int) (q : Nat × Nat × Nat × Nat) : Int := match q with
  | (i, k, c1, c0) => match k with
    | 0 => s i * (c1 : Int) + (c0 : Int)
    | 1 => zi_ushr (s i) c0
    | 2 => zi_shr (s i) c0
    | 3 => zi_and (zi_ushr (s i) c0) c1
    | _ => zi_and (zi_shr (s i) c0) c1
def zy_f (s : Nat → Int) (x : Int) : Int := match zy_dec x with
  | none => x
  | some q => zy_val s q
def zy_v (s : Nat → Int) (v : zv_V) : zv_V := (v.1, zy_f s v.2)
def zy_c (s : Nat → Int) (c : zv_C) : zv_C := (c.1, c.2.map (zy_f s))
def zy_h (s : Nat → Int) (h : zv_H) : zv_H := h.map (zy_c s)
def zy_fr (s : Nat → Int) (fr : zv_F) : zv_F := (fr.1, fr.2.1, fr.2.2.1.map (zy_v s), fr.2.2.2.1.map (zy_v s), zy_h s fr.2.2.2.2)
def zy_r (s : Nat → Int) (r : zv_R) : zv_R := (r.1, zy_v s r.2.1, zy_h s r.2.2)
def zy_S (s : Nat → Int) (S : zv_S) : zv_S := match S with
  | .inl fr => .inl (zy_fr s fr)
  | .inr (.inr r) => .inr (.inr (zy_r s r))
  | .inr (.inl (t, as, g)) => .inr (.inl (t, as.map (zy_v s), zy_fr s g))
/-! What an instruction looks at is no token. -/
def zy_nk : Nat → List zv_V → Bool
  | 0, _ => true
  | _ + 1, [] => true
  | k + 1, v :: r => zy_nt v.2 && zy_nk k r
def zy_rc (a : Nat) (st : List zv_V) : Bool := match zm_at a with
  | none => true
  | some m => match m.2.2.2.2.2.1 with
    | 0 => true
    | n + 1 => match st[n]? with
      | none => false
      | some v => zy_nt v.2
def zy_inc (a : Nat) (v : Int) (ls : List zv_V) : Bool := match ls[a]? with
  | none => true
  | some x => zy_nt x.2 && zy_nt (x.2 + v)
def zy_ok (ls st : List zv_V) (ins : Instr) (a b : Nat) (v : Int) : Bool :=
  match ins with
  | .iconst _ => true
  | .bipush _ => true
  | .sipush _ => true
  | .ldc _ => true
  | .ldc_w _ => true
  | .iload_n _ => true
  | .iload _ => true
  | .aload_n _ => true
  | .aload _ => true
  | .istore_n _ => true
  | .istore _ => true
  | .astore_n _ => true
  | .astore _ => true
  | .goto _ => true
  | .dup => true
  | .pop => true
  | .aconst_null => true
  | .new _ => true
  | .lconst _ => true
  | .dconst _ => true
  | .ldc2_w _ => true
  | .lload_n _ => true
  | .lload _ => true
  | .dload_n _ => true
  | .dload _ => true
  | .lstore_n _ => true
  | .lstore _ => true
  | .dstore_n _ => true
  | .dstore _ => true
  | .lreturn => true
  | .dreturn => true
  | .return_ => true
  | .iinc _ _ => zy_inc a v ls
  | .iadd => zy_nk 2 st
  | .isub => zy_nk 2 st
  | .imul => zy_nk 2 st
  | .iand => zy_nk 2 st
  | .ixor => zy_nk 2 st
  | .ishr => zy_nk 2 st
  | .iushr => zy_nk 2 st
  | .irem => zy_nk 2 st
  | .idiv => zy_nk 2 st
  | .ineg => zy_nk 1 st
  | .ifCond _ _ => zy_nk 1 st
  | .if_icmp _ _ => zy_nk 2 st
  | .ifnull _ => zy_nk 1 st
  | .ifnonnull _ => zy_nk 1 st
  | .tableswitch _ _ _ _ => zy_nk 1 st
  | .iaload => zy_nk 2 st
  | .laload => zy_nk 2 st
  | .aaload => zy_nk 2 st
  | .iastore => zy_nk 2 st.tail
  | .lastore => zy_nk 2 st.tail
  | .aastore => zy_nk 3 st
  | .arraylength => zy_nk 1 st
  | .getfield _ => zy_nk 1 st
  | .putfield _ => zy_nk 1 st.tail && (zy_nk 1 st || (match zf_tag a b with
    | some t => !Nat.beq t 5
    | none => true))
  | .newarray _ => zy_nk 1 st
  | .anewarray _ => zy_nk 1 st
  | .invokevirtual _ => zy_rc a st
  | .invokestatic _ => cond (Nat.beq a 9003) (zy_nk 5 st) (cond (Nat.ble 9000 a) (zy_nk 2 st) true)
  | .invokespecial _ => cond (Nat.beq a 9999) (zy_nk 1 st) (zy_rc a st)
  | .ladd => zy_nk 2 st
  | .lmul => zy_nk 2 st
  | .i2l => zy_nk 1 st
  | .lcmp => zy_nk 2 st
  | .dcmp _ => zy_nk 2 st
  | .ireturn => zy_nk 1 st
  | .areturn => zy_nk 1 st
  | .getstatic _ => true
  | .baload => zy_nk 2 st
  | .i2c => zy_nk 1 st
  | _ => false
/-- what an instruction makes is no token -/
def zy_new (ins : Instr) (a : Nat) : Bool :=
  match ins with
  | .iload_n _ => false
  | .iload _ => false
  | .aload_n _ => false
  | .aload _ => false
  | .istore_n _ => false
  | .istore _ => false
  | .astore_n _ => false
  | .astore _ => false
  | .goto _ => false
  | .dup => false
  | .pop => false
  | .lload_n _ => false
  | .lload _ => false
  | .dload_n _ => false
  | .dload _ => false
  | .lstore_n _ => false
  | .lstore _ => false
  | .dstore_n _ => false
  | .dstore _ => false
  | .lreturn => false
  | .dreturn => false
  | .return_ => false
  | .iinc _ _ => false
  | .ifCond _ _ => false
  | .if_icmp _ _ => false
  | .ifnull _ => false
  | .ifnonnull _ => false
  | .tableswitch _ _ _ _ => false
  | .iaload => false
  | .laload => false
  | .iastore => false
  | .lastore => false
  | .aastore => false
  | .getfield _ => false
  | .putfield _ => false
  | .invokevirtual _ => false
  | .invokestatic _ => Nat.ble 9000 a && !Nat.beq a 9003
  | .invokespecial _ => false
  | .ireturn => false
  | .areturn => false
  | _ => true
def zy_post (S : zv_S) : Bool := match S with
  | .inl (_, _, _, st, _) => zy_nk 1 st
  | .inr (.inr (_, v, _)) => zy_nt v.2
  | _ => true
def zy_iv (e : zy_E) (i : Nat) : Int × Int := match e.1[i]? with
  | some q => q
  | none => (-2147483648, 2147483647)
/-- a place that can say one number alone -/
def zy_norm (e : zy_E) (x : Int) : Int := match zy_dec x with
  | some (i, 0, 1, 0) => match zy_iv e i with
    | (l, u) => cond (decide (l = u) && zy_nt l) l x
  | _ => x
def zy_nrm (e : zy_E) (ins : Instr) (S : zv_S) : zv_S := match ins with
  | .iaload => match S with
    | .inl (y, pc, ls, v :: st, h) => .inl (y, pc, ls, (v.1, zy_norm e v.2) :: st, h)
    | S => S
  | _ => S
def zy_all1 {α : Type} (l : List α) (p : α → Bool) : Bool := match l with
  | [] => true
  | [x] => p x
  | x :: y :: r => cond (p x) (zy_all1 (y :: r) p) false
def zy_rng (e : zy_E) (i : Nat) : Option (Nat × Nat) := match zy_iv e i with
  | (.ofNat l, .ofNat u) => some (l, u)
  | _ => none
def zy_each (l u : Nat) (P : Nat → Bool) : Bool := (List.range (u + 1 - l)).all (fun k => P (l + k))
def zy_is (o : Option Int) (x : Int) : Bool := match o with
  | none => false
  | some y => decide (y = x) && zy_nt y
/-- what is the same, or goes up evenly, for all that a place can say -/
def zy_fit (i l u : Nat) (g : Nat → Option Int) : Option Int := match g l with
  | none => none
  | some x => match g (cond (Nat.blt l u) (l + 1) l) with
    | none => none
    | some z => cond (decide (x = z)) (cond (zy_each l u (fun j => zy_is (g j) x)) (some x) none)
      (cond (Nat.blt (z - x).toNat 1048576 && Nat.blt i 8 && zy_each l u (fun j => zy_is (g j) (Int.ofNat ((z - x).toNat * j + (x - ((z - x).toNat * l : Nat)).toNat))))
        (some (zy_mkt i 0 (z - x).toNat (x - ((z - x).toNat * l : Nat)).toNat)) none)
def zy_swap (c : ClassFile.Cond) : ClassFile.Cond := match c with
  | .eq => .eq
  | .ne => .ne
  | .lt => .gt
  | .ge => .le
  | .gt => .lt
  | .le => .ge
def zy_min (x z : Int) : Int := cond (decide (x ≤ z)) x z
def zy_max (x z : Int) : Int := cond (decide (x ≤ z)) z x
/-- the parts of a span by a comparison with w -/
def zy_pcs (c : ClassFile.Cond) (w l u : Int) : List (Int × Int × Bool) := match c with
  | .lt => [(l, zy_min u (w - 1), true), (zy_max l w, u, false)]
  | .ge => [(l, zy_min u (w - 1), false), (zy_max l w, u, true)]
  | .gt => [(l, zy_min u w, false), (zy_max l (w + 1), u, true)]
  | .le => [(l, zy_min u w, true), (zy_max l (w + 1), u, false)]
  | .eq => [(zy_max l w, zy_min u w, true), (l, zy_min u (w - 1), false), (zy_max l (w + 1), u, false)]
  | .ne => [(zy_max l w, zy_min u w, false), (l, zy_min u (w - 1), true), (zy_max l (w + 1), u, true)]
def zy_in32 (x : Int) : Bool := decide (-2147483648 ≤ x) && decide (x ≤ 2147483647)
def zy_cmpc (e : zy_E) (c : ClassFile.Cond) (x w : Int) (k : zy_E → Bool → zy_E × zv_S) : Option (List (zy_E × zv_S)) := match zy_dec x with
  | some (i, 0, 1, c0) => match zy_iv e i with
    | (l, u) => cond (zy_in32 w && zy_in32 (l + c0) && zy_in32 (u + c0) && Nat.blt i e.1.length && zy_nt w)
      (some (((zy_pcs c (w - c0) l u).filter (fun q => decide (q.1 ≤ q.2.1))).map (fun q => k (e.1.set i (q.1, q.2.1), e.2) q.2.2))) none
  | _ => none
/-- two places: the same, or said to be different -/
def zy_two (e : zy_E) (c : ClassFile.Cond) (x z : Int) : Option Bool := match zy_dec x, zy_dec z with
  | some (i, 0, 1, 0), some (j, 0, 1, 0) => match c with
    | .eq => cond (e.2.any (fun q => decide (q = (4, i, (j : Int), 0)))) (some true) (cond (e.2.any (fun q => decide (q = (2, i, (j : Int), 0)))) (some false) none)
    | .ne => cond (e.2.any (fun q => decide (q = (4, i, (j : Int), 0)))) (some false) (cond (e.2.any (fun q => decide (q = (2, i, (j : Int), 0)))) (some true) none)
    | _ => none
  | _, _ => none
/-- what is said of a place: by and, by remainder -/
def zy_said (e : zy_E) (k : Nat) (x w : Int) : Option Int := match zy_dec x with
  | some (i, 0, 1, 0) => match e.2.find? (fun q => Nat.beq q.1 k && Nat.beq q.2.1 i && decide (q.2.2.1 = w)) with
    | none => none
    | some q => some q.2.2.2
  | _ => none
def zy_nat (w : Int) : Option Nat := match w with
  | .ofNat n => cond (Nat.blt n 1048576) (some n) none
  | _ => none
/-- a reference by a place: the place, its span, the step, the first -/
def zy_ref (e : zy_E) (x : Int) : Option (Nat × Nat × Nat × Nat × Nat) := match zy_dec x with
  | some (i, 0, c1, c0) => match zy_rng e i with
    | none => none
    | some (l, u) => some (i, l, u, c1, c0)
  | _ => none
def zy_one (e : zy_E) (S : zv_S) : Option (List (zy_E × zv_S)) := some [(e, S)]
/-- a copy from a place, or to a place, where all numbers are one -/
def zy_cp (e : zy_E) (y pc : Nat) (ls st : List zv_V) (h : zv_H) : Option (List (zy_E × zv_S)) := match st with
  | (0, n) :: (0, dp) :: (2, q1) :: (0, sp) :: (2, q0) :: r =>
    zo_o (zh_at h q0) fun c0 => zo_o (zh_at h q1) fun c1 => zo_o (zi_pos n) fun n' => zo_g (zy_nt n && zy_nt q1 && zy_nt q0 && zy_nt (c0.2.getD 0 0) && c0.2.all (fun x => decide (x = c0.2.getD 0 0))) <|
    match zy_ref e sp with
    | some (_, l, u, d1, d0) => zo_g (zy_nt dp && zy_nt ((d1 * l + d0 : Nat) : Int) && zy_in32 ((d1 * u + d0 : Nat) : Int) && Nat.ble (d1 * u + d0 + n') c0.2.length) <|
        zo_o (zs_copy y pc ls ((0, n) :: (0, dp) :: (2, q1) :: (0, ((d1 * l + d0 : Nat) : Int)) :: (2, q0) :: r) h) (zy_one e)
    | none => match zy_ref e dp with
      | none => none
      | some (_, l, u, d1, d0) => zo_g (zy_nt sp && zy_in32 ((d1 * u + d0 : Nat) : Int) && Nat.ble (d1 * u + d0 + n') c1.2.length && c1.2.all (fun x => decide (x = c0.2.getD 0 0))) <|
        zo_o (zs_copy y pc ls ((0, n) :: (0, ((d1 * l + d0 : Nat) : Int)) :: (2, q1) :: (0, sp) :: (2, q0) :: r) h) (fun _ => zy_one e (.inl (y, pc + 3, ls, r, h)))
  | _ => none
def zy_spec (e : zy_E) (y pc : Nat) (ls st : List zv_V) (h : zv_H) (ins : Instr) (a b : Nat) : Option (List (zy_E × zv_S)) :=
  match ins with
  | .ifCond c _ => match st with
    | (0, x) :: r => zy_cmpc e c x 0 (fun e' q => (e', .inl (y, cond q a (pc + 3), ls, r, h)))
    | _ => none
  | .if_icmp c _ => match st with
    | (0, x2) :: (0, x1) :: r => cond (zy_nt x2) (zy_cmpc e c x1 x2 (fun e' q => (e', .inl (y, cond q a (pc + 3), ls, r, h))))
      (cond (zy_nt x1) (zy_cmpc e (zy_swap c) x2 x1 (fun e' q => (e', .inl (y, cond q a (pc + 3), ls, r, h))))
        (zo_o (zy_two e c x1 x2) fun q => zy_one e (.inl (y, cond q a (pc + 3), ls, r, h))))
    | _ => none
  | .imul => match st with
    | (0, x2) :: (0, x1) :: r => match zy_dec x2 with
      | some (i, 0, 1, 0) => zo_o (zy_nat x1) fun w => zo_g (Nat.blt i 8) (zy_one e (.inl (y, pc + 1, ls, (0, zy_mkt i 0 w 0) :: r, h)))
      | _ => none
    | _ => none
  | .iadd => match st with
    | (0, x2) :: (0, x1) :: r => match zy_dec x1 with
      | some (i, 0, 1, 0) => zo_o (zy_nat x2) fun w => zo_g (Nat.blt i 8) (zy_one e (.inl (y, pc + 1, ls, (0, zy_mkt i 0 1 w) :: r, h)))
      | _ => none
    | _ => none
  | .ixor => match st with
    | (0, x2) :: (0, x1) :: r => zo_g (zy_nt x2) (zo_o (zy_said e 3 x1 x2) fun w => zy_one e (.inl (y, pc + 1, ls, (0, w) :: r, h)))
    | _ => none
  | .iushr => match st with
    | (0, x2) :: (0, x1) :: r => match zy_dec x1 with
      | some (i, 0, 1, 0) => zo_o (zy_nat x2) fun w => zo_g (Nat.blt i 8) (zy_one e (.inl (y, pc + 1, ls, (0, zy_mkt i 1 0 w) :: r, h)))
      | _ => none
    | _ => none
  | .ishr => match st with
    | (0, x2) :: (0, x1) :: r => match zy_dec x1 with
      | some (i, 0, 1, 0) => zo_o (zy_nat x2) fun w => zo_g (Nat.blt i 8) (zy_one e (.inl (y, pc + 1, ls, (0, zy_mkt i 2 0 w) :: r, h)))
      | _ => none
    | _ => none
  | .iand => match st with
    | (0, x2) :: (0, x1) :: r => match zy_dec x1 with
      | some (i, 0, 1, 0) => zo_g (zy_nt x2) (zo_o (zy_said e 0 x1 x2) fun w => zy_one e (.inl (y, pc + 1, ls, (0, w) :: r, h)))
      | some (i, 1, 0, q) => zo_o (zy_nat x2) fun w => zo_g (Nat.blt i 8) (zy_one e (.inl (y, pc + 1, ls, (0, zy_mkt i 3 w q) :: r, h)))
      | some (i, 2, 0, q) => zo_o (zy_nat x2) fun w => zo_g (Nat.blt i 8) (zy_one e (.inl (y, pc + 1, ls, (0, zy_mkt i 4 w q) :: r, h)))
      | _ => none
    | _ => none
  | .irem => match st with
    | (0, x2) :: (0, x1) :: r => zo_g (zy_nt x2 && !decide (Int32.ofInt x2 = 0)) (zo_o (zy_said e 1 x1 x2) fun w => zy_one e (.inl (y, pc + 1, ls, (0, w) :: r, h)))
    | _ => none
  | .aaload => match st with
    | (0, x) :: (2, q) :: r => zo_g (zy_nt q) <| zo_o (zh_at h q) fun c => zo_g (Nat.beq c.1 52) <| match zy_ref e x with
      | some (i, l, u, 1, 0) => zo_o (zy_fit i l u (fun j => zo_o (zi_ix (j : Int) c.2.length) fun k => zo_g (decide (-1 ≤ c.2.getD k 0)) (some (c.2.getD k 0)))) fun X => zy_one e (.inl (y, pc + 1, ls, (2, X) :: r, h))
      | _ => none
    | _ => none
  | .getfield _ => match st with
    | (2, q) :: r => zo_g (!Nat.beq a 60) <| zo_o (zy_ref e q) fun p => match p with
      | (i, l, u, d1, d0) => zo_o (zf_tag a b) fun t => zo_o (zy_fit i l u (fun j => zo_o h[d1 * j + d0]? fun c => zo_g (Nat.beq c.1 a) c.2[b]?)) fun X => zy_one e (.inl (y, pc + 3, ls, (zf_vt t, X) :: r, h))
    | _ => none
  | .iaload => match st with
    | (0, x) :: (2, q) :: r => zo_g (zy_nt x) <| zo_o (zy_ref e q) fun p => match p with
      | (i, l, u, d1, d0) => zo_o (zy_fit i l u (fun j => zo_o h[d1 * j + d0]? fun c => zo_g (Nat.beq c.1 50) (zo_o (zi_ix x c.2.length) fun k => some (c.2.getD k 0)))) fun X => zy_one e (.inl (y, pc + 1, ls, (0, X) :: r, h))
    | _ => none
  | .arraylength => match st with
    | (2, q) :: r => zo_o (zy_ref e q) fun p => match p with
      | (i, l, u, d1, d0) => zo_o (zy_fit i l u (fun j => zo_o h[d1 * j + d0]? fun c => zo_g (Nat.beq c.1 50 || Nat.beq c.1 52) (some (c.2.length : Int)))) fun X => zy_one e (.inl (y, pc + 1, ls, (0, X) :: r, h))
    | _ => none
  | .iastore => match st with
    | (0, v) :: (0, x) :: (2, q) :: r => zo_g (zy_nt x && zy_nt v) <| zo_o (zy_ref e q) fun p => match p with
      | (_, l, u, d1, d0) => zo_g (zy_each l u (fun j => zy_is (zo_o h[d1 * j + d0]? fun c => zo_g (Nat.beq c.1 50) (zo_o (zi_ix x c.2.length) fun k => some (c.2.getD k 0))) v)) (zy_one e (.inl (y, pc + 1, ls, r, h)))
    | _ => none
  | .putfield _ => match st with
    | (k, v) :: (2, q) :: r => zo_g (zy_nt v) <| zo_o (zy_ref e q) fun p => match p with
      | (_, l, u, d1, d0) => zo_o (zf_tag a b) fun t => zo_g (Nat.beq k (zf_vt t) && !Nat.beq t 5 && zy_each l u (fun j => zy_is (zo_o h[d1 * j + d0]? fun c => zo_g (Nat.beq c.1 a) c.2[b]?) v)) (zy_one e (.inl (y, pc + 3, ls, r, h)))
    | _ => none
  | .invokevirtual _ => zo_o (zm_at a) fun m => match m.2.2.2.2.2.1 with
    | 0 => none
    | n + 1 => zo_o st[n]? fun v => zo_o (zy_ref e v.2) fun p => match p with
      | (_, l, u, d1, d0) => zo_g (Nat.beq v.1 2 && Nat.beq b 0 && Nat.blt m.2.2.2.2.2.2.1 60 && zy_each l u (fun j => match h[d1 * j + d0]? with
        | none => false
        | some c => Nat.beq c.1 m.2.2.2.2.2.2.1)) (zo_o (zs_call y pc a ls st h) (zy_one e))
  | .invokestatic _ => cond (Nat.beq a 9003) (zy_cp e y pc ls st h) none
  | .ireturn => match st with
    | [(0, q)] => zo_o (zm_at y) fun m => zo_g (Nat.beq m.2.2.2.2.1 1) (zy_one e (.inr (.inr (1, (0, q), h))))
    | _ => none
  | .areturn => match st with
    | [(2, q)] => zo_o (zy_ref e q) fun _ => zo_o (zm_at y) fun m => zo_g (Nat.beq m.2.2.2.2.1 3) (zy_one e (.inr (.inr (1, (2, q), h))))
    | _ => none
  | _ => none
def zy_step (E : List (List Int)) (e : zy_E) (fr : zv_F) : Option (List (zy_E × zv_S)) := match fr with
  | (y, pc, ls, st, h) => match zt_at y pc with
    | none => none
    | some (ins, len, a, b, _, v) => cond (zy_ok ls st ins a b v)
      (match zs_ins E y pc ls st h ins len a b v with
        | none => none
        | some S => cond (zy_new ins a && !zy_post S) none (some [(e, zy_nrm e ins S)]))
      (zy_spec e y pc ls st h ins a b)
/-- one step, and all that follows -/
def zy_body (E : List (List Int)) (hp : zv_F → Bool) (hs : List zy_E) (ih : Nat → zy_E → zv_F → (zy_E → zv_R → Bool) → Bool) (d : Nat) (e : zy_E) (fr : zv_F) (k : zy_E → zv_R → Bool) : Bool :=
  zy_all1 (cond (hp fr) hs [e]) fun e => match zy_step E e fr with
    | none => false
    | some l => zy_all1 l fun p => match p with
      | (e, .inl fr') => ih d e fr' k
      | (e, .inr (.inr r)) => k e r
      | (e, .inr (.inl (t, as, g))) => match d with
        | 0 => false
        | d' + 1 => match zs_entry t as g.2.2.2.2 with
          | none => false
          | some fr' => ih d' e fr' fun e r => match zs_back r g with
            | none => cond (Nat.beq r.1 2 && List.isEmpty (zh_find zh_tabs g.1) && !zm_ini g.1) (k e r) false
            | some g' => ih (d' + 1) e g' k
noncomputable def zy_exec (E : List (List Int)) (hp : zv_F → Bool) (hs : List zy_E) (n : Nat) : Nat → zy_E → zv_F → (zy_E → zv_R → Bool) → Bool :=
  Nat.rec (motive := fun _ => Nat → zy_E → zv_F → (zy_E → zv_R → Bool) → Bool) (fun _ _ _ _ => false) (fun _ ih => zy_body E hp hs ih) n
/-- the place where the law's loop begins -/
def zy_pc0 : Nat := 33
def zy_hp (fr : zv_F) : Bool := match fr with
  | (y, pc, _) => cond (Nat.beq y zk_law) (Nat.beq pc zy_pc0) false
def zy_fin (_ : zy_E) (r : zv_R) : Bool := match r with
  | (1, (0, x), h) => decide (x = 1) && Nat.ble h.length 600002 && Nat.ble (zx_sl h) 7302232
  | _ => false
def zy_a : Int × Int := (-2147483648, 2147483647)
def zy_p (x : Int) : Int × Int := (x, x)
/-- a script of six numbers, each as it says -/
def zy_six : List (List Int) := [[zy_mkt 0 0 1 0, zy_mkt 1 0 1 0, zy_mkt 2 0 1 0, zy_mkt 3 0 1 0, zy_mkt 4 0 1 0, zy_mkt 5 0 1 0]]
def zy_op (k : Int) (l : List (Int × Int)) (q : List (Nat × Nat × Int × Int)) : zy_E := (zy_a :: l, (0, 0, 31, k) :: q)
noncomputable def zy_go (hs : List zy_E) : Bool := zy_exec zy_six zy_hp hs 100000000 100 ([], []) zx_law0 zy_fin
