/-! What an instruction does, as a function of Lean. E: arrays of ints that nobody writes (numbers -2, -3 ..: the script first). -/
def zm_ini (y : Nat) : Bool := match zm_at y with
  | none => true
  | some m => decide (m.1.name = "<init>")
def zs_wide (v : zv_V) : Bool := Nat.beq v.1 1 || Nat.beq v.1 3
def zs_cat (v : zv_V) : Nat := cond (zs_wide v) 2 1
def zs_pok (ls : List zv_V) (i : Nat) : Bool := match i with
  | 0 => true
  | k + 1 => match ls[k]? with
    | some v => !zs_wide v
    | none => true
def zo_1 {α : Type} (st : List zv_V) (t : Nat) (k : Int → List zv_V → Option α) : Option α := match st with
  | [] => none
  | v :: r => cond (Nat.beq v.1 t) (k v.2 r) none
def zo_g {α : Type} (b : Bool) (k : Option α) : Option α := cond b k none
def zo_o {α β : Type} (o : Option β) (k : β → Option α) : Option α := match o with
  | none => none
  | some x => k x
def zh_at (h : zv_H) (z : Int) : Option zv_C := cond (decide (0 ≤ z)) h[z.toNat]? none
def zi_ix (i : Int) (n : Nat) : Option Nat := cond (!decide (Int32.ofInt i < 0) && decide ((Int32.ofInt i).toNatClampNeg < n)) (some (Int32.ofInt i).toNatClampNeg) none
def zi_cmp (c : ClassFile.Cond) (x y : Int32) : Bool := match c with
  | .eq => decide (x = y)
  | .ne => !decide (x = y)
  | .lt => decide (x < y)
  | .ge => decide (x ≥ y)
  | .gt => decide (x > y)
  | .le => decide (x ≤ y)
def zi_rem (x y : Int) : Int := (Int32.ofInt x - Int32.ofInt x / Int32.ofInt y * Int32.ofInt y).toInt
def zi_div (x y : Int) : Int := (Int32.ofInt x / Int32.ofInt y).toInt
def zi_max (x y : Int) : Int := cond (decide (Int32.ofInt x < Int32.ofInt y)) y x
def zi_min (x y : Int) : Int := cond (decide (Int32.ofInt y < Int32.ofInt x)) y x
def zi_and (x y : Int) : Int := (Int32.ofInt x &&& Int32.ofInt y).toInt
def zi_ushr (x y : Int) : Int := ((Int32.ofInt x).toUInt32 >>> ((Int32.ofInt y).toUInt32 &&& Int32.toUInt32 31)).toInt32.toInt
def zi_lcmp (x y : Int) : Int := (lg_cmp (Int64.ofInt x) (Int64.ofInt y)).toInt
def zi_i2l (x : Int) : Int := (Int32.ofInt x).toInt
def zi_xor (x y : Int) : Int := (Int32.ofInt x ^^^ Int32.ofInt y).toInt
def zi_shr (x y : Int) : Int := (Int32.ofInt x >>> (Int32.ofInt y &&& 31)).toInt
def zs_nx (y pc : Nat) (ls st : List zv_V) (h : zv_H) : Option zv_S := some (.inl (y, pc, ls, st, h))
def zs_load (y pc len a t : Nat) (ls st : List zv_V) (h : zv_H) : Option zv_S :=
  zo_o ls[a]? fun v => zo_g (Nat.beq v.1 t) (zs_nx y (pc + len) ls (v :: st) h)
def zs_store (y pc len a t : Nat) (ls st : List zv_V) (h : zv_H) : Option zv_S :=
  zo_1 st t fun x r => zo_g (Nat.blt a ls.length && zs_pok ls a) (zs_nx y (pc + len) (ls.set a (t, x)) r h)
def zs_int2 (f : Int → Int → Int) (y pc : Nat) (ls st : List zv_V) (h : zv_H) : Option zv_S :=
  zo_1 st 0 fun b r => zo_1 r 0 fun a r => zs_nx y (pc + 1) ls ((0, f a b) :: r) h
def zs_store2 (y pc len a t : Nat) (ls st : List zv_V) (h : zv_H) : Option zv_S :=
  zo_1 st t fun x r => zo_g (Nat.blt (a + 1) ls.length && zs_pok ls a) (zs_nx y (pc + len) ((ls.set a (t, x)).set (a + 1) (9, 0)) r h)
def zs_long2 (f : Int → Int → Int) (y pc : Nat) (ls st : List zv_V) (h : zv_H) : Option zv_S :=
  zo_1 st 1 fun b r => zo_1 r 1 fun a r => zs_nx y (pc + 1) ls ((1, f a b) :: r) h
/-- a copy of n numbers from sp of one row to dp of another -/
def zi_cpy (f g : List Int) (sp dp n : Nat) : List Int := (List.range g.length).map (fun k => cond (Nat.ble dp k && Nat.blt k (dp + n)) (f.getD (sp + (k - dp)) 0) (g.getD k 0))
def zi_pos (x : Int) : Option Nat := cond (!decide (Int32.ofInt x < 0)) (some (Int32.ofInt x).toNatClampNeg) none
def zs_copy (y pc : Nat) (ls st : List zv_V) (h : zv_H) : Option zv_S :=
  zo_1 st 0 fun n r => zo_1 r 0 fun dp r => zo_1 r 2 fun q1 r => zo_1 r 0 fun sp r => zo_1 r 2 fun q0 r => zo_o (zh_at h q0) fun c0 => zo_o (zh_at h q1) fun c1 => zo_o (zi_pos n) fun n => zo_o (zi_pos sp) fun sp => zo_o (zi_pos dp) fun dp =>
    zo_g (Nat.beq c0.1 50 && Nat.beq c1.1 50 && Nat.ble (sp + n) c0.2.length && Nat.ble (dp + n) c1.2.length && Nat.ble (r.map zs_cat).sum 8) (zs_nx y (pc + 3) ls r (h.set q1.toNat (50, zi_cpy c0.2 c1.2 sp dp n)))
def zs_goto (b : Bool) (y t pc : Nat) (ls st : List zv_V) (h : zv_H) : Option zv_S :=
  cond b (zs_nx y t ls st h) (zs_nx y (pc + 3) ls st h)
def zs_call (y pc t : Nat) (ls st : List zv_V) (h : zv_H) : Option zv_S :=
  zo_o (zm_at t) fun m => match m with
  | (_, _, _, _, _, n, _) => zo_g (Nat.ble n st.length && Nat.ble ((st.drop n).map zs_cat).sum 8) (some (.inr (.inl (t, (st.take n).reverse, (y, pc + 3, ls, st.drop n, h)))))
/-- the receiver of a call: an object of the class k -/
def zs_recv (h : zv_H) (k : Nat) (as : List zv_V) : Bool := match as with
  | [] => false
  | v :: _ => !Nat.beq k 99 && (Nat.beq v.1 2 && (match zh_at h v.2 with
    | none => false
    | some c => Nat.beq c.1 k))
/-- the receiver of a call: the text "0" -/
def zs_recvS (k : Nat) (as : List zv_V) : Bool := match as with
  | [] => false
  | v :: _ => Nat.beq k 60 && (Nat.beq v.1 2 && decide (v.2 = -3))
def zs_ret (y : Nat) (st : List zv_V) (t : Nat) (f : Nat → Int → Bool) (h : zv_H) : Option zv_S :=
  zo_o (zm_at y) fun m => match m with
  | (_, _, _, _, rc, _) => zo_1 st t fun x r => zo_g (f rc x && List.isEmpty r) (some (.inr (.inr (1, (t, x), h))))
def zs_ins (E : List (List Int)) (y pc : Nat) (ls st : List zv_V) (h : zv_H) (ins : Instr) (len a b : Nat) (v : Int) : Option zv_S :=
  match ins with
  | .iconst _ => zs_nx y (pc + 1) ls ((0, v) :: st) h
  | .bipush _ => zs_nx y (pc + 2) ls ((0, v) :: st) h
  | .sipush _ => zs_nx y (pc + 3) ls ((0, v) :: st) h
  | .ldc ix => cond (Nat.beq a 0) (zs_nx y (pc + 2) ls ((0, v) :: st) h) (zo_g (Nat.beq y zk_wr0 && Nat.beq ix 184) (zs_nx y (pc + 2) ls ((2, -3) :: st) h))
  | .getstatic _ => cond (Nat.beq a 0) (zs_nx y (pc + 3) ls ((0, 1) :: st) h) (zo_g (Nat.beq a 1) (zs_nx y (pc + 3) ls ((8, 0) :: st) h))
  | .baload => zo_1 st 0 fun i r => zo_1 r 2 fun q r => zo_g (decide (q = -4) && decide (i = 0)) (zs_nx y (pc + 1) ls ((0, 48) :: r) h)
  | .i2c => zo_1 st 0 fun x r => zo_g (decide (x = 48)) (zs_nx y (pc + 1) ls ((0, x) :: r) h)
  | .ldc_w _ => zo_g (Nat.beq a 0) (zs_nx y (pc + 3) ls ((0, v) :: st) h)
  | .iload_n _ => zs_load y pc 1 a 0 ls st h
  | .iload _ => zs_load y pc 2 a 0 ls st h
  | .aload_n _ => zs_load y pc 1 a 2 ls st h
  | .aload _ => zs_load y pc 2 a 2 ls st h
  | .istore_n _ => zs_store y pc 1 a 0 ls st h
  | .istore _ => zs_store y pc 2 a 0 ls st h
  | .astore_n _ => zs_store y pc 1 a 2 ls st h
  | .astore _ => zs_store y pc 2 a 2 ls st h
  | .iinc _ _ => zo_o ls[a]? fun x => zo_g (Nat.beq x.1 0 && zs_pok ls a) (zs_nx y (pc + 3) (ls.set a (0, x.2 + v)) st h)
  | .iadd => zs_int2 (fun x y => x + y) y pc ls st h
  | .isub => zs_int2 (fun x y => x - y) y pc ls st h
  | .imul => zs_int2 (fun x y => x * y) y pc ls st h
  | .iand => zs_int2 zi_and y pc ls st h
  | .ixor => zs_int2 zi_xor y pc ls st h
  | .ishr => zs_int2 zi_shr y pc ls st h
  | .irem => zo_1 st 0 fun b r => zo_1 r 0 fun a r => zo_g (!decide (Int32.ofInt b = 0)) (zs_nx y (pc + 1) ls ((0, zi_rem a b) :: r) h)
  | .idiv => zo_1 st 0 fun b r => zo_1 r 0 fun a r => zo_g (!decide (Int32.ofInt b = 0)) (zs_nx y (pc + 1) ls ((0, zi_div a b) :: r) h)
  | .ineg => zo_1 st 0 fun a r => zs_nx y (pc + 1) ls ((0, -a) :: r) h
  | .dup => zo_o st.head? fun x => zo_g (!zs_wide x) (zs_nx y (pc + 1) ls (x :: st) h)
  | .pop => zo_o st.head? fun x => zo_g (!zs_wide x) (zs_nx y (pc + 1) ls st.tail h)
  | .goto _ => zs_nx y a ls st h
  | .ifCond c _ => zo_1 st 0 fun x r => zs_goto (zi_cmp c (Int32.ofInt x) 0) y a pc ls r h
  | .if_icmp c _ => zo_1 st 0 fun x2 r => zo_1 r 0 fun x1 r => zs_goto (zi_cmp c (Int32.ofInt x1) (Int32.ofInt x2)) y a pc ls r h
  | .ifnull _ => zo_1 st 2 fun x r => zs_goto (decide (x = -1)) y a pc ls r h
  | .ifnonnull _ => zo_1 st 2 fun x r => zs_goto (!decide (x = -1)) y a pc ls r h
  | .aconst_null => zs_nx y (pc + 1) ls ((2, -1) :: st) h
  | .tableswitch d lo hi offs => zo_1 st 0 fun x r => cond (decide ((Int32.ofInt x).toInt < lo) || decide (hi < (Int32.ofInt x).toInt)) (zo_g (decide (0 ≤ (pc : Int) + d)) (zs_nx y ((pc : Int) + d).toNat ls r h))
      (zo_o offs[((Int32.ofInt x).toInt - lo).toNat]? fun o => zo_g (decide (0 ≤ (pc : Int) + o)) (zs_nx y ((pc : Int) + o).toNat ls r h))
  | .iaload => zo_1 st 0 fun i r => zo_1 r 2 fun q r => cond (decide (0 ≤ q))
      (zo_o (zh_at h q) fun c => zo_g (Nat.beq c.1 50) (zo_o (zi_ix i c.2.length) fun j => zs_nx y (pc + 1) ls ((0, c.2.getD j 0) :: r) h))
      (zo_g (decide (q ≤ -2)) (zo_o E[(-q - 2).toNat]? fun l => zo_o (zi_ix i l.length) fun j => zs_nx y (pc + 1) ls ((0, l.getD j 0) :: r) h))
  | .iastore => zo_1 st 0 fun x r => zo_1 r 0 fun i r => zo_1 r 2 fun q r => zo_o (zh_at h q) fun c => zo_g (Nat.beq c.1 50) (zo_o (zi_ix i c.2.length) fun j => zs_nx y (pc + 1) ls r (h.set q.toNat (50, c.2.set j x)))
  | .arraylength => zo_1 st 2 fun q r => cond (decide (0 ≤ q)) (zo_o (zh_at h q) fun c => zo_g (Nat.beq c.1 50 || Nat.beq c.1 52) (zs_nx y (pc + 1) ls ((0, (c.2.length : Int)) :: r) h))
      (cond (decide (q = -4)) (zs_nx y (pc + 1) ls ((0, 1) :: r) h) <| zo_g (decide (q ≤ -2)) (zo_o E[(-q - 2).toNat]? fun l => zs_nx y (pc + 1) ls ((0, (l.length : Int)) :: r) h))
  | .aaload => zo_1 st 0 fun i r => zo_1 r 2 fun q r => zo_o (zh_at h q) fun c => zo_g (Nat.beq c.1 52) (zo_o (zi_ix i c.2.length) fun j => zo_g (decide (-1 ≤ c.2.getD j 0)) (zs_nx y (pc + 1) ls ((2, c.2.getD j 0) :: r) h))
  | .aastore => zo_1 st 2 fun x r => zo_1 r 0 fun i r => zo_1 r 2 fun q r => zo_o (zh_at h q) fun c => zo_g (Nat.beq c.1 52) (zo_o (zi_ix i c.2.length) fun j =>
      zo_o (zh_at h x) fun cx => zo_g (Nat.beq cx.1 3) (zs_nx y (pc + 1) ls r (h.set q.toNat (52, c.2.set j x))))
  | .getfield _ => cond (Nat.beq a 60) (zo_1 st 2 fun q r => zo_g (decide (q = -3)) (cond (Nat.beq b 0) (zs_nx y (pc + 3) ls ((2, -4) :: r) h) (zo_g (Nat.beq b 1) (zs_nx y (pc + 3) ls ((0, 0) :: r) h)))) <| zo_1 st 2 fun q r => zo_o (zh_at h q) fun c => zo_g (Nat.beq c.1 a) (zo_o (zf_tag a b) fun t => zo_o c.2[b]? fun x => zs_nx y (pc + 3) ls ((zf_vt t, x) :: r) h)
  | .putfield _ => zo_o st.head? fun x => zo_1 st.tail 2 fun q r => zo_o (zh_at h q) fun c => zo_g (Nat.beq c.1 a && Nat.blt b c.2.length) (zo_o (zf_tag a b) fun t =>
      zo_g (Nat.beq x.1 (zf_vt t) && (!Nat.beq t 5 || (decide (x.2 = 0) || decide (x.2 = 1)))) (zs_nx y (pc + 3) ls r (h.set q.toNat (a, c.2.set b x.2))))
  | .new _ => cond (Nat.ble 100 a) (zo_g (Nat.ble (st.map zs_cat).sum 8 && Nat.blt a 103 && !zm_ini y && List.isEmpty (zh_find zh_tabs y)) (some (.inr (.inr (2, (a - 100, (h.length : Int)), h ++ [(a - 100 + zk_E0, List.replicate 6 0)])))))
      (zo_o (zf_new a) fun l => zs_nx y (pc + 3) ls ((2, (h.length : Int)) :: st) (h ++ [(a, l)]))
  | .newarray .long => zo_1 st 0 fun n r => zo_g (!decide (Int32.ofInt n < 0) && Nat.ble ((Int32.ofInt n).toNatClampNeg * 8) 536870912) (zs_nx y (pc + 2) ls ((2, (h.length : Int)) :: r) (h ++ [(51, List.replicate (Int32.ofInt n).toNatClampNeg 0)]))
  | .newarray .int => zo_1 st 0 fun n r => zo_g (!decide (Int32.ofInt n < 0) && Nat.ble ((Int32.ofInt n).toNatClampNeg * 4) 536870912) (zs_nx y (pc + 2) ls ((2, (h.length : Int)) :: r) (h ++ [(50, List.replicate (Int32.ofInt n).toNatClampNeg 0)]))
  | .anewarray _ => zo_1 st 0 fun n r => zo_g (!decide (Int32.ofInt n < 0) && Nat.ble ((Int32.ofInt n).toNatClampNeg * 4) 536870912) (zs_nx y (pc + 3) ls ((2, (h.length : Int)) :: r) (h ++ [(52, List.replicate (Int32.ofInt n).toNatClampNeg (-1))]))
  | .invokevirtual _ => zo_o (zm_at a) fun m => zo_g ((Nat.blt m.2.2.2.2.2.2.1 60 && zs_recv h m.2.2.2.2.2.2.1 ((st.take m.2.2.2.2.2.1).reverse) || zs_recvS m.2.2.2.2.2.2.1 ((st.take m.2.2.2.2.2.1).reverse)) && Nat.beq b 0) (zs_call y pc a ls st h)
  | .invokestatic _ => cond (Nat.beq a 9003) (zs_copy y pc ls st h) <| cond (Nat.ble 9000 a) (zo_g (Nat.ble a 9002) <| zo_1 st 0 fun x2 r => zo_1 r 0 fun x1 r => zo_g (Nat.ble (r.map zs_cat).sum 8) (zs_nx y (pc + 3) ls ((0, cond (Nat.beq a 9001) (zi_max x1 x2) (zi_min x1 x2)) :: r) h))
      (zo_g (Nat.beq b 1) (zs_call y pc a ls st h))
  | .invokespecial _ => cond (Nat.beq a 9999) (zo_1 st 2 fun q r => zo_g (decide (0 ≤ q) && Nat.ble (r.map zs_cat).sum 8) (zs_nx y (pc + 3) ls r h))
      (zo_o (zm_at a) fun m => zo_g (zs_recv h m.2.2.2.2.2.2.1 ((st.take m.2.2.2.2.2.1).reverse) && Nat.beq b 2) (zs_call y pc a ls st h))
  | .lconst _ => zs_nx y (pc + 1) ls ((1, v) :: st) h
  | .dconst n => zo_g (decide (n = 0)) (zs_nx y (pc + 1) ls ((3, 0) :: st) h)
  | .ldc2_w _ => zs_nx y (pc + 3) ls ((1, v) :: st) h
  | .lload_n _ => zs_load y pc 1 a 1 ls st h
  | .lload _ => zs_load y pc 2 a 1 ls st h
  | .dload_n _ => zs_load y pc 1 a 3 ls st h
  | .dload _ => zs_load y pc 2 a 3 ls st h
  | .lstore_n _ => zs_store2 y pc 1 a 1 ls st h
  | .lstore _ => zs_store2 y pc 2 a 1 ls st h
  | .dstore_n _ => zs_store2 y pc 1 a 3 ls st h
  | .dstore _ => zs_store2 y pc 2 a 3 ls st h
  | .ladd => zs_long2 (fun x y => x + y) y pc ls st h
  | .lmul => zs_long2 (fun x y => x * y) y pc ls st h
  | .i2l => zo_1 st 0 fun x r => zs_nx y (pc + 1) ls ((1, zi_i2l x) :: r) h
  | .lcmp => zo_1 st 1 fun b r => zo_1 r 1 fun a r => zs_nx y (pc + 1) ls ((0, zi_lcmp a b) :: r) h
  | .dcmp _ => zo_1 st 3 fun b r => zo_1 r 3 fun a r => zo_g (decide (a = 0) && decide (b = 0)) (zs_nx y (pc + 1) ls ((0, 0) :: r) h)
  | .iushr => zs_int2 zi_ushr y pc ls st h
  | .laload => zo_1 st 0 fun i r => zo_1 r 2 fun q r => zo_o (zh_at h q) fun c => zo_g (Nat.beq c.1 51) (zo_o (zi_ix i c.2.length) fun j => zs_nx y (pc + 1) ls ((1, c.2.getD j 0) :: r) h)
  | .lastore => zo_1 st 1 fun x r => zo_1 r 0 fun i r => zo_1 r 2 fun q r => zo_o (zh_at h q) fun c => zo_g (Nat.beq c.1 51) (zo_o (zi_ix i c.2.length) fun j => zs_nx y (pc + 1) ls r (h.set q.toNat (51, c.2.set j x)))
  | .lreturn => zs_ret y st 1 (fun rc _ => Nat.beq rc 4) h
  | .dreturn => zs_ret y st 3 (fun rc _ => Nat.beq rc 5) h
  | .ireturn => zs_ret y st 0 (fun rc x => Nat.beq rc 1 || (Nat.beq rc 2 && (decide (x = 0) || decide (x = 1)) || (Nat.beq rc 6 && decide (x = 48) || Nat.beq rc 7 && decide (x = 0)))) h
  | .areturn => zs_ret y st 2 (fun rc x => Nat.beq rc 3 && decide (-1 ≤ x)) h
  | .return_ => zo_o (zm_at y) fun m => match m with
    | (_, _, _, _, rc, _) => zo_g (Nat.beq rc 0 && List.isEmpty st) (some (.inr (.inr (0, (0, 0), h))))
  | _ => none
def zs_step (E : List (List Int)) (fr : zv_F) : Option zv_S := match fr with
  | (y, pc, ls, st, h) => zo_o (zt_at y pc) fun e => match e with
    | (ins, len, a, b, _, v) => zs_ins E y pc ls st h ins len a b v
/-- arguments in their places; what takes two places has an empty one behind it -/
def zs_locals : List zv_V → List zv_V
  | [] => []
  | v :: vs => cond (zs_wide v) (v :: (9, 0) :: zs_locals vs) (v :: zs_locals vs)
def zs_entry (t : Nat) (as : List zv_V) (h : zv_H) : Option zv_F := zo_o (zm_at t) fun m => match m with
  | (_, _, ml, _) => zo_g (Nat.ble (zs_locals as).length ml && !Nat.beq t zk_law) (some (t, 0, zs_locals as ++ List.replicate (ml - (zs_locals as).length) (9, 0), [], h))
/-- at a handler: the exception is stored where nobody reads it -/
def zs_hand (y t : Nat) (ls : List zv_V) (h : zv_H) : Option zv_F := match zt_at y t with
  | none => none
  | some (ins, len, a, _) => match ins with
    | .astore_n _ => zo_g (Nat.blt a ls.length && zs_pok ls a) (some (y, t + len, ls.set a (9, 0), [], h))
    | .astore _ => zo_g (Nat.blt a ls.length && zs_pok ls a) (some (y, t + len, ls.set a (9, 0), [], h))
    | _ => none
/-- what follows a call: on with what it answered; or at a handler; or (none) the throw goes on -/
def zs_back (r : zv_R) (g : zv_F) : Option zv_F := match r, g with
  | (0, _, h), (y, pc, ls, st, _) => some (y, pc, ls, st, h)
  | (1, v, h), (y, pc, ls, st, _) => some (y, pc, ls, v :: st, h)
  | (2, v, h), (y, pc, ls, _, _) => zo_o (zh_pick (zh_find zh_tabs y) (pc - 3) v.1) fun t => zs_hand y t ls h
  | _, _ => none
def zs_exec (E : List (List Int)) : Nat → Nat → zv_F → Option zv_R
  | 0, _, _ => none
  | f + 1, d, fr => match zs_step E fr with
    | none => none
    | some (.inl fr') => zs_exec E f d fr'
    | some (.inr (.inr r)) => some r
    | some (.inr (.inl (t, as, g))) => match d with
      | 0 => none
      | d' + 1 => match zs_entry t as g.2.2.2.2 with
        | none => none
        | some fr' => match zs_exec E f d' fr' with
          | none => none
          | some r => match zs_back r g with
            | none => cond (Nat.beq r.1 2 && List.isEmpty (zh_find zh_tabs g.1) && !zm_ini g.1) (some r) none
            | some g' => zs_exec E f (d' + 1) g'
