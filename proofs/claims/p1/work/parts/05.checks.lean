/-! What stands in the claim's tables of words, instruction by instruction: decided by program. -/
def zk_w (i : Nat) (w : Cond) : Bool := match lw_tbl[i]? with
  | none => false
  | some w' => decide (w' = w) && goodWord w'
def zk_field (own : String) (ix a b w : Nat) : Bool := match zvCl[a]? with
  | none => false
  | some (C, T, N) => Nat.blt b N && (zk_w w (.fieldLink own ix (T b).1 (T b).2.1 (T b).2.2.1) || zx_nest.any (fun q => decide (q = (own, ix, (T b).1, (T b).2.1, (T b).2.2.1, q.2.2.2.2.2))))
def zk_fieldP (own : String) (ix a b w : Nat) : Bool := match zvCl[a]? with
  | none => false
  | some (_, T, N) => Nat.blt b N && zk_w w (.fieldLink own ix (T b).1 (T b).2.1 (T b).2.2.1)
def zk_final (y : MethodName) (a b : Nat) : Bool := match zvCl[a]? with
  | none => false
  | some (_, T, _) => !(T b).2.2.2 || (decide (y.name = "<init>") && decide ((T b).1 = y.cls))
def zk_name (y : MethodName) (n : Nat) : Bool := decide (y.cls ≠ "java/lang/invoke/MethodHandle") && decide (y.cls ≠ "java/lang/invoke/VarHandle") && decide ((parseMethodDescriptor y.desc).map (fun d => d.parameters.length) = some n)
def zk_call (own : String) (ix a b w : Nat) : Bool := match zm_at a with
  | none => false
  | some (y, _, _, ret, rc, n, k, _, wi, ws, wn) => zk_w w (.methodLink own ix y) && zk_w wn (.initialized y.cls) && (match b with
    | 0 => zk_w wi (.instanceMethod y) && zk_w ws (.selects y.cls y y) && zk_name y (n - 1) && Nat.ble 1 n && (Nat.beq k 60 && decide (y.cls = "java/lang/String") || (match zvCl[k]? with | none => false | some r => decide (r.1 = y.cls)))
    | 1 => zk_w wi (.static y) && zk_name y n
    | 2 => zk_w wi (.instanceMethod y) && zk_name y (n - 1) && Nat.ble 1 n && decide (y.name = "<init>") && decide (ret = none) && Nat.beq rc 0 && (match zvCl[k]? with | none => false | some r => decide (r.1 = y.cls))
    | _ => false)
def zk_names : List String := ["java/lang/RuntimeException", "java/lang/Exception"]
def zk_odd (w : Cond) : Bool := match w with
  | .castable a b => decide ((a, b) ∈ zx_cast)
  | .declares y => decide (y ∈ zx_decl)
  | _ => false
/-- the words of a throw -/
def zk_thw (own : String) (ic : Nat) (cls : String) : Bool := (vx_atS own ic cls zk_names).all (fun w => vx_ot w && cond (goodWord w) (decide (w ∈ lw_tbl)) (zk_odd w)) && Bundle.fit cls && zk_names.all Bundle.fit
def zk_str (own : String) (ix : Nat) : Bool := zx_strs.any (fun q => decide (q.1 = own) && Nat.beq q.2.1 ix)
def zk_throw (m : zm_M) (pc ix a w : Nat) : Bool := match zk_exc[a - 100]? with
  | none => false
  | some (cls, _, wn) => zk_w w (.classLink m.1.cls ix cls) && zk_w wn (.initialized cls) && decide (decode m.2.1 (pc + 3) = .ok (.dup, 1)) && (match decode m.2.1 (pc + 4) with
    | .ok (.ldc is, 2) => zk_str m.1.cls is && decide (decode m.2.1 (pc + 9) = .ok (.athrow, 1)) && (match decode m.2.1 (pc + 6) with
      | .ok (.invokespecial ic, 3) => zk_thw m.1.cls ic cls
      | _ => false)
    | .ok (.ldc_w is, 3) => zk_str m.1.cls is && decide (decode m.2.1 (pc + 10) = .ok (.athrow, 1)) && (match decode m.2.1 (pc + 7) with
      | .ok (.invokespecial ic, 3) => zk_thw m.1.cls ic cls
      | _ => false)
    | _ => false)
def zk_copy (own : String) (ix w : Nat) : Bool := match zk_sys with
  | [wn, ws, wv] => zk_w w (.methodLink own ix arraycopyName) && zk_w wn (.initialized "java/lang/System") && zk_w ws (.static arraycopyName) && zk_w wv (.native arraycopyName)
  | _ => false
def zk_at (k : Nat) : Nat := match zk_math[k]? with
  | none => 0
  | some i => i
def zk_max (own : String) (ix a w : Nat) : Bool := zk_w (zk_at 0) (.initialized "java/lang/Math") && cond (Nat.beq a 9001)
  (zk_w w (.methodLink own ix Lib.Math.max.name) && zk_w (zk_at 1) (.static Lib.Math.max.name) && zk_w (zk_at 2) (.code Lib.Math.max.name Lib.Math.max.code 2 (some .int)))
  (Nat.beq a 9002 && zk_w w (.methodLink own ix Lib.Math.min.name) && zk_w (zk_at 3) (.static Lib.Math.min.name) && zk_w (zk_at 4) (.code Lib.Math.min.name Lib.Math.min.code 2 (some .int)))
def zk_new (own : String) (ix a w : Nat) : Bool := match zvCl[a]?, zk_cls[a]? with
  | some (C, _, N), some (wi, wn) => zk_w w (.classLink own ix C) && zk_w wi (.instantiable C N) && zk_w wn (.initialized C)
  | _, _ => false
/-- a text's own two fields -/
def zk_strf (own : String) (ix b w : Nat) : Bool := cond (Nat.beq b 0) (zk_w w (.fieldLink own ix "java/lang/String" "value" "[B")) (Nat.beq b 1 && zk_w w (.fieldLink own ix "java/lang/String" "coder" "B"))
def zk_stat (own : String) (ix a w : Nat) : Bool := cond (Nat.beq a 0) (zk_w w (.fieldLink own ix "java/lang/String" "COMPACT_STRINGS" "Z")) (Nat.beq a 1 && zk_w w (.fieldLink own ix "jdk/internal/util/Preconditions" "SIOOBE_FORMATTER" "Ljava/util/function/BiFunction;"))
def zk_jump (pc : Nat) (o : Int) (t : Nat) : Bool := decide ((pc : Int) + o = (t : Int))
def zk_ins (m : zm_M) (y : MethodName) (pc : Nat) (ins : Instr) (len a b w : Nat) (v : Int) : Bool := match ins with
  | .iconst n => decide (n = v) && Nat.beq len 1
  | .bipush n => decide ((Int8.ofInt n).toInt32 = Int32.ofInt v) && Nat.beq len 2
  | .sipush n => decide ((Int16.ofInt n).toInt32 = Int32.ofInt v) && Nat.beq len 3
  | .ldc i => Nat.beq len 2 && (Nat.beq a 1 || zk_w w (.constant y.cls i (Int32.ofInt v)))
  | .ldc_w i => Nat.beq len 3 && (Nat.beq a 1 || zk_w w (.constant y.cls i (Int32.ofInt v)))
  | .iload_n n => decide ((n : Nat) = a) && Nat.beq len 1
  | .aload_n n => decide ((n : Nat) = a) && Nat.beq len 1
  | .istore_n n => decide ((n : Nat) = a) && Nat.beq len 1
  | .astore_n n => decide ((n : Nat) = a) && Nat.beq len 1
  | .iload n => Nat.beq n a && Nat.beq len 2
  | .aload n => Nat.beq n a && Nat.beq len 2
  | .istore n => Nat.beq n a && Nat.beq len 2
  | .astore n => Nat.beq n a && Nat.beq len 2
  | .iinc n k => Nat.beq n a && decide (k = v) && Nat.beq len 3
  | .goto o => zk_jump pc o a && Nat.beq len 3
  | .ifCond _ o => zk_jump pc o a && Nat.beq len 3
  | .if_icmp _ o => zk_jump pc o a && Nat.beq len 3
  | .ifnull o => zk_jump pc o a && Nat.beq len 3
  | .ifnonnull o => zk_jump pc o a && Nat.beq len 3
  | .getfield i => Nat.beq len 3 && cond (Nat.beq a 60) (zk_strf y.cls i b w) (zk_field y.cls i a b w)
  | .getstatic i => Nat.beq len 3 && zk_stat y.cls i a w
  | .putfield i => Nat.beq len 3 && zk_fieldP y.cls i a b w && zk_final y a b
  | .new i => Nat.beq len 3 && cond (Nat.ble 100 a) (zk_throw m pc i a w) (zk_new y.cls i a w)
  | .newarray t => Nat.beq len 2 && ((decide (t = .int) && zk_w w (.arrayClass .int)) || (decide (t = .long) && zk_w w (.arrayClass .long)))
  | .lconst n => decide (((n : Nat) : Int) = v) && Nat.beq len 1
  | .ldc2_w i => Nat.beq len 3 && zk_w w (.constantLong y.cls i (Int64.ofInt v))
  | .lload_n n => decide ((n : Nat) = a) && Nat.beq len 1
  | .dload_n n => decide ((n : Nat) = a) && Nat.beq len 1
  | .lstore_n n => decide ((n : Nat) = a) && Nat.beq len 1
  | .dstore_n n => decide ((n : Nat) = a) && Nat.beq len 1
  | .lload n => Nat.beq n a && Nat.beq len 2
  | .dload n => Nat.beq n a && Nat.beq len 2
  | .lstore n => Nat.beq n a && Nat.beq len 2
  | .dstore n => Nat.beq n a && Nat.beq len 2
  | .anewarray i => Nat.beq len 3 && zk_w w (.classLink y.cls i "PolyLathe$Poly") && Nat.beq a 3
  | .invokevirtual i => Nat.beq len 3 && (Nat.ble 9000 a || (zk_call y.cls i a b w && Nat.beq b 0))
  | .invokestatic i => Nat.beq len 3 && cond (Nat.beq a 9003) (zk_copy y.cls i w) (cond (Nat.ble 9000 a) (Nat.beq a 9997 || zk_max y.cls i a w) (Nat.ble 3 b || (zk_call y.cls i a b w && Nat.beq b 1)))
  | .invokespecial i => Nat.beq len 3 && (Nat.beq a 9998 || cond (Nat.beq a 9999) (zk_w w (.methodLink y.cls i objectInit) && zk_w zk_obj.1 (.instanceMethod objectInit) && zk_w zk_obj.2 (.code objectInit ⟨#[0xb1]⟩ 1 none)) (zk_call y.cls i a b w && Nat.beq b 2))
  | .athrow => true
  | .tableswitch _ _ _ _ => true
  | _ => Nat.beq len 1
def zk_ent (m : zm_M) (e : ze_E) : Bool := match e with
  | (pc, ins, len, a, b, w, v) => (match decode m.2.1 pc with
    | .ok (i, n) => decide (i = ins) && Nat.beq n len
    | .error _ => false) && zk_ins m m.1 pc ins len a b w v
def zk_hh (y : Nat) : List (Nat × Nat × Nat × Nat) := (zh_find zh_tabs y).map (fun q => (q.1, q.2.1, q.2.2.1, q.2.2.2.1))
/-- the words of a handler: its class, by its pool number; never 0 -/
def zk_hand (m : zm_M) (q : Nat × Nat × Nat × Nat × Nat × Nat) : Bool := match zk_exc[q.2.2.2.2.1]? with
  | none => false
  | some (cls, _) => zk_w q.2.2.2.2.2 (.classLink m.1.cls q.2.2.2.1 cls) && !Nat.beq q.2.2.2.1 0
/-- a method's own word -/
def zk_code (y : Nat) (m : zm_M) : Cond := cond (List.isEmpty (zk_hh y)) (.code m.1 m.2.1 m.2.2.1 m.2.2.2.1) (.codeWith m.1 m.2.1 m.2.2.1 m.2.2.2.1 (zk_hh y))
def zk_rc (rc : Nat) (ret : Option FieldType) : Bool := match ret with
  | none => Nat.beq rc 0
  | some .int => Nat.beq rc 1
  | some .boolean => Nat.beq rc 2
  | some (.object _) => Nat.beq rc 3
  | some (.array _) => Nat.beq rc 3
  | some .long => Nat.beq rc 4
  | some .double => Nat.beq rc 5
  | some .char => Nat.beq rc 6
  | some .byte => Nat.beq rc 7
  | _ => false
def zk_chunk (y i : Nat) : Bool := match zm_at y with
  | none => false
  | some m => match (zt_tab y)[i]? with
    | none => true
    | some es => es.all (zk_ent m)
def zk_head (y : Nat) : Bool := match zm_at y with
  | none => false
  | some m => zk_rc m.2.2.2.2.1 m.2.2.2.1 && Nat.ble m.2.2.1 20 && plainFor m.1 && (Nat.beq y zk_law || zk_w m.2.2.2.2.2.2.2.1 (zk_code y m)) && (zh_find zh_tabs y).all (zk_hand m)
/-- all that stands of the method y -/
def zk_meth (y : Nat) : Bool := zk_head y && (List.range (zt_tab y).length).all (zk_chunk y)
theorem zk_of {y : Nat} (h : zk_meth y = true) : zk_head y = true ∧ ∀ i, zk_chunk y i = true := by
  obtain ⟨h1, h2⟩ := Bool.and_eq_true_iff.mp h
  refine ⟨h1, fun i => ?_⟩
  by_cases hi : i < (zt_tab y).length
  · exact List.all_eq_true.mp h2 i (List.mem_range.mpr hi)
  · unfold zk_head at h1
    unfold zk_chunk
    cases hm : zm_at y with
    | none => rw [hm] at h1; cases h1
    | some m => simp only [List.getElem?_eq_none (Nat.le_of_not_lt hi)]
/-- the same in groups, for a long method -/
theorem zk_of2 {y : Nat} (n : Nat) (h1 : zk_head y = true) (hl : (zt_tab y).length ≤ 16 * n) (h : ∀ k, k < n → (List.range 16).all (fun j => zk_chunk y (16 * k + j)) = true) : zk_head y = true ∧ ∀ i, zk_chunk y i = true := by
  refine ⟨h1, fun i => ?_⟩
  by_cases hi : i < 16 * n
  · have := List.all_eq_true.mp (h (i / 16) (by omega)) (i % 16) (List.mem_range.mpr (by omega))
    rwa [Nat.div_add_mod] at this
  · unfold zk_head at h1
    unfold zk_chunk
    cases hm : zm_at y with
    | none => rw [hm] at h1; cases h1
    | some m => simp only [List.getElem?_eq_none (show (zt_tab y).length ≤ i by omega)]
