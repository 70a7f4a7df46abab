-- ===== PART A: goes FIRST, ahead of the names: the tables' words, and 'selects' of the private methods out of them =====
/-- a private method of a class that the tables say can be made, by its rows of tables_1 -/
def lw_okq (q : MethodName × Nat) : Prop := (q.1.cls ≠ "java/lang/invoke/MethodHandle" ∧ q.1.cls ≠ "java/lang/invoke/VarHandle") ∧ Cond.instantiable q.1.cls q.2 ∈ tables_1 ∧ Cond.privateMethod q.1 ∈ tables_1 ∧ Cond.instanceMethod q.1 ∈ tables_1
theorem lw_p0 : lw_okq (⟨"java/lang/Throwable", "fillInStackTrace", "(I)Ljava/lang/Throwable;"⟩, 6) := ⟨⟨by decide +kernel, by decide +kernel⟩, List.mem_of_getElem? (i := 294) (by decide +kernel), List.mem_of_getElem? (i := 292) (by decide +kernel), List.mem_of_getElem? (i := 293) (by decide +kernel)⟩
theorem lw_p1 : lw_okq (⟨"PolyLathe", "register", "(I)LPolyLathe$Poly;"⟩, 11) := ⟨⟨by decide +kernel, by decide +kernel⟩, List.mem_of_getElem? (i := 18) (by decide +kernel), List.mem_of_getElem? (i := 345) (by decide +kernel), List.mem_of_getElem? (i := 346) (by decide +kernel)⟩
theorem lw_p2 : lw_okq (⟨"PolyLathe", "combine", "(ILPolyLathe$Poly;LPolyLathe$Poly;)V"⟩, 11) := ⟨⟨by decide +kernel, by decide +kernel⟩, List.mem_of_getElem? (i := 18) (by decide +kernel), List.mem_of_getElem? (i := 405) (by decide +kernel), List.mem_of_getElem? (i := 406) (by decide +kernel)⟩
theorem lw_p3 : lw_okq (⟨"PolyLathe", "compose", "(LPolyLathe$Poly;LPolyLathe$Poly;)V"⟩, 11) := ⟨⟨by decide +kernel, by decide +kernel⟩, List.mem_of_getElem? (i := 18) (by decide +kernel), List.mem_of_getElem? (i := 432) (by decide +kernel), List.mem_of_getElem? (i := 433) (by decide +kernel)⟩
theorem lw_p4 : lw_okq (⟨"PolyLathe$Euclid", "swapR", "()V"⟩, 9) := ⟨⟨by decide +kernel, by decide +kernel⟩, List.mem_of_getElem? (i := 134) (by decide +kernel), List.mem_of_getElem? (i := 470) (by decide +kernel), List.mem_of_getElem? (i := 471) (by decide +kernel)⟩
theorem lw_p5 : lw_okq (⟨"PolyLathe$Euclid", "takeOff", "(LPolyLathe$Poly;LPolyLathe$Poly;)V"⟩, 9) := ⟨⟨by decide +kernel, by decide +kernel⟩, List.mem_of_getElem? (i := 134) (by decide +kernel), List.mem_of_getElem? (i := 513) (by decide +kernel), List.mem_of_getElem? (i := 514) (by decide +kernel)⟩
theorem lw_p6 : lw_okq (⟨"PolyLathe$Euclid", "swapMakers", "()V"⟩, 9) := ⟨⟨by decide +kernel, by decide +kernel⟩, List.mem_of_getElem? (i := 134) (by decide +kernel), List.mem_of_getElem? (i := 519) (by decide +kernel), List.mem_of_getElem? (i := 520) (by decide +kernel)⟩
theorem lw_p7 : lw_okq (⟨"PolyLathe", "raise", "(LPolyLathe$Poly;ILPolyLathe$Poly;)V"⟩, 11) := ⟨⟨by decide +kernel, by decide +kernel⟩, List.mem_of_getElem? (i := 18) (by decide +kernel), List.mem_of_getElem? (i := 538) (by decide +kernel), List.mem_of_getElem? (i := 539) (by decide +kernel)⟩
theorem lw_p8 : lw_okq (⟨"PolyLathe$Splitter", "takeFieldRoot", "()V"⟩, 12) := ⟨⟨by decide +kernel, by decide +kernel⟩, List.mem_of_getElem? (i := 170) (by decide +kernel), List.mem_of_getElem? (i := 578) (by decide +kernel), List.mem_of_getElem? (i := 579) (by decide +kernel)⟩
theorem lw_p9 : lw_okq (⟨"PolyLathe$Splitter", "openSimpleParts", "()I"⟩, 12) := ⟨⟨by decide +kernel, by decide +kernel⟩, List.mem_of_getElem? (i := 170) (by decide +kernel), List.mem_of_getElem? (i := 586) (by decide +kernel), List.mem_of_getElem? (i := 587) (by decide +kernel)⟩
theorem lw_p10 : lw_okq (⟨"PolyLathe$Splitter", "keep", "(LPolyLathe$Poly;)V"⟩, 12) := ⟨⟨by decide +kernel, by decide +kernel⟩, List.mem_of_getElem? (i := 170) (by decide +kernel), List.mem_of_getElem? (i := 593) (by decide +kernel), List.mem_of_getElem? (i := 594) (by decide +kernel)⟩
theorem lw_p11 : lw_okq (⟨"PolyLathe$Splitter", "countParts", "(LPolyLathe$Poly;)I"⟩, 12) := ⟨⟨by decide +kernel, by decide +kernel⟩, List.mem_of_getElem? (i := 170) (by decide +kernel), List.mem_of_getElem? (i := 597) (by decide +kernel), List.mem_of_getElem? (i := 598) (by decide +kernel)⟩
theorem lw_p12 : lw_okq (⟨"PolyLathe$Splitter", "fillGrid", "(LPolyLathe$Poly;)V"⟩, 12) := ⟨⟨by decide +kernel, by decide +kernel⟩, List.mem_of_getElem? (i := 170) (by decide +kernel), List.mem_of_getElem? (i := 601) (by decide +kernel), List.mem_of_getElem? (i := 602) (by decide +kernel)⟩
theorem lw_p13 : lw_okq (⟨"PolyLathe$Splitter", "putCell", "(III)V"⟩, 12) := ⟨⟨by decide +kernel, by decide +kernel⟩, List.mem_of_getElem? (i := 170) (by decide +kernel), List.mem_of_getElem? (i := 607) (by decide +kernel), List.mem_of_getElem? (i := 608) (by decide +kernel)⟩
theorem lw_p14 : lw_okq (⟨"PolyLathe$Splitter", "eliminate", "()I"⟩, 12) := ⟨⟨by decide +kernel, by decide +kernel⟩, List.mem_of_getElem? (i := 170) (by decide +kernel), List.mem_of_getElem? (i := 612) (by decide +kernel), List.mem_of_getElem? (i := 613) (by decide +kernel)⟩
theorem lw_p15 : lw_okq (⟨"PolyLathe$Splitter", "firstFilled", "(II)I"⟩, 12) := ⟨⟨by decide +kernel, by decide +kernel⟩, List.mem_of_getElem? (i := 170) (by decide +kernel), List.mem_of_getElem? (i := 616) (by decide +kernel), List.mem_of_getElem? (i := 617) (by decide +kernel)⟩
def lw_privs_1 : List (MethodName × Nat) := [(⟨"java/lang/Throwable", "fillInStackTrace", "(I)Ljava/lang/Throwable;"⟩, 6), (⟨"PolyLathe", "register", "(I)LPolyLathe$Poly;"⟩, 11), (⟨"PolyLathe", "combine", "(ILPolyLathe$Poly;LPolyLathe$Poly;)V"⟩, 11), (⟨"PolyLathe", "compose", "(LPolyLathe$Poly;LPolyLathe$Poly;)V"⟩, 11), (⟨"PolyLathe$Euclid", "swapR", "()V"⟩, 9), (⟨"PolyLathe$Euclid", "takeOff", "(LPolyLathe$Poly;LPolyLathe$Poly;)V"⟩, 9), (⟨"PolyLathe$Euclid", "swapMakers", "()V"⟩, 9), (⟨"PolyLathe", "raise", "(LPolyLathe$Poly;ILPolyLathe$Poly;)V"⟩, 11), (⟨"PolyLathe$Splitter", "takeFieldRoot", "()V"⟩, 12), (⟨"PolyLathe$Splitter", "openSimpleParts", "()I"⟩, 12), (⟨"PolyLathe$Splitter", "keep", "(LPolyLathe$Poly;)V"⟩, 12), (⟨"PolyLathe$Splitter", "countParts", "(LPolyLathe$Poly;)I"⟩, 12), (⟨"PolyLathe$Splitter", "fillGrid", "(LPolyLathe$Poly;)V"⟩, 12), (⟨"PolyLathe$Splitter", "putCell", "(III)V"⟩, 12), (⟨"PolyLathe$Splitter", "eliminate", "()I"⟩, 12), (⟨"PolyLathe$Splitter", "firstFilled", "(II)I"⟩, 12)]
theorem lw_r1 : ∀ q ∈ lw_privs_1, lw_okq q := List.forall_mem_cons.mpr ⟨lw_p0, List.forall_mem_cons.mpr ⟨lw_p1, List.forall_mem_cons.mpr ⟨lw_p2, List.forall_mem_cons.mpr ⟨lw_p3, List.forall_mem_cons.mpr ⟨lw_p4, List.forall_mem_cons.mpr ⟨lw_p5, List.forall_mem_cons.mpr ⟨lw_p6, List.forall_mem_cons.mpr ⟨lw_p7, List.forall_mem_cons.mpr ⟨lw_p8, List.forall_mem_cons.mpr ⟨lw_p9, List.forall_mem_cons.mpr ⟨lw_p10, List.forall_mem_cons.mpr ⟨lw_p11, List.forall_mem_cons.mpr ⟨lw_p12, List.forall_mem_cons.mpr ⟨lw_p13, List.forall_mem_cons.mpr ⟨lw_p14, List.forall_mem_cons.mpr ⟨lw_p15, fun _ h => absurd h List.not_mem_nil⟩⟩⟩⟩⟩⟩⟩⟩⟩⟩⟩⟩⟩⟩⟩⟩
theorem lw_p16 : lw_okq (⟨"PolyLathe$Splitter", "cell", "(II)I"⟩, 12) := ⟨⟨by decide +kernel, by decide +kernel⟩, List.mem_of_getElem? (i := 170) (by decide +kernel), List.mem_of_getElem? (i := 620) (by decide +kernel), List.mem_of_getElem? (i := 621) (by decide +kernel)⟩
theorem lw_p17 : lw_okq (⟨"PolyLathe$Splitter", "putPivot", "(II)V"⟩, 12) := ⟨⟨by decide +kernel, by decide +kernel⟩, List.mem_of_getElem? (i := 170) (by decide +kernel), List.mem_of_getElem? (i := 624) (by decide +kernel), List.mem_of_getElem? (i := 625) (by decide +kernel)⟩
theorem lw_p18 : lw_okq (⟨"PolyLathe$Splitter", "swapLines", "(II)V"⟩, 12) := ⟨⟨by decide +kernel, by decide +kernel⟩, List.mem_of_getElem? (i := 170) (by decide +kernel), List.mem_of_getElem? (i := 628) (by decide +kernel), List.mem_of_getElem? (i := 629) (by decide +kernel)⟩
theorem lw_p19 : lw_okq (⟨"PolyLathe$Splitter", "scaleLine", "(II)V"⟩, 12) := ⟨⟨by decide +kernel, by decide +kernel⟩, List.mem_of_getElem? (i := 170) (by decide +kernel), List.mem_of_getElem? (i := 632) (by decide +kernel), List.mem_of_getElem? (i := 633) (by decide +kernel)⟩
theorem lw_p20 : lw_okq (⟨"PolyLathe$Splitter", "clearColumn", "(II)V"⟩, 12) := ⟨⟨by decide +kernel, by decide +kernel⟩, List.mem_of_getElem? (i := 170) (by decide +kernel), List.mem_of_getElem? (i := 637) (by decide +kernel), List.mem_of_getElem? (i := 638) (by decide +kernel)⟩
theorem lw_p21 : lw_okq (⟨"PolyLathe$Splitter", "addLine", "(III)V"⟩, 12) := ⟨⟨by decide +kernel, by decide +kernel⟩, List.mem_of_getElem? (i := 170) (by decide +kernel), List.mem_of_getElem? (i := 642) (by decide +kernel), List.mem_of_getElem? (i := 643) (by decide +kernel)⟩
theorem lw_p22 : lw_okq (⟨"PolyLathe$Splitter", "splitAt", "(III)V"⟩, 12) := ⟨⟨by decide +kernel, by decide +kernel⟩, List.mem_of_getElem? (i := 170) (by decide +kernel), List.mem_of_getElem? (i := 646) (by decide +kernel), List.mem_of_getElem? (i := 647) (by decide +kernel)⟩
theorem lw_p23 : lw_okq (⟨"PolyLathe$Splitter", "makeVector", "(I)Z"⟩, 12) := ⟨⟨by decide +kernel, by decide +kernel⟩, List.mem_of_getElem? (i := 170) (by decide +kernel), List.mem_of_getElem? (i := 650) (by decide +kernel), List.mem_of_getElem? (i := 651) (by decide +kernel)⟩
theorem lw_p24 : lw_okq (⟨"PolyLathe$Splitter", "pivotOf", "(I)I"⟩, 12) := ⟨⟨by decide +kernel, by decide +kernel⟩, List.mem_of_getElem? (i := 170) (by decide +kernel), List.mem_of_getElem? (i := 654) (by decide +kernel), List.mem_of_getElem? (i := 655) (by decide +kernel)⟩
theorem lw_p25 : lw_okq (⟨"PolyLathe$Splitter", "splitOne", "(LPolyLathe$Poly;)V"⟩, 12) := ⟨⟨by decide +kernel, by decide +kernel⟩, List.mem_of_getElem? (i := 170) (by decide +kernel), List.mem_of_getElem? (i := 662) (by decide +kernel), List.mem_of_getElem? (i := 663) (by decide +kernel)⟩
theorem lw_p26 : lw_okq (⟨"PolyLathe$Splitter", "stripFrom", "(II)V"⟩, 12) := ⟨⟨by decide +kernel, by decide +kernel⟩, List.mem_of_getElem? (i := 170) (by decide +kernel), List.mem_of_getElem? (i := 666) (by decide +kernel), List.mem_of_getElem? (i := 667) (by decide +kernel)⟩
theorem lw_p27 : lw_okq (⟨"PolyLathe$Splitter", "strip", "(LPolyLathe$Poly;)I"⟩, 12) := ⟨⟨by decide +kernel, by decide +kernel⟩, List.mem_of_getElem? (i := 170) (by decide +kernel), List.mem_of_getElem? (i := 670) (by decide +kernel), List.mem_of_getElem? (i := 671) (by decide +kernel)⟩
theorem lw_p28 : lw_okq (⟨"PolyLathe$Splitter", "sort", "()V"⟩, 12) := ⟨⟨by decide +kernel, by decide +kernel⟩, List.mem_of_getElem? (i := 170) (by decide +kernel), List.mem_of_getElem? (i := 674) (by decide +kernel), List.mem_of_getElem? (i := 675) (by decide +kernel)⟩
theorem lw_p29 : lw_okq (⟨"PolyLathe$Splitter", "swapPrimes", "(II)V"⟩, 12) := ⟨⟨by decide +kernel, by decide +kernel⟩, List.mem_of_getElem? (i := 170) (by decide +kernel), List.mem_of_getElem? (i := 682) (by decide +kernel), List.mem_of_getElem? (i := 683) (by decide +kernel)⟩
theorem lw_p30 : lw_okq (⟨"PolyLathe", "checkFactor", "(I)V"⟩, 11) := ⟨⟨by decide +kernel, by decide +kernel⟩, List.mem_of_getElem? (i := 18) (by decide +kernel), List.mem_of_getElem? (i := 694) (by decide +kernel), List.mem_of_getElem? (i := 695) (by decide +kernel)⟩
def lw_privs_2 : List (MethodName × Nat) := [(⟨"PolyLathe$Splitter", "cell", "(II)I"⟩, 12), (⟨"PolyLathe$Splitter", "putPivot", "(II)V"⟩, 12), (⟨"PolyLathe$Splitter", "swapLines", "(II)V"⟩, 12), (⟨"PolyLathe$Splitter", "scaleLine", "(II)V"⟩, 12), (⟨"PolyLathe$Splitter", "clearColumn", "(II)V"⟩, 12), (⟨"PolyLathe$Splitter", "addLine", "(III)V"⟩, 12), (⟨"PolyLathe$Splitter", "splitAt", "(III)V"⟩, 12), (⟨"PolyLathe$Splitter", "makeVector", "(I)Z"⟩, 12), (⟨"PolyLathe$Splitter", "pivotOf", "(I)I"⟩, 12), (⟨"PolyLathe$Splitter", "splitOne", "(LPolyLathe$Poly;)V"⟩, 12), (⟨"PolyLathe$Splitter", "stripFrom", "(II)V"⟩, 12), (⟨"PolyLathe$Splitter", "strip", "(LPolyLathe$Poly;)I"⟩, 12), (⟨"PolyLathe$Splitter", "sort", "()V"⟩, 12), (⟨"PolyLathe$Splitter", "swapPrimes", "(II)V"⟩, 12), (⟨"PolyLathe", "checkFactor", "(I)V"⟩, 11)]
theorem lw_r2 : ∀ q ∈ lw_privs_2, lw_okq q := List.forall_mem_cons.mpr ⟨lw_p16, List.forall_mem_cons.mpr ⟨lw_p17, List.forall_mem_cons.mpr ⟨lw_p18, List.forall_mem_cons.mpr ⟨lw_p19, List.forall_mem_cons.mpr ⟨lw_p20, List.forall_mem_cons.mpr ⟨lw_p21, List.forall_mem_cons.mpr ⟨lw_p22, List.forall_mem_cons.mpr ⟨lw_p23, List.forall_mem_cons.mpr ⟨lw_p24, List.forall_mem_cons.mpr ⟨lw_p25, List.forall_mem_cons.mpr ⟨lw_p26, List.forall_mem_cons.mpr ⟨lw_p27, List.forall_mem_cons.mpr ⟨lw_p28, List.forall_mem_cons.mpr ⟨lw_p29, List.forall_mem_cons.mpr ⟨lw_p30, fun _ h => absurd h List.not_mem_nil⟩⟩⟩⟩⟩⟩⟩⟩⟩⟩⟩⟩⟩⟩⟩
def lw_privs : List (MethodName × Nat) := lw_privs_1 ++ (lw_privs_2)
def lw_tbl : List Cond := k2_sels lw_privs ++ tables_1
theorem lw_privs_ok : ∀ q ∈ lw_privs, lw_okq q := by
  show ∀ q ∈ lw_privs_1 ++ (lw_privs_2), lw_okq q
  exact List.forall_mem_append.mpr ⟨lw_r1, lw_r2⟩

def RX0 : String := "PolyLathe$Euclid"
def TX0 : u_T := fun k => match k with
  | 0 => ("PolyLathe$Euclid", "field", "LPolyLathe$Field;", true)
  | 1 => ("PolyLathe$Euclid", "quotient", "LPolyLathe$Poly;", true)
  | 2 => ("PolyLathe$Euclid", "work", "LPolyLathe$Poly;", true)
  | 3 => ("PolyLathe$Euclid", "r", "LPolyLathe$Poly;", false)
  | 4 => ("PolyLathe$Euclid", "nextR", "LPolyLathe$Poly;", false)
  | 5 => ("PolyLathe$Euclid", "s", "LPolyLathe$Poly;", false)
  | 6 => ("PolyLathe$Euclid", "nextS", "LPolyLathe$Poly;", false)
  | 7 => ("PolyLathe$Euclid", "t", "LPolyLathe$Poly;", false)
  | _ => ("PolyLathe$Euclid", "nextT", "LPolyLathe$Poly;", false)
def tyX0 : Nat → FieldType := fun k => match k with
  | 0 => .object "PolyLathe$Field"
  | 1 => .object "PolyLathe$Poly"
  | 2 => .object "PolyLathe$Poly"
  | 3 => .object "PolyLathe$Poly"
  | 4 => .object "PolyLathe$Poly"
  | 5 => .object "PolyLathe$Poly"
  | 6 => .object "PolyLathe$Poly"
  | 7 => .object "PolyLathe$Poly"
  | _ => .object "PolyLathe$Poly"
theorem nmX0 : ∀ a, a < 9 → ∀ b, b < 9 → a ≠ b → (TX0 a).2.1 ≠ (TX0 b).2.1 := by decide +kernel
theorem tyX0_ok : ∀ k, k < 9 → parseFieldDescriptor (TX0 k).2.2.1 = some (tyX0 k) := by decide +kernel
def RX1 : String := "PolyLathe$Field"
def TX1 : u_T := fun k => match k with
  | 0 => ("PolyLathe$Field", "p", "I", false)
  | _ => ("PolyLathe$Field", "inverses", "[I", true)
def tyX1 : Nat → FieldType := fun k => match k with
  | 0 => .int
  | _ => .array .int
theorem nmX1 : ∀ a, a < 2 → ∀ b, b < 2 → a ≠ b → (TX1 a).2.1 ≠ (TX1 b).2.1 := by decide +kernel
theorem tyX1_ok : ∀ k, k < 2 → parseFieldDescriptor (TX1 k).2.2.1 = some (tyX1 k) := by decide +kernel
def RX2 : String := "PolyLathe$Points"
def TX2 : u_T := fun k => match k with
  | 0 => ("PolyLathe$Points", "field", "LPolyLathe$Field;", true)
  | 1 => ("PolyLathe$Points", "heights", "[I", true)
  | _ => ("PolyLathe$Points", "size", "I", false)
def tyX2 : Nat → FieldType := fun k => match k with
  | 0 => .object "PolyLathe$Field"
  | 1 => .array .int
  | _ => .int
theorem nmX2 : ∀ a, a < 3 → ∀ b, b < 3 → a ≠ b → (TX2 a).2.1 ≠ (TX2 b).2.1 := by decide +kernel
theorem tyX2_ok : ∀ k, k < 3 → parseFieldDescriptor (TX2 k).2.2.1 = some (tyX2 k) := by decide +kernel
def RX3 : String := "PolyLathe$Poly"
def TX3 : u_T := fun k => match k with
  | 0 => ("PolyLathe$Poly", "field", "LPolyLathe$Field;", true)
  | 1 => ("PolyLathe$Poly", "row", "[I", true)
  | _ => ("PolyLathe$Poly", "high", "I", false)
def tyX3 : Nat → FieldType := fun k => match k with
  | 0 => .object "PolyLathe$Field"
  | 1 => .array .int
  | _ => .int
theorem nmX3 : ∀ a, a < 3 → ∀ b, b < 3 → a ≠ b → (TX3 a).2.1 ≠ (TX3 b).2.1 := by decide +kernel
theorem tyX3_ok : ∀ k, k < 3 → parseFieldDescriptor (TX3 k).2.2.1 = some (tyX3 k) := by decide +kernel
def RX4 : String := "PolyLathe$Reader"
def TX4 : u_T := fun k => match k with
  | 0 => ("PolyLathe$Reader", "field", "LPolyLathe$Field;", true)
  | 1 => ("PolyLathe$Reader", "tape", "LPolyLathe$Text;", true)
  | 2 => ("PolyLathe$Reader", "registers", "[LPolyLathe$Poly;", true)
  | 3 => ("PolyLathe$Reader", "pile", "[LPolyLathe$Poly;", true)
  | 4 => ("PolyLathe$Reader", "base", "LPolyLathe$Poly;", true)
  | 5 => ("PolyLathe$Reader", "work", "LPolyLathe$Poly;", true)
  | 6 => ("PolyLathe$Reader", "height", "I", false)
  | 7 => ("PolyLathe$Reader", "place", "I", false)
  | 8 => ("PolyLathe$Reader", "wrongAt", "I", false)
  | _ => ("PolyLathe$Reader", "greatAt", "I", false)
def tyX4 : Nat → FieldType := fun k => match k with
  | 0 => .object "PolyLathe$Field"
  | 1 => .object "PolyLathe$Text"
  | 2 => .array (.object "PolyLathe$Poly")
  | 3 => .array (.object "PolyLathe$Poly")
  | 4 => .object "PolyLathe$Poly"
  | 5 => .object "PolyLathe$Poly"
  | 6 => .int
  | 7 => .int
  | 8 => .int
  | _ => .int
theorem nmX4 : ∀ a, a < 10 → ∀ b, b < 10 → a ≠ b → (TX4 a).2.1 ≠ (TX4 b).2.1 := by decide +kernel
theorem tyX4_ok : ∀ k, k < 10 → parseFieldDescriptor (TX4 k).2.2.1 = some (tyX4 k) := by decide +kernel
def RX5 : String := "PolyLathe$Splitter"
def TX5 : u_T := fun k => match k with
  | 0 => ("PolyLathe$Splitter", "field", "LPolyLathe$Field;", true)
  | 1 => ("PolyLathe$Splitter", "euclid", "LPolyLathe$Euclid;", true)
  | 2 => ("PolyLathe$Splitter", "primes", "[LPolyLathe$Poly;", true)
  | 3 => ("PolyLathe$Splitter", "times", "[I", true)
  | 4 => ("PolyLathe$Splitter", "size", "I", false)
  | 5 => ("PolyLathe$Splitter", "grid", "[I", true)
  | 6 => ("PolyLathe$Splitter", "pivots", "[I", true)
  | 7 => ("PolyLathe$Splitter", "order", "I", false)
  | 8 => ("PolyLathe$Splitter", "rest", "LPolyLathe$Poly;", true)
  | 9 => ("PolyLathe$Splitter", "slope", "LPolyLathe$Poly;", true)
  | 10 => ("PolyLathe$Splitter", "quotient", "LPolyLathe$Poly;", true)
  | _ => ("PolyLathe$Splitter", "vector", "LPolyLathe$Poly;", true)
def tyX5 : Nat → FieldType := fun k => match k with
  | 0 => .object "PolyLathe$Field"
  | 1 => .object "PolyLathe$Euclid"
  | 2 => .array (.object "PolyLathe$Poly")
  | 3 => .array .int
  | 4 => .int
  | 5 => .array .int
  | 6 => .array .int
  | 7 => .int
  | 8 => .object "PolyLathe$Poly"
  | 9 => .object "PolyLathe$Poly"
  | 10 => .object "PolyLathe$Poly"
  | _ => .object "PolyLathe$Poly"
theorem nmX5 : ∀ a, a < 12 → ∀ b, b < 12 → a ≠ b → (TX5 a).2.1 ≠ (TX5 b).2.1 := by decide +kernel
theorem tyX5_ok : ∀ k, k < 12 → parseFieldDescriptor (TX5 k).2.2.1 = some (tyX5 k) := by decide +kernel
def RX6 : String := "PolyLathe$Text"
def TX6 : u_T := fun k => match k with
  | 0 => ("PolyLathe$Text", "bytes", "[I", true)
  | _ => ("PolyLathe$Text", "size", "I", false)
def tyX6 : Nat → FieldType := fun k => match k with
  | 0 => .array .int
  | _ => .int
theorem nmX6 : ∀ a, a < 2 → ∀ b, b < 2 → a ≠ b → (TX6 a).2.1 ≠ (TX6 b).2.1 := by decide +kernel
theorem tyX6_ok : ∀ k, k < 2 → parseFieldDescriptor (TX6 k).2.2.1 = some (tyX6 k) := by decide +kernel
def RX7 : String := "PolyLathe"
def TX7 : u_T := fun k => match k with
  | 0 => ("PolyLathe", "field", "LPolyLathe$Field;", true)
  | 1 => ("PolyLathe", "registers", "[LPolyLathe$Poly;", true)
  | 2 => ("PolyLathe", "tape", "LPolyLathe$Text;", true)
  | 3 => ("PolyLathe", "paper", "LPolyLathe$Text;", true)
  | 4 => ("PolyLathe", "reader", "LPolyLathe$Reader;", true)
  | 5 => ("PolyLathe", "points", "LPolyLathe$Points;", true)
  | 6 => ("PolyLathe", "euclid", "LPolyLathe$Euclid;", true)
  | 7 => ("PolyLathe", "splitter", "LPolyLathe$Splitter;", true)
  | 8 => ("PolyLathe", "answer", "LPolyLathe$Poly;", true)
  | 9 => ("PolyLathe", "second", "LPolyLathe$Poly;", true)
  | _ => ("PolyLathe", "work", "LPolyLathe$Poly;", true)
def tyX7 : Nat → FieldType := fun k => match k with
  | 0 => .object "PolyLathe$Field"
  | 1 => .array (.object "PolyLathe$Poly")
  | 2 => .object "PolyLathe$Text"
  | 3 => .object "PolyLathe$Text"
  | 4 => .object "PolyLathe$Reader"
  | 5 => .object "PolyLathe$Points"
  | 6 => .object "PolyLathe$Euclid"
  | 7 => .object "PolyLathe$Splitter"
  | 8 => .object "PolyLathe$Poly"
  | 9 => .object "PolyLathe$Poly"
  | _ => .object "PolyLathe$Poly"
theorem nmX7 : ∀ a, a < 11 → ∀ b, b < 11 → a ≠ b → (TX7 a).2.1 ≠ (TX7 b).2.1 := by decide +kernel
theorem tyX7_ok : ∀ k, k < 11 → parseFieldDescriptor (TX7 k).2.2.1 = some (tyX7 k) := by decide +kernel
abbrev vwCl : List vw_C := [(RX0, TX0, 9), (RX1, TX1, 2), (RX2, TX2, 3), (RX3, TX3, 3), (RX4, TX4, 10), (RX5, TX5, 12), (RX6, TX6, 2), (RX7, TX7, 11)]
def zc_ty : Nat → Nat → FieldType := fun k => match k with
  | 0 => tyX0
  | 1 => tyX1
  | 2 => tyX2
  | 3 => tyX3
  | 4 => tyX4
  | 5 => tyX5
  | 6 => tyX6
  | _ => tyX7
theorem zc_all : ∀ (k : Nat) (r : vw_C), vwCl[k]? = some r → (∀ a, a < r.2.2 → ∀ b, b < r.2.2 → a ≠ b → (r.2.1 a).2.1 ≠ (r.2.1 b).2.1) ∧ (∀ j, j < r.2.2 → parseFieldDescriptor (r.2.1 j).2.2.1 = some (zc_ty k j)) := by
  intro k r h
  match k, h with
  | 0, h => cases h; exact ⟨nmX0, tyX0_ok⟩
  | 1, h => cases h; exact ⟨nmX1, tyX1_ok⟩
  | 2, h => cases h; exact ⟨nmX2, tyX2_ok⟩
  | 3, h => cases h; exact ⟨nmX3, tyX3_ok⟩
  | 4, h => cases h; exact ⟨nmX4, tyX4_ok⟩
  | 5, h => cases h; exact ⟨nmX5, tyX5_ok⟩
  | 6, h => cases h; exact ⟨nmX6, tyX6_ok⟩
  | 7, h => cases h; exact ⟨nmX7, tyX7_ok⟩
  | k + 8, h => simp [vwCl] at h
