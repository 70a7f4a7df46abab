-- ===== PART A: goes FIRST, ahead of the names: the tables' words, and 'selects' of the private methods out of them =====
/-- a private method of a class that the tables say can be made, by its rows of tables_1 -/
def lw_okq (q : MethodName × Nat) : Prop := (q.1.cls ≠ "java/lang/invoke/MethodHandle" ∧ q.1.cls ≠ "java/lang/invoke/VarHandle") ∧ Cond.instantiable q.1.cls q.2 ∈ tables_1 ∧ Cond.privateMethod q.1 ∈ tables_1 ∧ Cond.instanceMethod q.1 ∈ tables_1
theorem lw_p0 : lw_okq (⟨"PolyLathe", "tally", "(I)I"⟩, 11) := ⟨⟨by decide +kernel, by decide +kernel⟩, List.mem_of_getElem? (i := 24) (by decide +kernel), List.mem_of_getElem? (i := 296) (by decide +kernel), List.mem_of_getElem? (i := 297) (by decide +kernel)⟩
theorem lw_p1 : lw_okq (⟨"java/lang/Throwable", "fillInStackTrace", "(I)Ljava/lang/Throwable;"⟩, 6) := ⟨⟨by decide +kernel, by decide +kernel⟩, List.mem_of_getElem? (i := 400) (by decide +kernel), List.mem_of_getElem? (i := 398) (by decide +kernel), List.mem_of_getElem? (i := 399) (by decide +kernel)⟩
theorem lw_p2 : lw_okq (⟨"PolyLathe", "register", "(I)LPolyLathe$Poly;"⟩, 11) := ⟨⟨by decide +kernel, by decide +kernel⟩, List.mem_of_getElem? (i := 24) (by decide +kernel), List.mem_of_getElem? (i := 491) (by decide +kernel), List.mem_of_getElem? (i := 492) (by decide +kernel)⟩
theorem lw_p3 : lw_okq (⟨"PolyLathe$Reader", "readSum", "(I)Z"⟩, 10) := ⟨⟨by decide +kernel, by decide +kernel⟩, List.mem_of_getElem? (i := 85) (by decide +kernel), List.mem_of_getElem? (i := 515) (by decide +kernel), List.mem_of_getElem? (i := 516) (by decide +kernel)⟩
theorem lw_p4 : lw_okq (⟨"PolyLathe$Reader", "readProduct", "(I)Z"⟩, 10) := ⟨⟨by decide +kernel, by decide +kernel⟩, List.mem_of_getElem? (i := 85) (by decide +kernel), List.mem_of_getElem? (i := 519) (by decide +kernel), List.mem_of_getElem? (i := 520) (by decide +kernel)⟩
theorem lw_p5 : lw_okq (⟨"PolyLathe$Reader", "readSigned", "(I)Z"⟩, 10) := ⟨⟨by decide +kernel, by decide +kernel⟩, List.mem_of_getElem? (i := 85) (by decide +kernel), List.mem_of_getElem? (i := 523) (by decide +kernel), List.mem_of_getElem? (i := 524) (by decide +kernel)⟩
theorem lw_p6 : lw_okq (⟨"PolyLathe$Reader", "next", "()I"⟩, 10) := ⟨⟨by decide +kernel, by decide +kernel⟩, List.mem_of_getElem? (i := 85) (by decide +kernel), List.mem_of_getElem? (i := 527) (by decide +kernel), List.mem_of_getElem? (i := 528) (by decide +kernel)⟩
theorem lw_p7 : lw_okq (⟨"PolyLathe$Reader", "fail", "()Z"⟩, 10) := ⟨⟨by decide +kernel, by decide +kernel⟩, List.mem_of_getElem? (i := 85) (by decide +kernel), List.mem_of_getElem? (i := 533) (by decide +kernel), List.mem_of_getElem? (i := 534) (by decide +kernel)⟩
theorem lw_p8 : lw_okq (⟨"PolyLathe$Reader", "onPile", "(I)LPolyLathe$Poly;"⟩, 10) := ⟨⟨by decide +kernel, by decide +kernel⟩, List.mem_of_getElem? (i := 85) (by decide +kernel), List.mem_of_getElem? (i := 537) (by decide +kernel), List.mem_of_getElem? (i := 538) (by decide +kernel)⟩
theorem lw_p9 : lw_okq (⟨"PolyLathe$Reader", "readBase", "(I)Z"⟩, 10) := ⟨⟨by decide +kernel, by decide +kernel⟩, List.mem_of_getElem? (i := 85) (by decide +kernel), List.mem_of_getElem? (i := 557) (by decide +kernel), List.mem_of_getElem? (i := 558) (by decide +kernel)⟩
theorem lw_p10 : lw_okq (⟨"PolyLathe$Reader", "pushTerm", "(II)Z"⟩, 10) := ⟨⟨by decide +kernel, by decide +kernel⟩, List.mem_of_getElem? (i := 85) (by decide +kernel), List.mem_of_getElem? (i := 561) (by decide +kernel), List.mem_of_getElem? (i := 562) (by decide +kernel)⟩
theorem lw_p11 : lw_okq (⟨"PolyLathe$Reader", "pushRegister", "(I)Z"⟩, 10) := ⟨⟨by decide +kernel, by decide +kernel⟩, List.mem_of_getElem? (i := 85) (by decide +kernel), List.mem_of_getElem? (i := 567) (by decide +kernel), List.mem_of_getElem? (i := 568) (by decide +kernel)⟩
theorem lw_p12 : lw_okq (⟨"PolyLathe$Reader", "readNumber", "()I"⟩, 10) := ⟨⟨by decide +kernel, by decide +kernel⟩, List.mem_of_getElem? (i := 85) (by decide +kernel), List.mem_of_getElem? (i := 575) (by decide +kernel), List.mem_of_getElem? (i := 576) (by decide +kernel)⟩
theorem lw_p13 : lw_okq (⟨"PolyLathe$Reader", "raiseTop", "(II)V"⟩, 10) := ⟨⟨by decide +kernel, by decide +kernel⟩, List.mem_of_getElem? (i := 85) (by decide +kernel), List.mem_of_getElem? (i := 586) (by decide +kernel), List.mem_of_getElem? (i := 587) (by decide +kernel)⟩
theorem lw_p14 : lw_okq (⟨"PolyLathe$Reader", "markGreat", "(I)V"⟩, 10) := ⟨⟨by decide +kernel, by decide +kernel⟩, List.mem_of_getElem? (i := 85) (by decide +kernel), List.mem_of_getElem? (i := 601) (by decide +kernel), List.mem_of_getElem? (i := 602) (by decide +kernel)⟩
theorem lw_p15 : lw_okq (⟨"PolyLathe$Reader", "multiply", "(I)V"⟩, 10) := ⟨⟨by decide +kernel, by decide +kernel⟩, List.mem_of_getElem? (i := 85) (by decide +kernel), List.mem_of_getElem? (i := 613) (by decide +kernel), List.mem_of_getElem? (i := 614) (by decide +kernel)⟩
def lw_privs_1 : List (MethodName × Nat) := [(⟨"PolyLathe", "tally", "(I)I"⟩, 11), (⟨"java/lang/Throwable", "fillInStackTrace", "(I)Ljava/lang/Throwable;"⟩, 6), (⟨"PolyLathe", "register", "(I)LPolyLathe$Poly;"⟩, 11), (⟨"PolyLathe$Reader", "readSum", "(I)Z"⟩, 10), (⟨"PolyLathe$Reader", "readProduct", "(I)Z"⟩, 10), (⟨"PolyLathe$Reader", "readSigned", "(I)Z"⟩, 10), (⟨"PolyLathe$Reader", "next", "()I"⟩, 10), (⟨"PolyLathe$Reader", "fail", "()Z"⟩, 10), (⟨"PolyLathe$Reader", "onPile", "(I)LPolyLathe$Poly;"⟩, 10), (⟨"PolyLathe$Reader", "readBase", "(I)Z"⟩, 10), (⟨"PolyLathe$Reader", "pushTerm", "(II)Z"⟩, 10), (⟨"PolyLathe$Reader", "pushRegister", "(I)Z"⟩, 10), (⟨"PolyLathe$Reader", "readNumber", "()I"⟩, 10), (⟨"PolyLathe$Reader", "raiseTop", "(II)V"⟩, 10), (⟨"PolyLathe$Reader", "markGreat", "(I)V"⟩, 10), (⟨"PolyLathe$Reader", "multiply", "(I)V"⟩, 10)]
theorem lw_r1 : ∀ q ∈ lw_privs_1, lw_okq q := List.forall_mem_cons.mpr ⟨lw_p0, List.forall_mem_cons.mpr ⟨lw_p1, List.forall_mem_cons.mpr ⟨lw_p2, List.forall_mem_cons.mpr ⟨lw_p3, List.forall_mem_cons.mpr ⟨lw_p4, List.forall_mem_cons.mpr ⟨lw_p5, List.forall_mem_cons.mpr ⟨lw_p6, List.forall_mem_cons.mpr ⟨lw_p7, List.forall_mem_cons.mpr ⟨lw_p8, List.forall_mem_cons.mpr ⟨lw_p9, List.forall_mem_cons.mpr ⟨lw_p10, List.forall_mem_cons.mpr ⟨lw_p11, List.forall_mem_cons.mpr ⟨lw_p12, List.forall_mem_cons.mpr ⟨lw_p13, List.forall_mem_cons.mpr ⟨lw_p14, List.forall_mem_cons.mpr ⟨lw_p15, fun _ h => absurd h List.not_mem_nil⟩⟩⟩⟩⟩⟩⟩⟩⟩⟩⟩⟩⟩⟩⟩⟩
theorem lw_p16 : lw_okq (⟨"PolyLathe$Reader", "addUp", "(I)V"⟩, 10) := ⟨⟨by decide +kernel, by decide +kernel⟩, List.mem_of_getElem? (i := 85) (by decide +kernel), List.mem_of_getElem? (i := 620) (by decide +kernel), List.mem_of_getElem? (i := 621) (by decide +kernel)⟩
theorem lw_p17 : lw_okq (⟨"PolyLathe$Text", "showTerm", "(II)V"⟩, 2) := ⟨⟨by decide +kernel, by decide +kernel⟩, List.mem_of_getElem? (i := 69) (by decide +kernel), List.mem_of_getElem? (i := 668) (by decide +kernel), List.mem_of_getElem? (i := 669) (by decide +kernel)⟩
theorem lw_p18 : lw_okq (⟨"PolyLathe$Text", "showNumber", "(I)V"⟩, 2) := ⟨⟨by decide +kernel, by decide +kernel⟩, List.mem_of_getElem? (i := 69) (by decide +kernel), List.mem_of_getElem? (i := 672) (by decide +kernel), List.mem_of_getElem? (i := 673) (by decide +kernel)⟩
theorem lw_p19 : lw_okq (⟨"PolyLathe", "combine", "(ILPolyLathe$Poly;LPolyLathe$Poly;)V"⟩, 11) := ⟨⟨by decide +kernel, by decide +kernel⟩, List.mem_of_getElem? (i := 24) (by decide +kernel), List.mem_of_getElem? (i := 703) (by decide +kernel), List.mem_of_getElem? (i := 704) (by decide +kernel)⟩
theorem lw_p20 : lw_okq (⟨"PolyLathe", "compose", "(LPolyLathe$Poly;LPolyLathe$Poly;)V"⟩, 11) := ⟨⟨by decide +kernel, by decide +kernel⟩, List.mem_of_getElem? (i := 24) (by decide +kernel), List.mem_of_getElem? (i := 715) (by decide +kernel), List.mem_of_getElem? (i := 716) (by decide +kernel)⟩
theorem lw_p21 : lw_okq (⟨"PolyLathe$Euclid", "swapR", "()V"⟩, 9) := ⟨⟨by decide +kernel, by decide +kernel⟩, List.mem_of_getElem? (i := 143) (by decide +kernel), List.mem_of_getElem? (i := 737) (by decide +kernel), List.mem_of_getElem? (i := 738) (by decide +kernel)⟩
theorem lw_p22 : lw_okq (⟨"PolyLathe$Euclid", "takeOff", "(LPolyLathe$Poly;LPolyLathe$Poly;)V"⟩, 9) := ⟨⟨by decide +kernel, by decide +kernel⟩, List.mem_of_getElem? (i := 143) (by decide +kernel), List.mem_of_getElem? (i := 779) (by decide +kernel), List.mem_of_getElem? (i := 780) (by decide +kernel)⟩
theorem lw_p23 : lw_okq (⟨"PolyLathe$Euclid", "swapMakers", "()V"⟩, 9) := ⟨⟨by decide +kernel, by decide +kernel⟩, List.mem_of_getElem? (i := 143) (by decide +kernel), List.mem_of_getElem? (i := 785) (by decide +kernel), List.mem_of_getElem? (i := 786) (by decide +kernel)⟩
theorem lw_p24 : lw_okq (⟨"PolyLathe", "raise", "(LPolyLathe$Poly;ILPolyLathe$Poly;)V"⟩, 11) := ⟨⟨by decide +kernel, by decide +kernel⟩, List.mem_of_getElem? (i := 24) (by decide +kernel), List.mem_of_getElem? (i := 807) (by decide +kernel), List.mem_of_getElem? (i := 808) (by decide +kernel)⟩
theorem lw_p25 : lw_okq (⟨"PolyLathe", "rootOf", "(LPolyLathe$Poly;I)I"⟩, 11) := ⟨⟨by decide +kernel, by decide +kernel⟩, List.mem_of_getElem? (i := 24) (by decide +kernel), List.mem_of_getElem? (i := 899) (by decide +kernel), List.mem_of_getElem? (i := 900) (by decide +kernel)⟩
theorem lw_p26 : lw_okq (⟨"PolyLathe$Splitter", "takeFieldRoot", "()V"⟩, 12) := ⟨⟨by decide +kernel, by decide +kernel⟩, List.mem_of_getElem? (i := 179) (by decide +kernel), List.mem_of_getElem? (i := 922) (by decide +kernel), List.mem_of_getElem? (i := 923) (by decide +kernel)⟩
theorem lw_p27 : lw_okq (⟨"PolyLathe$Splitter", "openSimpleParts", "()I"⟩, 12) := ⟨⟨by decide +kernel, by decide +kernel⟩, List.mem_of_getElem? (i := 179) (by decide +kernel), List.mem_of_getElem? (i := 930) (by decide +kernel), List.mem_of_getElem? (i := 931) (by decide +kernel)⟩
theorem lw_p28 : lw_okq (⟨"PolyLathe$Splitter", "keep", "(LPolyLathe$Poly;)V"⟩, 12) := ⟨⟨by decide +kernel, by decide +kernel⟩, List.mem_of_getElem? (i := 179) (by decide +kernel), List.mem_of_getElem? (i := 937) (by decide +kernel), List.mem_of_getElem? (i := 938) (by decide +kernel)⟩
theorem lw_p29 : lw_okq (⟨"PolyLathe$Splitter", "countParts", "(LPolyLathe$Poly;)I"⟩, 12) := ⟨⟨by decide +kernel, by decide +kernel⟩, List.mem_of_getElem? (i := 179) (by decide +kernel), List.mem_of_getElem? (i := 941) (by decide +kernel), List.mem_of_getElem? (i := 942) (by decide +kernel)⟩
theorem lw_p30 : lw_okq (⟨"PolyLathe$Splitter", "fillGrid", "(LPolyLathe$Poly;)V"⟩, 12) := ⟨⟨by decide +kernel, by decide +kernel⟩, List.mem_of_getElem? (i := 179) (by decide +kernel), List.mem_of_getElem? (i := 945) (by decide +kernel), List.mem_of_getElem? (i := 946) (by decide +kernel)⟩
theorem lw_p31 : lw_okq (⟨"PolyLathe$Splitter", "putCell", "(III)V"⟩, 12) := ⟨⟨by decide +kernel, by decide +kernel⟩, List.mem_of_getElem? (i := 179) (by decide +kernel), List.mem_of_getElem? (i := 951) (by decide +kernel), List.mem_of_getElem? (i := 952) (by decide +kernel)⟩
def lw_privs_2 : List (MethodName × Nat) := [(⟨"PolyLathe$Reader", "addUp", "(I)V"⟩, 10), (⟨"PolyLathe$Text", "showTerm", "(II)V"⟩, 2), (⟨"PolyLathe$Text", "showNumber", "(I)V"⟩, 2), (⟨"PolyLathe", "combine", "(ILPolyLathe$Poly;LPolyLathe$Poly;)V"⟩, 11), (⟨"PolyLathe", "compose", "(LPolyLathe$Poly;LPolyLathe$Poly;)V"⟩, 11), (⟨"PolyLathe$Euclid", "swapR", "()V"⟩, 9), (⟨"PolyLathe$Euclid", "takeOff", "(LPolyLathe$Poly;LPolyLathe$Poly;)V"⟩, 9), (⟨"PolyLathe$Euclid", "swapMakers", "()V"⟩, 9), (⟨"PolyLathe", "raise", "(LPolyLathe$Poly;ILPolyLathe$Poly;)V"⟩, 11), (⟨"PolyLathe", "rootOf", "(LPolyLathe$Poly;I)I"⟩, 11), (⟨"PolyLathe$Splitter", "takeFieldRoot", "()V"⟩, 12), (⟨"PolyLathe$Splitter", "openSimpleParts", "()I"⟩, 12), (⟨"PolyLathe$Splitter", "keep", "(LPolyLathe$Poly;)V"⟩, 12), (⟨"PolyLathe$Splitter", "countParts", "(LPolyLathe$Poly;)I"⟩, 12), (⟨"PolyLathe$Splitter", "fillGrid", "(LPolyLathe$Poly;)V"⟩, 12), (⟨"PolyLathe$Splitter", "putCell", "(III)V"⟩, 12)]
theorem lw_r2 : ∀ q ∈ lw_privs_2, lw_okq q := List.forall_mem_cons.mpr ⟨lw_p16, List.forall_mem_cons.mpr ⟨lw_p17, List.forall_mem_cons.mpr ⟨lw_p18, List.forall_mem_cons.mpr ⟨lw_p19, List.forall_mem_cons.mpr ⟨lw_p20, List.forall_mem_cons.mpr ⟨lw_p21, List.forall_mem_cons.mpr ⟨lw_p22, List.forall_mem_cons.mpr ⟨lw_p23, List.forall_mem_cons.mpr ⟨lw_p24, List.forall_mem_cons.mpr ⟨lw_p25, List.forall_mem_cons.mpr ⟨lw_p26, List.forall_mem_cons.mpr ⟨lw_p27, List.forall_mem_cons.mpr ⟨lw_p28, List.forall_mem_cons.mpr ⟨lw_p29, List.forall_mem_cons.mpr ⟨lw_p30, List.forall_mem_cons.mpr ⟨lw_p31, fun _ h => absurd h List.not_mem_nil⟩⟩⟩⟩⟩⟩⟩⟩⟩⟩⟩⟩⟩⟩⟩⟩
theorem lw_p32 : lw_okq (⟨"PolyLathe$Splitter", "eliminate", "()I"⟩, 12) := ⟨⟨by decide +kernel, by decide +kernel⟩, List.mem_of_getElem? (i := 179) (by decide +kernel), List.mem_of_getElem? (i := 956) (by decide +kernel), List.mem_of_getElem? (i := 957) (by decide +kernel)⟩
theorem lw_p33 : lw_okq (⟨"PolyLathe$Splitter", "firstFilled", "(II)I"⟩, 12) := ⟨⟨by decide +kernel, by decide +kernel⟩, List.mem_of_getElem? (i := 179) (by decide +kernel), List.mem_of_getElem? (i := 960) (by decide +kernel), List.mem_of_getElem? (i := 961) (by decide +kernel)⟩
theorem lw_p34 : lw_okq (⟨"PolyLathe$Splitter", "cell", "(II)I"⟩, 12) := ⟨⟨by decide +kernel, by decide +kernel⟩, List.mem_of_getElem? (i := 179) (by decide +kernel), List.mem_of_getElem? (i := 964) (by decide +kernel), List.mem_of_getElem? (i := 965) (by decide +kernel)⟩
theorem lw_p35 : lw_okq (⟨"PolyLathe$Splitter", "putPivot", "(II)V"⟩, 12) := ⟨⟨by decide +kernel, by decide +kernel⟩, List.mem_of_getElem? (i := 179) (by decide +kernel), List.mem_of_getElem? (i := 968) (by decide +kernel), List.mem_of_getElem? (i := 969) (by decide +kernel)⟩
theorem lw_p36 : lw_okq (⟨"PolyLathe$Splitter", "swapLines", "(II)V"⟩, 12) := ⟨⟨by decide +kernel, by decide +kernel⟩, List.mem_of_getElem? (i := 179) (by decide +kernel), List.mem_of_getElem? (i := 972) (by decide +kernel), List.mem_of_getElem? (i := 973) (by decide +kernel)⟩
theorem lw_p37 : lw_okq (⟨"PolyLathe$Splitter", "scaleLine", "(II)V"⟩, 12) := ⟨⟨by decide +kernel, by decide +kernel⟩, List.mem_of_getElem? (i := 179) (by decide +kernel), List.mem_of_getElem? (i := 976) (by decide +kernel), List.mem_of_getElem? (i := 977) (by decide +kernel)⟩
theorem lw_p38 : lw_okq (⟨"PolyLathe$Splitter", "clearColumn", "(II)V"⟩, 12) := ⟨⟨by decide +kernel, by decide +kernel⟩, List.mem_of_getElem? (i := 179) (by decide +kernel), List.mem_of_getElem? (i := 981) (by decide +kernel), List.mem_of_getElem? (i := 982) (by decide +kernel)⟩
theorem lw_p39 : lw_okq (⟨"PolyLathe$Splitter", "addLine", "(III)V"⟩, 12) := ⟨⟨by decide +kernel, by decide +kernel⟩, List.mem_of_getElem? (i := 179) (by decide +kernel), List.mem_of_getElem? (i := 986) (by decide +kernel), List.mem_of_getElem? (i := 987) (by decide +kernel)⟩
theorem lw_p40 : lw_okq (⟨"PolyLathe$Splitter", "splitAt", "(III)V"⟩, 12) := ⟨⟨by decide +kernel, by decide +kernel⟩, List.mem_of_getElem? (i := 179) (by decide +kernel), List.mem_of_getElem? (i := 990) (by decide +kernel), List.mem_of_getElem? (i := 991) (by decide +kernel)⟩
theorem lw_p41 : lw_okq (⟨"PolyLathe$Splitter", "makeVector", "(I)Z"⟩, 12) := ⟨⟨by decide +kernel, by decide +kernel⟩, List.mem_of_getElem? (i := 179) (by decide +kernel), List.mem_of_getElem? (i := 994) (by decide +kernel), List.mem_of_getElem? (i := 995) (by decide +kernel)⟩
theorem lw_p42 : lw_okq (⟨"PolyLathe$Splitter", "pivotOf", "(I)I"⟩, 12) := ⟨⟨by decide +kernel, by decide +kernel⟩, List.mem_of_getElem? (i := 179) (by decide +kernel), List.mem_of_getElem? (i := 998) (by decide +kernel), List.mem_of_getElem? (i := 999) (by decide +kernel)⟩
theorem lw_p43 : lw_okq (⟨"PolyLathe$Splitter", "splitOne", "(LPolyLathe$Poly;)V"⟩, 12) := ⟨⟨by decide +kernel, by decide +kernel⟩, List.mem_of_getElem? (i := 179) (by decide +kernel), List.mem_of_getElem? (i := 1003) (by decide +kernel), List.mem_of_getElem? (i := 1004) (by decide +kernel)⟩
theorem lw_p44 : lw_okq (⟨"PolyLathe$Splitter", "stripFrom", "(II)V"⟩, 12) := ⟨⟨by decide +kernel, by decide +kernel⟩, List.mem_of_getElem? (i := 179) (by decide +kernel), List.mem_of_getElem? (i := 1007) (by decide +kernel), List.mem_of_getElem? (i := 1008) (by decide +kernel)⟩
theorem lw_p45 : lw_okq (⟨"PolyLathe$Splitter", "strip", "(LPolyLathe$Poly;)I"⟩, 12) := ⟨⟨by decide +kernel, by decide +kernel⟩, List.mem_of_getElem? (i := 179) (by decide +kernel), List.mem_of_getElem? (i := 1011) (by decide +kernel), List.mem_of_getElem? (i := 1012) (by decide +kernel)⟩
theorem lw_p46 : lw_okq (⟨"PolyLathe$Splitter", "sort", "()V"⟩, 12) := ⟨⟨by decide +kernel, by decide +kernel⟩, List.mem_of_getElem? (i := 179) (by decide +kernel), List.mem_of_getElem? (i := 1015) (by decide +kernel), List.mem_of_getElem? (i := 1016) (by decide +kernel)⟩
theorem lw_p47 : lw_okq (⟨"PolyLathe$Splitter", "swapPrimes", "(II)V"⟩, 12) := ⟨⟨by decide +kernel, by decide +kernel⟩, List.mem_of_getElem? (i := 179) (by decide +kernel), List.mem_of_getElem? (i := 1023) (by decide +kernel), List.mem_of_getElem? (i := 1024) (by decide +kernel)⟩
def lw_privs_3 : List (MethodName × Nat) := [(⟨"PolyLathe$Splitter", "eliminate", "()I"⟩, 12), (⟨"PolyLathe$Splitter", "firstFilled", "(II)I"⟩, 12), (⟨"PolyLathe$Splitter", "cell", "(II)I"⟩, 12), (⟨"PolyLathe$Splitter", "putPivot", "(II)V"⟩, 12), (⟨"PolyLathe$Splitter", "swapLines", "(II)V"⟩, 12), (⟨"PolyLathe$Splitter", "scaleLine", "(II)V"⟩, 12), (⟨"PolyLathe$Splitter", "clearColumn", "(II)V"⟩, 12), (⟨"PolyLathe$Splitter", "addLine", "(III)V"⟩, 12), (⟨"PolyLathe$Splitter", "splitAt", "(III)V"⟩, 12), (⟨"PolyLathe$Splitter", "makeVector", "(I)Z"⟩, 12), (⟨"PolyLathe$Splitter", "pivotOf", "(I)I"⟩, 12), (⟨"PolyLathe$Splitter", "splitOne", "(LPolyLathe$Poly;)V"⟩, 12), (⟨"PolyLathe$Splitter", "stripFrom", "(II)V"⟩, 12), (⟨"PolyLathe$Splitter", "strip", "(LPolyLathe$Poly;)I"⟩, 12), (⟨"PolyLathe$Splitter", "sort", "()V"⟩, 12), (⟨"PolyLathe$Splitter", "swapPrimes", "(II)V"⟩, 12)]
theorem lw_r3 : ∀ q ∈ lw_privs_3, lw_okq q := List.forall_mem_cons.mpr ⟨lw_p32, List.forall_mem_cons.mpr ⟨lw_p33, List.forall_mem_cons.mpr ⟨lw_p34, List.forall_mem_cons.mpr ⟨lw_p35, List.forall_mem_cons.mpr ⟨lw_p36, List.forall_mem_cons.mpr ⟨lw_p37, List.forall_mem_cons.mpr ⟨lw_p38, List.forall_mem_cons.mpr ⟨lw_p39, List.forall_mem_cons.mpr ⟨lw_p40, List.forall_mem_cons.mpr ⟨lw_p41, List.forall_mem_cons.mpr ⟨lw_p42, List.forall_mem_cons.mpr ⟨lw_p43, List.forall_mem_cons.mpr ⟨lw_p44, List.forall_mem_cons.mpr ⟨lw_p45, List.forall_mem_cons.mpr ⟨lw_p46, List.forall_mem_cons.mpr ⟨lw_p47, fun _ h => absurd h List.not_mem_nil⟩⟩⟩⟩⟩⟩⟩⟩⟩⟩⟩⟩⟩⟩⟩⟩
theorem lw_p48 : lw_okq (⟨"PolyLathe", "checkFactor", "(I)V"⟩, 11) := ⟨⟨by decide +kernel, by decide +kernel⟩, List.mem_of_getElem? (i := 24) (by decide +kernel), List.mem_of_getElem? (i := 1034) (by decide +kernel), List.mem_of_getElem? (i := 1035) (by decide +kernel)⟩
theorem lw_p49 : lw_okq (⟨"PolyLathe", "periodOf", "(LPolyLathe$Poly;)I"⟩, 11) := ⟨⟨by decide +kernel, by decide +kernel⟩, List.mem_of_getElem? (i := 24) (by decide +kernel), List.mem_of_getElem? (i := 1065) (by decide +kernel), List.mem_of_getElem? (i := 1066) (by decide +kernel)⟩
theorem lw_p50 : lw_okq (⟨"PolyLatheModel", "no", "(I)I"⟩, 19) := ⟨⟨by decide +kernel, by decide +kernel⟩, List.mem_of_getElem? (i := 1074) (by decide +kernel), List.mem_of_getElem? (i := 1152) (by decide +kernel), List.mem_of_getElem? (i := 1153) (by decide +kernel)⟩
theorem lw_p51 : lw_okq (⟨"PolyLatheModel", "sum", "(I)[I"⟩, 19) := ⟨⟨by decide +kernel, by decide +kernel⟩, List.mem_of_getElem? (i := 1074) (by decide +kernel), List.mem_of_getElem? (i := 1171) (by decide +kernel), List.mem_of_getElem? (i := 1172) (by decide +kernel)⟩
theorem lw_p52 : lw_okq (⟨"PolyLatheModel", "product", "(I)[I"⟩, 19) := ⟨⟨by decide +kernel, by decide +kernel⟩, List.mem_of_getElem? (i := 1074) (by decide +kernel), List.mem_of_getElem? (i := 1175) (by decide +kernel), List.mem_of_getElem? (i := 1176) (by decide +kernel)⟩
theorem lw_p53 : lw_okq (⟨"PolyLatheModel", "signed", "(I)[I"⟩, 19) := ⟨⟨by decide +kernel, by decide +kernel⟩, List.mem_of_getElem? (i := 1074) (by decide +kernel), List.mem_of_getElem? (i := 1179) (by decide +kernel), List.mem_of_getElem? (i := 1180) (by decide +kernel)⟩
theorem lw_p54 : lw_okq (⟨"PolyLatheModel", "here", "()I"⟩, 19) := ⟨⟨by decide +kernel, by decide +kernel⟩, List.mem_of_getElem? (i := 1074) (by decide +kernel), List.mem_of_getElem? (i := 1183) (by decide +kernel), List.mem_of_getElem? (i := 1184) (by decide +kernel)⟩
theorem lw_p55 : lw_okq (⟨"PolyLatheModel", "power", "(I)[I"⟩, 19) := ⟨⟨by decide +kernel, by decide +kernel⟩, List.mem_of_getElem? (i := 1074) (by decide +kernel), List.mem_of_getElem? (i := 1187) (by decide +kernel), List.mem_of_getElem? (i := 1188) (by decide +kernel)⟩
theorem lw_p56 : lw_okq (⟨"PolyLatheModel", "base", "(I)[I"⟩, 19) := ⟨⟨by decide +kernel, by decide +kernel⟩, List.mem_of_getElem? (i := 1074) (by decide +kernel), List.mem_of_getElem? (i := 1191) (by decide +kernel), List.mem_of_getElem? (i := 1192) (by decide +kernel)⟩
theorem lw_p57 : lw_okq (⟨"PolyLatheModel", "number", "()I"⟩, 19) := ⟨⟨by decide +kernel, by decide +kernel⟩, List.mem_of_getElem? (i := 1074) (by decide +kernel), List.mem_of_getElem? (i := 1198) (by decide +kernel), List.mem_of_getElem? (i := 1199) (by decide +kernel)⟩
theorem lw_p58 : lw_okq (⟨"PolyLatheModel", "wrong", "()[I"⟩, 19) := ⟨⟨by decide +kernel, by decide +kernel⟩, List.mem_of_getElem? (i := 1074) (by decide +kernel), List.mem_of_getElem? (i := 1202) (by decide +kernel), List.mem_of_getElem? (i := 1203) (by decide +kernel)⟩
theorem lw_p59 : lw_okq (⟨"PolyLatheModel", "of", "(I)I"⟩, 19) := ⟨⟨by decide +kernel, by decide +kernel⟩, List.mem_of_getElem? (i := 1074) (by decide +kernel), List.mem_of_getElem? (i := 1206) (by decide +kernel), List.mem_of_getElem? (i := 1207) (by decide +kernel)⟩
theorem lw_p60 : lw_okq (⟨"PolyLatheModel", "takes", "(I)Z"⟩, 19) := ⟨⟨by decide +kernel, by decide +kernel⟩, List.mem_of_getElem? (i := 1074) (by decide +kernel), List.mem_of_getElem? (i := 1213) (by decide +kernel), List.mem_of_getElem? (i := 1214) (by decide +kernel)⟩
theorem lw_p61 : lw_okq (⟨"PolyLatheModel", "get", "(I)[I"⟩, 19) := ⟨⟨by decide +kernel, by decide +kernel⟩, List.mem_of_getElem? (i := 1074) (by decide +kernel), List.mem_of_getElem? (i := 1217) (by decide +kernel), List.mem_of_getElem? (i := 1218) (by decide +kernel)⟩
theorem lw_p62 : lw_okq (⟨"PolyLatheModel", "tooGreat", "(I)[I"⟩, 19) := ⟨⟨by decide +kernel, by decide +kernel⟩, List.mem_of_getElem? (i := 1074) (by decide +kernel), List.mem_of_getElem? (i := 1227) (by decide +kernel), List.mem_of_getElem? (i := 1228) (by decide +kernel)⟩
theorem lw_p63 : lw_okq (⟨"PolyLatheModel", "times", "([I[I)[I"⟩, 19) := ⟨⟨by decide +kernel, by decide +kernel⟩, List.mem_of_getElem? (i := 1074) (by decide +kernel), List.mem_of_getElem? (i := 1231) (by decide +kernel), List.mem_of_getElem? (i := 1232) (by decide +kernel)⟩
def lw_privs_4 : List (MethodName × Nat) := [(⟨"PolyLathe", "checkFactor", "(I)V"⟩, 11), (⟨"PolyLathe", "periodOf", "(LPolyLathe$Poly;)I"⟩, 11), (⟨"PolyLatheModel", "no", "(I)I"⟩, 19), (⟨"PolyLatheModel", "sum", "(I)[I"⟩, 19), (⟨"PolyLatheModel", "product", "(I)[I"⟩, 19), (⟨"PolyLatheModel", "signed", "(I)[I"⟩, 19), (⟨"PolyLatheModel", "here", "()I"⟩, 19), (⟨"PolyLatheModel", "power", "(I)[I"⟩, 19), (⟨"PolyLatheModel", "base", "(I)[I"⟩, 19), (⟨"PolyLatheModel", "number", "()I"⟩, 19), (⟨"PolyLatheModel", "wrong", "()[I"⟩, 19), (⟨"PolyLatheModel", "of", "(I)I"⟩, 19), (⟨"PolyLatheModel", "takes", "(I)Z"⟩, 19), (⟨"PolyLatheModel", "get", "(I)[I"⟩, 19), (⟨"PolyLatheModel", "tooGreat", "(I)[I"⟩, 19), (⟨"PolyLatheModel", "times", "([I[I)[I"⟩, 19)]
theorem lw_r4 : ∀ q ∈ lw_privs_4, lw_okq q := List.forall_mem_cons.mpr ⟨lw_p48, List.forall_mem_cons.mpr ⟨lw_p49, List.forall_mem_cons.mpr ⟨lw_p50, List.forall_mem_cons.mpr ⟨lw_p51, List.forall_mem_cons.mpr ⟨lw_p52, List.forall_mem_cons.mpr ⟨lw_p53, List.forall_mem_cons.mpr ⟨lw_p54, List.forall_mem_cons.mpr ⟨lw_p55, List.forall_mem_cons.mpr ⟨lw_p56, List.forall_mem_cons.mpr ⟨lw_p57, List.forall_mem_cons.mpr ⟨lw_p58, List.forall_mem_cons.mpr ⟨lw_p59, List.forall_mem_cons.mpr ⟨lw_p60, List.forall_mem_cons.mpr ⟨lw_p61, List.forall_mem_cons.mpr ⟨lw_p62, List.forall_mem_cons.mpr ⟨lw_p63, fun _ h => absurd h List.not_mem_nil⟩⟩⟩⟩⟩⟩⟩⟩⟩⟩⟩⟩⟩⟩⟩⟩
theorem lw_p64 : lw_okq (⟨"PolyLatheModel", "plus", "([I[II)[I"⟩, 19) := ⟨⟨by decide +kernel, by decide +kernel⟩, List.mem_of_getElem? (i := 1074) (by decide +kernel), List.mem_of_getElem? (i := 1235) (by decide +kernel), List.mem_of_getElem? (i := 1236) (by decide +kernel)⟩
theorem lw_p65 : lw_okq (⟨"PolyLatheModel", "put", "(I[I)I"⟩, 19) := ⟨⟨by decide +kernel, by decide +kernel⟩, List.mem_of_getElem? (i := 1074) (by decide +kernel), List.mem_of_getElem? (i := 1239) (by decide +kernel), List.mem_of_getElem? (i := 1240) (by decide +kernel)⟩
theorem lw_p66 : lw_okq (⟨"PolyLatheModel", "write", "(Ljava/lang/String;)V"⟩, 19) := ⟨⟨by decide +kernel, by decide +kernel⟩, List.mem_of_getElem? (i := 1074) (by decide +kernel), List.mem_of_getElem? (i := 1264) (by decide +kernel), List.mem_of_getElem? (i := 1265) (by decide +kernel)⟩
theorem lw_p67 : lw_okq (⟨"PolyLatheModel", "writeNumber", "(I)V"⟩, 19) := ⟨⟨by decide +kernel, by decide +kernel⟩, List.mem_of_getElem? (i := 1074) (by decide +kernel), List.mem_of_getElem? (i := 1316) (by decide +kernel), List.mem_of_getElem? (i := 1317) (by decide +kernel)⟩
theorem lw_p68 : lw_okq (⟨"PolyLatheModel", "counted", "(I)I"⟩, 19) := ⟨⟨by decide +kernel, by decide +kernel⟩, List.mem_of_getElem? (i := 1074) (by decide +kernel), List.mem_of_getElem? (i := 1331) (by decide +kernel), List.mem_of_getElem? (i := 1332) (by decide +kernel)⟩
theorem lw_p69 : lw_okq (⟨"PolyLatheModel", "pointed", "()I"⟩, 19) := ⟨⟨by decide +kernel, by decide +kernel⟩, List.mem_of_getElem? (i := 1074) (by decide +kernel), List.mem_of_getElem? (i := 1335) (by decide +kernel), List.mem_of_getElem? (i := 1336) (by decide +kernel)⟩
theorem lw_p70 : lw_okq (⟨"PolyLatheModel", "reckoned", "(I[I[I)[I"⟩, 19) := ⟨⟨by decide +kernel, by decide +kernel⟩, List.mem_of_getElem? (i := 1074) (by decide +kernel), List.mem_of_getElem? (i := 1343) (by decide +kernel), List.mem_of_getElem? (i := 1344) (by decide +kernel)⟩
theorem lw_p71 : lw_okq (⟨"PolyLatheModel", "within", "([I[I)[I"⟩, 19) := ⟨⟨by decide +kernel, by decide +kernel⟩, List.mem_of_getElem? (i := 1074) (by decide +kernel), List.mem_of_getElem? (i := 1347) (by decide +kernel), List.mem_of_getElem? (i := 1348) (by decide +kernel)⟩
theorem lw_p72 : lw_okq (⟨"PolyLatheModel", "derived", "([I)[I"⟩, 19) := ⟨⟨by decide +kernel, by decide +kernel⟩, List.mem_of_getElem? (i := 1074) (by decide +kernel), List.mem_of_getElem? (i := 1351) (by decide +kernel), List.mem_of_getElem? (i := 1352) (by decide +kernel)⟩
theorem lw_p73 : lw_okq (⟨"PolyLatheModel", "common", "([I[I)V"⟩, 19) := ⟨⟨by decide +kernel, by decide +kernel⟩, List.mem_of_getElem? (i := 1074) (by decide +kernel), List.mem_of_getElem? (i := 1355) (by decide +kernel), List.mem_of_getElem? (i := 1356) (by decide +kernel)⟩
theorem lw_p74 : lw_okq (⟨"PolyLatheModel", "reduce", "([I[I[I)V"⟩, 19) := ⟨⟨by decide +kernel, by decide +kernel⟩, List.mem_of_getElem? (i := 1074) (by decide +kernel), List.mem_of_getElem? (i := 1359) (by decide +kernel), List.mem_of_getElem? (i := 1360) (by decide +kernel)⟩
theorem lw_p75 : lw_okq (⟨"PolyLatheModel", "inverse", "(I)I"⟩, 19) := ⟨⟨by decide +kernel, by decide +kernel⟩, List.mem_of_getElem? (i := 1074) (by decide +kernel), List.mem_of_getElem? (i := 1363) (by decide +kernel), List.mem_of_getElem? (i := 1364) (by decide +kernel)⟩
theorem lw_p76 : lw_okq (⟨"PolyLatheModel", "makeMonic", "([I)V"⟩, 19) := ⟨⟨by decide +kernel, by decide +kernel⟩, List.mem_of_getElem? (i := 1074) (by decide +kernel), List.mem_of_getElem? (i := 1367) (by decide +kernel), List.mem_of_getElem? (i := 1368) (by decide +kernel)⟩
theorem lw_p77 : lw_okq (⟨"PolyLatheModel", "valueAt", "([II)I"⟩, 19) := ⟨⟨by decide +kernel, by decide +kernel⟩, List.mem_of_getElem? (i := 1074) (by decide +kernel), List.mem_of_getElem? (i := 1388) (by decide +kernel), List.mem_of_getElem? (i := 1389) (by decide +kernel)⟩
theorem lw_p78 : lw_okq (⟨"PolyLatheModel", "raised", "(II)I"⟩, 19) := ⟨⟨by decide +kernel, by decide +kernel⟩, List.mem_of_getElem? (i := 1074) (by decide +kernel), List.mem_of_getElem? (i := 1396) (by decide +kernel), List.mem_of_getElem? (i := 1397) (by decide +kernel)⟩
theorem lw_p79 : lw_okq (⟨"PolyLatheModel", "findPieces", "([I)V"⟩, 19) := ⟨⟨by decide +kernel, by decide +kernel⟩, List.mem_of_getElem? (i := 1074) (by decide +kernel), List.mem_of_getElem? (i := 1420) (by decide +kernel), List.mem_of_getElem? (i := 1421) (by decide +kernel)⟩
def lw_privs_5 : List (MethodName × Nat) := [(⟨"PolyLatheModel", "plus", "([I[II)[I"⟩, 19), (⟨"PolyLatheModel", "put", "(I[I)I"⟩, 19), (⟨"PolyLatheModel", "write", "(Ljava/lang/String;)V"⟩, 19), (⟨"PolyLatheModel", "writeNumber", "(I)V"⟩, 19), (⟨"PolyLatheModel", "counted", "(I)I"⟩, 19), (⟨"PolyLatheModel", "pointed", "()I"⟩, 19), (⟨"PolyLatheModel", "reckoned", "(I[I[I)[I"⟩, 19), (⟨"PolyLatheModel", "within", "([I[I)[I"⟩, 19), (⟨"PolyLatheModel", "derived", "([I)[I"⟩, 19), (⟨"PolyLatheModel", "common", "([I[I)V"⟩, 19), (⟨"PolyLatheModel", "reduce", "([I[I[I)V"⟩, 19), (⟨"PolyLatheModel", "inverse", "(I)I"⟩, 19), (⟨"PolyLatheModel", "makeMonic", "([I)V"⟩, 19), (⟨"PolyLatheModel", "valueAt", "([II)I"⟩, 19), (⟨"PolyLatheModel", "raised", "(II)I"⟩, 19), (⟨"PolyLatheModel", "findPieces", "([I)V"⟩, 19)]
theorem lw_r5 : ∀ q ∈ lw_privs_5, lw_okq q := List.forall_mem_cons.mpr ⟨lw_p64, List.forall_mem_cons.mpr ⟨lw_p65, List.forall_mem_cons.mpr ⟨lw_p66, List.forall_mem_cons.mpr ⟨lw_p67, List.forall_mem_cons.mpr ⟨lw_p68, List.forall_mem_cons.mpr ⟨lw_p69, List.forall_mem_cons.mpr ⟨lw_p70, List.forall_mem_cons.mpr ⟨lw_p71, List.forall_mem_cons.mpr ⟨lw_p72, List.forall_mem_cons.mpr ⟨lw_p73, List.forall_mem_cons.mpr ⟨lw_p74, List.forall_mem_cons.mpr ⟨lw_p75, List.forall_mem_cons.mpr ⟨lw_p76, List.forall_mem_cons.mpr ⟨lw_p77, List.forall_mem_cons.mpr ⟨lw_p78, List.forall_mem_cons.mpr ⟨lw_p79, fun _ h => absurd h List.not_mem_nil⟩⟩⟩⟩⟩⟩⟩⟩⟩⟩⟩⟩⟩⟩⟩⟩
theorem lw_p80 : lw_okq (⟨"PolyLatheModel", "takeApart", "([I)V"⟩, 19) := ⟨⟨by decide +kernel, by decide +kernel⟩, List.mem_of_getElem? (i := 1074) (by decide +kernel), List.mem_of_getElem? (i := 1424) (by decide +kernel), List.mem_of_getElem? (i := 1425) (by decide +kernel)⟩
theorem lw_p81 : lw_okq (⟨"PolyLatheModel", "split", "([I)V"⟩, 19) := ⟨⟨by decide +kernel, by decide +kernel⟩, List.mem_of_getElem? (i := 1074) (by decide +kernel), List.mem_of_getElem? (i := 1428) (by decide +kernel), List.mem_of_getElem? (i := 1429) (by decide +kernel)⟩
theorem lw_p82 : lw_okq (⟨"PolyLatheModel", "addPiece", "([I)V"⟩, 19) := ⟨⟨by decide +kernel, by decide +kernel⟩, List.mem_of_getElem? (i := 1074) (by decide +kernel), List.mem_of_getElem? (i := 1432) (by decide +kernel), List.mem_of_getElem? (i := 1433) (by decide +kernel)⟩
theorem lw_p83 : lw_okq (⟨"PolyLatheModel", "kernel", "([II)[I"⟩, 19) := ⟨⟨by decide +kernel, by decide +kernel⟩, List.mem_of_getElem? (i := 1074) (by decide +kernel), List.mem_of_getElem? (i := 1436) (by decide +kernel), List.mem_of_getElem? (i := 1437) (by decide +kernel)⟩
theorem lw_p84 : lw_okq (⟨"PolyLatheModel", "pieceAt", "(I)[I"⟩, 19) := ⟨⟨by decide +kernel, by decide +kernel⟩, List.mem_of_getElem? (i := 1074) (by decide +kernel), List.mem_of_getElem? (i := 1444) (by decide +kernel), List.mem_of_getElem? (i := 1445) (by decide +kernel)⟩
theorem lw_p85 : lw_okq (⟨"PolyLatheModel", "divideOut", "([I[I)I"⟩, 19) := ⟨⟨by decide +kernel, by decide +kernel⟩, List.mem_of_getElem? (i := 1074) (by decide +kernel), List.mem_of_getElem? (i := 1448) (by decide +kernel), List.mem_of_getElem? (i := 1449) (by decide +kernel)⟩
theorem lw_p86 : lw_okq (⟨"PolyLatheModel", "isAhead", "([I[I)Z"⟩, 19) := ⟨⟨by decide +kernel, by decide +kernel⟩, List.mem_of_getElem? (i := 1074) (by decide +kernel), List.mem_of_getElem? (i := 1455) (by decide +kernel), List.mem_of_getElem? (i := 1456) (by decide +kernel)⟩
theorem lw_p87 : lw_okq (⟨"PolyLatheModel", "partTold", "(II)I"⟩, 19) := ⟨⟨by decide +kernel, by decide +kernel⟩, List.mem_of_getElem? (i := 1074) (by decide +kernel), List.mem_of_getElem? (i := 1463) (by decide +kernel), List.mem_of_getElem? (i := 1464) (by decide +kernel)⟩
theorem lw_p88 : lw_okq (⟨"PolyLatheModel", "foundAt", "(I)[I"⟩, 19) := ⟨⟨by decide +kernel, by decide +kernel⟩, List.mem_of_getElem? (i := 1074) (by decide +kernel), List.mem_of_getElem? (i := 1467) (by decide +kernel), List.mem_of_getElem? (i := 1468) (by decide +kernel)⟩
theorem lw_p89 : lw_okq (⟨"PolyLatheModel", "over", "(J[I)J"⟩, 19) := ⟨⟨by decide +kernel, by decide +kernel⟩, List.mem_of_getElem? (i := 1074) (by decide +kernel), List.mem_of_getElem? (i := 1493) (by decide +kernel), List.mem_of_getElem? (i := 1494) (by decide +kernel)⟩
def lw_privs_6 : List (MethodName × Nat) := [(⟨"PolyLatheModel", "takeApart", "([I)V"⟩, 19), (⟨"PolyLatheModel", "split", "([I)V"⟩, 19), (⟨"PolyLatheModel", "addPiece", "([I)V"⟩, 19), (⟨"PolyLatheModel", "kernel", "([II)[I"⟩, 19), (⟨"PolyLatheModel", "pieceAt", "(I)[I"⟩, 19), (⟨"PolyLatheModel", "divideOut", "([I[I)I"⟩, 19), (⟨"PolyLatheModel", "isAhead", "([I[I)Z"⟩, 19), (⟨"PolyLatheModel", "partTold", "(II)I"⟩, 19), (⟨"PolyLatheModel", "foundAt", "(I)[I"⟩, 19), (⟨"PolyLatheModel", "over", "(J[I)J"⟩, 19)]
theorem lw_r6 : ∀ q ∈ lw_privs_6, lw_okq q := List.forall_mem_cons.mpr ⟨lw_p80, List.forall_mem_cons.mpr ⟨lw_p81, List.forall_mem_cons.mpr ⟨lw_p82, List.forall_mem_cons.mpr ⟨lw_p83, List.forall_mem_cons.mpr ⟨lw_p84, List.forall_mem_cons.mpr ⟨lw_p85, List.forall_mem_cons.mpr ⟨lw_p86, List.forall_mem_cons.mpr ⟨lw_p87, List.forall_mem_cons.mpr ⟨lw_p88, List.forall_mem_cons.mpr ⟨lw_p89, fun _ h => absurd h List.not_mem_nil⟩⟩⟩⟩⟩⟩⟩⟩⟩⟩
def lw_privs : List (MethodName × Nat) := lw_privs_1 ++ (lw_privs_2 ++ (lw_privs_3 ++ (lw_privs_4 ++ (lw_privs_5 ++ (lw_privs_6)))))
def lw_tbl : List Cond := k2_sels lw_privs ++ tables_1
theorem lw_privs_ok : ∀ q ∈ lw_privs, lw_okq q := by
  show ∀ q ∈ lw_privs_1 ++ (lw_privs_2 ++ (lw_privs_3 ++ (lw_privs_4 ++ (lw_privs_5 ++ (lw_privs_6))))), lw_okq q
  exact List.forall_mem_append.mpr ⟨lw_r1, List.forall_mem_append.mpr ⟨lw_r2, List.forall_mem_append.mpr ⟨lw_r3, List.forall_mem_append.mpr ⟨lw_r4, List.forall_mem_append.mpr ⟨lw_r5, lw_r6⟩⟩⟩⟩⟩
/-- the streams that the claim lets the run draw from -/
abbrev lw_cs : List Choice := [Jvm.Choice.named "NaN.bits"]
theorem lw_bits : nanBits ∈ lw_cs := by first | decide | exact List.mem_cons_self | simp [lw_cs, nanBits]

def RX0 : String := "PolyLathe$Euclid"
def TX0 : u_T := fun k => match k with
  | 0 => ("PolyLathe$Euclid", "field", "LPolyLathe$Field;", true)
  | 1 => ("PolyLathe$Euclid", "quotient", "LPolyLathe$Poly;", true)
  | 2 => ("PolyLathe$Euclid", "work", "LPolyLathe$Poly;", true)
  | 3 => ("PolyLathe$Euclid", "r", "LPolyLathe$Poly;", false)
  | 4 => ("PolyLathe$Euclid", "nextR", "LPolyLathe$Poly;", false)
  | 5 => ("PolyLathe$Euclid", "s", "LPolyLathe$Poly;", false)
  | 6 => ("PolyLathe$Euclid", "nextS", "LPolyLathe$Poly;", false)
  | 7 => ("PolyLathe$Euclid", "t", "LPolyLathe$Poly;", false)
  | _ => ("PolyLathe$Euclid", "nextT", "LPolyLathe$Poly;", false)
def tyX0 : Nat → FieldType := fun k => match k with
  | 0 => .object "PolyLathe$Field"
  | 1 => .object "PolyLathe$Poly"
  | 2 => .object "PolyLathe$Poly"
  | 3 => .object "PolyLathe$Poly"
  | 4 => .object "PolyLathe$Poly"
  | 5 => .object "PolyLathe$Poly"
  | 6 => .object "PolyLathe$Poly"
  | 7 => .object "PolyLathe$Poly"
  | _ => .object "PolyLathe$Poly"
theorem nmX0 : ∀ a, a < 9 → ∀ b, b < 9 → a ≠ b → (TX0 a).2.1 ≠ (TX0 b).2.1 := by decide +kernel
theorem tyX0_ok : ∀ k, k < 9 → parseFieldDescriptor (TX0 k).2.2.1 = some (tyX0 k) := by decide +kernel
def RX1 : String := "PolyLathe$Field"
def TX1 : u_T := fun k => match k with
  | 0 => ("PolyLathe$Field", "p", "I", false)
  | _ => ("PolyLathe$Field", "inverses", "[I", true)
def tyX1 : Nat → FieldType := fun k => match k with
  | 0 => .int
  | _ => .array .int
theorem nmX1 : ∀ a, a < 2 → ∀ b, b < 2 → a ≠ b → (TX1 a).2.1 ≠ (TX1 b).2.1 := by decide +kernel
theorem tyX1_ok : ∀ k, k < 2 → parseFieldDescriptor (TX1 k).2.2.1 = some (tyX1 k) := by decide +kernel
def RX2 : String := "PolyLathe$Points"
def TX2 : u_T := fun k => match k with
  | 0 => ("PolyLathe$Points", "field", "LPolyLathe$Field;", true)
  | 1 => ("PolyLathe$Points", "heights", "[I", true)
  | _ => ("PolyLathe$Points", "size", "I", false)
def tyX2 : Nat → FieldType := fun k => match k with
  | 0 => .object "PolyLathe$Field"
  | 1 => .array .int
  | _ => .int
theorem nmX2 : ∀ a, a < 3 → ∀ b, b < 3 → a ≠ b → (TX2 a).2.1 ≠ (TX2 b).2.1 := by decide +kernel
theorem tyX2_ok : ∀ k, k < 3 → parseFieldDescriptor (TX2 k).2.2.1 = some (tyX2 k) := by decide +kernel
def RX3 : String := "PolyLathe$Poly"
def TX3 : u_T := fun k => match k with
  | 0 => ("PolyLathe$Poly", "field", "LPolyLathe$Field;", true)
  | 1 => ("PolyLathe$Poly", "row", "[I", true)
  | _ => ("PolyLathe$Poly", "high", "I", false)
def tyX3 : Nat → FieldType := fun k => match k with
  | 0 => .object "PolyLathe$Field"
  | 1 => .array .int
  | _ => .int
theorem nmX3 : ∀ a, a < 3 → ∀ b, b < 3 → a ≠ b → (TX3 a).2.1 ≠ (TX3 b).2.1 := by decide +kernel
theorem tyX3_ok : ∀ k, k < 3 → parseFieldDescriptor (TX3 k).2.2.1 = some (tyX3 k) := by decide +kernel
def RX4 : String := "PolyLathe$Reader"
def TX4 : u_T := fun k => match k with
  | 0 => ("PolyLathe$Reader", "field", "LPolyLathe$Field;", true)
  | 1 => ("PolyLathe$Reader", "tape", "LPolyLathe$Text;", true)
  | 2 => ("PolyLathe$Reader", "registers", "[LPolyLathe$Poly;", true)
  | 3 => ("PolyLathe$Reader", "pile", "[LPolyLathe$Poly;", true)
  | 4 => ("PolyLathe$Reader", "base", "LPolyLathe$Poly;", true)
  | 5 => ("PolyLathe$Reader", "work", "LPolyLathe$Poly;", true)
  | 6 => ("PolyLathe$Reader", "height", "I", false)
  | 7 => ("PolyLathe$Reader", "place", "I", false)
  | 8 => ("PolyLathe$Reader", "wrongAt", "I", false)
  | _ => ("PolyLathe$Reader", "greatAt", "I", false)
def tyX4 : Nat → FieldType := fun k => match k with
  | 0 => .object "PolyLathe$Field"
  | 1 => .object "PolyLathe$Text"
  | 2 => .array (.object "PolyLathe$Poly")
  | 3 => .array (.object "PolyLathe$Poly")
  | 4 => .object "PolyLathe$Poly"
  | 5 => .object "PolyLathe$Poly"
  | 6 => .int
  | 7 => .int
  | 8 => .int
  | _ => .int
theorem nmX4 : ∀ a, a < 10 → ∀ b, b < 10 → a ≠ b → (TX4 a).2.1 ≠ (TX4 b).2.1 := by decide +kernel
theorem tyX4_ok : ∀ k, k < 10 → parseFieldDescriptor (TX4 k).2.2.1 = some (tyX4 k) := by decide +kernel
def RX5 : String := "PolyLathe$Splitter"
def TX5 : u_T := fun k => match k with
  | 0 => ("PolyLathe$Splitter", "field", "LPolyLathe$Field;", true)
  | 1 => ("PolyLathe$Splitter", "euclid", "LPolyLathe$Euclid;", true)
  | 2 => ("PolyLathe$Splitter", "primes", "[LPolyLathe$Poly;", true)
  | 3 => ("PolyLathe$Splitter", "times", "[I", true)
  | 4 => ("PolyLathe$Splitter", "size", "I", false)
  | 5 => ("PolyLathe$Splitter", "grid", "[I", true)
  | 6 => ("PolyLathe$Splitter", "pivots", "[I", true)
  | 7 => ("PolyLathe$Splitter", "order", "I", false)
  | 8 => ("PolyLathe$Splitter", "rest", "LPolyLathe$Poly;", true)
  | 9 => ("PolyLathe$Splitter", "slope", "LPolyLathe$Poly;", true)
  | 10 => ("PolyLathe$Splitter", "quotient", "LPolyLathe$Poly;", true)
  | _ => ("PolyLathe$Splitter", "vector", "LPolyLathe$Poly;", true)
def tyX5 : Nat → FieldType := fun k => match k with
  | 0 => .object "PolyLathe$Field"
  | 1 => .object "PolyLathe$Euclid"
  | 2 => .array (.object "PolyLathe$Poly")
  | 3 => .array .int
  | 4 => .int
  | 5 => .array .int
  | 6 => .array .int
  | 7 => .int
  | 8 => .object "PolyLathe$Poly"
  | 9 => .object "PolyLathe$Poly"
  | 10 => .object "PolyLathe$Poly"
  | _ => .object "PolyLathe$Poly"
theorem nmX5 : ∀ a, a < 12 → ∀ b, b < 12 → a ≠ b → (TX5 a).2.1 ≠ (TX5 b).2.1 := by decide +kernel
theorem tyX5_ok : ∀ k, k < 12 → parseFieldDescriptor (TX5 k).2.2.1 = some (tyX5 k) := by decide +kernel
def RX6 : String := "PolyLathe$Text"
def TX6 : u_T := fun k => match k with
  | 0 => ("PolyLathe$Text", "bytes", "[I", true)
  | _ => ("PolyLathe$Text", "size", "I", false)
def tyX6 : Nat → FieldType := fun k => match k with
  | 0 => .array .int
  | _ => .int
theorem nmX6 : ∀ a, a < 2 → ∀ b, b < 2 → a ≠ b → (TX6 a).2.1 ≠ (TX6 b).2.1 := by decide +kernel
theorem tyX6_ok : ∀ k, k < 2 → parseFieldDescriptor (TX6 k).2.2.1 = some (tyX6 k) := by decide +kernel
def RX7 : String := "PolyLathe"
def TX7 : u_T := fun k => match k with
  | 0 => ("PolyLathe", "field", "LPolyLathe$Field;", true)
  | 1 => ("PolyLathe", "registers", "[LPolyLathe$Poly;", true)
  | 2 => ("PolyLathe", "tape", "LPolyLathe$Text;", true)
  | 3 => ("PolyLathe", "paper", "LPolyLathe$Text;", true)
  | 4 => ("PolyLathe", "reader", "LPolyLathe$Reader;", true)
  | 5 => ("PolyLathe", "points", "LPolyLathe$Points;", true)
  | 6 => ("PolyLathe", "euclid", "LPolyLathe$Euclid;", true)
  | 7 => ("PolyLathe", "splitter", "LPolyLathe$Splitter;", true)
  | 8 => ("PolyLathe", "answer", "LPolyLathe$Poly;", true)
  | 9 => ("PolyLathe", "second", "LPolyLathe$Poly;", true)
  | _ => ("PolyLathe", "work", "LPolyLathe$Poly;", true)
def tyX7 : Nat → FieldType := fun k => match k with
  | 0 => .object "PolyLathe$Field"
  | 1 => .array (.object "PolyLathe$Poly")
  | 2 => .object "PolyLathe$Text"
  | 3 => .object "PolyLathe$Text"
  | 4 => .object "PolyLathe$Reader"
  | 5 => .object "PolyLathe$Points"
  | 6 => .object "PolyLathe$Euclid"
  | 7 => .object "PolyLathe$Splitter"
  | 8 => .object "PolyLathe$Poly"
  | 9 => .object "PolyLathe$Poly"
  | _ => .object "PolyLathe$Poly"
theorem nmX7 : ∀ a, a < 11 → ∀ b, b < 11 → a ≠ b → (TX7 a).2.1 ≠ (TX7 b).2.1 := by decide +kernel
theorem tyX7_ok : ∀ k, k < 11 → parseFieldDescriptor (TX7 k).2.2.1 = some (tyX7 k) := by decide +kernel
def RX8 : String := "PolyLatheModel"
def TX8 : u_T := fun k => match k with
  | 0 => ("PolyLatheModel", "thrown", "I", false)
  | 1 => ("PolyLatheModel", "p", "I", false)
  | 2 => ("PolyLatheModel", "registers", "[I", true)
  | 3 => ("PolyLatheModel", "tape", "[I", true)
  | 4 => ("PolyLatheModel", "length", "I", false)
  | 5 => ("PolyLatheModel", "errorAt", "I", false)
  | 6 => ("PolyLatheModel", "at", "I", false)
  | 7 => ("PolyLatheModel", "paper", "[I", true)
  | 8 => ("PolyLatheModel", "papered", "I", false)
  | 9 => ("PolyLatheModel", "points", "[I", true)
  | 10 => ("PolyLatheModel", "factors", "I", false)
  | 11 => ("PolyLatheModel", "found", "[I", true)
  | 12 => ("PolyLatheModel", "often", "[I", true)
  | 13 => ("PolyLatheModel", "isReckoning", "Z", false)
  | 14 => ("PolyLatheModel", "isWrong", "Z", false)
  | 15 => ("PolyLatheModel", "pieces", "I", false)
  | 16 => ("PolyLatheModel", "piece", "[I", true)
  | 17 => ("PolyLatheModel", "one", "[I", true)
  | _ => ("PolyLatheModel", "two", "[I", true)
def tyX8 : Nat → FieldType := fun k => match k with
  | 0 => .int
  | 1 => .int
  | 2 => .array .int
  | 3 => .array .int
  | 4 => .int
  | 5 => .int
  | 6 => .int
  | 7 => .array .int
  | 8 => .int
  | 9 => .array .int
  | 10 => .int
  | 11 => .array .int
  | 12 => .array .int
  | 13 => .boolean
  | 14 => .boolean
  | 15 => .int
  | 16 => .array .int
  | 17 => .array .int
  | _ => .array .int
theorem nmX8 : ∀ a, a < 19 → ∀ b, b < 19 → a ≠ b → (TX8 a).2.1 ≠ (TX8 b).2.1 := by decide +kernel
theorem tyX8_ok : ∀ k, k < 19 → parseFieldDescriptor (TX8 k).2.2.1 = some (tyX8 k) := by decide +kernel
def RE0 : String := "java/lang/IllegalArgumentException"
def RE1 : String := "java/lang/IndexOutOfBoundsException"
def RE2 : String := "java/lang/IllegalStateException"
def TE : u_T := fun _ => ("", "", "I", false)
abbrev zvCl : List vw_C := [(RX0, TX0, 9), (RX1, TX1, 2), (RX2, TX2, 3), (RX3, TX3, 3), (RX4, TX4, 10), (RX5, TX5, 12), (RX6, TX6, 2), (RX7, TX7, 11), (RX8, TX8, 19), (RE0, TE, 0), (RE1, TE, 0), (RE2, TE, 0)]
def zc_ty : Nat → Nat → FieldType := fun k => match k with
  | 0 => tyX0
  | 1 => tyX1
  | 2 => tyX2
  | 3 => tyX3
  | 4 => tyX4
  | 5 => tyX5
  | 6 => tyX6
  | 7 => tyX7
  | 8 => tyX8
  | _ => fun _ => .int
theorem zc_all : ∀ (k : Nat) (r : vw_C), zvCl[k]? = some r → (∀ a, a < r.2.2 → ∀ b, b < r.2.2 → a ≠ b → (r.2.1 a).2.1 ≠ (r.2.1 b).2.1) ∧ (∀ j, j < r.2.2 → parseFieldDescriptor (r.2.1 j).2.2.1 = some (zc_ty k j)) := by
  intro k r h
  match k, h with
  | 0, h => cases h; exact ⟨nmX0, tyX0_ok⟩
  | 1, h => cases h; exact ⟨nmX1, tyX1_ok⟩
  | 2, h => cases h; exact ⟨nmX2, tyX2_ok⟩
  | 3, h => cases h; exact ⟨nmX3, tyX3_ok⟩
  | 4, h => cases h; exact ⟨nmX4, tyX4_ok⟩
  | 5, h => cases h; exact ⟨nmX5, tyX5_ok⟩
  | 6, h => cases h; exact ⟨nmX6, tyX6_ok⟩
  | 7, h => cases h; exact ⟨nmX7, tyX7_ok⟩
  | 8, h => cases h; exact ⟨nmX8, tyX8_ok⟩
  | 9, h => cases h; exact ⟨fun a h => absurd h (Nat.not_lt_zero a), fun a h => absurd h (Nat.not_lt_zero a)⟩
  | 10, h => cases h; exact ⟨fun a h => absurd h (Nat.not_lt_zero a), fun a h => absurd h (Nat.not_lt_zero a)⟩
  | 11, h => cases h; exact ⟨fun a h => absurd h (Nat.not_lt_zero a), fun a h => absurd h (Nat.not_lt_zero a)⟩
  | k + 12, h => simp [zvCl] at h
