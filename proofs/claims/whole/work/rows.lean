section
-- ===== PART A: goes FIRST, ahead of the names: the tables' words, and 'selects' of the private methods out of them =====
/-- a private method of a class that the tables say can be made, by its rows of tables_1 -/
def lw_okq (q : MethodName × Nat) : Prop := (q.1.cls ≠ "java/lang/invoke/MethodHandle" ∧ q.1.cls ≠ "java/lang/invoke/VarHandle") ∧ Cond.instantiable q.1.cls q.2 ∈ tables_1 ∧ Cond.privateMethod q.1 ∈ tables_1 ∧ Cond.instanceMethod q.1 ∈ tables_1
theorem lw_p0 : lw_okq (⟨"SpanBook", "change", "(IZII)V"⟩, 11) := ⟨⟨by decide +kernel, by decide +kernel⟩, List.mem_of_getElem? (i := 15) (by decide +kernel), List.mem_of_getElem? (i := 339) (by decide +kernel), List.mem_of_getElem? (i := 340) (by decide +kernel)⟩
theorem lw_p1 : lw_okq (⟨"SpanBook", "setSpan", "(IZII)V"⟩, 11) := ⟨⟨by decide +kernel, by decide +kernel⟩, List.mem_of_getElem? (i := 15) (by decide +kernel), List.mem_of_getElem? (i := 350) (by decide +kernel), List.mem_of_getElem? (i := 351) (by decide +kernel)⟩
theorem lw_p2 : lw_okq (⟨"SpanBook$Spans", "setRank", "(II)V"⟩, 6) := ⟨⟨by decide +kernel, by decide +kernel⟩, List.mem_of_getElem? (i := 23) (by decide +kernel), List.mem_of_getElem? (i := 358) (by decide +kernel), List.mem_of_getElem? (i := 359) (by decide +kernel)⟩
theorem lw_p3 : lw_okq (⟨"SpanBook$Spans", "isAhead", "(II)Z"⟩, 6) := ⟨⟨by decide +kernel, by decide +kernel⟩, List.mem_of_getElem? (i := 23) (by decide +kernel), List.mem_of_getElem? (i := 366) (by decide +kernel), List.mem_of_getElem? (i := 367) (by decide +kernel)⟩
theorem lw_p4 : lw_okq (⟨"SpanBook", "found", "(I)I"⟩, 11) := ⟨⟨by decide +kernel, by decide +kernel⟩, List.mem_of_getElem? (i := 15) (by decide +kernel), List.mem_of_getElem? (i := 395) (by decide +kernel), List.mem_of_getElem? (i := 396) (by decide +kernel)⟩
theorem lw_p5 : lw_okq (⟨"SpanBook", "isThere", "(I)Z"⟩, 11) := ⟨⟨by decide +kernel, by decide +kernel⟩, List.mem_of_getElem? (i := 15) (by decide +kernel), List.mem_of_getElem? (i := 407) (by decide +kernel), List.mem_of_getElem? (i := 408) (by decide +kernel)⟩
theorem lw_p6 : lw_okq (⟨"SpanBook", "settle", "()V"⟩, 11) := ⟨⟨by decide +kernel, by decide +kernel⟩, List.mem_of_getElem? (i := 15) (by decide +kernel), List.mem_of_getElem? (i := 424) (by decide +kernel), List.mem_of_getElem? (i := 425) (by decide +kernel)⟩
theorem lw_p7 : lw_okq (⟨"SpanBook$Tree", "hang", "(ILSpanBook$Spans;)V"⟩, 10) := ⟨⟨by decide +kernel, by decide +kernel⟩, List.mem_of_getElem? (i := 114) (by decide +kernel), List.mem_of_getElem? (i := 432) (by decide +kernel), List.mem_of_getElem? (i := 433) (by decide +kernel)⟩
theorem lw_p8 : lw_okq (⟨"SpanBook$Tree", "tellAbove", "(II)V"⟩, 10) := ⟨⟨by decide +kernel, by decide +kernel⟩, List.mem_of_getElem? (i := 114) (by decide +kernel), List.mem_of_getElem? (i := 436) (by decide +kernel), List.mem_of_getElem? (i := 437) (by decide +kernel)⟩
theorem lw_p9 : lw_okq (⟨"SpanBook$Gaps", "addPart", "(II)V"⟩, 3) := ⟨⟨by decide +kernel, by decide +kernel⟩, List.mem_of_getElem? (i := 164) (by decide +kernel), List.mem_of_getElem? (i := 448) (by decide +kernel), List.mem_of_getElem? (i := 449) (by decide +kernel)⟩
theorem lw_p10 : lw_okq (⟨"SpanBook$Rooms", "giveRoom", "(III)V"⟩, 5) := ⟨⟨by decide +kernel, by decide +kernel⟩, List.mem_of_getElem? (i := 182) (by decide +kernel), List.mem_of_getElem? (i := 458) (by decide +kernel), List.mem_of_getElem? (i := 459) (by decide +kernel)⟩
theorem lw_p11 : lw_okq (⟨"SpanBook$Rooms", "seeDepth", "(I)V"⟩, 5) := ⟨⟨by decide +kernel, by decide +kernel⟩, List.mem_of_getElem? (i := 182) (by decide +kernel), List.mem_of_getElem? (i := 463) (by decide +kernel), List.mem_of_getElem? (i := 464) (by decide +kernel)⟩
theorem lw_p12 : lw_okq (⟨"SpanBook$Kept", "sortByTo", "(LSpanBook$Spans;)V"⟩, 3) := ⟨⟨by decide +kernel, by decide +kernel⟩, List.mem_of_getElem? (i := 209) (by decide +kernel), List.mem_of_getElem? (i := 471) (by decide +kernel), List.mem_of_getElem? (i := 472) (by decide +kernel)⟩
theorem lw_p13 : lw_okq (⟨"SpanBook$Groups", "addMember", "(II)V"⟩, 5) := ⟨⟨by decide +kernel, by decide +kernel⟩, List.mem_of_getElem? (i := 242) (by decide +kernel), List.mem_of_getElem? (i := 485) (by decide +kernel), List.mem_of_getElem? (i := 486) (by decide +kernel)⟩
theorem lw_p14 : lw_okq (⟨"SpanBook$Groups", "seeAlone", "(LSpanBook$Spans;)V"⟩, 5) := ⟨⟨by decide +kernel, by decide +kernel⟩, List.mem_of_getElem? (i := 242) (by decide +kernel), List.mem_of_getElem? (i := 491) (by decide +kernel), List.mem_of_getElem? (i := 492) (by decide +kernel)⟩
theorem lw_p15 : lw_okq (⟨"SpanBook$Tree", "looksAt", "(ILSpanBook$Spans;II)Z"⟩, 10) := ⟨⟨by decide +kernel, by decide +kernel⟩, List.mem_of_getElem? (i := 114) (by decide +kernel), List.mem_of_getElem? (i := 511) (by decide +kernel), List.mem_of_getElem? (i := 512) (by decide +kernel)⟩
def lw_privs_1 : List (MethodName × Nat) := [(⟨"SpanBook", "change", "(IZII)V"⟩, 11), (⟨"SpanBook", "setSpan", "(IZII)V"⟩, 11), (⟨"SpanBook$Spans", "setRank", "(II)V"⟩, 6), (⟨"SpanBook$Spans", "isAhead", "(II)Z"⟩, 6), (⟨"SpanBook", "found", "(I)I"⟩, 11), (⟨"SpanBook", "isThere", "(I)Z"⟩, 11), (⟨"SpanBook", "settle", "()V"⟩, 11), (⟨"SpanBook$Tree", "hang", "(ILSpanBook$Spans;)V"⟩, 10), (⟨"SpanBook$Tree", "tellAbove", "(II)V"⟩, 10), (⟨"SpanBook$Gaps", "addPart", "(II)V"⟩, 3), (⟨"SpanBook$Rooms", "giveRoom", "(III)V"⟩, 5), (⟨"SpanBook$Rooms", "seeDepth", "(I)V"⟩, 5), (⟨"SpanBook$Kept", "sortByTo", "(LSpanBook$Spans;)V"⟩, 3), (⟨"SpanBook$Groups", "addMember", "(II)V"⟩, 5), (⟨"SpanBook$Groups", "seeAlone", "(LSpanBook$Spans;)V"⟩, 5), (⟨"SpanBook$Tree", "looksAt", "(ILSpanBook$Spans;II)Z"⟩, 10)]
theorem lw_r1 : ∀ q ∈ lw_privs_1, lw_okq q := List.forall_mem_cons.mpr ⟨lw_p0, List.forall_mem_cons.mpr ⟨lw_p1, List.forall_mem_cons.mpr ⟨lw_p2, List.forall_mem_cons.mpr ⟨lw_p3, List.forall_mem_cons.mpr ⟨lw_p4, List.forall_mem_cons.mpr ⟨lw_p5, List.forall_mem_cons.mpr ⟨lw_p6, List.forall_mem_cons.mpr ⟨lw_p7, List.forall_mem_cons.mpr ⟨lw_p8, List.forall_mem_cons.mpr ⟨lw_p9, List.forall_mem_cons.mpr ⟨lw_p10, List.forall_mem_cons.mpr ⟨lw_p11, List.forall_mem_cons.mpr ⟨lw_p12, List.forall_mem_cons.mpr ⟨lw_p13, List.forall_mem_cons.mpr ⟨lw_p14, List.forall_mem_cons.mpr ⟨lw_p15, fun _ h => absurd h List.not_mem_nil⟩⟩⟩⟩⟩⟩⟩⟩⟩⟩⟩⟩⟩⟩⟩⟩
theorem lw_p16 : lw_okq (⟨"SpanBook$Gaps", "pointsOf", "(III)I"⟩, 3) := ⟨⟨by decide +kernel, by decide +kernel⟩, List.mem_of_getElem? (i := 164) (by decide +kernel), List.mem_of_getElem? (i := 549) (by decide +kernel), List.mem_of_getElem? (i := 550) (by decide +kernel)⟩
theorem lw_p17 : lw_okq (⟨"SpanBook", "itemRefusal", "(III)I"⟩, 11) := ⟨⟨by decide +kernel, by decide +kernel⟩, List.mem_of_getElem? (i := 15) (by decide +kernel), List.mem_of_getElem? (i := 651) (by decide +kernel), List.mem_of_getElem? (i := 652) (by decide +kernel)⟩
theorem lw_p18 : lw_okq (⟨"SpanBook", "mixedKey", "(JI)J"⟩, 11) := ⟨⟨by decide +kernel, by decide +kernel⟩, List.mem_of_getElem? (i := 15) (by decide +kernel), List.mem_of_getElem? (i := 696) (by decide +kernel), List.mem_of_getElem? (i := 697) (by decide +kernel)⟩
theorem lw_p19 : lw_okq (⟨"SpanBook", "mixedPoint", "(JI)J"⟩, 11) := ⟨⟨by decide +kernel, by decide +kernel⟩, List.mem_of_getElem? (i := 15) (by decide +kernel), List.mem_of_getElem? (i := 709) (by decide +kernel), List.mem_of_getElem? (i := 710) (by decide +kernel)⟩
theorem lw_p20 : lw_okq (⟨"SpanBook", "mixedStretch", "(JII)J"⟩, 11) := ⟨⟨by decide +kernel, by decide +kernel⟩, List.mem_of_getElem? (i := 15) (by decide +kernel), List.mem_of_getElem? (i := 715) (by decide +kernel), List.mem_of_getElem? (i := 716) (by decide +kernel)⟩
theorem lw_p21 : lw_okq (⟨"SpanBookModel", "finds", "(I)I"⟩, 33) := ⟨⟨by decide +kernel, by decide +kernel⟩, List.mem_of_getElem? (i := 724) (by decide +kernel), List.mem_of_getElem? (i := 842) (by decide +kernel), List.mem_of_getElem? (i := 843) (by decide +kernel)⟩
theorem lw_p22 : lw_okq (⟨"SpanBookModel", "lacks", "(III)I"⟩, 33) := ⟨⟨by decide +kernel, by decide +kernel⟩, List.mem_of_getElem? (i := 724) (by decide +kernel), List.mem_of_getElem? (i := 854) (by decide +kernel), List.mem_of_getElem? (i := 855) (by decide +kernel)⟩
theorem lw_p23 : lw_okq (⟨"SpanBookModel", "comes", "(III)V"⟩, 33) := ⟨⟨by decide +kernel, by decide +kernel⟩, List.mem_of_getElem? (i := 724) (by decide +kernel), List.mem_of_getElem? (i := 886) (by decide +kernel), List.mem_of_getElem? (i := 887) (by decide +kernel)⟩
theorem lw_p24 : lw_okq (⟨"SpanBookModel", "remembers", "(II)V"⟩, 33) := ⟨⟨by decide +kernel, by decide +kernel⟩, List.mem_of_getElem? (i := 724) (by decide +kernel), List.mem_of_getElem? (i := 890) (by decide +kernel), List.mem_of_getElem? (i := 891) (by decide +kernel)⟩
theorem lw_p25 : lw_okq (⟨"SpanBookModel", "leaves", "(I)V"⟩, 33) := ⟨⟨by decide +kernel, by decide +kernel⟩, List.mem_of_getElem? (i := 724) (by decide +kernel), List.mem_of_getElem? (i := 898) (by decide +kernel), List.mem_of_getElem? (i := 899) (by decide +kernel)⟩
theorem lw_p26 : lw_okq (⟨"SpanBookModel", "leastKey", "()I"⟩, 33) := ⟨⟨by decide +kernel, by decide +kernel⟩, List.mem_of_getElem? (i := 724) (by decide +kernel), List.mem_of_getElem? (i := 914) (by decide +kernel), List.mem_of_getElem? (i := 915) (by decide +kernel)⟩
theorem lw_p27 : lw_okq (⟨"SpanBookModel", "has", "(I)Z"⟩, 33) := ⟨⟨by decide +kernel, by decide +kernel⟩, List.mem_of_getElem? (i := 724) (by decide +kernel), List.mem_of_getElem? (i := 923) (by decide +kernel), List.mem_of_getElem? (i := 924) (by decide +kernel)⟩
theorem lw_p28 : lw_okq (⟨"SpanBookModel", "orders", "()V"⟩, 33) := ⟨⟨by decide +kernel, by decide +kernel⟩, List.mem_of_getElem? (i := 724) (by decide +kernel), List.mem_of_getElem? (i := 934) (by decide +kernel), List.mem_of_getElem? (i := 935) (by decide +kernel)⟩
theorem lw_p29 : lw_okq (⟨"SpanBookModel", "isAhead", "(II)Z"⟩, 33) := ⟨⟨by decide +kernel, by decide +kernel⟩, List.mem_of_getElem? (i := 724) (by decide +kernel), List.mem_of_getElem? (i := 938) (by decide +kernel), List.mem_of_getElem? (i := 939) (by decide +kernel)⟩
theorem lw_p30 : lw_okq (⟨"SpanBookModel", "keyAt", "(I)I"⟩, 33) := ⟨⟨by decide +kernel, by decide +kernel⟩, List.mem_of_getElem? (i := 724) (by decide +kernel), List.mem_of_getElem? (i := 946) (by decide +kernel), List.mem_of_getElem? (i := 947) (by decide +kernel)⟩
theorem lw_p31 : lw_okq (⟨"SpanBookModel", "grows", "()V"⟩, 33) := ⟨⟨by decide +kernel, by decide +kernel⟩, List.mem_of_getElem? (i := 724) (by decide +kernel), List.mem_of_getElem? (i := 954) (by decide +kernel), List.mem_of_getElem? (i := 955) (by decide +kernel)⟩
def lw_privs_2 : List (MethodName × Nat) := [(⟨"SpanBook$Gaps", "pointsOf", "(III)I"⟩, 3), (⟨"SpanBook", "itemRefusal", "(III)I"⟩, 11), (⟨"SpanBook", "mixedKey", "(JI)J"⟩, 11), (⟨"SpanBook", "mixedPoint", "(JI)J"⟩, 11), (⟨"SpanBook", "mixedStretch", "(JII)J"⟩, 11), (⟨"SpanBookModel", "finds", "(I)I"⟩, 33), (⟨"SpanBookModel", "lacks", "(III)I"⟩, 33), (⟨"SpanBookModel", "comes", "(III)V"⟩, 33), (⟨"SpanBookModel", "remembers", "(II)V"⟩, 33), (⟨"SpanBookModel", "leaves", "(I)V"⟩, 33), (⟨"SpanBookModel", "leastKey", "()I"⟩, 33), (⟨"SpanBookModel", "has", "(I)Z"⟩, 33), (⟨"SpanBookModel", "orders", "()V"⟩, 33), (⟨"SpanBookModel", "isAhead", "(II)Z"⟩, 33), (⟨"SpanBookModel", "keyAt", "(I)I"⟩, 33), (⟨"SpanBookModel", "grows", "()V"⟩, 33)]
theorem lw_r2 : ∀ q ∈ lw_privs_2, lw_okq q := List.forall_mem_cons.mpr ⟨lw_p16, List.forall_mem_cons.mpr ⟨lw_p17, List.forall_mem_cons.mpr ⟨lw_p18, List.forall_mem_cons.mpr ⟨lw_p19, List.forall_mem_cons.mpr ⟨lw_p20, List.forall_mem_cons.mpr ⟨lw_p21, List.forall_mem_cons.mpr ⟨lw_p22, List.forall_mem_cons.mpr ⟨lw_p23, List.forall_mem_cons.mpr ⟨lw_p24, List.forall_mem_cons.mpr ⟨lw_p25, List.forall_mem_cons.mpr ⟨lw_p26, List.forall_mem_cons.mpr ⟨lw_p27, List.forall_mem_cons.mpr ⟨lw_p28, List.forall_mem_cons.mpr ⟨lw_p29, List.forall_mem_cons.mpr ⟨lw_p30, List.forall_mem_cons.mpr ⟨lw_p31, fun _ h => absurd h List.not_mem_nil⟩⟩⟩⟩⟩⟩⟩⟩⟩⟩⟩⟩⟩⟩⟩⟩
theorem lw_p32 : lw_okq (⟨"SpanBookModel", "hangs", "(IIII)I"⟩, 33) := ⟨⟨by decide +kernel, by decide +kernel⟩, List.mem_of_getElem? (i := 724) (by decide +kernel), List.mem_of_getElem? (i := 958) (by decide +kernel), List.mem_of_getElem? (i := 959) (by decide +kernel)⟩
theorem lw_p33 : lw_okq (⟨"SpanBookModel", "greatest", "(II)I"⟩, 33) := ⟨⟨by decide +kernel, by decide +kernel⟩, List.mem_of_getElem? (i := 724) (by decide +kernel), List.mem_of_getElem? (i := 962) (by decide +kernel), List.mem_of_getElem? (i := 963) (by decide +kernel)⟩
theorem lw_p34 : lw_okq (⟨"SpanBookModel", "weightAt", "(I)I"⟩, 33) := ⟨⟨by decide +kernel, by decide +kernel⟩, List.mem_of_getElem? (i := 724) (by decide +kernel), List.mem_of_getElem? (i := 966) (by decide +kernel), List.mem_of_getElem? (i := 967) (by decide +kernel)⟩
theorem lw_p35 : lw_okq (⟨"SpanBookModel", "sums", "(I)V"⟩, 33) := ⟨⟨by decide +kernel, by decide +kernel⟩, List.mem_of_getElem? (i := 724) (by decide +kernel), List.mem_of_getElem? (i := 972) (by decide +kernel), List.mem_of_getElem? (i := 973) (by decide +kernel)⟩
theorem lw_p36 : lw_okq (⟨"SpanBookModel", "treeBy", "(II)I"⟩, 33) := ⟨⟨by decide +kernel, by decide +kernel⟩, List.mem_of_getElem? (i := 724) (by decide +kernel), List.mem_of_getElem? (i := 984) (by decide +kernel), List.mem_of_getElem? (i := 985) (by decide +kernel)⟩
theorem lw_p37 : lw_okq (⟨"SpanBookModel", "looksAt", "(II)I"⟩, 33) := ⟨⟨by decide +kernel, by decide +kernel⟩, List.mem_of_getElem? (i := 724) (by decide +kernel), List.mem_of_getElem? (i := 996) (by decide +kernel), List.mem_of_getElem? (i := 997) (by decide +kernel)⟩
theorem lw_p38 : lw_okq (⟨"SpanBookModel", "meetsBy", "(III)I"⟩, 33) := ⟨⟨by decide +kernel, by decide +kernel⟩, List.mem_of_getElem? (i := 724) (by decide +kernel), List.mem_of_getElem? (i := 1005) (by decide +kernel), List.mem_of_getElem? (i := 1006) (by decide +kernel)⟩
theorem lw_p39 : lw_okq (⟨"SpanBookModel", "isMet", "(III)Z"⟩, 33) := ⟨⟨by decide +kernel, by decide +kernel⟩, List.mem_of_getElem? (i := 724) (by decide +kernel), List.mem_of_getElem? (i := 1009) (by decide +kernel), List.mem_of_getElem? (i := 1010) (by decide +kernel)⟩
theorem lw_p40 : lw_okq (⟨"SpanBookModel", "takenIn", "(II)I"⟩, 33) := ⟨⟨by decide +kernel, by decide +kernel⟩, List.mem_of_getElem? (i := 724) (by decide +kernel), List.mem_of_getElem? (i := 1021) (by decide +kernel), List.mem_of_getElem? (i := 1022) (by decide +kernel)⟩
theorem lw_p41 : lw_okq (⟨"SpanBookModel", "parts", "(II)I"⟩, 33) := ⟨⟨by decide +kernel, by decide +kernel⟩, List.mem_of_getElem? (i := 724) (by decide +kernel), List.mem_of_getElem? (i := 1025) (by decide +kernel), List.mem_of_getElem? (i := 1026) (by decide +kernel)⟩
theorem lw_p42 : lw_okq (⟨"SpanBookModel", "freeBy", "(IIII)I"⟩, 33) := ⟨⟨by decide +kernel, by decide +kernel⟩, List.mem_of_getElem? (i := 724) (by decide +kernel), List.mem_of_getElem? (i := 1038) (by decide +kernel), List.mem_of_getElem? (i := 1039) (by decide +kernel)⟩
theorem lw_p43 : lw_okq (⟨"SpanBookModel", "placeBy", "(III)I"⟩, 33) := ⟨⟨by decide +kernel, by decide +kernel⟩, List.mem_of_getElem? (i := 724) (by decide +kernel), List.mem_of_getElem? (i := 1046) (by decide +kernel), List.mem_of_getElem? (i := 1047) (by decide +kernel)⟩
theorem lw_p44 : lw_okq (⟨"SpanBookModel", "better", "(IIIII)I"⟩, 33) := ⟨⟨by decide +kernel, by decide +kernel⟩, List.mem_of_getElem? (i := 724) (by decide +kernel), List.mem_of_getElem? (i := 1050) (by decide +kernel), List.mem_of_getElem? (i := 1051) (by decide +kernel)⟩
theorem lw_p45 : lw_okq (⟨"SpanBookModel", "isPlace", "(II)Z"⟩, 33) := ⟨⟨by decide +kernel, by decide +kernel⟩, List.mem_of_getElem? (i := 724) (by decide +kernel), List.mem_of_getElem? (i := 1054) (by decide +kernel), List.mem_of_getElem? (i := 1055) (by decide +kernel)⟩
theorem lw_p46 : lw_okq (⟨"SpanBookModel", "deepest", "(I)I"⟩, 33) := ⟨⟨by decide +kernel, by decide +kernel⟩, List.mem_of_getElem? (i := 724) (by decide +kernel), List.mem_of_getElem? (i := 1070) (by decide +kernel), List.mem_of_getElem? (i := 1071) (by decide +kernel)⟩
theorem lw_p47 : lw_okq (⟨"SpanBookModel", "roomBy", "(I)I"⟩, 33) := ⟨⟨by decide +kernel, by decide +kernel⟩, List.mem_of_getElem? (i := 724) (by decide +kernel), List.mem_of_getElem? (i := 1082) (by decide +kernel), List.mem_of_getElem? (i := 1083) (by decide +kernel)⟩
def lw_privs_3 : List (MethodName × Nat) := [(⟨"SpanBookModel", "hangs", "(IIII)I"⟩, 33), (⟨"SpanBookModel", "greatest", "(II)I"⟩, 33), (⟨"SpanBookModel", "weightAt", "(I)I"⟩, 33), (⟨"SpanBookModel", "sums", "(I)V"⟩, 33), (⟨"SpanBookModel", "treeBy", "(II)I"⟩, 33), (⟨"SpanBookModel", "looksAt", "(II)I"⟩, 33), (⟨"SpanBookModel", "meetsBy", "(III)I"⟩, 33), (⟨"SpanBookModel", "isMet", "(III)Z"⟩, 33), (⟨"SpanBookModel", "takenIn", "(II)I"⟩, 33), (⟨"SpanBookModel", "parts", "(II)I"⟩, 33), (⟨"SpanBookModel", "freeBy", "(IIII)I"⟩, 33), (⟨"SpanBookModel", "placeBy", "(III)I"⟩, 33), (⟨"SpanBookModel", "better", "(IIIII)I"⟩, 33), (⟨"SpanBookModel", "isPlace", "(II)Z"⟩, 33), (⟨"SpanBookModel", "deepest", "(I)I"⟩, 33), (⟨"SpanBookModel", "roomBy", "(I)I"⟩, 33)]
theorem lw_r3 : ∀ q ∈ lw_privs_3, lw_okq q := List.forall_mem_cons.mpr ⟨lw_p32, List.forall_mem_cons.mpr ⟨lw_p33, List.forall_mem_cons.mpr ⟨lw_p34, List.forall_mem_cons.mpr ⟨lw_p35, List.forall_mem_cons.mpr ⟨lw_p36, List.forall_mem_cons.mpr ⟨lw_p37, List.forall_mem_cons.mpr ⟨lw_p38, List.forall_mem_cons.mpr ⟨lw_p39, List.forall_mem_cons.mpr ⟨lw_p40, List.forall_mem_cons.mpr ⟨lw_p41, List.forall_mem_cons.mpr ⟨lw_p42, List.forall_mem_cons.mpr ⟨lw_p43, List.forall_mem_cons.mpr ⟨lw_p44, List.forall_mem_cons.mpr ⟨lw_p45, List.forall_mem_cons.mpr ⟨lw_p46, List.forall_mem_cons.mpr ⟨lw_p47, fun _ h => absurd h List.not_mem_nil⟩⟩⟩⟩⟩⟩⟩⟩⟩⟩⟩⟩⟩⟩⟩⟩
theorem lw_p48 : lw_okq (⟨"SpanBookModel", "gives", "()I"⟩, 33) := ⟨⟨by decide +kernel, by decide +kernel⟩, List.mem_of_getElem? (i := 724) (by decide +kernel), List.mem_of_getElem? (i := 1086) (by decide +kernel), List.mem_of_getElem? (i := 1087) (by decide +kernel)⟩
theorem lw_p49 : lw_okq (⟨"SpanBookModel", "isUsed", "(II)Z"⟩, 33) := ⟨⟨by decide +kernel, by decide +kernel⟩, List.mem_of_getElem? (i := 724) (by decide +kernel), List.mem_of_getElem? (i := 1090) (by decide +kernel), List.mem_of_getElem? (i := 1091) (by decide +kernel)⟩
theorem lw_p50 : lw_okq (⟨"SpanBookModel", "meetsRank", "(II)Z"⟩, 33) := ⟨⟨by decide +kernel, by decide +kernel⟩, List.mem_of_getElem? (i := 724) (by decide +kernel), List.mem_of_getElem? (i := 1094) (by decide +kernel), List.mem_of_getElem? (i := 1095) (by decide +kernel)⟩
theorem lw_p51 : lw_okq (⟨"SpanBookModel", "keepBy", "(I)I"⟩, 33) := ⟨⟨by decide +kernel, by decide +kernel⟩, List.mem_of_getElem? (i := 724) (by decide +kernel), List.mem_of_getElem? (i := 1102) (by decide +kernel), List.mem_of_getElem? (i := 1103) (by decide +kernel)⟩
theorem lw_p52 : lw_okq (⟨"SpanBookModel", "keeps", "()I"⟩, 33) := ⟨⟨by decide +kernel, by decide +kernel⟩, List.mem_of_getElem? (i := 724) (by decide +kernel), List.mem_of_getElem? (i := 1106) (by decide +kernel), List.mem_of_getElem? (i := 1107) (by decide +kernel)⟩
theorem lw_p53 : lw_okq (⟨"SpanBookModel", "manyClashes", "()I"⟩, 33) := ⟨⟨by decide +kernel, by decide +kernel⟩, List.mem_of_getElem? (i := 724) (by decide +kernel), List.mem_of_getElem? (i := 1114) (by decide +kernel), List.mem_of_getElem? (i := 1115) (by decide +kernel)⟩
theorem lw_p54 : lw_okq (⟨"SpanBookModel", "clashBy", "(II)I"⟩, 33) := ⟨⟨by decide +kernel, by decide +kernel⟩, List.mem_of_getElem? (i := 724) (by decide +kernel), List.mem_of_getElem? (i := 1123) (by decide +kernel), List.mem_of_getElem? (i := 1124) (by decide +kernel)⟩
theorem lw_p55 : lw_okq (⟨"SpanBookModel", "clashOf", "(III)I"⟩, 33) := ⟨⟨by decide +kernel, by decide +kernel⟩, List.mem_of_getElem? (i := 724) (by decide +kernel), List.mem_of_getElem? (i := 1127) (by decide +kernel), List.mem_of_getElem? (i := 1128) (by decide +kernel)⟩
theorem lw_p56 : lw_okq (⟨"SpanBookModel", "aloneNow", "()J"⟩, 33) := ⟨⟨by decide +kernel, by decide +kernel⟩, List.mem_of_getElem? (i := 724) (by decide +kernel), List.mem_of_getElem? (i := 1138) (by decide +kernel), List.mem_of_getElem? (i := 1139) (by decide +kernel)⟩
theorem lw_p57 : lw_okq (⟨"SpanBookModel", "groupBy", "(II)I"⟩, 33) := ⟨⟨by decide +kernel, by decide +kernel⟩, List.mem_of_getElem? (i := 724) (by decide +kernel), List.mem_of_getElem? (i := 1146) (by decide +kernel), List.mem_of_getElem? (i := 1147) (by decide +kernel)⟩
theorem lw_p58 : lw_okq (⟨"SpanBookModel", "gathers", "()I"⟩, 33) := ⟨⟨by decide +kernel, by decide +kernel⟩, List.mem_of_getElem? (i := 724) (by decide +kernel), List.mem_of_getElem? (i := 1150) (by decide +kernel), List.mem_of_getElem? (i := 1151) (by decide +kernel)⟩
theorem lw_p59 : lw_okq (⟨"SpanBookModel", "groupOf", "(II)I"⟩, 33) := ⟨⟨by decide +kernel, by decide +kernel⟩, List.mem_of_getElem? (i := 724) (by decide +kernel), List.mem_of_getElem? (i := 1154) (by decide +kernel), List.mem_of_getElem? (i := 1155) (by decide +kernel)⟩
theorem lw_p60 : lw_okq (⟨"SpanBookModel", "tellsKey", "(JI)J"⟩, 33) := ⟨⟨by decide +kernel, by decide +kernel⟩, List.mem_of_getElem? (i := 724) (by decide +kernel), List.mem_of_getElem? (i := 1174) (by decide +kernel), List.mem_of_getElem? (i := 1175) (by decide +kernel)⟩
theorem lw_p61 : lw_okq (⟨"SpanBookModel", "tellsPoint", "(JI)J"⟩, 33) := ⟨⟨by decide +kernel, by decide +kernel⟩, List.mem_of_getElem? (i := 724) (by decide +kernel), List.mem_of_getElem? (i := 1182) (by decide +kernel), List.mem_of_getElem? (i := 1183) (by decide +kernel)⟩
theorem lw_p62 : lw_okq (⟨"SpanBookModel", "tellsStretch", "(JII)J"⟩, 33) := ⟨⟨by decide +kernel, by decide +kernel⟩, List.mem_of_getElem? (i := 724) (by decide +kernel), List.mem_of_getElem? (i := 1187) (by decide +kernel), List.mem_of_getElem? (i := 1188) (by decide +kernel)⟩
def lw_privs_4 : List (MethodName × Nat) := [(⟨"SpanBookModel", "gives", "()I"⟩, 33), (⟨"SpanBookModel", "isUsed", "(II)Z"⟩, 33), (⟨"SpanBookModel", "meetsRank", "(II)Z"⟩, 33), (⟨"SpanBookModel", "keepBy", "(I)I"⟩, 33), (⟨"SpanBookModel", "keeps", "()I"⟩, 33), (⟨"SpanBookModel", "manyClashes", "()I"⟩, 33), (⟨"SpanBookModel", "clashBy", "(II)I"⟩, 33), (⟨"SpanBookModel", "clashOf", "(III)I"⟩, 33), (⟨"SpanBookModel", "aloneNow", "()J"⟩, 33), (⟨"SpanBookModel", "groupBy", "(II)I"⟩, 33), (⟨"SpanBookModel", "gathers", "()I"⟩, 33), (⟨"SpanBookModel", "groupOf", "(II)I"⟩, 33), (⟨"SpanBookModel", "tellsKey", "(JI)J"⟩, 33), (⟨"SpanBookModel", "tellsPoint", "(JI)J"⟩, 33), (⟨"SpanBookModel", "tellsStretch", "(JII)J"⟩, 33)]
theorem lw_r4 : ∀ q ∈ lw_privs_4, lw_okq q := List.forall_mem_cons.mpr ⟨lw_p48, List.forall_mem_cons.mpr ⟨lw_p49, List.forall_mem_cons.mpr ⟨lw_p50, List.forall_mem_cons.mpr ⟨lw_p51, List.forall_mem_cons.mpr ⟨lw_p52, List.forall_mem_cons.mpr ⟨lw_p53, List.forall_mem_cons.mpr ⟨lw_p54, List.forall_mem_cons.mpr ⟨lw_p55, List.forall_mem_cons.mpr ⟨lw_p56, List.forall_mem_cons.mpr ⟨lw_p57, List.forall_mem_cons.mpr ⟨lw_p58, List.forall_mem_cons.mpr ⟨lw_p59, List.forall_mem_cons.mpr ⟨lw_p60, List.forall_mem_cons.mpr ⟨lw_p61, List.forall_mem_cons.mpr ⟨lw_p62, fun _ h => absurd h List.not_mem_nil⟩⟩⟩⟩⟩⟩⟩⟩⟩⟩⟩⟩⟩⟩⟩
def lw_privs : List (MethodName × Nat) := lw_privs_1 ++ (lw_privs_2 ++ (lw_privs_3 ++ (lw_privs_4)))
def lw_tbl : List Cond := k2_sels lw_privs ++ tables_1
theorem lw_privs_ok : ∀ q ∈ lw_privs, lw_okq q := by
  show ∀ q ∈ lw_privs_1 ++ (lw_privs_2 ++ (lw_privs_3 ++ (lw_privs_4))), lw_okq q
  exact List.forall_mem_append.mpr ⟨lw_r1, List.forall_mem_append.mpr ⟨lw_r2, List.forall_mem_append.mpr ⟨lw_r3, lw_r4⟩⟩⟩
end
section
/-! names, fields, code: out of the claim's own printed names -/
def RX0 : String := "SpanBook$Done"
def TX0 : u_T := fun k => match k with
  | 0 => ("SpanBook$Done", "key", "[I", true)
  | 1 => ("SpanBook$Done", "there", "[Z", true)
  | 2 => ("SpanBook$Done", "from", "[I", true)
  | 3 => ("SpanBook$Done", "to", "[I", true)
  | 4 => ("SpanBook$Done", "next", "I", false)
  | _ => ("SpanBook$Done", "size", "I", false)
def tyX0 : Nat → FieldType := fun k => match k with
  | 0 => .array .int
  | 1 => .array .boolean
  | 2 => .array .int
  | 3 => .array .int
  | 4 => .int
  | _ => .int
abbrev wsX00 : List Cond := u_ws RX0 TX0 6
theorem nmX0 : ∀ a, a < 6 → ∀ b, b < 6 → a ≠ b → (TX0 a).2.1 ≠ (TX0 b).2.1 := by decide +kernel
theorem tyX0_ok : ∀ k, k < 6 → parseFieldDescriptor (TX0 k).2.2.1 = some (tyX0 k) := by decide +kernel
abbrev cX0_init : ByteArray := prog_2_method_1_code
def yX0_init : MethodName := ⟨RX0, "<init>", "()V"⟩
abbrev cX0_note : ByteArray := prog_2_method_2_code
def yX0_note : MethodName := ⟨RX0, "note", "(ILSpanBook$Spans;)V"⟩
abbrev cX0_takeLast : ByteArray := prog_2_method_3_code
def yX0_takeLast : MethodName := ⟨RX0, "takeLast", "()I"⟩
def RX1 : String := "SpanBook$Gaps"
def TX1 : u_T := fun k => match k with
  | 0 => ("SpanBook$Gaps", "begin", "[I", true)
  | 1 => ("SpanBook$Gaps", "behind", "[I", true)
  | _ => ("SpanBook$Gaps", "size", "I", false)
def tyX1 : Nat → FieldType := fun k => match k with
  | 0 => .array .int
  | 1 => .array .int
  | _ => .int
abbrev wsX10 : List Cond := u_ws RX1 TX1 3
theorem nmX1 : ∀ a, a < 3 → ∀ b, b < 3 → a ≠ b → (TX1 a).2.1 ≠ (TX1 b).2.1 := by decide +kernel
theorem tyX1_ok : ∀ k, k < 3 → parseFieldDescriptor (TX1 k).2.2.1 = some (tyX1 k) := by decide +kernel
abbrev cX1_init : ByteArray := prog_3_method_1_code
def yX1_init : MethodName := ⟨RX1, "<init>", "()V"⟩
abbrev cX1_build : ByteArray := prog_3_method_2_code
def yX1_build : MethodName := ⟨RX1, "build", "(LSpanBook$Spans;)V"⟩
abbrev cX1_addPart : ByteArray := prog_3_method_3_code
def yX1_addPart : MethodName := ⟨RX1, "addPart", "(II)V"⟩
abbrev cX1_pointsOf : ByteArray := prog_3_method_4_code
def yX1_pointsOf : MethodName := ⟨RX1, "pointsOf", "(III)I"⟩
abbrev cX1_pointsWithin : ByteArray := prog_3_method_5_code
def yX1_pointsWithin : MethodName := ⟨RX1, "pointsWithin", "(II)I"⟩
abbrev cX1_partsWithin : ByteArray := prog_3_method_6_code
def yX1_partsWithin : MethodName := ⟨RX1, "partsWithin", "(II)I"⟩
abbrev cX1_partAt : ByteArray := prog_3_method_7_code
def yX1_partAt : MethodName := ⟨RX1, "partAt", "(III)I"⟩
abbrev cX1_nextPlace : ByteArray := prog_3_method_8_code
def yX1_nextPlace : MethodName := ⟨RX1, "nextPlace", "(II)I"⟩
abbrev cX1_lastPlace : ByteArray := prog_3_method_9_code
def yX1_lastPlace : MethodName := ⟨RX1, "lastPlace", "(II)I"⟩
abbrev cX1_nearestPlace : ByteArray := prog_3_method_10_code
def yX1_nearestPlace : MethodName := ⟨RX1, "nearestPlace", "(II)I"⟩
def RX2 : String := "SpanBook$Groups"
def TX2 : u_T := fun k => match k with
  | 0 => ("SpanBook$Groups", "groupOf", "[I", true)
  | 1 => ("SpanBook$Groups", "leastKey", "[I", true)
  | 2 => ("SpanBook$Groups", "members", "[I", true)
  | 3 => ("SpanBook$Groups", "size", "I", false)
  | _ => ("SpanBook$Groups", "aloneBits", "J", false)
def tyX2 : Nat → FieldType := fun k => match k with
  | 0 => .array .int
  | 1 => .array .int
  | 2 => .array .int
  | 3 => .int
  | _ => .long
abbrev wsX20 : List Cond := u_ws RX2 TX2 5
theorem nmX2 : ∀ a, a < 5 → ∀ b, b < 5 → a ≠ b → (TX2 a).2.1 ≠ (TX2 b).2.1 := by decide +kernel
theorem tyX2_ok : ∀ k, k < 5 → parseFieldDescriptor (TX2 k).2.2.1 = some (tyX2 k) := by decide +kernel
abbrev cX2_init : ByteArray := prog_4_method_1_code
def yX2_init : MethodName := ⟨RX2, "<init>", "()V"⟩
abbrev cX2_build : ByteArray := prog_4_method_2_code
def yX2_build : MethodName := ⟨RX2, "build", "(LSpanBook$Spans;)V"⟩
abbrev cX2_addMember : ByteArray := prog_4_method_3_code
def yX2_addMember : MethodName := ⟨RX2, "addMember", "(II)V"⟩
abbrev cX2_seeAlone : ByteArray := prog_4_method_4_code
def yX2_seeAlone : MethodName := ⟨RX2, "seeAlone", "(LSpanBook$Spans;)V"⟩
def RX3 : String := "SpanBook$Kept"
def TX3 : u_T := fun k => match k with
  | 0 => ("SpanBook$Kept", "byTo", "[I", true)
  | 1 => ("SpanBook$Kept", "keys", "[I", true)
  | _ => ("SpanBook$Kept", "size", "I", false)
def tyX3 : Nat → FieldType := fun k => match k with
  | 0 => .array .int
  | 1 => .array .int
  | _ => .int
abbrev wsX30 : List Cond := u_ws RX3 TX3 3
theorem nmX3 : ∀ a, a < 3 → ∀ b, b < 3 → a ≠ b → (TX3 a).2.1 ≠ (TX3 b).2.1 := by decide +kernel
theorem tyX3_ok : ∀ k, k < 3 → parseFieldDescriptor (TX3 k).2.2.1 = some (tyX3 k) := by decide +kernel
abbrev cX3_init : ByteArray := prog_5_method_1_code
def yX3_init : MethodName := ⟨RX3, "<init>", "()V"⟩
abbrev cX3_build : ByteArray := prog_5_method_2_code
def yX3_build : MethodName := ⟨RX3, "build", "(LSpanBook$Spans;)V"⟩
abbrev cX3_sortByTo : ByteArray := prog_5_method_3_code
def yX3_sortByTo : MethodName := ⟨RX3, "sortByTo", "(LSpanBook$Spans;)V"⟩
def RX4 : String := "SpanBook$Pairs"
def TX4 : u_T := fun k => match k with
  | 0 => ("SpanBook$Pairs", "firstOf", "[I", true)
  | _ => ("SpanBook$Pairs", "size", "I", false)
def tyX4 : Nat → FieldType := fun k => match k with
  | 0 => .array .int
  | _ => .int
abbrev wsX40 : List Cond := u_ws RX4 TX4 2
theorem nmX4 : ∀ a, a < 2 → ∀ b, b < 2 → a ≠ b → (TX4 a).2.1 ≠ (TX4 b).2.1 := by decide +kernel
theorem tyX4_ok : ∀ k, k < 2 → parseFieldDescriptor (TX4 k).2.2.1 = some (tyX4 k) := by decide +kernel
abbrev cX4_init : ByteArray := prog_6_method_1_code
def yX4_init : MethodName := ⟨RX4, "<init>", "()V"⟩
abbrev cX4_build : ByteArray := prog_6_method_2_code
def yX4_build : MethodName := ⟨RX4, "build", "(LSpanBook$Spans;)V"⟩
abbrev cX4_rankAhead : ByteArray := prog_6_method_3_code
def yX4_rankAhead : MethodName := ⟨RX4, "rankAhead", "(II)I"⟩
def RX5 : String := "SpanBook$Rooms"
def TX5 : u_T := fun k => match k with
  | 0 => ("SpanBook$Rooms", "roomOf", "[I", true)
  | 1 => ("SpanBook$Rooms", "busyTo", "[I", true)
  | 2 => ("SpanBook$Rooms", "size", "I", false)
  | 3 => ("SpanBook$Rooms", "deepest", "I", false)
  | _ => ("SpanBook$Rooms", "deepestPoint", "I", false)
def tyX5 : Nat → FieldType := fun k => match k with
  | 0 => .array .int
  | 1 => .array .int
  | 2 => .int
  | 3 => .int
  | _ => .int
abbrev wsX50 : List Cond := u_ws RX5 TX5 5
theorem nmX5 : ∀ a, a < 5 → ∀ b, b < 5 → a ≠ b → (TX5 a).2.1 ≠ (TX5 b).2.1 := by decide +kernel
theorem tyX5_ok : ∀ k, k < 5 → parseFieldDescriptor (TX5 k).2.2.1 = some (tyX5 k) := by decide +kernel
abbrev cX5_init : ByteArray := prog_7_method_1_code
def yX5_init : MethodName := ⟨RX5, "<init>", "()V"⟩
abbrev cX5_build : ByteArray := prog_7_method_2_code
def yX5_build : MethodName := ⟨RX5, "build", "(LSpanBook$Spans;)V"⟩
abbrev cX5_giveRoom : ByteArray := prog_7_method_3_code
def yX5_giveRoom : MethodName := ⟨RX5, "giveRoom", "(III)V"⟩
abbrev cX5_seeDepth : ByteArray := prog_7_method_4_code
def yX5_seeDepth : MethodName := ⟨RX5, "seeDepth", "(I)V"⟩
def RX6 : String := "SpanBook$Sheet"
def TX6 : u_T := fun k => match k with
  | 0 => ("SpanBook$Sheet", "items", "[I", true)
  | 1 => ("SpanBook$Sheet", "lost", "Z", false)
  | 2 => ("SpanBook$Sheet", "form", "I", false)
  | _ => ("SpanBook$Sheet", "size", "I", false)
def tyX6 : Nat → FieldType := fun k => match k with
  | 0 => .array .int
  | 1 => .boolean
  | 2 => .int
  | _ => .int
abbrev wsX60 : List Cond := u_ws RX6 TX6 4
theorem nmX6 : ∀ a, a < 4 → ∀ b, b < 4 → a ≠ b → (TX6 a).2.1 ≠ (TX6 b).2.1 := by decide +kernel
theorem tyX6_ok : ∀ k, k < 4 → parseFieldDescriptor (TX6 k).2.2.1 = some (tyX6 k) := by decide +kernel
abbrev cX6_init : ByteArray := prog_8_method_1_code
def yX6_init : MethodName := ⟨RX6, "<init>", "()V"⟩
abbrev cX6_makeNew : ByteArray := prog_8_method_2_code
def yX6_makeNew : MethodName := ⟨RX6, "makeNew", "(II)V"⟩
abbrev cX6_hasItems : ByteArray := prog_8_method_3_code
def yX6_hasItems : MethodName := ⟨RX6, "hasItems", "(II)Z"⟩
abbrev cX6_setItem : ByteArray := prog_8_method_4_code
def yX6_setItem : MethodName := ⟨RX6, "setItem", "(II)V"⟩
def RX7 : String := "SpanBook$Spans"
def TX7 : u_T := fun k => match k with
  | 0 => ("SpanBook$Spans", "from", "[I", true)
  | 1 => ("SpanBook$Spans", "to", "[I", true)
  | 2 => ("SpanBook$Spans", "there", "[Z", true)
  | 3 => ("SpanBook$Spans", "order", "[I", true)
  | 4 => ("SpanBook$Spans", "rankOf", "[I", true)
  | _ => ("SpanBook$Spans", "size", "I", false)
def tyX7 : Nat → FieldType := fun k => match k with
  | 0 => .array .int
  | 1 => .array .int
  | 2 => .array .boolean
  | 3 => .array .int
  | 4 => .array .int
  | _ => .int
abbrev wsX70 : List Cond := u_ws RX7 TX7 6
theorem nmX7 : ∀ a, a < 6 → ∀ b, b < 6 → a ≠ b → (TX7 a).2.1 ≠ (TX7 b).2.1 := by decide +kernel
theorem tyX7_ok : ∀ k, k < 6 → parseFieldDescriptor (TX7 k).2.2.1 = some (tyX7 k) := by decide +kernel
abbrev cX7_init : ByteArray := prog_9_method_1_code
def yX7_init : MethodName := ⟨RX7, "<init>", "()V"⟩
abbrev cX7_add : ByteArray := prog_9_method_2_code
def yX7_add : MethodName := ⟨RX7, "add", "(III)V"⟩
abbrev cX7_remove : ByteArray := prog_9_method_3_code
def yX7_remove : MethodName := ⟨RX7, "remove", "(I)V"⟩
abbrev cX7_setRank : ByteArray := prog_9_method_4_code
def yX7_setRank : MethodName := ⟨RX7, "setRank", "(II)V"⟩
abbrev cX7_isAhead : ByteArray := prog_9_method_5_code
def yX7_isAhead : MethodName := ⟨RX7, "isAhead", "(II)Z"⟩
abbrev cX7_leastUnused : ByteArray := prog_9_method_6_code
def yX7_leastUnused : MethodName := ⟨RX7, "leastUnused", "()I"⟩
abbrev cX7_meetsStretch : ByteArray := prog_9_method_7_code
def yX7_meetsStretch : MethodName := ⟨RX7, "meetsStretch", "(III)Z"⟩
abbrev cX7_meeting : ByteArray := prog_9_method_8_code
def yX7_meeting : MethodName := ⟨RX7, "meeting", "(II)I"⟩
abbrev cX7_meetingAt : ByteArray := prog_9_method_9_code
def yX7_meetingAt : MethodName := ⟨RX7, "meetingAt", "(III)I"⟩
abbrev cX7_shared : ByteArray := prog_9_method_10_code
def yX7_shared : MethodName := ⟨RX7, "shared", "(II)I"⟩
def RX8 : String := "SpanBook$Tree"
def TX8 : u_T := fun k => match k with
  | 0 => ("SpanBook$Tree", "byWeight", "[I", true)
  | 1 => ("SpanBook$Tree", "above", "[I", true)
  | 2 => ("SpanBook$Tree", "left", "[I", true)
  | 3 => ("SpanBook$Tree", "right", "[I", true)
  | 4 => ("SpanBook$Tree", "depth", "[I", true)
  | 5 => ("SpanBook$Tree", "members", "[I", true)
  | 6 => ("SpanBook$Tree", "height", "[I", true)
  | 7 => ("SpanBook$Tree", "farthest", "[I", true)
  | 8 => ("SpanBook$Tree", "looked", "[Z", true)
  | _ => ("SpanBook$Tree", "top", "I", false)
def tyX8 : Nat → FieldType := fun k => match k with
  | 0 => .array .int
  | 1 => .array .int
  | 2 => .array .int
  | 3 => .array .int
  | 4 => .array .int
  | 5 => .array .int
  | 6 => .array .int
  | 7 => .array .int
  | 8 => .array .boolean
  | _ => .int
abbrev wsX80 : List Cond := u_ws RX8 TX8 10
theorem nmX8 : ∀ a, a < 10 → ∀ b, b < 10 → a ≠ b → (TX8 a).2.1 ≠ (TX8 b).2.1 := by decide +kernel
theorem tyX8_ok : ∀ k, k < 10 → parseFieldDescriptor (TX8 k).2.2.1 = some (tyX8 k) := by decide +kernel
abbrev cX8_init : ByteArray := prog_10_method_1_code
def yX8_init : MethodName := ⟨RX8, "<init>", "()V"⟩
abbrev cX8_weight : ByteArray := prog_10_method_2_code
def yX8_weight : MethodName := ⟨RX8, "weight", "(I)I"⟩
abbrev cX8_build : ByteArray := prog_10_method_3_code
def yX8_build : MethodName := ⟨RX8, "build", "(LSpanBook$Spans;)V"⟩
abbrev cX8_hang : ByteArray := prog_10_method_4_code
def yX8_hang : MethodName := ⟨RX8, "hang", "(ILSpanBook$Spans;)V"⟩
abbrev cX8_tellAbove : ByteArray := prog_10_method_5_code
def yX8_tellAbove : MethodName := ⟨RX8, "tellAbove", "(II)V"⟩
abbrev cX8_lookedAt : ByteArray := prog_10_method_6_code
def yX8_lookedAt : MethodName := ⟨RX8, "lookedAt", "(LSpanBook$Spans;II)I"⟩
abbrev cX8_looksAt : ByteArray := prog_10_method_7_code
def yX8_looksAt : MethodName := ⟨RX8, "looksAt", "(ILSpanBook$Spans;II)Z"⟩
def RX9 : String := "SpanBook"
def TX9 : u_T := fun k => match k with
  | 0 => ("SpanBook", "spans", "LSpanBook$Spans;", true)
  | 1 => ("SpanBook", "done", "LSpanBook$Done;", true)
  | 2 => ("SpanBook", "shape", "LSpanBook$Tree;", true)
  | 3 => ("SpanBook", "gaps", "LSpanBook$Gaps;", true)
  | 4 => ("SpanBook", "rooms", "LSpanBook$Rooms;", true)
  | 5 => ("SpanBook", "kept", "LSpanBook$Kept;", true)
  | 6 => ("SpanBook", "pairs", "LSpanBook$Pairs;", true)
  | 7 => ("SpanBook", "groups", "LSpanBook$Groups;", true)
  | 8 => ("SpanBook", "sheets", "[LSpanBook$Sheet;", true)
  | 9 => ("SpanBook", "stale", "Z", false)
  | _ => ("SpanBook", "finding", "I", false)
def tyX9 : Nat → FieldType := fun k => match k with
  | 0 => .object "SpanBook$Spans"
  | 1 => .object "SpanBook$Done"
  | 2 => .object "SpanBook$Tree"
  | 3 => .object "SpanBook$Gaps"
  | 4 => .object "SpanBook$Rooms"
  | 5 => .object "SpanBook$Kept"
  | 6 => .object "SpanBook$Pairs"
  | 7 => .object "SpanBook$Groups"
  | 8 => .array (.object "SpanBook$Sheet")
  | 9 => .boolean
  | _ => .int
abbrev wsX90 : List Cond := u_ws RX9 TX9 11
theorem nmX9 : ∀ a, a < 11 → ∀ b, b < 11 → a ≠ b → (TX9 a).2.1 ≠ (TX9 b).2.1 := by decide +kernel
theorem tyX9_ok : ∀ k, k < 11 → parseFieldDescriptor (TX9 k).2.2.1 = some (tyX9 k) := by decide +kernel
abbrev cX9_init : ByteArray := prog_1_method_1_code
def yX9_init : MethodName := ⟨RX9, "<init>", "()V"⟩
abbrev cX9_put : ByteArray := prog_1_method_2_code
def yX9_put : MethodName := ⟨RX9, "put", "(III)I"⟩
abbrev cX9_drop : ByteArray := prog_1_method_3_code
def yX9_drop : MethodName := ⟨RX9, "drop", "(I)I"⟩
abbrev cX9_move : ByteArray := prog_1_method_4_code
def yX9_move : MethodName := ⟨RX9, "move", "(II)I"⟩
abbrev cX9_undo : ByteArray := prog_1_method_5_code
def yX9_undo : MethodName := ⟨RX9, "undo", "()I"⟩
abbrev cX9_fill : ByteArray := prog_1_method_6_code
def yX9_fill : MethodName := ⟨RX9, "fill", "(I)I"⟩
abbrev cX9_span : ByteArray := prog_1_method_7_code
def yX9_span : MethodName := ⟨RX9, "span", "(II)I"⟩
abbrev cX9_rank : ByteArray := prog_1_method_8_code
def yX9_rank : MethodName := ⟨RX9, "rank", "(I)I"⟩
abbrev cX9_ranked : ByteArray := prog_1_method_9_code
def yX9_ranked : MethodName := ⟨RX9, "ranked", "(I)I"⟩
abbrev cX9_root : ByteArray := prog_1_method_10_code
def yX9_root : MethodName := ⟨RX9, "root", "()I"⟩
abbrev cX9_tree : ByteArray := prog_1_method_11_code
def yX9_tree : MethodName := ⟨RX9, "tree", "(II)I"⟩
abbrev cX9_end : ByteArray := prog_1_method_12_code
def yX9_end : MethodName := ⟨RX9, "end", "(I)I"⟩
abbrev cX9_looks : ByteArray := prog_1_method_13_code
def yX9_looks : MethodName := ⟨RX9, "looks", "(II)I"⟩
abbrev cX9_meets : ByteArray := prog_1_method_14_code
def yX9_meets : MethodName := ⟨RX9, "meets", "(III)I"⟩
abbrev cX9_holds : ByteArray := prog_1_method_15_code
def yX9_holds : MethodName := ⟨RX9, "holds", "(II)I"⟩
abbrev cX9_taken : ByteArray := prog_1_method_16_code
def yX9_taken : MethodName := ⟨RX9, "taken", "(II)I"⟩
abbrev cX9_frees : ByteArray := prog_1_method_17_code
def yX9_frees : MethodName := ⟨RX9, "frees", "(II)I"⟩
abbrev cX9_free : ByteArray := prog_1_method_18_code
def yX9_free : MethodName := ⟨RX9, "free", "(IIII)I"⟩
abbrev cX9_place : ByteArray := prog_1_method_19_code
def yX9_place : MethodName := ⟨RX9, "place", "(III)I"⟩
abbrev cX9_deep : ByteArray := prog_1_method_20_code
def yX9_deep : MethodName := ⟨RX9, "deep", "()I"⟩
abbrev cX9_point : ByteArray := prog_1_method_21_code
def yX9_point : MethodName := ⟨RX9, "point", "()I"⟩
abbrev cX9_room : ByteArray := prog_1_method_22_code
def yX9_room : MethodName := ⟨RX9, "room", "(I)I"⟩
abbrev cX9_keep : ByteArray := prog_1_method_23_code
def yX9_keep : MethodName := ⟨RX9, "keep", "(I)I"⟩
abbrev cX9_clashes : ByteArray := prog_1_method_24_code
def yX9_clashes : MethodName := ⟨RX9, "clashes", "()I"⟩
abbrev cX9_clash : ByteArray := prog_1_method_25_code
def yX9_clash : MethodName := ⟨RX9, "clash", "(II)I"⟩
abbrev cX9_alone : ByteArray := prog_1_method_26_code
def yX9_alone : MethodName := ⟨RX9, "alone", "()J"⟩
abbrev cX9_group : ByteArray := prog_1_method_27_code
def yX9_group : MethodName := ⟨RX9, "group", "(II)I"⟩
abbrev cX9_sheet : ByteArray := prog_1_method_28_code
def yX9_sheet : MethodName := ⟨RX9, "sheet", "(III)I"⟩
abbrev cX9_lose : ByteArray := prog_1_method_29_code
def yX9_lose : MethodName := ⟨RX9, "lose", "(I)I"⟩
abbrev cX9_lay : ByteArray := prog_1_method_30_code
def yX9_lay : MethodName := ⟨RX9, "lay", "(IIII)I"⟩
abbrev cX9_get : ByteArray := prog_1_method_31_code
def yX9_get : MethodName := ⟨RX9, "get", "(III)I"⟩
abbrev cX9_copy : ByteArray := prog_1_method_32_code
def yX9_copy : MethodName := ⟨RX9, "copy", "(IIIII)I"⟩
abbrev cX9_write : ByteArray := prog_1_method_33_code
def yX9_write : MethodName := ⟨RX9, "write", "(III)I"⟩
abbrev cX9_count : ByteArray := prog_1_method_34_code
def yX9_count : MethodName := ⟨RX9, "count", "(I)I"⟩
abbrev cX9_digest : ByteArray := prog_1_method_35_code
def yX9_digest : MethodName := ⟨RX9, "digest", "()J"⟩
abbrev cX9_mixed : ByteArray := prog_1_method_36_code
def yX9_mixed : MethodName := ⟨RX9, "mixed", "(JJ)J"⟩
abbrev cX9_mixedKey : ByteArray := prog_1_method_37_code
def yX9_mixedKey : MethodName := ⟨RX9, "mixedKey", "(JI)J"⟩
abbrev cX9_mixedPoint : ByteArray := prog_1_method_38_code
def yX9_mixedPoint : MethodName := ⟨RX9, "mixedPoint", "(JI)J"⟩
abbrev cX9_mixedStretch : ByteArray := prog_1_method_39_code
def yX9_mixedStretch : MethodName := ⟨RX9, "mixedStretch", "(JII)J"⟩
abbrev cX9_isKey : ByteArray := prog_1_method_40_code
def yX9_isKey : MethodName := ⟨RX9, "isKey", "(I)Z"⟩
abbrev cX9_isKeyOrNone : ByteArray := prog_1_method_41_code
def yX9_isKeyOrNone : MethodName := ⟨RX9, "isKeyOrNone", "(I)Z"⟩
abbrev cX9_isPoint : ByteArray := prog_1_method_42_code
def yX9_isPoint : MethodName := ⟨RX9, "isPoint", "(I)Z"⟩
abbrev cX9_isStretch : ByteArray := prog_1_method_43_code
def yX9_isStretch : MethodName := ⟨RX9, "isStretch", "(II)Z"⟩
abbrev cX9_isSheet : ByteArray := prog_1_method_44_code
def yX9_isSheet : MethodName := ⟨RX9, "isSheet", "(I)Z"⟩
abbrev cX9_isForm : ByteArray := prog_1_method_45_code
def yX9_isForm : MethodName := ⟨RX9, "isForm", "(I)Z"⟩
abbrev cX9_isThere : ByteArray := prog_1_method_46_code
def yX9_isThere : MethodName := ⟨RX9, "isThere", "(I)Z"⟩
abbrev cX9_found : ByteArray := prog_1_method_47_code
def yX9_found : MethodName := ⟨RX9, "found", "(I)I"⟩
abbrev cX9_itemRefusal : ByteArray := prog_1_method_48_code
def yX9_itemRefusal : MethodName := ⟨RX9, "itemRefusal", "(III)I"⟩
abbrev cX9_change : ByteArray := prog_1_method_49_code
def yX9_change : MethodName := ⟨RX9, "change", "(IZII)V"⟩
abbrev cX9_setSpan : ByteArray := prog_1_method_50_code
def yX9_setSpan : MethodName := ⟨RX9, "setSpan", "(IZII)V"⟩
abbrev cX9_settle : ByteArray := prog_1_method_51_code
def yX9_settle : MethodName := ⟨RX9, "settle", "()V"⟩
def RX10 : String := "SpanBookModel"
def TX10 : u_T := fun k => match k with
  | 0 => ("SpanBookModel", "forms", "[I", true)
  | 1 => ("SpanBookModel", "sizes", "[I", true)
  | 2 => ("SpanBookModel", "items", "[I", true)
  | 3 => ("SpanBookModel", "moved", "[I", true)
  | 4 => ("SpanBookModel", "latest", "I", false)
  | 5 => ("SpanBookModel", "there", "[Z", true)
  | 6 => ("SpanBookModel", "from", "[I", true)
  | 7 => ("SpanBookModel", "to", "[I", true)
  | 8 => ("SpanBookModel", "spans", "I", false)
  | 9 => ("SpanBookModel", "done", "I", false)
  | 10 => ("SpanBookModel", "doneKind", "[I", true)
  | 11 => ("SpanBookModel", "doneKey", "[I", true)
  | 12 => ("SpanBookModel", "doneFrom", "[I", true)
  | 13 => ("SpanBookModel", "doneTo", "[I", true)
  | 14 => ("SpanBookModel", "order", "[I", true)
  | 15 => ("SpanBookModel", "ranks", "[I", true)
  | 16 => ("SpanBookModel", "weighed", "[I", true)
  | 17 => ("SpanBookModel", "parent", "[I", true)
  | 18 => ("SpanBookModel", "left", "[I", true)
  | 19 => ("SpanBookModel", "right", "[I", true)
  | 20 => ("SpanBookModel", "above", "[I", true)
  | 21 => ("SpanBookModel", "below", "[I", true)
  | 22 => ("SpanBookModel", "longest", "[I", true)
  | 23 => ("SpanBookModel", "ends", "[I", true)
  | 24 => ("SpanBookModel", "low", "[I", true)
  | 25 => ("SpanBookModel", "high", "[I", true)
  | 26 => ("SpanBookModel", "waiting", "[I", true)
  | 27 => ("SpanBookModel", "begins", "[I", true)
  | 28 => ("SpanBookModel", "stops", "[I", true)
  | 29 => ("SpanBookModel", "rooms", "[I", true)
  | 30 => ("SpanBookModel", "byEnd", "[I", true)
  | 31 => ("SpanBookModel", "kept", "[I", true)
  | _ => ("SpanBookModel", "groups", "[I", true)
def tyX10 : Nat → FieldType := fun k => match k with
  | 0 => .array .int
  | 1 => .array .int
  | 2 => .array .int
  | 3 => .array .int
  | 4 => .int
  | 5 => .array .boolean
  | 6 => .array .int
  | 7 => .array .int
  | 8 => .int
  | 9 => .int
  | 10 => .array .int
  | 11 => .array .int
  | 12 => .array .int
  | 13 => .array .int
  | 14 => .array .int
  | 15 => .array .int
  | 16 => .array .int
  | 17 => .array .int
  | 18 => .array .int
  | 19 => .array .int
  | 20 => .array .int
  | 21 => .array .int
  | 22 => .array .int
  | 23 => .array .int
  | 24 => .array .int
  | 25 => .array .int
  | 26 => .array .int
  | 27 => .array .int
  | 28 => .array .int
  | 29 => .array .int
  | 30 => .array .int
  | 31 => .array .int
  | _ => .array .int
abbrev wsX100 : List Cond := u_ws RX10 TX10 33
theorem nmX10 : ∀ a, a < 33 → ∀ b, b < 33 → a ≠ b → (TX10 a).2.1 ≠ (TX10 b).2.1 := by decide +kernel
theorem tyX10_ok : ∀ k, k < 33 → parseFieldDescriptor (TX10 k).2.2.1 = some (tyX10 k) := by decide +kernel
abbrev cX10_init : ByteArray := prog_12_method_1_code
def yX10_init : MethodName := ⟨RX10, "<init>", "()V"⟩
abbrev cX10_in : ByteArray := prog_12_method_3_code
def yX10_in : MethodName := ⟨RX10, "in", "(JJJ)Z"⟩
abbrev cX10_isTwo : ByteArray := prog_12_method_4_code
def yX10_isTwo : MethodName := ⟨RX10, "isTwo", "(I)Z"⟩
abbrev cX10_lesser : ByteArray := prog_12_method_5_code
def yX10_lesser : MethodName := ⟨RX10, "lesser", "(II)I"⟩
abbrev cX10_greater : ByteArray := prog_12_method_6_code
def yX10_greater : MethodName := ⟨RX10, "greater", "(II)I"⟩
abbrev cX10_finds : ByteArray := prog_12_method_7_code
def yX10_finds : MethodName := ⟨RX10, "finds", "(I)I"⟩
abbrev cX10_isSheet : ByteArray := prog_12_method_8_code
def yX10_isSheet : MethodName := ⟨RX10, "isSheet", "(I)Z"⟩
abbrev cX10_sheet : ByteArray := prog_12_method_9_code
def yX10_sheet : MethodName := ⟨RX10, "sheet", "(III)I"⟩
abbrev cX10_lose : ByteArray := prog_12_method_10_code
def yX10_lose : MethodName := ⟨RX10, "lose", "(I)I"⟩
abbrev cX10_lacks : ByteArray := prog_12_method_11_code
def yX10_lacks : MethodName := ⟨RX10, "lacks", "(III)I"⟩
abbrev cX10_cut : ByteArray := prog_12_method_12_code
def yX10_cut : MethodName := ⟨RX10, "cut", "(II)I"⟩
abbrev cX10_lay : ByteArray := prog_12_method_13_code
def yX10_lay : MethodName := ⟨RX10, "lay", "(IIII)I"⟩
abbrev cX10_get : ByteArray := prog_12_method_14_code
def yX10_get : MethodName := ⟨RX10, "get", "(III)I"⟩
abbrev cX10_copy : ByteArray := prog_12_method_15_code
def yX10_copy : MethodName := ⟨RX10, "copy", "(IIIII)I"⟩
abbrev cX10_isKey : ByteArray := prog_12_method_16_code
def yX10_isKey : MethodName := ⟨RX10, "isKey", "(I)Z"⟩
abbrev cX10_isPoint : ByteArray := prog_12_method_17_code
def yX10_isPoint : MethodName := ⟨RX10, "isPoint", "(I)Z"⟩
abbrev cX10_isStretch : ByteArray := prog_12_method_18_code
def yX10_isStretch : MethodName := ⟨RX10, "isStretch", "(II)Z"⟩
abbrev cX10_remembers : ByteArray := prog_12_method_19_code
def yX10_remembers : MethodName := ⟨RX10, "remembers", "(II)V"⟩
abbrev cX10_comes : ByteArray := prog_12_method_20_code
def yX10_comes : MethodName := ⟨RX10, "comes", "(III)V"⟩
abbrev cX10_leaves : ByteArray := prog_12_method_21_code
def yX10_leaves : MethodName := ⟨RX10, "leaves", "(I)V"⟩
abbrev cX10_put : ByteArray := prog_12_method_22_code
def yX10_put : MethodName := ⟨RX10, "put", "(III)I"⟩
abbrev cX10_drop : ByteArray := prog_12_method_23_code
def yX10_drop : MethodName := ⟨RX10, "drop", "(I)I"⟩
abbrev cX10_move : ByteArray := prog_12_method_24_code
def yX10_move : MethodName := ⟨RX10, "move", "(II)I"⟩
abbrev cX10_undo : ByteArray := prog_12_method_25_code
def yX10_undo : MethodName := ⟨RX10, "undo", "()I"⟩
abbrev cX10_leastKey : ByteArray := prog_12_method_26_code
def yX10_leastKey : MethodName := ⟨RX10, "leastKey", "()I"⟩
abbrev cX10_fill : ByteArray := prog_12_method_27_code
def yX10_fill : MethodName := ⟨RX10, "fill", "(I)I"⟩
abbrev cX10_has : ByteArray := prog_12_method_28_code
def yX10_has : MethodName := ⟨RX10, "has", "(I)Z"⟩
abbrev cX10_span : ByteArray := prog_12_method_29_code
def yX10_span : MethodName := ⟨RX10, "span", "(II)I"⟩
abbrev cX10_isAhead : ByteArray := prog_12_method_30_code
def yX10_isAhead : MethodName := ⟨RX10, "isAhead", "(II)Z"⟩
abbrev cX10_orders : ByteArray := prog_12_method_31_code
def yX10_orders : MethodName := ⟨RX10, "orders", "()V"⟩
abbrev cX10_weightAt : ByteArray := prog_12_method_32_code
def yX10_weightAt : MethodName := ⟨RX10, "weightAt", "(I)I"⟩
abbrev cX10_greatest : ByteArray := prog_12_method_33_code
def yX10_greatest : MethodName := ⟨RX10, "greatest", "(II)I"⟩
abbrev cX10_hangs : ByteArray := prog_12_method_34_code
def yX10_hangs : MethodName := ⟨RX10, "hangs", "(IIII)I"⟩
abbrev cX10_grows : ByteArray := prog_12_method_35_code
def yX10_grows : MethodName := ⟨RX10, "grows", "()V"⟩
abbrev cX10_sums : ByteArray := prog_12_method_36_code
def yX10_sums : MethodName := ⟨RX10, "sums", "(I)V"⟩
abbrev cX10_rank : ByteArray := prog_12_method_37_code
def yX10_rank : MethodName := ⟨RX10, "rank", "(I)I"⟩
abbrev cX10_keyAt : ByteArray := prog_12_method_38_code
def yX10_keyAt : MethodName := ⟨RX10, "keyAt", "(I)I"⟩
abbrev cX10_ranked : ByteArray := prog_12_method_39_code
def yX10_ranked : MethodName := ⟨RX10, "ranked", "(I)I"⟩
abbrev cX10_root : ByteArray := prog_12_method_40_code
def yX10_root : MethodName := ⟨RX10, "root", "()I"⟩
abbrev cX10_treeBy : ByteArray := prog_12_method_41_code
def yX10_treeBy : MethodName := ⟨RX10, "treeBy", "(II)I"⟩
abbrev cX10_tree : ByteArray := prog_12_method_42_code
def yX10_tree : MethodName := ⟨RX10, "tree", "(II)I"⟩
abbrev cX10_end : ByteArray := prog_12_method_43_code
def yX10_end : MethodName := ⟨RX10, "end", "(I)I"⟩
abbrev cX10_looksAt : ByteArray := prog_12_method_44_code
def yX10_looksAt : MethodName := ⟨RX10, "looksAt", "(II)I"⟩
abbrev cX10_looks : ByteArray := prog_12_method_45_code
def yX10_looks : MethodName := ⟨RX10, "looks", "(II)I"⟩
abbrev cX10_isMet : ByteArray := prog_12_method_46_code
def yX10_isMet : MethodName := ⟨RX10, "isMet", "(III)Z"⟩
abbrev cX10_meetsBy : ByteArray := prog_12_method_47_code
def yX10_meetsBy : MethodName := ⟨RX10, "meetsBy", "(III)I"⟩
abbrev cX10_meets : ByteArray := prog_12_method_48_code
def yX10_meets : MethodName := ⟨RX10, "meets", "(III)I"⟩
abbrev cX10_holds : ByteArray := prog_12_method_49_code
def yX10_holds : MethodName := ⟨RX10, "holds", "(II)I"⟩
abbrev cX10_parts : ByteArray := prog_12_method_50_code
def yX10_parts : MethodName := ⟨RX10, "parts", "(II)I"⟩
abbrev cX10_takenIn : ByteArray := prog_12_method_51_code
def yX10_takenIn : MethodName := ⟨RX10, "takenIn", "(II)I"⟩
abbrev cX10_taken : ByteArray := prog_12_method_52_code
def yX10_taken : MethodName := ⟨RX10, "taken", "(II)I"⟩
abbrev cX10_frees : ByteArray := prog_12_method_53_code
def yX10_frees : MethodName := ⟨RX10, "frees", "(II)I"⟩
abbrev cX10_freeBy : ByteArray := prog_12_method_54_code
def yX10_freeBy : MethodName := ⟨RX10, "freeBy", "(IIII)I"⟩
abbrev cX10_free : ByteArray := prog_12_method_55_code
def yX10_free : MethodName := ⟨RX10, "free", "(IIII)I"⟩
abbrev cX10_isPlace : ByteArray := prog_12_method_56_code
def yX10_isPlace : MethodName := ⟨RX10, "isPlace", "(II)Z"⟩
abbrev cX10_far : ByteArray := prog_12_method_57_code
def yX10_far : MethodName := ⟨RX10, "far", "(II)I"⟩
abbrev cX10_isNearer : ByteArray := prog_12_method_58_code
def yX10_isNearer : MethodName := ⟨RX10, "isNearer", "(III)Z"⟩
abbrev cX10_better : ByteArray := prog_12_method_59_code
def yX10_better : MethodName := ⟨RX10, "better", "(IIIII)I"⟩
abbrev cX10_placeBy : ByteArray := prog_12_method_60_code
def yX10_placeBy : MethodName := ⟨RX10, "placeBy", "(III)I"⟩
abbrev cX10_place : ByteArray := prog_12_method_61_code
def yX10_place : MethodName := ⟨RX10, "place", "(III)I"⟩
abbrev cX10_deepest : ByteArray := prog_12_method_62_code
def yX10_deepest : MethodName := ⟨RX10, "deepest", "(I)I"⟩
abbrev cX10_deep : ByteArray := prog_12_method_63_code
def yX10_deep : MethodName := ⟨RX10, "deep", "()I"⟩
abbrev cX10_point : ByteArray := prog_12_method_64_code
def yX10_point : MethodName := ⟨RX10, "point", "()I"⟩
abbrev cX10_meetsRank : ByteArray := prog_12_method_65_code
def yX10_meetsRank : MethodName := ⟨RX10, "meetsRank", "(II)Z"⟩
abbrev cX10_isUsed : ByteArray := prog_12_method_66_code
def yX10_isUsed : MethodName := ⟨RX10, "isUsed", "(II)Z"⟩
abbrev cX10_gives : ByteArray := prog_12_method_67_code
def yX10_gives : MethodName := ⟨RX10, "gives", "()I"⟩
abbrev cX10_roomBy : ByteArray := prog_12_method_68_code
def yX10_roomBy : MethodName := ⟨RX10, "roomBy", "(I)I"⟩
abbrev cX10_room : ByteArray := prog_12_method_69_code
def yX10_room : MethodName := ⟨RX10, "room", "(I)I"⟩
abbrev cX10_keeps : ByteArray := prog_12_method_70_code
def yX10_keeps : MethodName := ⟨RX10, "keeps", "()I"⟩
abbrev cX10_keepBy : ByteArray := prog_12_method_71_code
def yX10_keepBy : MethodName := ⟨RX10, "keepBy", "(I)I"⟩
abbrev cX10_keep : ByteArray := prog_12_method_72_code
def yX10_keep : MethodName := ⟨RX10, "keep", "(I)I"⟩
abbrev cX10_manyClashes : ByteArray := prog_12_method_73_code
def yX10_manyClashes : MethodName := ⟨RX10, "manyClashes", "()I"⟩
abbrev cX10_clashes : ByteArray := prog_12_method_74_code
def yX10_clashes : MethodName := ⟨RX10, "clashes", "()I"⟩
abbrev cX10_clashOf : ByteArray := prog_12_method_75_code
def yX10_clashOf : MethodName := ⟨RX10, "clashOf", "(III)I"⟩
abbrev cX10_clashBy : ByteArray := prog_12_method_76_code
def yX10_clashBy : MethodName := ⟨RX10, "clashBy", "(II)I"⟩
abbrev cX10_clash : ByteArray := prog_12_method_77_code
def yX10_clash : MethodName := ⟨RX10, "clash", "(II)I"⟩
abbrev cX10_aloneNow : ByteArray := prog_12_method_78_code
def yX10_aloneNow : MethodName := ⟨RX10, "aloneNow", "()J"⟩
abbrev cX10_alone : ByteArray := prog_12_method_79_code
def yX10_alone : MethodName := ⟨RX10, "alone", "()J"⟩
abbrev cX10_gathers : ByteArray := prog_12_method_80_code
def yX10_gathers : MethodName := ⟨RX10, "gathers", "()I"⟩
abbrev cX10_groupOf : ByteArray := prog_12_method_81_code
def yX10_groupOf : MethodName := ⟨RX10, "groupOf", "(II)I"⟩
abbrev cX10_groupBy : ByteArray := prog_12_method_82_code
def yX10_groupBy : MethodName := ⟨RX10, "groupBy", "(II)I"⟩
abbrev cX10_group : ByteArray := prog_12_method_83_code
def yX10_group : MethodName := ⟨RX10, "group", "(II)I"⟩
abbrev cX10_write : ByteArray := prog_12_method_84_code
def yX10_write : MethodName := ⟨RX10, "write", "(III)I"⟩
abbrev cX10_count : ByteArray := prog_12_method_85_code
def yX10_count : MethodName := ⟨RX10, "count", "(I)I"⟩
abbrev cX10_tellsKey : ByteArray := prog_12_method_86_code
def yX10_tellsKey : MethodName := ⟨RX10, "tellsKey", "(JI)J"⟩
abbrev cX10_tellsPoint : ByteArray := prog_12_method_87_code
def yX10_tellsPoint : MethodName := ⟨RX10, "tellsPoint", "(JI)J"⟩
abbrev cX10_tellsStretch : ByteArray := prog_12_method_88_code
def yX10_tellsStretch : MethodName := ⟨RX10, "tellsStretch", "(JII)J"⟩
abbrev cX10_digest : ByteArray := prog_12_method_89_code
def yX10_digest : MethodName := ⟨RX10, "digest", "()J"⟩
def RL : String := "SpanBookLaw"
abbrev cL_law : ByteArray := code
def yL_law : MethodName := ⟨RL, "law", "([I)Z"⟩
abbrev vwCl : List vw_C := [(RX0, TX0, 6), (RX1, TX1, 3), (RX2, TX2, 5), (RX3, TX3, 3), (RX4, TX4, 2), (RX5, TX5, 5), (RX6, TX6, 4), (RX7, TX7, 6), (RX8, TX8, 10), (RX9, TX9, 11), (RX10, TX10, 33)]
def gd_tbl : List Cond := lw_tbl.filter goodWord
theorem gd_sub {w : Cond} (h : w ∈ gd_tbl) : w ∈ lw_tbl := (List.mem_filter.mp h).1
theorem gd_good {w : Cond} (h : w ∈ gd_tbl) : goodWord w = true := (List.mem_filter.mp h).2
theorem tb_in {w : Cond} (i : Nat) (h : tables_1[i]? = some w) (g : goodWord w = true) : w ∈ gd_tbl := List.mem_filter.mpr ⟨List.mem_append_right _ (List.mem_of_getElem? h), g⟩
theorem tb_sel {w : Cond} (i : Nat) (h : (k2_sels lw_privs)[i]? = some w) (g : goodWord w = true) : w ∈ gd_tbl := List.mem_filter.mpr ⟨List.mem_append_left _ (List.mem_of_getElem? h), g⟩
theorem tb_inr (ws : List Cond) (ps : List Nat) (hp : ws = ps.filterMap (fun i => tables_1[i]?)) (g : ws.all goodWord = true) : ∀ w ∈ ws, w ∈ gd_tbl := by
  intro w hw
  have hg := List.all_eq_true.mp g w hw
  rw [hp] at hw
  obtain ⟨i, -, hi⟩ := List.mem_filterMap.mp hw
  exact tb_in i hi hg
set_option maxRecDepth 20000 in
theorem inX0 : ∀ w ∈ wsX00, w ∈ gd_tbl := tb_inr _ [100, 102, 104, 106, 108, 110] (by decide +kernel) (by decide +kernel)
set_option maxRecDepth 20000 in
theorem inX1 : ∀ w ∈ wsX10, w ∈ gd_tbl := tb_inr _ [174, 176, 178] (by decide +kernel) (by decide +kernel)
set_option maxRecDepth 20000 in
theorem inX2 : ∀ w ∈ wsX20, w ∈ gd_tbl := tb_inr _ [257, 259, 261, 263, 265] (by decide +kernel) (by decide +kernel)
set_option maxRecDepth 20000 in
theorem inX3 : ∀ w ∈ wsX30, w ∈ gd_tbl := tb_inr _ [219, 221, 223] (by decide +kernel) (by decide +kernel)
set_option maxRecDepth 20000 in
theorem inX4 : ∀ w ∈ wsX40, w ∈ gd_tbl := tb_inr _ [236, 238] (by decide +kernel) (by decide +kernel)
set_option maxRecDepth 20000 in
theorem inX5 : ∀ w ∈ wsX50, w ∈ gd_tbl := tb_inr _ [197, 199, 201, 203, 205] (by decide +kernel) (by decide +kernel)
set_option maxRecDepth 20000 in
theorem inX6 : ∀ w ∈ wsX60, w ∈ gd_tbl := tb_inr _ [283, 285, 287, 289] (by decide +kernel) (by decide +kernel)
set_option maxRecDepth 20000 in
theorem inX7 : ∀ w ∈ wsX70, w ∈ gd_tbl := tb_inr _ [68, 70, 72, 74, 76, 78] (by decide +kernel) (by decide +kernel)
set_option maxRecDepth 20000 in
theorem inX8 : ∀ w ∈ wsX80, w ∈ gd_tbl := tb_inr _ [142, 144, 146, 148, 150, 152, 154, 156, 158, 160] (by decide +kernel) (by decide +kernel)
set_option maxRecDepth 20000 in
theorem inX9 : ∀ w ∈ wsX90, w ∈ gd_tbl := tb_inr _ [303, 305, 307, 309, 311, 313, 315, 317, 319, 321, 323] (by decide +kernel) (by decide +kernel)
set_option maxRecDepth 20000 in
theorem inX10 : ∀ w ∈ wsX100, w ∈ gd_tbl := tb_inr _ [762, 764, 766, 768, 770, 772, 774, 776, 778, 780, 782, 784, 786, 788, 790, 792, 794, 796, 798, 800, 802, 804, 806, 808, 810, 812, 814, 816, 818, 820, 822, 824, 826] (by decide +kernel) (by decide +kernel)
end
section
theorem dX0_init_0 : decode cX0_init 0 = .ok (.aload_n 0, 1) := by decide +kernel
theorem dX0_init_1 : decode cX0_init 1 = .ok (.invokespecial 3, 3) := by decide +kernel
theorem dX0_init_4 : decode cX0_init 4 = .ok (.aload_n 0, 1) := by decide +kernel
theorem dX0_init_5 : decode cX0_init 5 = .ok (.bipush 64, 2) := by decide +kernel
theorem dX0_init_7 : decode cX0_init 7 = .ok (.newarray .int, 2) := by decide +kernel
theorem dX0_init_9 : decode cX0_init 9 = .ok (.putfield 9, 3) := by decide +kernel
theorem dX0_init_12 : decode cX0_init 12 = .ok (.aload_n 0, 1) := by decide +kernel
theorem dX0_init_13 : decode cX0_init 13 = .ok (.bipush 64, 2) := by decide +kernel
theorem dX0_init_15 : decode cX0_init 15 = .ok (.newarray .boolean, 2) := by decide +kernel
theorem dX0_init_17 : decode cX0_init 17 = .ok (.putfield 15, 3) := by decide +kernel
theorem dX0_init_20 : decode cX0_init 20 = .ok (.aload_n 0, 1) := by decide +kernel
theorem dX0_init_21 : decode cX0_init 21 = .ok (.bipush 64, 2) := by decide +kernel
theorem dX0_init_23 : decode cX0_init 23 = .ok (.newarray .int, 2) := by decide +kernel
theorem dX0_init_25 : decode cX0_init 25 = .ok (.putfield 19, 3) := by decide +kernel
theorem dX0_init_28 : decode cX0_init 28 = .ok (.aload_n 0, 1) := by decide +kernel
theorem dX0_init_29 : decode cX0_init 29 = .ok (.bipush 64, 2) := by decide +kernel
theorem dX0_init_31 : decode cX0_init 31 = .ok (.newarray .int, 2) := by decide +kernel
theorem dX0_init_33 : decode cX0_init 33 = .ok (.putfield 22, 3) := by decide +kernel
theorem dX0_init_36 : decode cX0_init 36 = .ok (.aload_n 0, 1) := by decide +kernel
theorem dX0_init_37 : decode cX0_init 37 = .ok (.iconst 0, 1) := by decide +kernel
theorem dX0_init_38 : decode cX0_init 38 = .ok (.putfield 25, 3) := by decide +kernel
theorem dX0_init_41 : decode cX0_init 41 = .ok (.aload_n 0, 1) := by decide +kernel
theorem dX0_init_42 : decode cX0_init 42 = .ok (.iconst 0, 1) := by decide +kernel
theorem dX0_init_43 : decode cX0_init 43 = .ok (.putfield 29, 3) := by decide +kernel
theorem dX0_init_46 : decode cX0_init 46 = .ok (.return_, 1) := by decide +kernel
theorem dX0_note_0 : decode cX0_note 0 = .ok (.aload_n 0, 1) := by decide +kernel
theorem dX0_note_1 : decode cX0_note 1 = .ok (.getfield 9, 3) := by decide +kernel
theorem dX0_note_4 : decode cX0_note 4 = .ok (.aload_n 0, 1) := by decide +kernel
theorem dX0_note_5 : decode cX0_note 5 = .ok (.getfield 25, 3) := by decide +kernel
theorem dX0_note_8 : decode cX0_note 8 = .ok (.iload_n 1, 1) := by decide +kernel
theorem dX0_note_9 : decode cX0_note 9 = .ok (.iastore, 1) := by decide +kernel
theorem dX0_note_10 : decode cX0_note 10 = .ok (.aload_n 0, 1) := by decide +kernel
theorem dX0_note_11 : decode cX0_note 11 = .ok (.getfield 15, 3) := by decide +kernel
theorem dX0_note_14 : decode cX0_note 14 = .ok (.aload_n 0, 1) := by decide +kernel
theorem dX0_note_15 : decode cX0_note 15 = .ok (.getfield 25, 3) := by decide +kernel
theorem dX0_note_18 : decode cX0_note 18 = .ok (.aload_n 2, 1) := by decide +kernel
theorem dX0_note_19 : decode cX0_note 19 = .ok (.getfield 32, 3) := by decide +kernel
theorem dX0_note_22 : decode cX0_note 22 = .ok (.iload_n 1, 1) := by decide +kernel
theorem dX0_note_23 : decode cX0_note 23 = .ok (.baload, 1) := by decide +kernel
theorem dX0_note_24 : decode cX0_note 24 = .ok (.bastore, 1) := by decide +kernel
theorem dX0_note_25 : decode cX0_note 25 = .ok (.aload_n 0, 1) := by decide +kernel
theorem dX0_note_26 : decode cX0_note 26 = .ok (.getfield 19, 3) := by decide +kernel
theorem dX0_note_29 : decode cX0_note 29 = .ok (.aload_n 0, 1) := by decide +kernel
theorem dX0_note_30 : decode cX0_note 30 = .ok (.getfield 25, 3) := by decide +kernel
theorem dX0_note_33 : decode cX0_note 33 = .ok (.aload_n 2, 1) := by decide +kernel
theorem dX0_note_34 : decode cX0_note 34 = .ok (.getfield 35, 3) := by decide +kernel
theorem dX0_note_37 : decode cX0_note 37 = .ok (.iload_n 1, 1) := by decide +kernel
theorem dX0_note_38 : decode cX0_note 38 = .ok (.iaload, 1) := by decide +kernel
theorem dX0_note_39 : decode cX0_note 39 = .ok (.iastore, 1) := by decide +kernel
theorem dX0_note_40 : decode cX0_note 40 = .ok (.aload_n 0, 1) := by decide +kernel
theorem dX0_note_41 : decode cX0_note 41 = .ok (.getfield 22, 3) := by decide +kernel
theorem dX0_note_44 : decode cX0_note 44 = .ok (.aload_n 0, 1) := by decide +kernel
theorem dX0_note_45 : decode cX0_note 45 = .ok (.getfield 25, 3) := by decide +kernel
theorem dX0_note_48 : decode cX0_note 48 = .ok (.aload_n 2, 1) := by decide +kernel
theorem dX0_note_49 : decode cX0_note 49 = .ok (.getfield 36, 3) := by decide +kernel
theorem dX0_note_52 : decode cX0_note 52 = .ok (.iload_n 1, 1) := by decide +kernel
theorem dX0_note_53 : decode cX0_note 53 = .ok (.iaload, 1) := by decide +kernel
theorem dX0_note_54 : decode cX0_note 54 = .ok (.iastore, 1) := by decide +kernel
theorem dX0_note_55 : decode cX0_note 55 = .ok (.aload_n 0, 1) := by decide +kernel
theorem dX0_note_56 : decode cX0_note 56 = .ok (.aload_n 0, 1) := by decide +kernel
theorem dX0_note_57 : decode cX0_note 57 = .ok (.getfield 25, 3) := by decide +kernel
theorem dX0_note_60 : decode cX0_note 60 = .ok (.iconst 1, 1) := by decide +kernel
theorem dX0_note_61 : decode cX0_note 61 = .ok (.iadd, 1) := by decide +kernel
theorem dX0_note_62 : decode cX0_note 62 = .ok (.bipush 64, 2) := by decide +kernel
theorem dX0_note_64 : decode cX0_note 64 = .ok (.if_icmp .ge 12, 3) := by decide +kernel
theorem dX0_note_67 : decode cX0_note 67 = .ok (.aload_n 0, 1) := by decide +kernel
theorem dX0_note_68 : decode cX0_note 68 = .ok (.getfield 25, 3) := by decide +kernel
theorem dX0_note_71 : decode cX0_note 71 = .ok (.iconst 1, 1) := by decide +kernel
theorem dX0_note_72 : decode cX0_note 72 = .ok (.iadd, 1) := by decide +kernel
theorem dX0_note_73 : decode cX0_note 73 = .ok (.goto 4, 3) := by decide +kernel
theorem dX0_note_76 : decode cX0_note 76 = .ok (.iconst 0, 1) := by decide +kernel
theorem dX0_note_77 : decode cX0_note 77 = .ok (.putfield 25, 3) := by decide +kernel
theorem dX0_note_80 : decode cX0_note 80 = .ok (.aload_n 0, 1) := by decide +kernel
theorem dX0_note_81 : decode cX0_note 81 = .ok (.aload_n 0, 1) := by decide +kernel
theorem dX0_note_82 : decode cX0_note 82 = .ok (.getfield 29, 3) := by decide +kernel
theorem dX0_note_85 : decode cX0_note 85 = .ok (.iconst 1, 1) := by decide +kernel
theorem dX0_note_86 : decode cX0_note 86 = .ok (.iadd, 1) := by decide +kernel
theorem dX0_note_87 : decode cX0_note 87 = .ok (.bipush 64, 2) := by decide +kernel
theorem dX0_note_89 : decode cX0_note 89 = .ok (.invokestatic 37, 3) := by decide +kernel
theorem dX0_note_92 : decode cX0_note 92 = .ok (.putfield 29, 3) := by decide +kernel
theorem dX0_note_95 : decode cX0_note 95 = .ok (.return_, 1) := by decide +kernel
theorem dX0_takeLast_0 : decode cX0_takeLast 0 = .ok (.aload_n 0, 1) := by decide +kernel
theorem dX0_takeLast_1 : decode cX0_takeLast 1 = .ok (.aload_n 0, 1) := by decide +kernel
theorem dX0_takeLast_2 : decode cX0_takeLast 2 = .ok (.getfield 25, 3) := by decide +kernel
theorem dX0_takeLast_5 : decode cX0_takeLast 5 = .ok (.ifCond .le 12, 3) := by decide +kernel
theorem dX0_takeLast_8 : decode cX0_takeLast 8 = .ok (.aload_n 0, 1) := by decide +kernel
theorem dX0_takeLast_9 : decode cX0_takeLast 9 = .ok (.getfield 25, 3) := by decide +kernel
theorem dX0_takeLast_12 : decode cX0_takeLast 12 = .ok (.iconst 1, 1) := by decide +kernel
theorem dX0_takeLast_13 : decode cX0_takeLast 13 = .ok (.isub, 1) := by decide +kernel
theorem dX0_takeLast_14 : decode cX0_takeLast 14 = .ok (.goto 5, 3) := by decide +kernel
theorem dX0_takeLast_17 : decode cX0_takeLast 17 = .ok (.bipush 63, 2) := by decide +kernel
theorem dX0_takeLast_19 : decode cX0_takeLast 19 = .ok (.putfield 25, 3) := by decide +kernel
theorem dX0_takeLast_22 : decode cX0_takeLast 22 = .ok (.aload_n 0, 1) := by decide +kernel
theorem dX0_takeLast_23 : decode cX0_takeLast 23 = .ok (.dup, 1) := by decide +kernel
theorem dX0_takeLast_24 : decode cX0_takeLast 24 = .ok (.getfield 29, 3) := by decide +kernel
theorem dX0_takeLast_27 : decode cX0_takeLast 27 = .ok (.iconst 1, 1) := by decide +kernel
theorem dX0_takeLast_28 : decode cX0_takeLast 28 = .ok (.isub, 1) := by decide +kernel
theorem dX0_takeLast_29 : decode cX0_takeLast 29 = .ok (.putfield 29, 3) := by decide +kernel
theorem dX0_takeLast_32 : decode cX0_takeLast 32 = .ok (.aload_n 0, 1) := by decide +kernel
theorem dX0_takeLast_33 : decode cX0_takeLast 33 = .ok (.getfield 25, 3) := by decide +kernel
theorem dX0_takeLast_36 : decode cX0_takeLast 36 = .ok (.ireturn, 1) := by decide +kernel
theorem dX1_init_0 : decode cX1_init 0 = .ok (.aload_n 0, 1) := by decide +kernel
theorem dX1_init_1 : decode cX1_init 1 = .ok (.invokespecial 3, 3) := by decide +kernel
theorem dX1_init_4 : decode cX1_init 4 = .ok (.aload_n 0, 1) := by decide +kernel
theorem dX1_init_5 : decode cX1_init 5 = .ok (.bipush 49, 2) := by decide +kernel
theorem dX1_init_7 : decode cX1_init 7 = .ok (.newarray .int, 2) := by decide +kernel
theorem dX1_init_9 : decode cX1_init 9 = .ok (.putfield 9, 3) := by decide +kernel
theorem dX1_init_12 : decode cX1_init 12 = .ok (.aload_n 0, 1) := by decide +kernel
theorem dX1_init_13 : decode cX1_init 13 = .ok (.bipush 49, 2) := by decide +kernel
theorem dX1_init_15 : decode cX1_init 15 = .ok (.newarray .int, 2) := by decide +kernel
theorem dX1_init_17 : decode cX1_init 17 = .ok (.putfield 15, 3) := by decide +kernel
theorem dX1_init_20 : decode cX1_init 20 = .ok (.aload_n 0, 1) := by decide +kernel
theorem dX1_init_21 : decode cX1_init 21 = .ok (.iconst 0, 1) := by decide +kernel
theorem dX1_init_22 : decode cX1_init 22 = .ok (.putfield 18, 3) := by decide +kernel
theorem dX1_init_25 : decode cX1_init 25 = .ok (.return_, 1) := by decide +kernel
theorem dX1_build_0 : decode cX1_build 0 = .ok (.aload_n 0, 1) := by decide +kernel
theorem dX1_build_1 : decode cX1_build 1 = .ok (.iconst 0, 1) := by decide +kernel
theorem dX1_build_2 : decode cX1_build 2 = .ok (.putfield 18, 3) := by decide +kernel
theorem dX1_build_5 : decode cX1_build 5 = .ok (.ldc 22, 2) := by decide +kernel
theorem dX1_build_7 : decode cX1_build 7 = .ok (.istore_n 2, 1) := by decide +kernel
theorem dX1_build_8 : decode cX1_build 8 = .ok (.iconst 0, 1) := by decide +kernel
theorem dX1_build_9 : decode cX1_build 9 = .ok (.istore_n 3, 1) := by decide +kernel
theorem dX1_build_10 : decode cX1_build 10 = .ok (.iload_n 3, 1) := by decide +kernel
theorem dX1_build_11 : decode cX1_build 11 = .ok (.aload_n 1, 1) := by decide +kernel
theorem dX1_build_12 : decode cX1_build 12 = .ok (.getfield 23, 3) := by decide +kernel
theorem dX1_build_15 : decode cX1_build 15 = .ok (.if_icmp .ge 41, 3) := by decide +kernel
theorem dX1_build_18 : decode cX1_build 18 = .ok (.aload_n 1, 1) := by decide +kernel
theorem dX1_build_19 : decode cX1_build 19 = .ok (.getfield 26, 3) := by decide +kernel
theorem dX1_build_22 : decode cX1_build 22 = .ok (.iload_n 3, 1) := by decide +kernel
theorem dX1_build_23 : decode cX1_build 23 = .ok (.iaload, 1) := by decide +kernel
theorem dX1_build_24 : decode cX1_build 24 = .ok (.istore 4, 2) := by decide +kernel
theorem dX1_build_26 : decode cX1_build 26 = .ok (.aload_n 0, 1) := by decide +kernel
theorem dX1_build_27 : decode cX1_build 27 = .ok (.iload_n 2, 1) := by decide +kernel
theorem dX1_build_28 : decode cX1_build 28 = .ok (.aload_n 1, 1) := by decide +kernel
theorem dX1_build_29 : decode cX1_build 29 = .ok (.getfield 29, 3) := by decide +kernel
theorem dX1_build_32 : decode cX1_build 32 = .ok (.iload 4, 2) := by decide +kernel
theorem dX1_build_34 : decode cX1_build 34 = .ok (.iaload, 1) := by decide +kernel
theorem dX1_build_35 : decode cX1_build 35 = .ok (.invokevirtual 32, 3) := by decide +kernel
theorem dX1_build_38 : decode cX1_build 38 = .ok (.iload_n 2, 1) := by decide +kernel
theorem dX1_build_39 : decode cX1_build 39 = .ok (.aload_n 1, 1) := by decide +kernel
theorem dX1_build_40 : decode cX1_build 40 = .ok (.getfield 36, 3) := by decide +kernel
theorem dX1_build_43 : decode cX1_build 43 = .ok (.iload 4, 2) := by decide +kernel
theorem dX1_build_45 : decode cX1_build 45 = .ok (.iaload, 1) := by decide +kernel
theorem dX1_build_46 : decode cX1_build 46 = .ok (.invokestatic 39, 3) := by decide +kernel
theorem dX1_build_49 : decode cX1_build 49 = .ok (.istore_n 2, 1) := by decide +kernel
theorem dX1_build_50 : decode cX1_build 50 = .ok (.iinc 3 1, 3) := by decide +kernel
theorem dX1_build_53 : decode cX1_build 53 = .ok (.goto (-43), 3) := by decide +kernel
theorem dX1_build_56 : decode cX1_build 56 = .ok (.aload_n 0, 1) := by decide +kernel
theorem dX1_build_57 : decode cX1_build 57 = .ok (.iload_n 2, 1) := by decide +kernel
theorem dX1_build_58 : decode cX1_build 58 = .ok (.ldc 45, 2) := by decide +kernel
theorem dX1_build_60 : decode cX1_build 60 = .ok (.invokevirtual 32, 3) := by decide +kernel
theorem dX1_build_63 : decode cX1_build 63 = .ok (.return_, 1) := by decide +kernel
theorem dX1_addPart_0 : decode cX1_addPart 0 = .ok (.iload_n 1, 1) := by decide +kernel
theorem dX1_addPart_1 : decode cX1_addPart 1 = .ok (.iload_n 2, 1) := by decide +kernel
theorem dX1_addPart_2 : decode cX1_addPart 2 = .ok (.if_icmp .ge 42, 3) := by decide +kernel
theorem dX1_addPart_5 : decode cX1_addPart 5 = .ok (.aload_n 0, 1) := by decide +kernel
theorem dX1_addPart_6 : decode cX1_addPart 6 = .ok (.getfield 18, 3) := by decide +kernel
theorem dX1_addPart_9 : decode cX1_addPart 9 = .ok (.bipush 48, 2) := by decide +kernel
theorem dX1_addPart_11 : decode cX1_addPart 11 = .ok (.if_icmp .gt 33, 3) := by decide +kernel
theorem dX1_addPart_14 : decode cX1_addPart 14 = .ok (.aload_n 0, 1) := by decide +kernel
theorem dX1_addPart_15 : decode cX1_addPart 15 = .ok (.getfield 9, 3) := by decide +kernel
theorem dX1_addPart_18 : decode cX1_addPart 18 = .ok (.aload_n 0, 1) := by decide +kernel
theorem dX1_addPart_19 : decode cX1_addPart 19 = .ok (.getfield 18, 3) := by decide +kernel
theorem dX1_addPart_22 : decode cX1_addPart 22 = .ok (.iload_n 1, 1) := by decide +kernel
theorem dX1_addPart_23 : decode cX1_addPart 23 = .ok (.iastore, 1) := by decide +kernel
theorem dX1_addPart_24 : decode cX1_addPart 24 = .ok (.aload_n 0, 1) := by decide +kernel
theorem dX1_addPart_25 : decode cX1_addPart 25 = .ok (.getfield 15, 3) := by decide +kernel
theorem dX1_addPart_28 : decode cX1_addPart 28 = .ok (.aload_n 0, 1) := by decide +kernel
theorem dX1_addPart_29 : decode cX1_addPart 29 = .ok (.getfield 18, 3) := by decide +kernel
theorem dX1_addPart_32 : decode cX1_addPart 32 = .ok (.iload_n 2, 1) := by decide +kernel
theorem dX1_addPart_33 : decode cX1_addPart 33 = .ok (.iastore, 1) := by decide +kernel
theorem dX1_addPart_34 : decode cX1_addPart 34 = .ok (.aload_n 0, 1) := by decide +kernel
theorem dX1_addPart_35 : decode cX1_addPart 35 = .ok (.dup, 1) := by decide +kernel
theorem dX1_addPart_36 : decode cX1_addPart 36 = .ok (.getfield 18, 3) := by decide +kernel
theorem dX1_addPart_39 : decode cX1_addPart 39 = .ok (.iconst 1, 1) := by decide +kernel
theorem dX1_addPart_40 : decode cX1_addPart 40 = .ok (.iadd, 1) := by decide +kernel
theorem dX1_addPart_41 : decode cX1_addPart 41 = .ok (.putfield 18, 3) := by decide +kernel
theorem dX1_addPart_44 : decode cX1_addPart 44 = .ok (.return_, 1) := by decide +kernel
theorem dX1_pointsOf_0 : decode cX1_pointsOf 0 = .ok (.aload_n 0, 1) := by decide +kernel
theorem dX1_pointsOf_1 : decode cX1_pointsOf 1 = .ok (.getfield 15, 3) := by decide +kernel
theorem dX1_pointsOf_4 : decode cX1_pointsOf 4 = .ok (.iload_n 1, 1) := by decide +kernel
theorem dX1_pointsOf_5 : decode cX1_pointsOf 5 = .ok (.iaload, 1) := by decide +kernel
theorem dX1_pointsOf_6 : decode cX1_pointsOf 6 = .ok (.iload_n 3, 1) := by decide +kernel
theorem dX1_pointsOf_7 : decode cX1_pointsOf 7 = .ok (.invokestatic 46, 3) := by decide +kernel
theorem dX1_pointsOf_10 : decode cX1_pointsOf 10 = .ok (.aload_n 0, 1) := by decide +kernel
theorem dX1_pointsOf_11 : decode cX1_pointsOf 11 = .ok (.getfield 9, 3) := by decide +kernel
theorem dX1_pointsOf_14 : decode cX1_pointsOf 14 = .ok (.iload_n 1, 1) := by decide +kernel
theorem dX1_pointsOf_15 : decode cX1_pointsOf 15 = .ok (.iaload, 1) := by decide +kernel
theorem dX1_pointsOf_16 : decode cX1_pointsOf 16 = .ok (.iload_n 2, 1) := by decide +kernel
theorem dX1_pointsOf_17 : decode cX1_pointsOf 17 = .ok (.invokestatic 39, 3) := by decide +kernel
theorem dX1_pointsOf_20 : decode cX1_pointsOf 20 = .ok (.isub, 1) := by decide +kernel
theorem dX1_pointsOf_21 : decode cX1_pointsOf 21 = .ok (.iconst 0, 1) := by decide +kernel
theorem dX1_pointsOf_22 : decode cX1_pointsOf 22 = .ok (.invokestatic 39, 3) := by decide +kernel
theorem dX1_pointsOf_25 : decode cX1_pointsOf 25 = .ok (.ireturn, 1) := by decide +kernel
theorem dX1_pointsWithin_0 : decode cX1_pointsWithin 0 = .ok (.iconst 0, 1) := by decide +kernel
theorem dX1_pointsWithin_1 : decode cX1_pointsWithin 1 = .ok (.istore_n 3, 1) := by decide +kernel
theorem dX1_pointsWithin_2 : decode cX1_pointsWithin 2 = .ok (.iconst 0, 1) := by decide +kernel
theorem dX1_pointsWithin_3 : decode cX1_pointsWithin 3 = .ok (.istore 4, 2) := by decide +kernel
theorem dX1_pointsWithin_5 : decode cX1_pointsWithin 5 = .ok (.iload 4, 2) := by decide +kernel
theorem dX1_pointsWithin_7 : decode cX1_pointsWithin 7 = .ok (.aload_n 0, 1) := by decide +kernel
theorem dX1_pointsWithin_8 : decode cX1_pointsWithin 8 = .ok (.getfield 18, 3) := by decide +kernel
theorem dX1_pointsWithin_11 : decode cX1_pointsWithin 11 = .ok (.if_icmp .ge 20, 3) := by decide +kernel
theorem dX1_pointsWithin_14 : decode cX1_pointsWithin 14 = .ok (.iload_n 3, 1) := by decide +kernel
theorem dX1_pointsWithin_15 : decode cX1_pointsWithin 15 = .ok (.aload_n 0, 1) := by decide +kernel
theorem dX1_pointsWithin_16 : decode cX1_pointsWithin 16 = .ok (.iload 4, 2) := by decide +kernel
theorem dX1_pointsWithin_18 : decode cX1_pointsWithin 18 = .ok (.iload_n 1, 1) := by decide +kernel
theorem dX1_pointsWithin_19 : decode cX1_pointsWithin 19 = .ok (.iload_n 2, 1) := by decide +kernel
theorem dX1_pointsWithin_20 : decode cX1_pointsWithin 20 = .ok (.invokevirtual 49, 3) := by decide +kernel
theorem dX1_pointsWithin_23 : decode cX1_pointsWithin 23 = .ok (.iadd, 1) := by decide +kernel
theorem dX1_pointsWithin_24 : decode cX1_pointsWithin 24 = .ok (.istore_n 3, 1) := by decide +kernel
theorem dX1_pointsWithin_25 : decode cX1_pointsWithin 25 = .ok (.iinc 4 1, 3) := by decide +kernel
theorem dX1_pointsWithin_28 : decode cX1_pointsWithin 28 = .ok (.goto (-23), 3) := by decide +kernel
theorem dX1_pointsWithin_31 : decode cX1_pointsWithin 31 = .ok (.iload_n 3, 1) := by decide +kernel
theorem dX1_pointsWithin_32 : decode cX1_pointsWithin 32 = .ok (.ireturn, 1) := by decide +kernel
theorem dX1_partsWithin_0 : decode cX1_partsWithin 0 = .ok (.iconst 0, 1) := by decide +kernel
theorem dX1_partsWithin_1 : decode cX1_partsWithin 1 = .ok (.istore_n 3, 1) := by decide +kernel
theorem dX1_partsWithin_2 : decode cX1_partsWithin 2 = .ok (.iconst 0, 1) := by decide +kernel
theorem dX1_partsWithin_3 : decode cX1_partsWithin 3 = .ok (.istore 4, 2) := by decide +kernel
theorem dX1_partsWithin_5 : decode cX1_partsWithin 5 = .ok (.iload 4, 2) := by decide +kernel
theorem dX1_partsWithin_7 : decode cX1_partsWithin 7 = .ok (.aload_n 0, 1) := by decide +kernel
theorem dX1_partsWithin_8 : decode cX1_partsWithin 8 = .ok (.getfield 18, 3) := by decide +kernel
theorem dX1_partsWithin_11 : decode cX1_partsWithin 11 = .ok (.if_icmp .ge 28, 3) := by decide +kernel
theorem dX1_partsWithin_14 : decode cX1_partsWithin 14 = .ok (.iload_n 3, 1) := by decide +kernel
theorem dX1_partsWithin_15 : decode cX1_partsWithin 15 = .ok (.aload_n 0, 1) := by decide +kernel
theorem dX1_partsWithin_16 : decode cX1_partsWithin 16 = .ok (.iload 4, 2) := by decide +kernel
theorem dX1_partsWithin_18 : decode cX1_partsWithin 18 = .ok (.iload_n 1, 1) := by decide +kernel
theorem dX1_partsWithin_19 : decode cX1_partsWithin 19 = .ok (.iload_n 2, 1) := by decide +kernel
theorem dX1_partsWithin_20 : decode cX1_partsWithin 20 = .ok (.invokevirtual 49, 3) := by decide +kernel
theorem dX1_partsWithin_23 : decode cX1_partsWithin 23 = .ok (.ifCond .le 7, 3) := by decide +kernel
theorem dX1_partsWithin_26 : decode cX1_partsWithin 26 = .ok (.iconst 1, 1) := by decide +kernel
theorem dX1_partsWithin_27 : decode cX1_partsWithin 27 = .ok (.goto 4, 3) := by decide +kernel
theorem dX1_partsWithin_30 : decode cX1_partsWithin 30 = .ok (.iconst 0, 1) := by decide +kernel
theorem dX1_partsWithin_31 : decode cX1_partsWithin 31 = .ok (.iadd, 1) := by decide +kernel
theorem dX1_partsWithin_32 : decode cX1_partsWithin 32 = .ok (.istore_n 3, 1) := by decide +kernel
theorem dX1_partsWithin_33 : decode cX1_partsWithin 33 = .ok (.iinc 4 1, 3) := by decide +kernel
theorem dX1_partsWithin_36 : decode cX1_partsWithin 36 = .ok (.goto (-31), 3) := by decide +kernel
theorem dX1_partsWithin_39 : decode cX1_partsWithin 39 = .ok (.iload_n 3, 1) := by decide +kernel
theorem dX1_partsWithin_40 : decode cX1_partsWithin 40 = .ok (.ireturn, 1) := by decide +kernel
theorem dX1_partAt_0 : decode cX1_partAt 0 = .ok (.iconst 0, 1) := by decide +kernel
theorem dX1_partAt_1 : decode cX1_partAt 1 = .ok (.istore 4, 2) := by decide +kernel
theorem dX1_partAt_3 : decode cX1_partAt 3 = .ok (.iconst 0, 1) := by decide +kernel
theorem dX1_partAt_4 : decode cX1_partAt 4 = .ok (.istore 5, 2) := by decide +kernel
theorem dX1_partAt_6 : decode cX1_partAt 6 = .ok (.iload 5, 2) := by decide +kernel
theorem dX1_partAt_8 : decode cX1_partAt 8 = .ok (.aload_n 0, 1) := by decide +kernel
theorem dX1_partAt_9 : decode cX1_partAt 9 = .ok (.getfield 18, 3) := by decide +kernel
theorem dX1_partAt_12 : decode cX1_partAt 12 = .ok (.if_icmp .ge 32, 3) := by decide +kernel
theorem dX1_partAt_15 : decode cX1_partAt 15 = .ok (.aload_n 0, 1) := by decide +kernel
theorem dX1_partAt_16 : decode cX1_partAt 16 = .ok (.iload 5, 2) := by decide +kernel
theorem dX1_partAt_18 : decode cX1_partAt 18 = .ok (.iload_n 1, 1) := by decide +kernel
theorem dX1_partAt_19 : decode cX1_partAt 19 = .ok (.iload_n 2, 1) := by decide +kernel
theorem dX1_partAt_20 : decode cX1_partAt 20 = .ok (.invokevirtual 49, 3) := by decide +kernel
theorem dX1_partAt_23 : decode cX1_partAt 23 = .ok (.ifCond .le 15, 3) := by decide +kernel
theorem dX1_partAt_26 : decode cX1_partAt 26 = .ok (.iload 4, 2) := by decide +kernel
theorem dX1_partAt_28 : decode cX1_partAt 28 = .ok (.iload_n 3, 1) := by decide +kernel
theorem dX1_partAt_29 : decode cX1_partAt 29 = .ok (.if_icmp .ne 6, 3) := by decide +kernel
theorem dX1_partAt_32 : decode cX1_partAt 32 = .ok (.iload 5, 2) := by decide +kernel
theorem dX1_partAt_34 : decode cX1_partAt 34 = .ok (.ireturn, 1) := by decide +kernel
theorem dX1_partAt_35 : decode cX1_partAt 35 = .ok (.iinc 4 1, 3) := by decide +kernel
theorem dX1_partAt_38 : decode cX1_partAt 38 = .ok (.iinc 5 1, 3) := by decide +kernel
theorem dX1_partAt_41 : decode cX1_partAt 41 = .ok (.goto (-35), 3) := by decide +kernel
theorem dX1_partAt_44 : decode cX1_partAt 44 = .ok (.iconst (-1), 1) := by decide +kernel
theorem dX1_partAt_45 : decode cX1_partAt 45 = .ok (.ireturn, 1) := by decide +kernel
theorem dX1_nextPlace_0 : decode cX1_nextPlace 0 = .ok (.iconst 0, 1) := by decide +kernel
theorem dX1_nextPlace_1 : decode cX1_nextPlace 1 = .ok (.istore_n 3, 1) := by decide +kernel
theorem dX1_nextPlace_2 : decode cX1_nextPlace 2 = .ok (.iload_n 3, 1) := by decide +kernel
theorem dX1_nextPlace_3 : decode cX1_nextPlace 3 = .ok (.aload_n 0, 1) := by decide +kernel
theorem dX1_nextPlace_4 : decode cX1_nextPlace 4 = .ok (.getfield 18, 3) := by decide +kernel
theorem dX1_nextPlace_7 : decode cX1_nextPlace 7 = .ok (.if_icmp .ge 37, 3) := by decide +kernel
theorem dX1_nextPlace_10 : decode cX1_nextPlace 10 = .ok (.aload_n 0, 1) := by decide +kernel
theorem dX1_nextPlace_11 : decode cX1_nextPlace 11 = .ok (.getfield 9, 3) := by decide +kernel
theorem dX1_nextPlace_14 : decode cX1_nextPlace 14 = .ok (.iload_n 3, 1) := by decide +kernel
theorem dX1_nextPlace_15 : decode cX1_nextPlace 15 = .ok (.iaload, 1) := by decide +kernel
theorem dX1_nextPlace_16 : decode cX1_nextPlace 16 = .ok (.iload_n 1, 1) := by decide +kernel
theorem dX1_nextPlace_17 : decode cX1_nextPlace 17 = .ok (.invokestatic 39, 3) := by decide +kernel
theorem dX1_nextPlace_20 : decode cX1_nextPlace 20 = .ok (.istore 4, 2) := by decide +kernel
theorem dX1_nextPlace_22 : decode cX1_nextPlace 22 = .ok (.iload 4, 2) := by decide +kernel
theorem dX1_nextPlace_24 : decode cX1_nextPlace 24 = .ok (.iload_n 2, 1) := by decide +kernel
theorem dX1_nextPlace_25 : decode cX1_nextPlace 25 = .ok (.iadd, 1) := by decide +kernel
theorem dX1_nextPlace_26 : decode cX1_nextPlace 26 = .ok (.aload_n 0, 1) := by decide +kernel
theorem dX1_nextPlace_27 : decode cX1_nextPlace 27 = .ok (.getfield 15, 3) := by decide +kernel
theorem dX1_nextPlace_30 : decode cX1_nextPlace 30 = .ok (.iload_n 3, 1) := by decide +kernel
theorem dX1_nextPlace_31 : decode cX1_nextPlace 31 = .ok (.iaload, 1) := by decide +kernel
theorem dX1_nextPlace_32 : decode cX1_nextPlace 32 = .ok (.if_icmp .gt 6, 3) := by decide +kernel
theorem dX1_nextPlace_35 : decode cX1_nextPlace 35 = .ok (.iload 4, 2) := by decide +kernel
theorem dX1_nextPlace_37 : decode cX1_nextPlace 37 = .ok (.ireturn, 1) := by decide +kernel
theorem dX1_nextPlace_38 : decode cX1_nextPlace 38 = .ok (.iinc 3 1, 3) := by decide +kernel
theorem dX1_nextPlace_41 : decode cX1_nextPlace 41 = .ok (.goto (-39), 3) := by decide +kernel
theorem dX1_nextPlace_44 : decode cX1_nextPlace 44 = .ok (.ldc 53, 2) := by decide +kernel
theorem dX1_nextPlace_46 : decode cX1_nextPlace 46 = .ok (.ireturn, 1) := by decide +kernel
theorem dX1_lastPlace_0 : decode cX1_lastPlace 0 = .ok (.aload_n 0, 1) := by decide +kernel
theorem dX1_lastPlace_1 : decode cX1_lastPlace 1 = .ok (.getfield 18, 3) := by decide +kernel
theorem dX1_lastPlace_4 : decode cX1_lastPlace 4 = .ok (.iconst 1, 1) := by decide +kernel
theorem dX1_lastPlace_5 : decode cX1_lastPlace 5 = .ok (.isub, 1) := by decide +kernel
theorem dX1_lastPlace_6 : decode cX1_lastPlace 6 = .ok (.istore_n 3, 1) := by decide +kernel
theorem dX1_lastPlace_7 : decode cX1_lastPlace 7 = .ok (.iload_n 3, 1) := by decide +kernel
theorem dX1_lastPlace_8 : decode cX1_lastPlace 8 = .ok (.ifCond .lt 37, 3) := by decide +kernel
theorem dX1_lastPlace_11 : decode cX1_lastPlace 11 = .ok (.aload_n 0, 1) := by decide +kernel
theorem dX1_lastPlace_12 : decode cX1_lastPlace 12 = .ok (.getfield 15, 3) := by decide +kernel
theorem dX1_lastPlace_15 : decode cX1_lastPlace 15 = .ok (.iload_n 3, 1) := by decide +kernel
theorem dX1_lastPlace_16 : decode cX1_lastPlace 16 = .ok (.iaload, 1) := by decide +kernel
theorem dX1_lastPlace_17 : decode cX1_lastPlace 17 = .ok (.iload_n 1, 1) := by decide +kernel
theorem dX1_lastPlace_18 : decode cX1_lastPlace 18 = .ok (.invokestatic 46, 3) := by decide +kernel
theorem dX1_lastPlace_21 : decode cX1_lastPlace 21 = .ok (.iload_n 2, 1) := by decide +kernel
theorem dX1_lastPlace_22 : decode cX1_lastPlace 22 = .ok (.isub, 1) := by decide +kernel
theorem dX1_lastPlace_23 : decode cX1_lastPlace 23 = .ok (.istore 4, 2) := by decide +kernel
theorem dX1_lastPlace_25 : decode cX1_lastPlace 25 = .ok (.iload 4, 2) := by decide +kernel
theorem dX1_lastPlace_27 : decode cX1_lastPlace 27 = .ok (.aload_n 0, 1) := by decide +kernel
theorem dX1_lastPlace_28 : decode cX1_lastPlace 28 = .ok (.getfield 9, 3) := by decide +kernel
theorem dX1_lastPlace_31 : decode cX1_lastPlace 31 = .ok (.iload_n 3, 1) := by decide +kernel
theorem dX1_lastPlace_32 : decode cX1_lastPlace 32 = .ok (.iaload, 1) := by decide +kernel
theorem dX1_lastPlace_33 : decode cX1_lastPlace 33 = .ok (.if_icmp .lt 6, 3) := by decide +kernel
theorem dX1_lastPlace_36 : decode cX1_lastPlace 36 = .ok (.iload 4, 2) := by decide +kernel
theorem dX1_lastPlace_38 : decode cX1_lastPlace 38 = .ok (.ireturn, 1) := by decide +kernel
theorem dX1_lastPlace_39 : decode cX1_lastPlace 39 = .ok (.iinc 3 (-1), 3) := by decide +kernel
theorem dX1_lastPlace_42 : decode cX1_lastPlace 42 = .ok (.goto (-35), 3) := by decide +kernel
theorem dX1_lastPlace_45 : decode cX1_lastPlace 45 = .ok (.ldc 53, 2) := by decide +kernel
theorem dX1_lastPlace_47 : decode cX1_lastPlace 47 = .ok (.ireturn, 1) := by decide +kernel
theorem dX1_nearestPlace_0 : decode cX1_nearestPlace 0 = .ok (.aload_n 0, 1) := by decide +kernel
theorem dX1_nearestPlace_1 : decode cX1_nearestPlace 1 = .ok (.iload_n 1, 1) := by decide +kernel
theorem dX1_nearestPlace_2 : decode cX1_nearestPlace 2 = .ok (.iload_n 2, 1) := by decide +kernel
theorem dX1_nearestPlace_3 : decode cX1_nearestPlace 3 = .ok (.invokevirtual 54, 3) := by decide +kernel
theorem dX1_nearestPlace_6 : decode cX1_nearestPlace 6 = .ok (.istore_n 3, 1) := by decide +kernel
theorem dX1_nearestPlace_7 : decode cX1_nearestPlace 7 = .ok (.aload_n 0, 1) := by decide +kernel
theorem dX1_nearestPlace_8 : decode cX1_nearestPlace 8 = .ok (.iload_n 1, 1) := by decide +kernel
theorem dX1_nearestPlace_9 : decode cX1_nearestPlace 9 = .ok (.iload_n 2, 1) := by decide +kernel
theorem dX1_nearestPlace_10 : decode cX1_nearestPlace 10 = .ok (.iadd, 1) := by decide +kernel
theorem dX1_nearestPlace_11 : decode cX1_nearestPlace 11 = .ok (.iload_n 2, 1) := by decide +kernel
theorem dX1_nearestPlace_12 : decode cX1_nearestPlace 12 = .ok (.invokevirtual 57, 3) := by decide +kernel
theorem dX1_nearestPlace_15 : decode cX1_nearestPlace 15 = .ok (.istore 4, 2) := by decide +kernel
theorem dX1_nearestPlace_17 : decode cX1_nearestPlace 17 = .ok (.iload 4, 2) := by decide +kernel
theorem dX1_nearestPlace_19 : decode cX1_nearestPlace 19 = .ok (.ldc 53, 2) := by decide +kernel
theorem dX1_nearestPlace_21 : decode cX1_nearestPlace 21 = .ok (.if_icmp .ne 5, 3) := by decide +kernel
theorem dX1_nearestPlace_24 : decode cX1_nearestPlace 24 = .ok (.iload_n 3, 1) := by decide +kernel
theorem dX1_nearestPlace_25 : decode cX1_nearestPlace 25 = .ok (.ireturn, 1) := by decide +kernel
theorem dX1_nearestPlace_26 : decode cX1_nearestPlace 26 = .ok (.iload_n 3, 1) := by decide +kernel
theorem dX1_nearestPlace_27 : decode cX1_nearestPlace 27 = .ok (.ldc 53, 2) := by decide +kernel
theorem dX1_nearestPlace_29 : decode cX1_nearestPlace 29 = .ok (.if_icmp .ne 6, 3) := by decide +kernel
theorem dX1_nearestPlace_32 : decode cX1_nearestPlace 32 = .ok (.iload 4, 2) := by decide +kernel
theorem dX1_nearestPlace_34 : decode cX1_nearestPlace 34 = .ok (.ireturn, 1) := by decide +kernel
theorem dX1_nearestPlace_35 : decode cX1_nearestPlace 35 = .ok (.iload_n 1, 1) := by decide +kernel
theorem dX1_nearestPlace_36 : decode cX1_nearestPlace 36 = .ok (.iload 4, 2) := by decide +kernel
theorem dX1_nearestPlace_38 : decode cX1_nearestPlace 38 = .ok (.isub, 1) := by decide +kernel
theorem dX1_nearestPlace_39 : decode cX1_nearestPlace 39 = .ok (.iload_n 3, 1) := by decide +kernel
theorem dX1_nearestPlace_40 : decode cX1_nearestPlace 40 = .ok (.iload_n 1, 1) := by decide +kernel
theorem dX1_nearestPlace_41 : decode cX1_nearestPlace 41 = .ok (.isub, 1) := by decide +kernel
theorem dX1_nearestPlace_42 : decode cX1_nearestPlace 42 = .ok (.if_icmp .gt 8, 3) := by decide +kernel
theorem dX1_nearestPlace_45 : decode cX1_nearestPlace 45 = .ok (.iload 4, 2) := by decide +kernel
theorem dX1_nearestPlace_47 : decode cX1_nearestPlace 47 = .ok (.goto 4, 3) := by decide +kernel
theorem dX1_nearestPlace_50 : decode cX1_nearestPlace 50 = .ok (.iload_n 3, 1) := by decide +kernel
theorem dX1_nearestPlace_51 : decode cX1_nearestPlace 51 = .ok (.ireturn, 1) := by decide +kernel
theorem dX2_init_0 : decode cX2_init 0 = .ok (.aload_n 0, 1) := by decide +kernel
theorem dX2_init_1 : decode cX2_init 1 = .ok (.invokespecial 3, 3) := by decide +kernel
theorem dX2_init_4 : decode cX2_init 4 = .ok (.aload_n 0, 1) := by decide +kernel
theorem dX2_init_5 : decode cX2_init 5 = .ok (.bipush 48, 2) := by decide +kernel
theorem dX2_init_7 : decode cX2_init 7 = .ok (.newarray .int, 2) := by decide +kernel
theorem dX2_init_9 : decode cX2_init 9 = .ok (.putfield 9, 3) := by decide +kernel
theorem dX2_init_12 : decode cX2_init 12 = .ok (.aload_n 0, 1) := by decide +kernel
theorem dX2_init_13 : decode cX2_init 13 = .ok (.bipush 48, 2) := by decide +kernel
theorem dX2_init_15 : decode cX2_init 15 = .ok (.newarray .int, 2) := by decide +kernel
theorem dX2_init_17 : decode cX2_init 17 = .ok (.putfield 15, 3) := by decide +kernel
theorem dX2_init_20 : decode cX2_init 20 = .ok (.aload_n 0, 1) := by decide +kernel
theorem dX2_init_21 : decode cX2_init 21 = .ok (.bipush 48, 2) := by decide +kernel
theorem dX2_init_23 : decode cX2_init 23 = .ok (.newarray .int, 2) := by decide +kernel
theorem dX2_init_25 : decode cX2_init 25 = .ok (.putfield 18, 3) := by decide +kernel
theorem dX2_init_28 : decode cX2_init 28 = .ok (.aload_n 0, 1) := by decide +kernel
theorem dX2_init_29 : decode cX2_init 29 = .ok (.iconst 0, 1) := by decide +kernel
theorem dX2_init_30 : decode cX2_init 30 = .ok (.putfield 21, 3) := by decide +kernel
theorem dX2_init_33 : decode cX2_init 33 = .ok (.aload_n 0, 1) := by decide +kernel
theorem dX2_init_34 : decode cX2_init 34 = .ok (.lconst 0, 1) := by decide +kernel
theorem dX2_init_35 : decode cX2_init 35 = .ok (.putfield 25, 3) := by decide +kernel
theorem dX2_init_38 : decode cX2_init 38 = .ok (.return_, 1) := by decide +kernel
theorem dX2_build_0 : decode cX2_build 0 = .ok (.aload_n 0, 1) := by decide +kernel
theorem dX2_build_1 : decode cX2_build 1 = .ok (.iconst 0, 1) := by decide +kernel
theorem dX2_build_2 : decode cX2_build 2 = .ok (.putfield 21, 3) := by decide +kernel
theorem dX2_build_5 : decode cX2_build 5 = .ok (.ldc 29, 2) := by decide +kernel
theorem dX2_build_7 : decode cX2_build 7 = .ok (.istore_n 2, 1) := by decide +kernel
theorem dX2_build_8 : decode cX2_build 8 = .ok (.iconst 0, 1) := by decide +kernel
theorem dX2_build_9 : decode cX2_build 9 = .ok (.istore_n 3, 1) := by decide +kernel
theorem dX2_build_10 : decode cX2_build 10 = .ok (.iload_n 3, 1) := by decide +kernel
theorem dX2_build_11 : decode cX2_build 11 = .ok (.aload_n 1, 1) := by decide +kernel
theorem dX2_build_12 : decode cX2_build 12 = .ok (.getfield 30, 3) := by decide +kernel
theorem dX2_build_15 : decode cX2_build 15 = .ok (.if_icmp .ge 83, 3) := by decide +kernel
theorem dX2_build_18 : decode cX2_build 18 = .ok (.aload_n 1, 1) := by decide +kernel
theorem dX2_build_19 : decode cX2_build 19 = .ok (.getfield 33, 3) := by decide +kernel
theorem dX2_build_22 : decode cX2_build 22 = .ok (.iload_n 3, 1) := by decide +kernel
theorem dX2_build_23 : decode cX2_build 23 = .ok (.iaload, 1) := by decide +kernel
theorem dX2_build_24 : decode cX2_build 24 = .ok (.istore 4, 2) := by decide +kernel
theorem dX2_build_26 : decode cX2_build 26 = .ok (.aload_n 1, 1) := by decide +kernel
theorem dX2_build_27 : decode cX2_build 27 = .ok (.getfield 36, 3) := by decide +kernel
theorem dX2_build_30 : decode cX2_build 30 = .ok (.iload 4, 2) := by decide +kernel
theorem dX2_build_32 : decode cX2_build 32 = .ok (.iaload, 1) := by decide +kernel
theorem dX2_build_33 : decode cX2_build 33 = .ok (.iload_n 2, 1) := by decide +kernel
theorem dX2_build_34 : decode cX2_build 34 = .ok (.if_icmp .lt 34, 3) := by decide +kernel
theorem dX2_build_37 : decode cX2_build 37 = .ok (.aload_n 0, 1) := by decide +kernel
theorem dX2_build_38 : decode cX2_build 38 = .ok (.getfield 15, 3) := by decide +kernel
theorem dX2_build_41 : decode cX2_build 41 = .ok (.aload_n 0, 1) := by decide +kernel
theorem dX2_build_42 : decode cX2_build 42 = .ok (.getfield 21, 3) := by decide +kernel
theorem dX2_build_45 : decode cX2_build 45 = .ok (.iload 4, 2) := by decide +kernel
theorem dX2_build_47 : decode cX2_build 47 = .ok (.iastore, 1) := by decide +kernel
theorem dX2_build_48 : decode cX2_build 48 = .ok (.aload_n 0, 1) := by decide +kernel
theorem dX2_build_49 : decode cX2_build 49 = .ok (.getfield 18, 3) := by decide +kernel
theorem dX2_build_52 : decode cX2_build 52 = .ok (.aload_n 0, 1) := by decide +kernel
theorem dX2_build_53 : decode cX2_build 53 = .ok (.getfield 21, 3) := by decide +kernel
theorem dX2_build_56 : decode cX2_build 56 = .ok (.iconst 0, 1) := by decide +kernel
theorem dX2_build_57 : decode cX2_build 57 = .ok (.iastore, 1) := by decide +kernel
theorem dX2_build_58 : decode cX2_build 58 = .ok (.aload_n 0, 1) := by decide +kernel
theorem dX2_build_59 : decode cX2_build 59 = .ok (.dup, 1) := by decide +kernel
theorem dX2_build_60 : decode cX2_build 60 = .ok (.getfield 21, 3) := by decide +kernel
theorem dX2_build_63 : decode cX2_build 63 = .ok (.iconst 1, 1) := by decide +kernel
theorem dX2_build_64 : decode cX2_build 64 = .ok (.iadd, 1) := by decide +kernel
theorem dX2_build_65 : decode cX2_build 65 = .ok (.putfield 21, 3) := by decide +kernel
theorem dX2_build_68 : decode cX2_build 68 = .ok (.aload_n 0, 1) := by decide +kernel
theorem dX2_build_69 : decode cX2_build 69 = .ok (.iload 4, 2) := by decide +kernel
theorem dX2_build_71 : decode cX2_build 71 = .ok (.aload_n 0, 1) := by decide +kernel
theorem dX2_build_72 : decode cX2_build 72 = .ok (.getfield 21, 3) := by decide +kernel
theorem dX2_build_75 : decode cX2_build 75 = .ok (.iconst 1, 1) := by decide +kernel
theorem dX2_build_76 : decode cX2_build 76 = .ok (.isub, 1) := by decide +kernel
theorem dX2_build_77 : decode cX2_build 77 = .ok (.invokevirtual 39, 3) := by decide +kernel
theorem dX2_build_80 : decode cX2_build 80 = .ok (.iload_n 2, 1) := by decide +kernel
theorem dX2_build_81 : decode cX2_build 81 = .ok (.aload_n 1, 1) := by decide +kernel
theorem dX2_build_82 : decode cX2_build 82 = .ok (.getfield 43, 3) := by decide +kernel
theorem dX2_build_85 : decode cX2_build 85 = .ok (.iload 4, 2) := by decide +kernel
theorem dX2_build_87 : decode cX2_build 87 = .ok (.iaload, 1) := by decide +kernel
theorem dX2_build_88 : decode cX2_build 88 = .ok (.invokestatic 46, 3) := by decide +kernel
theorem dX2_build_91 : decode cX2_build 91 = .ok (.istore_n 2, 1) := by decide +kernel
theorem dX2_build_92 : decode cX2_build 92 = .ok (.iinc 3 1, 3) := by decide +kernel
theorem dX2_build_95 : decode cX2_build 95 = .ok (.goto (-85), 3) := by decide +kernel
theorem dX2_build_98 : decode cX2_build 98 = .ok (.aload_n 0, 1) := by decide +kernel
theorem dX2_build_99 : decode cX2_build 99 = .ok (.aload_n 1, 1) := by decide +kernel
theorem dX2_build_100 : decode cX2_build 100 = .ok (.invokevirtual 52, 3) := by decide +kernel
theorem dX2_build_103 : decode cX2_build 103 = .ok (.return_, 1) := by decide +kernel
theorem dX2_addMember_0 : decode cX2_addMember 0 = .ok (.aload_n 0, 1) := by decide +kernel
theorem dX2_addMember_1 : decode cX2_addMember 1 = .ok (.getfield 9, 3) := by decide +kernel
theorem dX2_addMember_4 : decode cX2_addMember 4 = .ok (.iload_n 1, 1) := by decide +kernel
theorem dX2_addMember_5 : decode cX2_addMember 5 = .ok (.iload_n 2, 1) := by decide +kernel
theorem dX2_addMember_6 : decode cX2_addMember 6 = .ok (.iastore, 1) := by decide +kernel
theorem dX2_addMember_7 : decode cX2_addMember 7 = .ok (.aload_n 0, 1) := by decide +kernel
theorem dX2_addMember_8 : decode cX2_addMember 8 = .ok (.getfield 15, 3) := by decide +kernel
theorem dX2_addMember_11 : decode cX2_addMember 11 = .ok (.iload_n 2, 1) := by decide +kernel
theorem dX2_addMember_12 : decode cX2_addMember 12 = .ok (.aload_n 0, 1) := by decide +kernel
theorem dX2_addMember_13 : decode cX2_addMember 13 = .ok (.getfield 15, 3) := by decide +kernel
theorem dX2_addMember_16 : decode cX2_addMember 16 = .ok (.iload_n 2, 1) := by decide +kernel
theorem dX2_addMember_17 : decode cX2_addMember 17 = .ok (.iaload, 1) := by decide +kernel
theorem dX2_addMember_18 : decode cX2_addMember 18 = .ok (.iload_n 1, 1) := by decide +kernel
theorem dX2_addMember_19 : decode cX2_addMember 19 = .ok (.invokestatic 56, 3) := by decide +kernel
theorem dX2_addMember_22 : decode cX2_addMember 22 = .ok (.iastore, 1) := by decide +kernel
theorem dX2_addMember_23 : decode cX2_addMember 23 = .ok (.aload_n 0, 1) := by decide +kernel
theorem dX2_addMember_24 : decode cX2_addMember 24 = .ok (.getfield 18, 3) := by decide +kernel
theorem dX2_addMember_27 : decode cX2_addMember 27 = .ok (.iload_n 2, 1) := by decide +kernel
theorem dX2_addMember_28 : decode cX2_addMember 28 = .ok (.dup2, 1) := by decide +kernel
theorem dX2_addMember_29 : decode cX2_addMember 29 = .ok (.iaload, 1) := by decide +kernel
theorem dX2_addMember_30 : decode cX2_addMember 30 = .ok (.iconst 1, 1) := by decide +kernel
theorem dX2_addMember_31 : decode cX2_addMember 31 = .ok (.iadd, 1) := by decide +kernel
theorem dX2_addMember_32 : decode cX2_addMember 32 = .ok (.iastore, 1) := by decide +kernel
theorem dX2_addMember_33 : decode cX2_addMember 33 = .ok (.return_, 1) := by decide +kernel
theorem dX2_seeAlone_0 : decode cX2_seeAlone 0 = .ok (.aload_n 0, 1) := by decide +kernel
theorem dX2_seeAlone_1 : decode cX2_seeAlone 1 = .ok (.lconst 0, 1) := by decide +kernel
theorem dX2_seeAlone_2 : decode cX2_seeAlone 2 = .ok (.putfield 25, 3) := by decide +kernel
theorem dX2_seeAlone_5 : decode cX2_seeAlone 5 = .ok (.iconst 0, 1) := by decide +kernel
theorem dX2_seeAlone_6 : decode cX2_seeAlone 6 = .ok (.istore_n 2, 1) := by decide +kernel
theorem dX2_seeAlone_7 : decode cX2_seeAlone 7 = .ok (.iload_n 2, 1) := by decide +kernel
theorem dX2_seeAlone_8 : decode cX2_seeAlone 8 = .ok (.bipush 48, 2) := by decide +kernel
theorem dX2_seeAlone_10 : decode cX2_seeAlone 10 = .ok (.if_icmp .ge 45, 3) := by decide +kernel
theorem dX2_seeAlone_13 : decode cX2_seeAlone 13 = .ok (.aload_n 1, 1) := by decide +kernel
theorem dX2_seeAlone_14 : decode cX2_seeAlone 14 = .ok (.getfield 59, 3) := by decide +kernel
theorem dX2_seeAlone_17 : decode cX2_seeAlone 17 = .ok (.iload_n 2, 1) := by decide +kernel
theorem dX2_seeAlone_18 : decode cX2_seeAlone 18 = .ok (.baload, 1) := by decide +kernel
theorem dX2_seeAlone_19 : decode cX2_seeAlone 19 = .ok (.ifCond .eq 30, 3) := by decide +kernel
theorem dX2_seeAlone_22 : decode cX2_seeAlone 22 = .ok (.aload_n 0, 1) := by decide +kernel
theorem dX2_seeAlone_23 : decode cX2_seeAlone 23 = .ok (.getfield 18, 3) := by decide +kernel
theorem dX2_seeAlone_26 : decode cX2_seeAlone 26 = .ok (.aload_n 0, 1) := by decide +kernel
theorem dX2_seeAlone_27 : decode cX2_seeAlone 27 = .ok (.getfield 9, 3) := by decide +kernel
theorem dX2_seeAlone_30 : decode cX2_seeAlone 30 = .ok (.iload_n 2, 1) := by decide +kernel
theorem dX2_seeAlone_31 : decode cX2_seeAlone 31 = .ok (.iaload, 1) := by decide +kernel
theorem dX2_seeAlone_32 : decode cX2_seeAlone 32 = .ok (.iaload, 1) := by decide +kernel
theorem dX2_seeAlone_33 : decode cX2_seeAlone 33 = .ok (.iconst 1, 1) := by decide +kernel
theorem dX2_seeAlone_34 : decode cX2_seeAlone 34 = .ok (.if_icmp .ne 15, 3) := by decide +kernel
theorem dX2_seeAlone_37 : decode cX2_seeAlone 37 = .ok (.aload_n 0, 1) := by decide +kernel
theorem dX2_seeAlone_38 : decode cX2_seeAlone 38 = .ok (.dup, 1) := by decide +kernel
theorem dX2_seeAlone_39 : decode cX2_seeAlone 39 = .ok (.getfield 25, 3) := by decide +kernel
theorem dX2_seeAlone_42 : decode cX2_seeAlone 42 = .ok (.lconst 1, 1) := by decide +kernel
theorem dX2_seeAlone_43 : decode cX2_seeAlone 43 = .ok (.iload_n 2, 1) := by decide +kernel
theorem dX2_seeAlone_44 : decode cX2_seeAlone 44 = .ok (.lshl, 1) := by decide +kernel
theorem dX2_seeAlone_45 : decode cX2_seeAlone 45 = .ok (.lor, 1) := by decide +kernel
theorem dX2_seeAlone_46 : decode cX2_seeAlone 46 = .ok (.putfield 25, 3) := by decide +kernel
theorem dX2_seeAlone_49 : decode cX2_seeAlone 49 = .ok (.iinc 2 1, 3) := by decide +kernel
theorem dX2_seeAlone_52 : decode cX2_seeAlone 52 = .ok (.goto (-45), 3) := by decide +kernel
theorem dX2_seeAlone_55 : decode cX2_seeAlone 55 = .ok (.return_, 1) := by decide +kernel
theorem dX3_init_0 : decode cX3_init 0 = .ok (.aload_n 0, 1) := by decide +kernel
theorem dX3_init_1 : decode cX3_init 1 = .ok (.invokespecial 3, 3) := by decide +kernel
theorem dX3_init_4 : decode cX3_init 4 = .ok (.aload_n 0, 1) := by decide +kernel
theorem dX3_init_5 : decode cX3_init 5 = .ok (.bipush 48, 2) := by decide +kernel
theorem dX3_init_7 : decode cX3_init 7 = .ok (.newarray .int, 2) := by decide +kernel
theorem dX3_init_9 : decode cX3_init 9 = .ok (.putfield 9, 3) := by decide +kernel
theorem dX3_init_12 : decode cX3_init 12 = .ok (.aload_n 0, 1) := by decide +kernel
theorem dX3_init_13 : decode cX3_init 13 = .ok (.bipush 48, 2) := by decide +kernel
theorem dX3_init_15 : decode cX3_init 15 = .ok (.newarray .int, 2) := by decide +kernel
theorem dX3_init_17 : decode cX3_init 17 = .ok (.putfield 15, 3) := by decide +kernel
theorem dX3_init_20 : decode cX3_init 20 = .ok (.aload_n 0, 1) := by decide +kernel
theorem dX3_init_21 : decode cX3_init 21 = .ok (.iconst 0, 1) := by decide +kernel
theorem dX3_init_22 : decode cX3_init 22 = .ok (.putfield 18, 3) := by decide +kernel
theorem dX3_init_25 : decode cX3_init 25 = .ok (.return_, 1) := by decide +kernel
theorem dX3_build_0 : decode cX3_build 0 = .ok (.aload_n 0, 1) := by decide +kernel
theorem dX3_build_1 : decode cX3_build 1 = .ok (.aload_n 1, 1) := by decide +kernel
theorem dX3_build_2 : decode cX3_build 2 = .ok (.invokevirtual 22, 3) := by decide +kernel
theorem dX3_build_5 : decode cX3_build 5 = .ok (.aload_n 0, 1) := by decide +kernel
theorem dX3_build_6 : decode cX3_build 6 = .ok (.iconst 0, 1) := by decide +kernel
theorem dX3_build_7 : decode cX3_build 7 = .ok (.putfield 18, 3) := by decide +kernel
theorem dX3_build_10 : decode cX3_build 10 = .ok (.ldc 26, 2) := by decide +kernel
theorem dX3_build_12 : decode cX3_build 12 = .ok (.istore_n 2, 1) := by decide +kernel
theorem dX3_build_13 : decode cX3_build 13 = .ok (.iconst 0, 1) := by decide +kernel
theorem dX3_build_14 : decode cX3_build 14 = .ok (.istore_n 3, 1) := by decide +kernel
theorem dX3_build_15 : decode cX3_build 15 = .ok (.iload_n 3, 1) := by decide +kernel
theorem dX3_build_16 : decode cX3_build 16 = .ok (.aload_n 1, 1) := by decide +kernel
theorem dX3_build_17 : decode cX3_build 17 = .ok (.getfield 27, 3) := by decide +kernel
theorem dX3_build_20 : decode cX3_build 20 = .ok (.if_icmp .ge 57, 3) := by decide +kernel
theorem dX3_build_23 : decode cX3_build 23 = .ok (.aload_n 0, 1) := by decide +kernel
theorem dX3_build_24 : decode cX3_build 24 = .ok (.getfield 9, 3) := by decide +kernel
theorem dX3_build_27 : decode cX3_build 27 = .ok (.iload_n 3, 1) := by decide +kernel
theorem dX3_build_28 : decode cX3_build 28 = .ok (.iaload, 1) := by decide +kernel
theorem dX3_build_29 : decode cX3_build 29 = .ok (.istore 4, 2) := by decide +kernel
theorem dX3_build_31 : decode cX3_build 31 = .ok (.aload_n 1, 1) := by decide +kernel
theorem dX3_build_32 : decode cX3_build 32 = .ok (.getfield 30, 3) := by decide +kernel
theorem dX3_build_35 : decode cX3_build 35 = .ok (.iload 4, 2) := by decide +kernel
theorem dX3_build_37 : decode cX3_build 37 = .ok (.iaload, 1) := by decide +kernel
theorem dX3_build_38 : decode cX3_build 38 = .ok (.iload_n 2, 1) := by decide +kernel
theorem dX3_build_39 : decode cX3_build 39 = .ok (.if_icmp .lt 32, 3) := by decide +kernel
theorem dX3_build_42 : decode cX3_build 42 = .ok (.aload_n 0, 1) := by decide +kernel
theorem dX3_build_43 : decode cX3_build 43 = .ok (.getfield 15, 3) := by decide +kernel
theorem dX3_build_46 : decode cX3_build 46 = .ok (.aload_n 0, 1) := by decide +kernel
theorem dX3_build_47 : decode cX3_build 47 = .ok (.getfield 18, 3) := by decide +kernel
theorem dX3_build_50 : decode cX3_build 50 = .ok (.iload 4, 2) := by decide +kernel
theorem dX3_build_52 : decode cX3_build 52 = .ok (.iastore, 1) := by decide +kernel
theorem dX3_build_53 : decode cX3_build 53 = .ok (.aload_n 0, 1) := by decide +kernel
theorem dX3_build_54 : decode cX3_build 54 = .ok (.dup, 1) := by decide +kernel
theorem dX3_build_55 : decode cX3_build 55 = .ok (.getfield 18, 3) := by decide +kernel
theorem dX3_build_58 : decode cX3_build 58 = .ok (.iconst 1, 1) := by decide +kernel
theorem dX3_build_59 : decode cX3_build 59 = .ok (.iadd, 1) := by decide +kernel
theorem dX3_build_60 : decode cX3_build 60 = .ok (.putfield 18, 3) := by decide +kernel
theorem dX3_build_63 : decode cX3_build 63 = .ok (.aload_n 1, 1) := by decide +kernel
theorem dX3_build_64 : decode cX3_build 64 = .ok (.getfield 33, 3) := by decide +kernel
theorem dX3_build_67 : decode cX3_build 67 = .ok (.iload 4, 2) := by decide +kernel
theorem dX3_build_69 : decode cX3_build 69 = .ok (.iaload, 1) := by decide +kernel
theorem dX3_build_70 : decode cX3_build 70 = .ok (.istore_n 2, 1) := by decide +kernel
theorem dX3_build_71 : decode cX3_build 71 = .ok (.iinc 3 1, 3) := by decide +kernel
theorem dX3_build_74 : decode cX3_build 74 = .ok (.goto (-59), 3) := by decide +kernel
theorem dX3_build_77 : decode cX3_build 77 = .ok (.return_, 1) := by decide +kernel
theorem dX3_sortByTo_0 : decode cX3_sortByTo 0 = .ok (.iconst 0, 1) := by decide +kernel
theorem dX3_sortByTo_1 : decode cX3_sortByTo 1 = .ok (.istore_n 2, 1) := by decide +kernel
theorem dX3_sortByTo_2 : decode cX3_sortByTo 2 = .ok (.iload_n 2, 1) := by decide +kernel
theorem dX3_sortByTo_3 : decode cX3_sortByTo 3 = .ok (.aload_n 1, 1) := by decide +kernel
theorem dX3_sortByTo_4 : decode cX3_sortByTo 4 = .ok (.getfield 27, 3) := by decide +kernel
theorem dX3_sortByTo_7 : decode cX3_sortByTo 7 = .ok (.if_icmp .ge 77, 3) := by decide +kernel
theorem dX3_sortByTo_10 : decode cX3_sortByTo 10 = .ok (.aload_n 1, 1) := by decide +kernel
theorem dX3_sortByTo_11 : decode cX3_sortByTo 11 = .ok (.getfield 36, 3) := by decide +kernel
theorem dX3_sortByTo_14 : decode cX3_sortByTo 14 = .ok (.iload_n 2, 1) := by decide +kernel
theorem dX3_sortByTo_15 : decode cX3_sortByTo 15 = .ok (.iaload, 1) := by decide +kernel
theorem dX3_sortByTo_16 : decode cX3_sortByTo 16 = .ok (.istore_n 3, 1) := by decide +kernel
theorem dX3_sortByTo_17 : decode cX3_sortByTo 17 = .ok (.iload_n 2, 1) := by decide +kernel
theorem dX3_sortByTo_18 : decode cX3_sortByTo 18 = .ok (.istore 4, 2) := by decide +kernel
theorem dX3_sortByTo_20 : decode cX3_sortByTo 20 = .ok (.iload 4, 2) := by decide +kernel
theorem dX3_sortByTo_22 : decode cX3_sortByTo 22 = .ok (.ifCond .le 48, 3) := by decide +kernel
theorem dX3_sortByTo_25 : decode cX3_sortByTo 25 = .ok (.aload_n 1, 1) := by decide +kernel
theorem dX3_sortByTo_26 : decode cX3_sortByTo 26 = .ok (.getfield 33, 3) := by decide +kernel
theorem dX3_sortByTo_29 : decode cX3_sortByTo 29 = .ok (.aload_n 0, 1) := by decide +kernel
theorem dX3_sortByTo_30 : decode cX3_sortByTo 30 = .ok (.getfield 9, 3) := by decide +kernel
theorem dX3_sortByTo_33 : decode cX3_sortByTo 33 = .ok (.iload 4, 2) := by decide +kernel
theorem dX3_sortByTo_35 : decode cX3_sortByTo 35 = .ok (.iconst 1, 1) := by decide +kernel
theorem dX3_sortByTo_36 : decode cX3_sortByTo 36 = .ok (.isub, 1) := by decide +kernel
theorem dX3_sortByTo_37 : decode cX3_sortByTo 37 = .ok (.iaload, 1) := by decide +kernel
theorem dX3_sortByTo_38 : decode cX3_sortByTo 38 = .ok (.iaload, 1) := by decide +kernel
theorem dX3_sortByTo_39 : decode cX3_sortByTo 39 = .ok (.aload_n 1, 1) := by decide +kernel
theorem dX3_sortByTo_40 : decode cX3_sortByTo 40 = .ok (.getfield 33, 3) := by decide +kernel
theorem dX3_sortByTo_43 : decode cX3_sortByTo 43 = .ok (.iload_n 3, 1) := by decide +kernel
theorem dX3_sortByTo_44 : decode cX3_sortByTo 44 = .ok (.iaload, 1) := by decide +kernel
theorem dX3_sortByTo_45 : decode cX3_sortByTo 45 = .ok (.if_icmp .le 25, 3) := by decide +kernel
theorem dX3_sortByTo_48 : decode cX3_sortByTo 48 = .ok (.aload_n 0, 1) := by decide +kernel
theorem dX3_sortByTo_49 : decode cX3_sortByTo 49 = .ok (.getfield 9, 3) := by decide +kernel
theorem dX3_sortByTo_52 : decode cX3_sortByTo 52 = .ok (.iload 4, 2) := by decide +kernel
theorem dX3_sortByTo_54 : decode cX3_sortByTo 54 = .ok (.aload_n 0, 1) := by decide +kernel
theorem dX3_sortByTo_55 : decode cX3_sortByTo 55 = .ok (.getfield 9, 3) := by decide +kernel
theorem dX3_sortByTo_58 : decode cX3_sortByTo 58 = .ok (.iload 4, 2) := by decide +kernel
theorem dX3_sortByTo_60 : decode cX3_sortByTo 60 = .ok (.iconst 1, 1) := by decide +kernel
theorem dX3_sortByTo_61 : decode cX3_sortByTo 61 = .ok (.isub, 1) := by decide +kernel
theorem dX3_sortByTo_62 : decode cX3_sortByTo 62 = .ok (.iaload, 1) := by decide +kernel
theorem dX3_sortByTo_63 : decode cX3_sortByTo 63 = .ok (.iastore, 1) := by decide +kernel
theorem dX3_sortByTo_64 : decode cX3_sortByTo 64 = .ok (.iinc 4 (-1), 3) := by decide +kernel
theorem dX3_sortByTo_67 : decode cX3_sortByTo 67 = .ok (.goto (-47), 3) := by decide +kernel
theorem dX3_sortByTo_70 : decode cX3_sortByTo 70 = .ok (.aload_n 0, 1) := by decide +kernel
theorem dX3_sortByTo_71 : decode cX3_sortByTo 71 = .ok (.getfield 9, 3) := by decide +kernel
theorem dX3_sortByTo_74 : decode cX3_sortByTo 74 = .ok (.iload 4, 2) := by decide +kernel
theorem dX3_sortByTo_76 : decode cX3_sortByTo 76 = .ok (.iload_n 3, 1) := by decide +kernel
theorem dX3_sortByTo_77 : decode cX3_sortByTo 77 = .ok (.iastore, 1) := by decide +kernel
theorem dX3_sortByTo_78 : decode cX3_sortByTo 78 = .ok (.iinc 2 1, 3) := by decide +kernel
theorem dX3_sortByTo_81 : decode cX3_sortByTo 81 = .ok (.goto (-79), 3) := by decide +kernel
theorem dX3_sortByTo_84 : decode cX3_sortByTo 84 = .ok (.return_, 1) := by decide +kernel
theorem dX4_init_0 : decode cX4_init 0 = .ok (.aload_n 0, 1) := by decide +kernel
theorem dX4_init_1 : decode cX4_init 1 = .ok (.invokespecial 3, 3) := by decide +kernel
theorem dX4_init_4 : decode cX4_init 4 = .ok (.aload_n 0, 1) := by decide +kernel
theorem dX4_init_5 : decode cX4_init 5 = .ok (.bipush 48, 2) := by decide +kernel
theorem dX4_init_7 : decode cX4_init 7 = .ok (.newarray .int, 2) := by decide +kernel
theorem dX4_init_9 : decode cX4_init 9 = .ok (.putfield 9, 3) := by decide +kernel
theorem dX4_init_12 : decode cX4_init 12 = .ok (.aload_n 0, 1) := by decide +kernel
theorem dX4_init_13 : decode cX4_init 13 = .ok (.iconst 0, 1) := by decide +kernel
theorem dX4_init_14 : decode cX4_init 14 = .ok (.putfield 15, 3) := by decide +kernel
theorem dX4_init_17 : decode cX4_init 17 = .ok (.return_, 1) := by decide +kernel
theorem dX4_build_0 : decode cX4_build 0 = .ok (.aload_n 0, 1) := by decide +kernel
theorem dX4_build_1 : decode cX4_build 1 = .ok (.iconst 0, 1) := by decide +kernel
theorem dX4_build_2 : decode cX4_build 2 = .ok (.putfield 15, 3) := by decide +kernel
theorem dX4_build_5 : decode cX4_build 5 = .ok (.iconst 0, 1) := by decide +kernel
theorem dX4_build_6 : decode cX4_build 6 = .ok (.istore_n 2, 1) := by decide +kernel
theorem dX4_build_7 : decode cX4_build 7 = .ok (.iload_n 2, 1) := by decide +kernel
theorem dX4_build_8 : decode cX4_build 8 = .ok (.aload_n 1, 1) := by decide +kernel
theorem dX4_build_9 : decode cX4_build 9 = .ok (.getfield 19, 3) := by decide +kernel
theorem dX4_build_12 : decode cX4_build 12 = .ok (.if_icmp .ge 82, 3) := by decide +kernel
theorem dX4_build_15 : decode cX4_build 15 = .ok (.aload_n 0, 1) := by decide +kernel
theorem dX4_build_16 : decode cX4_build 16 = .ok (.getfield 9, 3) := by decide +kernel
theorem dX4_build_19 : decode cX4_build 19 = .ok (.iload_n 2, 1) := by decide +kernel
theorem dX4_build_20 : decode cX4_build 20 = .ok (.aload_n 0, 1) := by decide +kernel
theorem dX4_build_21 : decode cX4_build 21 = .ok (.getfield 15, 3) := by decide +kernel
theorem dX4_build_24 : decode cX4_build 24 = .ok (.iastore, 1) := by decide +kernel
theorem dX4_build_25 : decode cX4_build 25 = .ok (.aload_n 1, 1) := by decide +kernel
theorem dX4_build_26 : decode cX4_build 26 = .ok (.getfield 22, 3) := by decide +kernel
theorem dX4_build_29 : decode cX4_build 29 = .ok (.aload_n 1, 1) := by decide +kernel
theorem dX4_build_30 : decode cX4_build 30 = .ok (.getfield 25, 3) := by decide +kernel
theorem dX4_build_33 : decode cX4_build 33 = .ok (.iload_n 2, 1) := by decide +kernel
theorem dX4_build_34 : decode cX4_build 34 = .ok (.iaload, 1) := by decide +kernel
theorem dX4_build_35 : decode cX4_build 35 = .ok (.iaload, 1) := by decide +kernel
theorem dX4_build_36 : decode cX4_build 36 = .ok (.istore_n 3, 1) := by decide +kernel
theorem dX4_build_37 : decode cX4_build 37 = .ok (.iload_n 2, 1) := by decide +kernel
theorem dX4_build_38 : decode cX4_build 38 = .ok (.iconst 1, 1) := by decide +kernel
theorem dX4_build_39 : decode cX4_build 39 = .ok (.iadd, 1) := by decide +kernel
theorem dX4_build_40 : decode cX4_build 40 = .ok (.istore 4, 2) := by decide +kernel
theorem dX4_build_42 : decode cX4_build 42 = .ok (.iload 4, 2) := by decide +kernel
theorem dX4_build_44 : decode cX4_build 44 = .ok (.aload_n 1, 1) := by decide +kernel
theorem dX4_build_45 : decode cX4_build 45 = .ok (.getfield 19, 3) := by decide +kernel
theorem dX4_build_48 : decode cX4_build 48 = .ok (.if_icmp .ge 25, 3) := by decide +kernel
theorem dX4_build_51 : decode cX4_build 51 = .ok (.aload_n 1, 1) := by decide +kernel
theorem dX4_build_52 : decode cX4_build 52 = .ok (.getfield 28, 3) := by decide +kernel
theorem dX4_build_55 : decode cX4_build 55 = .ok (.aload_n 1, 1) := by decide +kernel
theorem dX4_build_56 : decode cX4_build 56 = .ok (.getfield 25, 3) := by decide +kernel
theorem dX4_build_59 : decode cX4_build 59 = .ok (.iload 4, 2) := by decide +kernel
theorem dX4_build_61 : decode cX4_build 61 = .ok (.iaload, 1) := by decide +kernel
theorem dX4_build_62 : decode cX4_build 62 = .ok (.iaload, 1) := by decide +kernel
theorem dX4_build_63 : decode cX4_build 63 = .ok (.iload_n 3, 1) := by decide +kernel
theorem dX4_build_64 : decode cX4_build 64 = .ok (.if_icmp .ge 9, 3) := by decide +kernel
theorem dX4_build_67 : decode cX4_build 67 = .ok (.iinc 4 1, 3) := by decide +kernel
theorem dX4_build_70 : decode cX4_build 70 = .ok (.goto (-28), 3) := by decide +kernel
theorem dX4_build_73 : decode cX4_build 73 = .ok (.aload_n 0, 1) := by decide +kernel
theorem dX4_build_74 : decode cX4_build 74 = .ok (.dup, 1) := by decide +kernel
theorem dX4_build_75 : decode cX4_build 75 = .ok (.getfield 15, 3) := by decide +kernel
theorem dX4_build_78 : decode cX4_build 78 = .ok (.iload 4, 2) := by decide +kernel
theorem dX4_build_80 : decode cX4_build 80 = .ok (.iload_n 2, 1) := by decide +kernel
theorem dX4_build_81 : decode cX4_build 81 = .ok (.isub, 1) := by decide +kernel
theorem dX4_build_82 : decode cX4_build 82 = .ok (.iconst 1, 1) := by decide +kernel
theorem dX4_build_83 : decode cX4_build 83 = .ok (.isub, 1) := by decide +kernel
theorem dX4_build_84 : decode cX4_build 84 = .ok (.iadd, 1) := by decide +kernel
theorem dX4_build_85 : decode cX4_build 85 = .ok (.putfield 15, 3) := by decide +kernel
theorem dX4_build_88 : decode cX4_build 88 = .ok (.iinc 2 1, 3) := by decide +kernel
theorem dX4_build_91 : decode cX4_build 91 = .ok (.goto (-84), 3) := by decide +kernel
theorem dX4_build_94 : decode cX4_build 94 = .ok (.return_, 1) := by decide +kernel
theorem dX4_rankAhead_0 : decode cX4_rankAhead 0 = .ok (.iload_n 1, 1) := by decide +kernel
theorem dX4_rankAhead_1 : decode cX4_rankAhead 1 = .ok (.aload_n 0, 1) := by decide +kernel
theorem dX4_rankAhead_2 : decode cX4_rankAhead 2 = .ok (.getfield 15, 3) := by decide +kernel
theorem dX4_rankAhead_5 : decode cX4_rankAhead 5 = .ok (.if_icmp .lt 5, 3) := by decide +kernel
theorem dX4_rankAhead_8 : decode cX4_rankAhead 8 = .ok (.iconst (-1), 1) := by decide +kernel
theorem dX4_rankAhead_9 : decode cX4_rankAhead 9 = .ok (.ireturn, 1) := by decide +kernel
theorem dX4_rankAhead_10 : decode cX4_rankAhead 10 = .ok (.iload_n 2, 1) := by decide +kernel
theorem dX4_rankAhead_11 : decode cX4_rankAhead 11 = .ok (.iconst 1, 1) := by decide +kernel
theorem dX4_rankAhead_12 : decode cX4_rankAhead 12 = .ok (.isub, 1) := by decide +kernel
theorem dX4_rankAhead_13 : decode cX4_rankAhead 13 = .ok (.istore_n 3, 1) := by decide +kernel
theorem dX4_rankAhead_14 : decode cX4_rankAhead 14 = .ok (.iload_n 3, 1) := by decide +kernel
theorem dX4_rankAhead_15 : decode cX4_rankAhead 15 = .ok (.ifCond .lt 21, 3) := by decide +kernel
theorem dX4_rankAhead_18 : decode cX4_rankAhead 18 = .ok (.aload_n 0, 1) := by decide +kernel
theorem dX4_rankAhead_19 : decode cX4_rankAhead 19 = .ok (.getfield 9, 3) := by decide +kernel
theorem dX4_rankAhead_22 : decode cX4_rankAhead 22 = .ok (.iload_n 3, 1) := by decide +kernel
theorem dX4_rankAhead_23 : decode cX4_rankAhead 23 = .ok (.iaload, 1) := by decide +kernel
theorem dX4_rankAhead_24 : decode cX4_rankAhead 24 = .ok (.iload_n 1, 1) := by decide +kernel
theorem dX4_rankAhead_25 : decode cX4_rankAhead 25 = .ok (.if_icmp .gt 5, 3) := by decide +kernel
theorem dX4_rankAhead_28 : decode cX4_rankAhead 28 = .ok (.iload_n 3, 1) := by decide +kernel
theorem dX4_rankAhead_29 : decode cX4_rankAhead 29 = .ok (.ireturn, 1) := by decide +kernel
theorem dX4_rankAhead_30 : decode cX4_rankAhead 30 = .ok (.iinc 3 (-1), 3) := by decide +kernel
theorem dX4_rankAhead_33 : decode cX4_rankAhead 33 = .ok (.goto (-19), 3) := by decide +kernel
theorem dX4_rankAhead_36 : decode cX4_rankAhead 36 = .ok (.iconst (-1), 1) := by decide +kernel
theorem dX4_rankAhead_37 : decode cX4_rankAhead 37 = .ok (.ireturn, 1) := by decide +kernel
theorem dX5_init_0 : decode cX5_init 0 = .ok (.aload_n 0, 1) := by decide +kernel
theorem dX5_init_1 : decode cX5_init 1 = .ok (.invokespecial 3, 3) := by decide +kernel
theorem dX5_init_4 : decode cX5_init 4 = .ok (.aload_n 0, 1) := by decide +kernel
theorem dX5_init_5 : decode cX5_init 5 = .ok (.bipush 48, 2) := by decide +kernel
theorem dX5_init_7 : decode cX5_init 7 = .ok (.newarray .int, 2) := by decide +kernel
theorem dX5_init_9 : decode cX5_init 9 = .ok (.putfield 9, 3) := by decide +kernel
theorem dX5_init_12 : decode cX5_init 12 = .ok (.aload_n 0, 1) := by decide +kernel
theorem dX5_init_13 : decode cX5_init 13 = .ok (.bipush 48, 2) := by decide +kernel
theorem dX5_init_15 : decode cX5_init 15 = .ok (.newarray .int, 2) := by decide +kernel
theorem dX5_init_17 : decode cX5_init 17 = .ok (.putfield 15, 3) := by decide +kernel
theorem dX5_init_20 : decode cX5_init 20 = .ok (.aload_n 0, 1) := by decide +kernel
theorem dX5_init_21 : decode cX5_init 21 = .ok (.iconst 0, 1) := by decide +kernel
theorem dX5_init_22 : decode cX5_init 22 = .ok (.putfield 18, 3) := by decide +kernel
theorem dX5_init_25 : decode cX5_init 25 = .ok (.aload_n 0, 1) := by decide +kernel
theorem dX5_init_26 : decode cX5_init 26 = .ok (.iconst 0, 1) := by decide +kernel
theorem dX5_init_27 : decode cX5_init 27 = .ok (.putfield 22, 3) := by decide +kernel
theorem dX5_init_30 : decode cX5_init 30 = .ok (.aload_n 0, 1) := by decide +kernel
theorem dX5_init_31 : decode cX5_init 31 = .ok (.ldc 25, 2) := by decide +kernel
theorem dX5_init_33 : decode cX5_init 33 = .ok (.putfield 26, 3) := by decide +kernel
theorem dX5_init_36 : decode cX5_init 36 = .ok (.return_, 1) := by decide +kernel
theorem dX5_build_0 : decode cX5_build 0 = .ok (.aload_n 0, 1) := by decide +kernel
theorem dX5_build_1 : decode cX5_build 1 = .ok (.iconst 0, 1) := by decide +kernel
theorem dX5_build_2 : decode cX5_build 2 = .ok (.putfield 18, 3) := by decide +kernel
theorem dX5_build_5 : decode cX5_build 5 = .ok (.aload_n 0, 1) := by decide +kernel
theorem dX5_build_6 : decode cX5_build 6 = .ok (.iconst 0, 1) := by decide +kernel
theorem dX5_build_7 : decode cX5_build 7 = .ok (.putfield 22, 3) := by decide +kernel
theorem dX5_build_10 : decode cX5_build 10 = .ok (.aload_n 0, 1) := by decide +kernel
theorem dX5_build_11 : decode cX5_build 11 = .ok (.ldc 25, 2) := by decide +kernel
theorem dX5_build_13 : decode cX5_build 13 = .ok (.putfield 26, 3) := by decide +kernel
theorem dX5_build_16 : decode cX5_build 16 = .ok (.iconst 0, 1) := by decide +kernel
theorem dX5_build_17 : decode cX5_build 17 = .ok (.istore_n 2, 1) := by decide +kernel
theorem dX5_build_18 : decode cX5_build 18 = .ok (.iload_n 2, 1) := by decide +kernel
theorem dX5_build_19 : decode cX5_build 19 = .ok (.aload_n 1, 1) := by decide +kernel
theorem dX5_build_20 : decode cX5_build 20 = .ok (.getfield 29, 3) := by decide +kernel
theorem dX5_build_23 : decode cX5_build 23 = .ok (.if_icmp .ge 43, 3) := by decide +kernel
theorem dX5_build_26 : decode cX5_build 26 = .ok (.aload_n 1, 1) := by decide +kernel
theorem dX5_build_27 : decode cX5_build 27 = .ok (.getfield 32, 3) := by decide +kernel
theorem dX5_build_30 : decode cX5_build 30 = .ok (.iload_n 2, 1) := by decide +kernel
theorem dX5_build_31 : decode cX5_build 31 = .ok (.iaload, 1) := by decide +kernel
theorem dX5_build_32 : decode cX5_build 32 = .ok (.istore_n 3, 1) := by decide +kernel
theorem dX5_build_33 : decode cX5_build 33 = .ok (.aload_n 0, 1) := by decide +kernel
theorem dX5_build_34 : decode cX5_build 34 = .ok (.iload_n 3, 1) := by decide +kernel
theorem dX5_build_35 : decode cX5_build 35 = .ok (.aload_n 1, 1) := by decide +kernel
theorem dX5_build_36 : decode cX5_build 36 = .ok (.getfield 35, 3) := by decide +kernel
theorem dX5_build_39 : decode cX5_build 39 = .ok (.iload_n 3, 1) := by decide +kernel
theorem dX5_build_40 : decode cX5_build 40 = .ok (.iaload, 1) := by decide +kernel
theorem dX5_build_41 : decode cX5_build 41 = .ok (.aload_n 1, 1) := by decide +kernel
theorem dX5_build_42 : decode cX5_build 42 = .ok (.getfield 38, 3) := by decide +kernel
theorem dX5_build_45 : decode cX5_build 45 = .ok (.iload_n 3, 1) := by decide +kernel
theorem dX5_build_46 : decode cX5_build 46 = .ok (.iaload, 1) := by decide +kernel
theorem dX5_build_47 : decode cX5_build 47 = .ok (.invokevirtual 41, 3) := by decide +kernel
theorem dX5_build_50 : decode cX5_build 50 = .ok (.aload_n 0, 1) := by decide +kernel
theorem dX5_build_51 : decode cX5_build 51 = .ok (.aload_n 1, 1) := by decide +kernel
theorem dX5_build_52 : decode cX5_build 52 = .ok (.getfield 35, 3) := by decide +kernel
theorem dX5_build_55 : decode cX5_build 55 = .ok (.iload_n 3, 1) := by decide +kernel
theorem dX5_build_56 : decode cX5_build 56 = .ok (.iaload, 1) := by decide +kernel
theorem dX5_build_57 : decode cX5_build 57 = .ok (.invokevirtual 45, 3) := by decide +kernel
theorem dX5_build_60 : decode cX5_build 60 = .ok (.iinc 2 1, 3) := by decide +kernel
theorem dX5_build_63 : decode cX5_build 63 = .ok (.goto (-45), 3) := by decide +kernel
theorem dX5_build_66 : decode cX5_build 66 = .ok (.return_, 1) := by decide +kernel
theorem dX5_giveRoom_0 : decode cX5_giveRoom 0 = .ok (.iconst 0, 1) := by decide +kernel
theorem dX5_giveRoom_1 : decode cX5_giveRoom 1 = .ok (.istore 4, 2) := by decide +kernel
theorem dX5_giveRoom_3 : decode cX5_giveRoom 3 = .ok (.iload 4, 2) := by decide +kernel
theorem dX5_giveRoom_5 : decode cX5_giveRoom 5 = .ok (.aload_n 0, 1) := by decide +kernel
theorem dX5_giveRoom_6 : decode cX5_giveRoom 6 = .ok (.getfield 18, 3) := by decide +kernel
theorem dX5_giveRoom_9 : decode cX5_giveRoom 9 = .ok (.if_icmp .ge 20, 3) := by decide +kernel
theorem dX5_giveRoom_12 : decode cX5_giveRoom 12 = .ok (.aload_n 0, 1) := by decide +kernel
theorem dX5_giveRoom_13 : decode cX5_giveRoom 13 = .ok (.getfield 15, 3) := by decide +kernel
theorem dX5_giveRoom_16 : decode cX5_giveRoom 16 = .ok (.iload 4, 2) := by decide +kernel
theorem dX5_giveRoom_18 : decode cX5_giveRoom 18 = .ok (.iaload, 1) := by decide +kernel
theorem dX5_giveRoom_19 : decode cX5_giveRoom 19 = .ok (.iload_n 2, 1) := by decide +kernel
theorem dX5_giveRoom_20 : decode cX5_giveRoom 20 = .ok (.if_icmp .le 9, 3) := by decide +kernel
theorem dX5_giveRoom_23 : decode cX5_giveRoom 23 = .ok (.iinc 4 1, 3) := by decide +kernel
theorem dX5_giveRoom_26 : decode cX5_giveRoom 26 = .ok (.goto (-23), 3) := by decide +kernel
theorem dX5_giveRoom_29 : decode cX5_giveRoom 29 = .ok (.aload_n 0, 1) := by decide +kernel
theorem dX5_giveRoom_30 : decode cX5_giveRoom 30 = .ok (.getfield 9, 3) := by decide +kernel
theorem dX5_giveRoom_33 : decode cX5_giveRoom 33 = .ok (.iload_n 1, 1) := by decide +kernel
theorem dX5_giveRoom_34 : decode cX5_giveRoom 34 = .ok (.iload 4, 2) := by decide +kernel
theorem dX5_giveRoom_36 : decode cX5_giveRoom 36 = .ok (.iastore, 1) := by decide +kernel
theorem dX5_giveRoom_37 : decode cX5_giveRoom 37 = .ok (.aload_n 0, 1) := by decide +kernel
theorem dX5_giveRoom_38 : decode cX5_giveRoom 38 = .ok (.getfield 15, 3) := by decide +kernel
theorem dX5_giveRoom_41 : decode cX5_giveRoom 41 = .ok (.iload 4, 2) := by decide +kernel
theorem dX5_giveRoom_43 : decode cX5_giveRoom 43 = .ok (.iload_n 3, 1) := by decide +kernel
theorem dX5_giveRoom_44 : decode cX5_giveRoom 44 = .ok (.iastore, 1) := by decide +kernel
theorem dX5_giveRoom_45 : decode cX5_giveRoom 45 = .ok (.aload_n 0, 1) := by decide +kernel
theorem dX5_giveRoom_46 : decode cX5_giveRoom 46 = .ok (.aload_n 0, 1) := by decide +kernel
theorem dX5_giveRoom_47 : decode cX5_giveRoom 47 = .ok (.getfield 18, 3) := by decide +kernel
theorem dX5_giveRoom_50 : decode cX5_giveRoom 50 = .ok (.iload 4, 2) := by decide +kernel
theorem dX5_giveRoom_52 : decode cX5_giveRoom 52 = .ok (.iconst 1, 1) := by decide +kernel
theorem dX5_giveRoom_53 : decode cX5_giveRoom 53 = .ok (.iadd, 1) := by decide +kernel
theorem dX5_giveRoom_54 : decode cX5_giveRoom 54 = .ok (.invokestatic 49, 3) := by decide +kernel
theorem dX5_giveRoom_57 : decode cX5_giveRoom 57 = .ok (.putfield 18, 3) := by decide +kernel
theorem dX5_giveRoom_60 : decode cX5_giveRoom 60 = .ok (.return_, 1) := by decide +kernel
theorem dX5_seeDepth_0 : decode cX5_seeDepth 0 = .ok (.iconst 0, 1) := by decide +kernel
theorem dX5_seeDepth_1 : decode cX5_seeDepth 1 = .ok (.istore_n 2, 1) := by decide +kernel
theorem dX5_seeDepth_2 : decode cX5_seeDepth 2 = .ok (.iconst 0, 1) := by decide +kernel
theorem dX5_seeDepth_3 : decode cX5_seeDepth 3 = .ok (.istore_n 3, 1) := by decide +kernel
theorem dX5_seeDepth_4 : decode cX5_seeDepth 4 = .ok (.iload_n 3, 1) := by decide +kernel
theorem dX5_seeDepth_5 : decode cX5_seeDepth 5 = .ok (.aload_n 0, 1) := by decide +kernel
theorem dX5_seeDepth_6 : decode cX5_seeDepth 6 = .ok (.getfield 18, 3) := by decide +kernel
theorem dX5_seeDepth_9 : decode cX5_seeDepth 9 = .ok (.if_icmp .ge 27, 3) := by decide +kernel
theorem dX5_seeDepth_12 : decode cX5_seeDepth 12 = .ok (.iload_n 2, 1) := by decide +kernel
theorem dX5_seeDepth_13 : decode cX5_seeDepth 13 = .ok (.aload_n 0, 1) := by decide +kernel
theorem dX5_seeDepth_14 : decode cX5_seeDepth 14 = .ok (.getfield 15, 3) := by decide +kernel
theorem dX5_seeDepth_17 : decode cX5_seeDepth 17 = .ok (.iload_n 3, 1) := by decide +kernel
theorem dX5_seeDepth_18 : decode cX5_seeDepth 18 = .ok (.iaload, 1) := by decide +kernel
theorem dX5_seeDepth_19 : decode cX5_seeDepth 19 = .ok (.iload_n 1, 1) := by decide +kernel
theorem dX5_seeDepth_20 : decode cX5_seeDepth 20 = .ok (.if_icmp .le 7, 3) := by decide +kernel
theorem dX5_seeDepth_23 : decode cX5_seeDepth 23 = .ok (.iconst 1, 1) := by decide +kernel
theorem dX5_seeDepth_24 : decode cX5_seeDepth 24 = .ok (.goto 4, 3) := by decide +kernel
theorem dX5_seeDepth_27 : decode cX5_seeDepth 27 = .ok (.iconst 0, 1) := by decide +kernel
theorem dX5_seeDepth_28 : decode cX5_seeDepth 28 = .ok (.iadd, 1) := by decide +kernel
theorem dX5_seeDepth_29 : decode cX5_seeDepth 29 = .ok (.istore_n 2, 1) := by decide +kernel
theorem dX5_seeDepth_30 : decode cX5_seeDepth 30 = .ok (.iinc 3 1, 3) := by decide +kernel
theorem dX5_seeDepth_33 : decode cX5_seeDepth 33 = .ok (.goto (-29), 3) := by decide +kernel
theorem dX5_seeDepth_36 : decode cX5_seeDepth 36 = .ok (.iload_n 2, 1) := by decide +kernel
theorem dX5_seeDepth_37 : decode cX5_seeDepth 37 = .ok (.aload_n 0, 1) := by decide +kernel
theorem dX5_seeDepth_38 : decode cX5_seeDepth 38 = .ok (.getfield 22, 3) := by decide +kernel
theorem dX5_seeDepth_41 : decode cX5_seeDepth 41 = .ok (.if_icmp .le 13, 3) := by decide +kernel
theorem dX5_seeDepth_44 : decode cX5_seeDepth 44 = .ok (.aload_n 0, 1) := by decide +kernel
theorem dX5_seeDepth_45 : decode cX5_seeDepth 45 = .ok (.iload_n 2, 1) := by decide +kernel
theorem dX5_seeDepth_46 : decode cX5_seeDepth 46 = .ok (.putfield 22, 3) := by decide +kernel
theorem dX5_seeDepth_49 : decode cX5_seeDepth 49 = .ok (.aload_n 0, 1) := by decide +kernel
theorem dX5_seeDepth_50 : decode cX5_seeDepth 50 = .ok (.iload_n 1, 1) := by decide +kernel
theorem dX5_seeDepth_51 : decode cX5_seeDepth 51 = .ok (.putfield 26, 3) := by decide +kernel
theorem dX5_seeDepth_54 : decode cX5_seeDepth 54 = .ok (.return_, 1) := by decide +kernel
theorem dX6_init_0 : decode cX6_init 0 = .ok (.aload_n 0, 1) := by decide +kernel
theorem dX6_init_1 : decode cX6_init 1 = .ok (.invokespecial 3, 3) := by decide +kernel
theorem dX6_init_4 : decode cX6_init 4 = .ok (.aload_n 0, 1) := by decide +kernel
theorem dX6_init_5 : decode cX6_init 5 = .ok (.bipush 60, 2) := by decide +kernel
theorem dX6_init_7 : decode cX6_init 7 = .ok (.newarray .int, 2) := by decide +kernel
theorem dX6_init_9 : decode cX6_init 9 = .ok (.putfield 9, 3) := by decide +kernel
theorem dX6_init_12 : decode cX6_init 12 = .ok (.aload_n 0, 1) := by decide +kernel
theorem dX6_init_13 : decode cX6_init 13 = .ok (.iconst 1, 1) := by decide +kernel
theorem dX6_init_14 : decode cX6_init 14 = .ok (.putfield 15, 3) := by decide +kernel
theorem dX6_init_17 : decode cX6_init 17 = .ok (.aload_n 0, 1) := by decide +kernel
theorem dX6_init_18 : decode cX6_init 18 = .ok (.iconst 0, 1) := by decide +kernel
theorem dX6_init_19 : decode cX6_init 19 = .ok (.putfield 19, 3) := by decide +kernel
theorem dX6_init_22 : decode cX6_init 22 = .ok (.aload_n 0, 1) := by decide +kernel
theorem dX6_init_23 : decode cX6_init 23 = .ok (.iconst 0, 1) := by decide +kernel
theorem dX6_init_24 : decode cX6_init 24 = .ok (.putfield 23, 3) := by decide +kernel
theorem dX6_init_27 : decode cX6_init 27 = .ok (.return_, 1) := by decide +kernel
theorem dX6_makeNew_0 : decode cX6_makeNew 0 = .ok (.aload_n 0, 1) := by decide +kernel
theorem dX6_makeNew_1 : decode cX6_makeNew 1 = .ok (.iconst 0, 1) := by decide +kernel
theorem dX6_makeNew_2 : decode cX6_makeNew 2 = .ok (.putfield 15, 3) := by decide +kernel
theorem dX6_makeNew_5 : decode cX6_makeNew 5 = .ok (.aload_n 0, 1) := by decide +kernel
theorem dX6_makeNew_6 : decode cX6_makeNew 6 = .ok (.iload_n 1, 1) := by decide +kernel
theorem dX6_makeNew_7 : decode cX6_makeNew 7 = .ok (.putfield 19, 3) := by decide +kernel
theorem dX6_makeNew_10 : decode cX6_makeNew 10 = .ok (.aload_n 0, 1) := by decide +kernel
theorem dX6_makeNew_11 : decode cX6_makeNew 11 = .ok (.iload_n 2, 1) := by decide +kernel
theorem dX6_makeNew_12 : decode cX6_makeNew 12 = .ok (.putfield 23, 3) := by decide +kernel
theorem dX6_makeNew_15 : decode cX6_makeNew 15 = .ok (.iconst 0, 1) := by decide +kernel
theorem dX6_makeNew_16 : decode cX6_makeNew 16 = .ok (.istore_n 3, 1) := by decide +kernel
theorem dX6_makeNew_17 : decode cX6_makeNew 17 = .ok (.iload_n 3, 1) := by decide +kernel
theorem dX6_makeNew_18 : decode cX6_makeNew 18 = .ok (.aload_n 0, 1) := by decide +kernel
theorem dX6_makeNew_19 : decode cX6_makeNew 19 = .ok (.getfield 23, 3) := by decide +kernel
theorem dX6_makeNew_22 : decode cX6_makeNew 22 = .ok (.if_icmp .ge 16, 3) := by decide +kernel
theorem dX6_makeNew_25 : decode cX6_makeNew 25 = .ok (.aload_n 0, 1) := by decide +kernel
theorem dX6_makeNew_26 : decode cX6_makeNew 26 = .ok (.getfield 9, 3) := by decide +kernel
theorem dX6_makeNew_29 : decode cX6_makeNew 29 = .ok (.iload_n 3, 1) := by decide +kernel
theorem dX6_makeNew_30 : decode cX6_makeNew 30 = .ok (.iconst 0, 1) := by decide +kernel
theorem dX6_makeNew_31 : decode cX6_makeNew 31 = .ok (.iastore, 1) := by decide +kernel
theorem dX6_makeNew_32 : decode cX6_makeNew 32 = .ok (.iinc 3 1, 3) := by decide +kernel
theorem dX6_makeNew_35 : decode cX6_makeNew 35 = .ok (.goto (-18), 3) := by decide +kernel
theorem dX6_makeNew_38 : decode cX6_makeNew 38 = .ok (.return_, 1) := by decide +kernel
theorem dX6_hasItems_0 : decode cX6_hasItems 0 = .ok (.iload_n 1, 1) := by decide +kernel
theorem dX6_hasItems_1 : decode cX6_hasItems 1 = .ok (.ifCond .lt 29, 3) := by decide +kernel
theorem dX6_hasItems_4 : decode cX6_hasItems 4 = .ok (.iload_n 2, 1) := by decide +kernel
theorem dX6_hasItems_5 : decode cX6_hasItems 5 = .ok (.ifCond .lt 25, 3) := by decide +kernel
theorem dX6_hasItems_8 : decode cX6_hasItems 8 = .ok (.iload_n 1, 1) := by decide +kernel
theorem dX6_hasItems_9 : decode cX6_hasItems 9 = .ok (.aload_n 0, 1) := by decide +kernel
theorem dX6_hasItems_10 : decode cX6_hasItems 10 = .ok (.getfield 23, 3) := by decide +kernel
theorem dX6_hasItems_13 : decode cX6_hasItems 13 = .ok (.if_icmp .gt 17, 3) := by decide +kernel
theorem dX6_hasItems_16 : decode cX6_hasItems 16 = .ok (.iload_n 2, 1) := by decide +kernel
theorem dX6_hasItems_17 : decode cX6_hasItems 17 = .ok (.aload_n 0, 1) := by decide +kernel
theorem dX6_hasItems_18 : decode cX6_hasItems 18 = .ok (.getfield 23, 3) := by decide +kernel
theorem dX6_hasItems_21 : decode cX6_hasItems 21 = .ok (.iload_n 1, 1) := by decide +kernel
theorem dX6_hasItems_22 : decode cX6_hasItems 22 = .ok (.isub, 1) := by decide +kernel
theorem dX6_hasItems_23 : decode cX6_hasItems 23 = .ok (.if_icmp .gt 7, 3) := by decide +kernel
theorem dX6_hasItems_26 : decode cX6_hasItems 26 = .ok (.iconst 1, 1) := by decide +kernel
theorem dX6_hasItems_27 : decode cX6_hasItems 27 = .ok (.goto 4, 3) := by decide +kernel
theorem dX6_hasItems_30 : decode cX6_hasItems 30 = .ok (.iconst 0, 1) := by decide +kernel
theorem dX6_hasItems_31 : decode cX6_hasItems 31 = .ok (.ireturn, 1) := by decide +kernel
theorem dX6_setItem_0 : decode cX6_setItem 0 = .ok (.aload_n 0, 1) := by decide +kernel
theorem dX6_setItem_1 : decode cX6_setItem 1 = .ok (.getfield 19, 3) := by decide +kernel
theorem dX6_setItem_4 : decode cX6_setItem 4 = .ok (.ifCond .ne 14, 3) := by decide +kernel
theorem dX6_setItem_7 : decode cX6_setItem 7 = .ok (.aload_n 0, 1) := by decide +kernel
theorem dX6_setItem_8 : decode cX6_setItem 8 = .ok (.getfield 9, 3) := by decide +kernel
theorem dX6_setItem_11 : decode cX6_setItem 11 = .ok (.iload_n 1, 1) := by decide +kernel
theorem dX6_setItem_12 : decode cX6_setItem 12 = .ok (.iload_n 2, 1) := by decide +kernel
theorem dX6_setItem_13 : decode cX6_setItem 13 = .ok (.i2b, 1) := by decide +kernel
theorem dX6_setItem_14 : decode cX6_setItem 14 = .ok (.iastore, 1) := by decide +kernel
theorem dX6_setItem_15 : decode cX6_setItem 15 = .ok (.goto 29, 3) := by decide +kernel
theorem dX6_setItem_18 : decode cX6_setItem 18 = .ok (.aload_n 0, 1) := by decide +kernel
theorem dX6_setItem_19 : decode cX6_setItem 19 = .ok (.getfield 19, 3) := by decide +kernel
theorem dX6_setItem_22 : decode cX6_setItem 22 = .ok (.iconst 1, 1) := by decide +kernel
theorem dX6_setItem_23 : decode cX6_setItem 23 = .ok (.if_icmp .ne 14, 3) := by decide +kernel
theorem dX6_setItem_26 : decode cX6_setItem 26 = .ok (.aload_n 0, 1) := by decide +kernel
theorem dX6_setItem_27 : decode cX6_setItem 27 = .ok (.getfield 9, 3) := by decide +kernel
theorem dX6_setItem_30 : decode cX6_setItem 30 = .ok (.iload_n 1, 1) := by decide +kernel
theorem dX6_setItem_31 : decode cX6_setItem 31 = .ok (.iload_n 2, 1) := by decide +kernel
theorem dX6_setItem_32 : decode cX6_setItem 32 = .ok (.i2s, 1) := by decide +kernel
theorem dX6_setItem_33 : decode cX6_setItem 33 = .ok (.iastore, 1) := by decide +kernel
theorem dX6_setItem_34 : decode cX6_setItem 34 = .ok (.goto 10, 3) := by decide +kernel
theorem dX6_setItem_37 : decode cX6_setItem 37 = .ok (.aload_n 0, 1) := by decide +kernel
theorem dX6_setItem_38 : decode cX6_setItem 38 = .ok (.getfield 9, 3) := by decide +kernel
theorem dX6_setItem_41 : decode cX6_setItem 41 = .ok (.iload_n 1, 1) := by decide +kernel
theorem dX6_setItem_42 : decode cX6_setItem 42 = .ok (.iload_n 2, 1) := by decide +kernel
theorem dX6_setItem_43 : decode cX6_setItem 43 = .ok (.iastore, 1) := by decide +kernel
theorem dX6_setItem_44 : decode cX6_setItem 44 = .ok (.return_, 1) := by decide +kernel
theorem dX7_init_0 : decode cX7_init 0 = .ok (.aload_n 0, 1) := by decide +kernel
theorem dX7_init_1 : decode cX7_init 1 = .ok (.invokespecial 3, 3) := by decide +kernel
theorem dX7_init_4 : decode cX7_init 4 = .ok (.aload_n 0, 1) := by decide +kernel
theorem dX7_init_5 : decode cX7_init 5 = .ok (.bipush 48, 2) := by decide +kernel
theorem dX7_init_7 : decode cX7_init 7 = .ok (.newarray .int, 2) := by decide +kernel
theorem dX7_init_9 : decode cX7_init 9 = .ok (.putfield 9, 3) := by decide +kernel
theorem dX7_init_12 : decode cX7_init 12 = .ok (.aload_n 0, 1) := by decide +kernel
theorem dX7_init_13 : decode cX7_init 13 = .ok (.bipush 48, 2) := by decide +kernel
theorem dX7_init_15 : decode cX7_init 15 = .ok (.newarray .int, 2) := by decide +kernel
theorem dX7_init_17 : decode cX7_init 17 = .ok (.putfield 15, 3) := by decide +kernel
theorem dX7_init_20 : decode cX7_init 20 = .ok (.aload_n 0, 1) := by decide +kernel
theorem dX7_init_21 : decode cX7_init 21 = .ok (.bipush 48, 2) := by decide +kernel
theorem dX7_init_23 : decode cX7_init 23 = .ok (.newarray .boolean, 2) := by decide +kernel
theorem dX7_init_25 : decode cX7_init 25 = .ok (.putfield 18, 3) := by decide +kernel
theorem dX7_init_28 : decode cX7_init 28 = .ok (.aload_n 0, 1) := by decide +kernel
theorem dX7_init_29 : decode cX7_init 29 = .ok (.bipush 48, 2) := by decide +kernel
theorem dX7_init_31 : decode cX7_init 31 = .ok (.newarray .int, 2) := by decide +kernel
theorem dX7_init_33 : decode cX7_init 33 = .ok (.putfield 22, 3) := by decide +kernel
theorem dX7_init_36 : decode cX7_init 36 = .ok (.aload_n 0, 1) := by decide +kernel
theorem dX7_init_37 : decode cX7_init 37 = .ok (.bipush 48, 2) := by decide +kernel
theorem dX7_init_39 : decode cX7_init 39 = .ok (.newarray .int, 2) := by decide +kernel
theorem dX7_init_41 : decode cX7_init 41 = .ok (.putfield 25, 3) := by decide +kernel
theorem dX7_init_44 : decode cX7_init 44 = .ok (.aload_n 0, 1) := by decide +kernel
theorem dX7_init_45 : decode cX7_init 45 = .ok (.iconst 0, 1) := by decide +kernel
theorem dX7_init_46 : decode cX7_init 46 = .ok (.putfield 28, 3) := by decide +kernel
theorem dX7_init_49 : decode cX7_init 49 = .ok (.return_, 1) := by decide +kernel
theorem dX7_add_0 : decode cX7_add 0 = .ok (.aload_n 0, 1) := by decide +kernel
theorem dX7_add_1 : decode cX7_add 1 = .ok (.getfield 9, 3) := by decide +kernel
theorem dX7_add_4 : decode cX7_add 4 = .ok (.iload_n 1, 1) := by decide +kernel
theorem dX7_add_5 : decode cX7_add 5 = .ok (.iload_n 2, 1) := by decide +kernel
theorem dX7_add_6 : decode cX7_add 6 = .ok (.iastore, 1) := by decide +kernel
theorem dX7_add_7 : decode cX7_add 7 = .ok (.aload_n 0, 1) := by decide +kernel
theorem dX7_add_8 : decode cX7_add 8 = .ok (.getfield 15, 3) := by decide +kernel
theorem dX7_add_11 : decode cX7_add 11 = .ok (.iload_n 1, 1) := by decide +kernel
theorem dX7_add_12 : decode cX7_add 12 = .ok (.iload_n 3, 1) := by decide +kernel
theorem dX7_add_13 : decode cX7_add 13 = .ok (.iastore, 1) := by decide +kernel
theorem dX7_add_14 : decode cX7_add 14 = .ok (.aload_n 0, 1) := by decide +kernel
theorem dX7_add_15 : decode cX7_add 15 = .ok (.getfield 18, 3) := by decide +kernel
theorem dX7_add_18 : decode cX7_add 18 = .ok (.iload_n 1, 1) := by decide +kernel
theorem dX7_add_19 : decode cX7_add 19 = .ok (.iconst 1, 1) := by decide +kernel
theorem dX7_add_20 : decode cX7_add 20 = .ok (.bastore, 1) := by decide +kernel
theorem dX7_add_21 : decode cX7_add 21 = .ok (.aload_n 0, 1) := by decide +kernel
theorem dX7_add_22 : decode cX7_add 22 = .ok (.getfield 28, 3) := by decide +kernel
theorem dX7_add_25 : decode cX7_add 25 = .ok (.istore 4, 2) := by decide +kernel
theorem dX7_add_27 : decode cX7_add 27 = .ok (.iload 4, 2) := by decide +kernel
theorem dX7_add_29 : decode cX7_add 29 = .ok (.ifCond .le 41, 3) := by decide +kernel
theorem dX7_add_32 : decode cX7_add 32 = .ok (.aload_n 0, 1) := by decide +kernel
theorem dX7_add_33 : decode cX7_add 33 = .ok (.iload_n 1, 1) := by decide +kernel
theorem dX7_add_34 : decode cX7_add 34 = .ok (.aload_n 0, 1) := by decide +kernel
theorem dX7_add_35 : decode cX7_add 35 = .ok (.getfield 22, 3) := by decide +kernel
theorem dX7_add_38 : decode cX7_add 38 = .ok (.iload 4, 2) := by decide +kernel
theorem dX7_add_40 : decode cX7_add 40 = .ok (.iconst 1, 1) := by decide +kernel
theorem dX7_add_41 : decode cX7_add 41 = .ok (.isub, 1) := by decide +kernel
theorem dX7_add_42 : decode cX7_add 42 = .ok (.iaload, 1) := by decide +kernel
theorem dX7_add_43 : decode cX7_add 43 = .ok (.invokevirtual 32, 3) := by decide +kernel
theorem dX7_add_46 : decode cX7_add 46 = .ok (.ifCond .eq 24, 3) := by decide +kernel
theorem dX7_add_49 : decode cX7_add 49 = .ok (.aload_n 0, 1) := by decide +kernel
theorem dX7_add_50 : decode cX7_add 50 = .ok (.aload_n 0, 1) := by decide +kernel
theorem dX7_add_51 : decode cX7_add 51 = .ok (.getfield 22, 3) := by decide +kernel
theorem dX7_add_54 : decode cX7_add 54 = .ok (.iload 4, 2) := by decide +kernel
theorem dX7_add_56 : decode cX7_add 56 = .ok (.iconst 1, 1) := by decide +kernel
theorem dX7_add_57 : decode cX7_add 57 = .ok (.isub, 1) := by decide +kernel
theorem dX7_add_58 : decode cX7_add 58 = .ok (.iaload, 1) := by decide +kernel
theorem dX7_add_59 : decode cX7_add 59 = .ok (.iload 4, 2) := by decide +kernel
theorem dX7_add_61 : decode cX7_add 61 = .ok (.invokevirtual 36, 3) := by decide +kernel
theorem dX7_add_64 : decode cX7_add 64 = .ok (.iinc 4 (-1), 3) := by decide +kernel
theorem dX7_add_67 : decode cX7_add 67 = .ok (.goto (-40), 3) := by decide +kernel
theorem dX7_add_70 : decode cX7_add 70 = .ok (.aload_n 0, 1) := by decide +kernel
theorem dX7_add_71 : decode cX7_add 71 = .ok (.iload_n 1, 1) := by decide +kernel
theorem dX7_add_72 : decode cX7_add 72 = .ok (.iload 4, 2) := by decide +kernel
theorem dX7_add_74 : decode cX7_add 74 = .ok (.invokevirtual 36, 3) := by decide +kernel
theorem dX7_add_77 : decode cX7_add 77 = .ok (.aload_n 0, 1) := by decide +kernel
theorem dX7_add_78 : decode cX7_add 78 = .ok (.dup, 1) := by decide +kernel
theorem dX7_add_79 : decode cX7_add 79 = .ok (.getfield 28, 3) := by decide +kernel
theorem dX7_add_82 : decode cX7_add 82 = .ok (.iconst 1, 1) := by decide +kernel
theorem dX7_add_83 : decode cX7_add 83 = .ok (.iadd, 1) := by decide +kernel
theorem dX7_add_84 : decode cX7_add 84 = .ok (.putfield 28, 3) := by decide +kernel
theorem dX7_add_87 : decode cX7_add 87 = .ok (.return_, 1) := by decide +kernel
theorem dX7_remove_0 : decode cX7_remove 0 = .ok (.aload_n 0, 1) := by decide +kernel
theorem dX7_remove_1 : decode cX7_remove 1 = .ok (.getfield 18, 3) := by decide +kernel
theorem dX7_remove_4 : decode cX7_remove 4 = .ok (.iload_n 1, 1) := by decide +kernel
theorem dX7_remove_5 : decode cX7_remove 5 = .ok (.iconst 0, 1) := by decide +kernel
theorem dX7_remove_6 : decode cX7_remove 6 = .ok (.bastore, 1) := by decide +kernel
theorem dX7_remove_7 : decode cX7_remove 7 = .ok (.aload_n 0, 1) := by decide +kernel
theorem dX7_remove_8 : decode cX7_remove 8 = .ok (.dup, 1) := by decide +kernel
theorem dX7_remove_9 : decode cX7_remove 9 = .ok (.getfield 28, 3) := by decide +kernel
theorem dX7_remove_12 : decode cX7_remove 12 = .ok (.iconst 1, 1) := by decide +kernel
theorem dX7_remove_13 : decode cX7_remove 13 = .ok (.isub, 1) := by decide +kernel
theorem dX7_remove_14 : decode cX7_remove 14 = .ok (.putfield 28, 3) := by decide +kernel
theorem dX7_remove_17 : decode cX7_remove 17 = .ok (.aload_n 0, 1) := by decide +kernel
theorem dX7_remove_18 : decode cX7_remove 18 = .ok (.getfield 25, 3) := by decide +kernel
theorem dX7_remove_21 : decode cX7_remove 21 = .ok (.iload_n 1, 1) := by decide +kernel
theorem dX7_remove_22 : decode cX7_remove 22 = .ok (.iaload, 1) := by decide +kernel
theorem dX7_remove_23 : decode cX7_remove 23 = .ok (.istore_n 2, 1) := by decide +kernel
theorem dX7_remove_24 : decode cX7_remove 24 = .ok (.iload_n 2, 1) := by decide +kernel
theorem dX7_remove_25 : decode cX7_remove 25 = .ok (.aload_n 0, 1) := by decide +kernel
theorem dX7_remove_26 : decode cX7_remove 26 = .ok (.getfield 28, 3) := by decide +kernel
theorem dX7_remove_29 : decode cX7_remove 29 = .ok (.if_icmp .ge 22, 3) := by decide +kernel
theorem dX7_remove_32 : decode cX7_remove 32 = .ok (.aload_n 0, 1) := by decide +kernel
theorem dX7_remove_33 : decode cX7_remove 33 = .ok (.aload_n 0, 1) := by decide +kernel
theorem dX7_remove_34 : decode cX7_remove 34 = .ok (.getfield 22, 3) := by decide +kernel
theorem dX7_remove_37 : decode cX7_remove 37 = .ok (.iload_n 2, 1) := by decide +kernel
theorem dX7_remove_38 : decode cX7_remove 38 = .ok (.iconst 1, 1) := by decide +kernel
theorem dX7_remove_39 : decode cX7_remove 39 = .ok (.iadd, 1) := by decide +kernel
theorem dX7_remove_40 : decode cX7_remove 40 = .ok (.iaload, 1) := by decide +kernel
theorem dX7_remove_41 : decode cX7_remove 41 = .ok (.iload_n 2, 1) := by decide +kernel
theorem dX7_remove_42 : decode cX7_remove 42 = .ok (.invokevirtual 36, 3) := by decide +kernel
theorem dX7_remove_45 : decode cX7_remove 45 = .ok (.iinc 2 1, 3) := by decide +kernel
theorem dX7_remove_48 : decode cX7_remove 48 = .ok (.goto (-24), 3) := by decide +kernel
theorem dX7_remove_51 : decode cX7_remove 51 = .ok (.return_, 1) := by decide +kernel
theorem dX7_setRank_0 : decode cX7_setRank 0 = .ok (.aload_n 0, 1) := by decide +kernel
theorem dX7_setRank_1 : decode cX7_setRank 1 = .ok (.getfield 22, 3) := by decide +kernel
theorem dX7_setRank_4 : decode cX7_setRank 4 = .ok (.iload_n 2, 1) := by decide +kernel
theorem dX7_setRank_5 : decode cX7_setRank 5 = .ok (.iload_n 1, 1) := by decide +kernel
theorem dX7_setRank_6 : decode cX7_setRank 6 = .ok (.iastore, 1) := by decide +kernel
theorem dX7_setRank_7 : decode cX7_setRank 7 = .ok (.aload_n 0, 1) := by decide +kernel
theorem dX7_setRank_8 : decode cX7_setRank 8 = .ok (.getfield 25, 3) := by decide +kernel
theorem dX7_setRank_11 : decode cX7_setRank 11 = .ok (.iload_n 1, 1) := by decide +kernel
theorem dX7_setRank_12 : decode cX7_setRank 12 = .ok (.iload_n 2, 1) := by decide +kernel
theorem dX7_setRank_13 : decode cX7_setRank 13 = .ok (.iastore, 1) := by decide +kernel
theorem dX7_setRank_14 : decode cX7_setRank 14 = .ok (.return_, 1) := by decide +kernel
theorem dX7_isAhead_0 : decode cX7_isAhead 0 = .ok (.aload_n 0, 1) := by decide +kernel
theorem dX7_isAhead_1 : decode cX7_isAhead 1 = .ok (.getfield 9, 3) := by decide +kernel
theorem dX7_isAhead_4 : decode cX7_isAhead 4 = .ok (.iload_n 1, 1) := by decide +kernel
theorem dX7_isAhead_5 : decode cX7_isAhead 5 = .ok (.iaload, 1) := by decide +kernel
theorem dX7_isAhead_6 : decode cX7_isAhead 6 = .ok (.aload_n 0, 1) := by decide +kernel
theorem dX7_isAhead_7 : decode cX7_isAhead 7 = .ok (.getfield 9, 3) := by decide +kernel
theorem dX7_isAhead_10 : decode cX7_isAhead 10 = .ok (.iload_n 2, 1) := by decide +kernel
theorem dX7_isAhead_11 : decode cX7_isAhead 11 = .ok (.iaload, 1) := by decide +kernel
theorem dX7_isAhead_12 : decode cX7_isAhead 12 = .ok (.if_icmp .eq 24, 3) := by decide +kernel
theorem dX7_isAhead_15 : decode cX7_isAhead 15 = .ok (.aload_n 0, 1) := by decide +kernel
theorem dX7_isAhead_16 : decode cX7_isAhead 16 = .ok (.getfield 9, 3) := by decide +kernel
theorem dX7_isAhead_19 : decode cX7_isAhead 19 = .ok (.iload_n 1, 1) := by decide +kernel
theorem dX7_isAhead_20 : decode cX7_isAhead 20 = .ok (.iaload, 1) := by decide +kernel
theorem dX7_isAhead_21 : decode cX7_isAhead 21 = .ok (.aload_n 0, 1) := by decide +kernel
theorem dX7_isAhead_22 : decode cX7_isAhead 22 = .ok (.getfield 9, 3) := by decide +kernel
theorem dX7_isAhead_25 : decode cX7_isAhead 25 = .ok (.iload_n 2, 1) := by decide +kernel
theorem dX7_isAhead_26 : decode cX7_isAhead 26 = .ok (.iaload, 1) := by decide +kernel
theorem dX7_isAhead_27 : decode cX7_isAhead 27 = .ok (.if_icmp .ge 7, 3) := by decide +kernel
theorem dX7_isAhead_30 : decode cX7_isAhead 30 = .ok (.iconst 1, 1) := by decide +kernel
theorem dX7_isAhead_31 : decode cX7_isAhead 31 = .ok (.goto 4, 3) := by decide +kernel
theorem dX7_isAhead_34 : decode cX7_isAhead 34 = .ok (.iconst 0, 1) := by decide +kernel
theorem dX7_isAhead_35 : decode cX7_isAhead 35 = .ok (.ireturn, 1) := by decide +kernel
theorem dX7_isAhead_36 : decode cX7_isAhead 36 = .ok (.aload_n 0, 1) := by decide +kernel
theorem dX7_isAhead_37 : decode cX7_isAhead 37 = .ok (.getfield 15, 3) := by decide +kernel
theorem dX7_isAhead_40 : decode cX7_isAhead 40 = .ok (.iload_n 1, 1) := by decide +kernel
theorem dX7_isAhead_41 : decode cX7_isAhead 41 = .ok (.iaload, 1) := by decide +kernel
theorem dX7_isAhead_42 : decode cX7_isAhead 42 = .ok (.aload_n 0, 1) := by decide +kernel
theorem dX7_isAhead_43 : decode cX7_isAhead 43 = .ok (.getfield 15, 3) := by decide +kernel
theorem dX7_isAhead_46 : decode cX7_isAhead 46 = .ok (.iload_n 2, 1) := by decide +kernel
theorem dX7_isAhead_47 : decode cX7_isAhead 47 = .ok (.iaload, 1) := by decide +kernel
theorem dX7_isAhead_48 : decode cX7_isAhead 48 = .ok (.if_icmp .eq 24, 3) := by decide +kernel
theorem dX7_isAhead_51 : decode cX7_isAhead 51 = .ok (.aload_n 0, 1) := by decide +kernel
theorem dX7_isAhead_52 : decode cX7_isAhead 52 = .ok (.getfield 15, 3) := by decide +kernel
theorem dX7_isAhead_55 : decode cX7_isAhead 55 = .ok (.iload_n 1, 1) := by decide +kernel
theorem dX7_isAhead_56 : decode cX7_isAhead 56 = .ok (.iaload, 1) := by decide +kernel
theorem dX7_isAhead_57 : decode cX7_isAhead 57 = .ok (.aload_n 0, 1) := by decide +kernel
theorem dX7_isAhead_58 : decode cX7_isAhead 58 = .ok (.getfield 15, 3) := by decide +kernel
theorem dX7_isAhead_61 : decode cX7_isAhead 61 = .ok (.iload_n 2, 1) := by decide +kernel
theorem dX7_isAhead_62 : decode cX7_isAhead 62 = .ok (.iaload, 1) := by decide +kernel
theorem dX7_isAhead_63 : decode cX7_isAhead 63 = .ok (.if_icmp .ge 7, 3) := by decide +kernel
theorem dX7_isAhead_66 : decode cX7_isAhead 66 = .ok (.iconst 1, 1) := by decide +kernel
theorem dX7_isAhead_67 : decode cX7_isAhead 67 = .ok (.goto 4, 3) := by decide +kernel
theorem dX7_isAhead_70 : decode cX7_isAhead 70 = .ok (.iconst 0, 1) := by decide +kernel
theorem dX7_isAhead_71 : decode cX7_isAhead 71 = .ok (.ireturn, 1) := by decide +kernel
theorem dX7_isAhead_72 : decode cX7_isAhead 72 = .ok (.iload_n 1, 1) := by decide +kernel
theorem dX7_isAhead_73 : decode cX7_isAhead 73 = .ok (.iload_n 2, 1) := by decide +kernel
theorem dX7_isAhead_74 : decode cX7_isAhead 74 = .ok (.if_icmp .ge 7, 3) := by decide +kernel
theorem dX7_isAhead_77 : decode cX7_isAhead 77 = .ok (.iconst 1, 1) := by decide +kernel
theorem dX7_isAhead_78 : decode cX7_isAhead 78 = .ok (.goto 4, 3) := by decide +kernel
theorem dX7_isAhead_81 : decode cX7_isAhead 81 = .ok (.iconst 0, 1) := by decide +kernel
theorem dX7_isAhead_82 : decode cX7_isAhead 82 = .ok (.ireturn, 1) := by decide +kernel
theorem dX7_leastUnused_0 : decode cX7_leastUnused 0 = .ok (.iconst 0, 1) := by decide +kernel
theorem dX7_leastUnused_1 : decode cX7_leastUnused 1 = .ok (.istore_n 1, 1) := by decide +kernel
theorem dX7_leastUnused_2 : decode cX7_leastUnused 2 = .ok (.iload_n 1, 1) := by decide +kernel
theorem dX7_leastUnused_3 : decode cX7_leastUnused 3 = .ok (.bipush 48, 2) := by decide +kernel
theorem dX7_leastUnused_5 : decode cX7_leastUnused 5 = .ok (.if_icmp .ge 20, 3) := by decide +kernel
theorem dX7_leastUnused_8 : decode cX7_leastUnused 8 = .ok (.aload_n 0, 1) := by decide +kernel
theorem dX7_leastUnused_9 : decode cX7_leastUnused 9 = .ok (.getfield 18, 3) := by decide +kernel
theorem dX7_leastUnused_12 : decode cX7_leastUnused 12 = .ok (.iload_n 1, 1) := by decide +kernel
theorem dX7_leastUnused_13 : decode cX7_leastUnused 13 = .ok (.baload, 1) := by decide +kernel
theorem dX7_leastUnused_14 : decode cX7_leastUnused 14 = .ok (.ifCond .ne 5, 3) := by decide +kernel
theorem dX7_leastUnused_17 : decode cX7_leastUnused 17 = .ok (.iload_n 1, 1) := by decide +kernel
theorem dX7_leastUnused_18 : decode cX7_leastUnused 18 = .ok (.ireturn, 1) := by decide +kernel
theorem dX7_leastUnused_19 : decode cX7_leastUnused 19 = .ok (.iinc 1 1, 3) := by decide +kernel
theorem dX7_leastUnused_22 : decode cX7_leastUnused 22 = .ok (.goto (-20), 3) := by decide +kernel
theorem dX7_leastUnused_25 : decode cX7_leastUnused 25 = .ok (.iconst (-1), 1) := by decide +kernel
theorem dX7_leastUnused_26 : decode cX7_leastUnused 26 = .ok (.ireturn, 1) := by decide +kernel
theorem dX7_meetsStretch_0 : decode cX7_meetsStretch 0 = .ok (.aload_n 0, 1) := by decide +kernel
theorem dX7_meetsStretch_1 : decode cX7_meetsStretch 1 = .ok (.getfield 9, 3) := by decide +kernel
theorem dX7_meetsStretch_4 : decode cX7_meetsStretch 4 = .ok (.iload_n 1, 1) := by decide +kernel
theorem dX7_meetsStretch_5 : decode cX7_meetsStretch 5 = .ok (.iaload, 1) := by decide +kernel
theorem dX7_meetsStretch_6 : decode cX7_meetsStretch 6 = .ok (.iload_n 3, 1) := by decide +kernel
theorem dX7_meetsStretch_7 : decode cX7_meetsStretch 7 = .ok (.if_icmp .ge 17, 3) := by decide +kernel
theorem dX7_meetsStretch_10 : decode cX7_meetsStretch 10 = .ok (.aload_n 0, 1) := by decide +kernel
theorem dX7_meetsStretch_11 : decode cX7_meetsStretch 11 = .ok (.getfield 15, 3) := by decide +kernel
theorem dX7_meetsStretch_14 : decode cX7_meetsStretch 14 = .ok (.iload_n 1, 1) := by decide +kernel
theorem dX7_meetsStretch_15 : decode cX7_meetsStretch 15 = .ok (.iaload, 1) := by decide +kernel
theorem dX7_meetsStretch_16 : decode cX7_meetsStretch 16 = .ok (.iload_n 2, 1) := by decide +kernel
theorem dX7_meetsStretch_17 : decode cX7_meetsStretch 17 = .ok (.if_icmp .le 7, 3) := by decide +kernel
theorem dX7_meetsStretch_20 : decode cX7_meetsStretch 20 = .ok (.iconst 1, 1) := by decide +kernel
theorem dX7_meetsStretch_21 : decode cX7_meetsStretch 21 = .ok (.goto 4, 3) := by decide +kernel
theorem dX7_meetsStretch_24 : decode cX7_meetsStretch 24 = .ok (.iconst 0, 1) := by decide +kernel
theorem dX7_meetsStretch_25 : decode cX7_meetsStretch 25 = .ok (.ireturn, 1) := by decide +kernel
theorem dX7_meeting_0 : decode cX7_meeting 0 = .ok (.iconst 0, 1) := by decide +kernel
theorem dX7_meeting_1 : decode cX7_meeting 1 = .ok (.istore_n 3, 1) := by decide +kernel
theorem dX7_meeting_2 : decode cX7_meeting 2 = .ok (.iconst 0, 1) := by decide +kernel
theorem dX7_meeting_3 : decode cX7_meeting 3 = .ok (.istore 4, 2) := by decide +kernel
theorem dX7_meeting_5 : decode cX7_meeting 5 = .ok (.iload 4, 2) := by decide +kernel
theorem dX7_meeting_7 : decode cX7_meeting 7 = .ok (.aload_n 0, 1) := by decide +kernel
theorem dX7_meeting_8 : decode cX7_meeting 8 = .ok (.getfield 28, 3) := by decide +kernel
theorem dX7_meeting_11 : decode cX7_meeting 11 = .ok (.if_icmp .ge 28, 3) := by decide +kernel
theorem dX7_meeting_14 : decode cX7_meeting 14 = .ok (.aload_n 0, 1) := by decide +kernel
theorem dX7_meeting_15 : decode cX7_meeting 15 = .ok (.aload_n 0, 1) := by decide +kernel
theorem dX7_meeting_16 : decode cX7_meeting 16 = .ok (.getfield 22, 3) := by decide +kernel
theorem dX7_meeting_19 : decode cX7_meeting 19 = .ok (.iload 4, 2) := by decide +kernel
theorem dX7_meeting_21 : decode cX7_meeting 21 = .ok (.iaload, 1) := by decide +kernel
theorem dX7_meeting_22 : decode cX7_meeting 22 = .ok (.iload_n 1, 1) := by decide +kernel
theorem dX7_meeting_23 : decode cX7_meeting 23 = .ok (.iload_n 2, 1) := by decide +kernel
theorem dX7_meeting_24 : decode cX7_meeting 24 = .ok (.invokevirtual 40, 3) := by decide +kernel
theorem dX7_meeting_27 : decode cX7_meeting 27 = .ok (.ifCond .eq 6, 3) := by decide +kernel
theorem dX7_meeting_30 : decode cX7_meeting 30 = .ok (.iinc 3 1, 3) := by decide +kernel
theorem dX7_meeting_33 : decode cX7_meeting 33 = .ok (.iinc 4 1, 3) := by decide +kernel
theorem dX7_meeting_36 : decode cX7_meeting 36 = .ok (.goto (-31), 3) := by decide +kernel
theorem dX7_meeting_39 : decode cX7_meeting 39 = .ok (.iload_n 3, 1) := by decide +kernel
theorem dX7_meeting_40 : decode cX7_meeting 40 = .ok (.ireturn, 1) := by decide +kernel
theorem dX7_meetingAt_0 : decode cX7_meetingAt 0 = .ok (.iconst 0, 1) := by decide +kernel
theorem dX7_meetingAt_1 : decode cX7_meetingAt 1 = .ok (.istore 4, 2) := by decide +kernel
theorem dX7_meetingAt_3 : decode cX7_meetingAt 3 = .ok (.iconst 0, 1) := by decide +kernel
theorem dX7_meetingAt_4 : decode cX7_meetingAt 4 = .ok (.istore 5, 2) := by decide +kernel
theorem dX7_meetingAt_6 : decode cX7_meetingAt 6 = .ok (.iload 5, 2) := by decide +kernel
theorem dX7_meetingAt_8 : decode cX7_meetingAt 8 = .ok (.aload_n 0, 1) := by decide +kernel
theorem dX7_meetingAt_9 : decode cX7_meetingAt 9 = .ok (.getfield 28, 3) := by decide +kernel
theorem dX7_meetingAt_12 : decode cX7_meetingAt 12 = .ok (.if_icmp .ge 42, 3) := by decide +kernel
theorem dX7_meetingAt_15 : decode cX7_meetingAt 15 = .ok (.aload_n 0, 1) := by decide +kernel
theorem dX7_meetingAt_16 : decode cX7_meetingAt 16 = .ok (.aload_n 0, 1) := by decide +kernel
theorem dX7_meetingAt_17 : decode cX7_meetingAt 17 = .ok (.getfield 22, 3) := by decide +kernel
theorem dX7_meetingAt_20 : decode cX7_meetingAt 20 = .ok (.iload 5, 2) := by decide +kernel
theorem dX7_meetingAt_22 : decode cX7_meetingAt 22 = .ok (.iaload, 1) := by decide +kernel
theorem dX7_meetingAt_23 : decode cX7_meetingAt 23 = .ok (.iload_n 1, 1) := by decide +kernel
theorem dX7_meetingAt_24 : decode cX7_meetingAt 24 = .ok (.iload_n 2, 1) := by decide +kernel
theorem dX7_meetingAt_25 : decode cX7_meetingAt 25 = .ok (.invokevirtual 40, 3) := by decide +kernel
theorem dX7_meetingAt_28 : decode cX7_meetingAt 28 = .ok (.ifCond .eq 20, 3) := by decide +kernel
theorem dX7_meetingAt_31 : decode cX7_meetingAt 31 = .ok (.iload 4, 2) := by decide +kernel
theorem dX7_meetingAt_33 : decode cX7_meetingAt 33 = .ok (.iload_n 3, 1) := by decide +kernel
theorem dX7_meetingAt_34 : decode cX7_meetingAt 34 = .ok (.if_icmp .ne 11, 3) := by decide +kernel
theorem dX7_meetingAt_37 : decode cX7_meetingAt 37 = .ok (.aload_n 0, 1) := by decide +kernel
theorem dX7_meetingAt_38 : decode cX7_meetingAt 38 = .ok (.getfield 22, 3) := by decide +kernel
theorem dX7_meetingAt_41 : decode cX7_meetingAt 41 = .ok (.iload 5, 2) := by decide +kernel
theorem dX7_meetingAt_43 : decode cX7_meetingAt 43 = .ok (.iaload, 1) := by decide +kernel
theorem dX7_meetingAt_44 : decode cX7_meetingAt 44 = .ok (.ireturn, 1) := by decide +kernel
theorem dX7_meetingAt_45 : decode cX7_meetingAt 45 = .ok (.iinc 4 1, 3) := by decide +kernel
theorem dX7_meetingAt_48 : decode cX7_meetingAt 48 = .ok (.iinc 5 1, 3) := by decide +kernel
theorem dX7_meetingAt_51 : decode cX7_meetingAt 51 = .ok (.goto (-45), 3) := by decide +kernel
theorem dX7_meetingAt_54 : decode cX7_meetingAt 54 = .ok (.iconst (-1), 1) := by decide +kernel
theorem dX7_meetingAt_55 : decode cX7_meetingAt 55 = .ok (.ireturn, 1) := by decide +kernel
theorem dX7_shared_0 : decode cX7_shared 0 = .ok (.aload_n 0, 1) := by decide +kernel
theorem dX7_shared_1 : decode cX7_shared 1 = .ok (.getfield 22, 3) := by decide +kernel
theorem dX7_shared_4 : decode cX7_shared 4 = .ok (.iload_n 1, 1) := by decide +kernel
theorem dX7_shared_5 : decode cX7_shared 5 = .ok (.iaload, 1) := by decide +kernel
theorem dX7_shared_6 : decode cX7_shared 6 = .ok (.istore_n 3, 1) := by decide +kernel
theorem dX7_shared_7 : decode cX7_shared 7 = .ok (.aload_n 0, 1) := by decide +kernel
theorem dX7_shared_8 : decode cX7_shared 8 = .ok (.getfield 22, 3) := by decide +kernel
theorem dX7_shared_11 : decode cX7_shared 11 = .ok (.iload_n 2, 1) := by decide +kernel
theorem dX7_shared_12 : decode cX7_shared 12 = .ok (.iaload, 1) := by decide +kernel
theorem dX7_shared_13 : decode cX7_shared 13 = .ok (.istore 4, 2) := by decide +kernel
theorem dX7_shared_15 : decode cX7_shared 15 = .ok (.aload_n 0, 1) := by decide +kernel
theorem dX7_shared_16 : decode cX7_shared 16 = .ok (.getfield 15, 3) := by decide +kernel
theorem dX7_shared_19 : decode cX7_shared 19 = .ok (.iload_n 3, 1) := by decide +kernel
theorem dX7_shared_20 : decode cX7_shared 20 = .ok (.iaload, 1) := by decide +kernel
theorem dX7_shared_21 : decode cX7_shared 21 = .ok (.aload_n 0, 1) := by decide +kernel
theorem dX7_shared_22 : decode cX7_shared 22 = .ok (.getfield 15, 3) := by decide +kernel
theorem dX7_shared_25 : decode cX7_shared 25 = .ok (.iload 4, 2) := by decide +kernel
theorem dX7_shared_27 : decode cX7_shared 27 = .ok (.iaload, 1) := by decide +kernel
theorem dX7_shared_28 : decode cX7_shared 28 = .ok (.invokestatic 44, 3) := by decide +kernel
theorem dX7_shared_31 : decode cX7_shared 31 = .ok (.aload_n 0, 1) := by decide +kernel
theorem dX7_shared_32 : decode cX7_shared 32 = .ok (.getfield 9, 3) := by decide +kernel
theorem dX7_shared_35 : decode cX7_shared 35 = .ok (.iload 4, 2) := by decide +kernel
theorem dX7_shared_37 : decode cX7_shared 37 = .ok (.iaload, 1) := by decide +kernel
theorem dX7_shared_38 : decode cX7_shared 38 = .ok (.isub, 1) := by decide +kernel
theorem dX7_shared_39 : decode cX7_shared 39 = .ok (.ireturn, 1) := by decide +kernel
theorem dX8_init_0 : decode cX8_init 0 = .ok (.aload_n 0, 1) := by decide +kernel
theorem dX8_init_1 : decode cX8_init 1 = .ok (.invokespecial 3, 3) := by decide +kernel
theorem dX8_init_4 : decode cX8_init 4 = .ok (.aload_n 0, 1) := by decide +kernel
theorem dX8_init_5 : decode cX8_init 5 = .ok (.bipush 48, 2) := by decide +kernel
theorem dX8_init_7 : decode cX8_init 7 = .ok (.newarray .int, 2) := by decide +kernel
theorem dX8_init_9 : decode cX8_init 9 = .ok (.putfield 9, 3) := by decide +kernel
theorem dX8_init_12 : decode cX8_init 12 = .ok (.aload_n 0, 1) := by decide +kernel
theorem dX8_init_13 : decode cX8_init 13 = .ok (.bipush 48, 2) := by decide +kernel
theorem dX8_init_15 : decode cX8_init 15 = .ok (.newarray .int, 2) := by decide +kernel
theorem dX8_init_17 : decode cX8_init 17 = .ok (.putfield 15, 3) := by decide +kernel
theorem dX8_init_20 : decode cX8_init 20 = .ok (.aload_n 0, 1) := by decide +kernel
theorem dX8_init_21 : decode cX8_init 21 = .ok (.bipush 48, 2) := by decide +kernel
theorem dX8_init_23 : decode cX8_init 23 = .ok (.newarray .int, 2) := by decide +kernel
theorem dX8_init_25 : decode cX8_init 25 = .ok (.putfield 18, 3) := by decide +kernel
theorem dX8_init_28 : decode cX8_init 28 = .ok (.aload_n 0, 1) := by decide +kernel
theorem dX8_init_29 : decode cX8_init 29 = .ok (.bipush 48, 2) := by decide +kernel
theorem dX8_init_31 : decode cX8_init 31 = .ok (.newarray .int, 2) := by decide +kernel
theorem dX8_init_33 : decode cX8_init 33 = .ok (.putfield 21, 3) := by decide +kernel
theorem dX8_init_36 : decode cX8_init 36 = .ok (.aload_n 0, 1) := by decide +kernel
theorem dX8_init_37 : decode cX8_init 37 = .ok (.bipush 48, 2) := by decide +kernel
theorem dX8_init_39 : decode cX8_init 39 = .ok (.newarray .int, 2) := by decide +kernel
theorem dX8_init_41 : decode cX8_init 41 = .ok (.putfield 24, 3) := by decide +kernel
theorem dX8_init_44 : decode cX8_init 44 = .ok (.aload_n 0, 1) := by decide +kernel
theorem dX8_init_45 : decode cX8_init 45 = .ok (.bipush 48, 2) := by decide +kernel
end
section
theorem dX8_init_47 : decode cX8_init 47 = .ok (.newarray .int, 2) := by decide +kernel
theorem dX8_init_49 : decode cX8_init 49 = .ok (.putfield 27, 3) := by decide +kernel
theorem dX8_init_52 : decode cX8_init 52 = .ok (.aload_n 0, 1) := by decide +kernel
theorem dX8_init_53 : decode cX8_init 53 = .ok (.bipush 48, 2) := by decide +kernel
theorem dX8_init_55 : decode cX8_init 55 = .ok (.newarray .int, 2) := by decide +kernel
theorem dX8_init_57 : decode cX8_init 57 = .ok (.putfield 30, 3) := by decide +kernel
theorem dX8_init_60 : decode cX8_init 60 = .ok (.aload_n 0, 1) := by decide +kernel
theorem dX8_init_61 : decode cX8_init 61 = .ok (.bipush 48, 2) := by decide +kernel
theorem dX8_init_63 : decode cX8_init 63 = .ok (.newarray .int, 2) := by decide +kernel
theorem dX8_init_65 : decode cX8_init 65 = .ok (.putfield 33, 3) := by decide +kernel
theorem dX8_init_68 : decode cX8_init 68 = .ok (.aload_n 0, 1) := by decide +kernel
theorem dX8_init_69 : decode cX8_init 69 = .ok (.bipush 48, 2) := by decide +kernel
theorem dX8_init_71 : decode cX8_init 71 = .ok (.newarray .boolean, 2) := by decide +kernel
theorem dX8_init_73 : decode cX8_init 73 = .ok (.putfield 36, 3) := by decide +kernel
theorem dX8_init_76 : decode cX8_init 76 = .ok (.aload_n 0, 1) := by decide +kernel
theorem dX8_init_77 : decode cX8_init 77 = .ok (.iconst (-1), 1) := by decide +kernel
theorem dX8_init_78 : decode cX8_init 78 = .ok (.putfield 40, 3) := by decide +kernel
theorem dX8_init_81 : decode cX8_init 81 = .ok (.iconst 0, 1) := by decide +kernel
theorem dX8_init_82 : decode cX8_init 82 = .ok (.istore_n 1, 1) := by decide +kernel
theorem dX8_init_83 : decode cX8_init 83 = .ok (.iload_n 1, 1) := by decide +kernel
theorem dX8_init_84 : decode cX8_init 84 = .ok (.bipush 48, 2) := by decide +kernel
theorem dX8_init_86 : decode cX8_init 86 = .ok (.if_icmp .ge 60, 3) := by decide +kernel
theorem dX8_init_89 : decode cX8_init 89 = .ok (.iload_n 1, 1) := by decide +kernel
theorem dX8_init_90 : decode cX8_init 90 = .ok (.istore_n 2, 1) := by decide +kernel
theorem dX8_init_91 : decode cX8_init 91 = .ok (.iload_n 2, 1) := by decide +kernel
theorem dX8_init_92 : decode cX8_init 92 = .ok (.ifCond .le 41, 3) := by decide +kernel
theorem dX8_init_95 : decode cX8_init 95 = .ok (.aload_n 0, 1) := by decide +kernel
theorem dX8_init_96 : decode cX8_init 96 = .ok (.getfield 9, 3) := by decide +kernel
theorem dX8_init_99 : decode cX8_init 99 = .ok (.iload_n 2, 1) := by decide +kernel
theorem dX8_init_100 : decode cX8_init 100 = .ok (.iconst 1, 1) := by decide +kernel
theorem dX8_init_101 : decode cX8_init 101 = .ok (.isub, 1) := by decide +kernel
theorem dX8_init_102 : decode cX8_init 102 = .ok (.iaload, 1) := by decide +kernel
theorem dX8_init_103 : decode cX8_init 103 = .ok (.invokestatic 44, 3) := by decide +kernel
theorem dX8_init_106 : decode cX8_init 106 = .ok (.iload_n 1, 1) := by decide +kernel
theorem dX8_init_107 : decode cX8_init 107 = .ok (.invokestatic 44, 3) := by decide +kernel
theorem dX8_init_110 : decode cX8_init 110 = .ok (.if_icmp .ge 23, 3) := by decide +kernel
theorem dX8_init_113 : decode cX8_init 113 = .ok (.aload_n 0, 1) := by decide +kernel
theorem dX8_init_114 : decode cX8_init 114 = .ok (.getfield 9, 3) := by decide +kernel
theorem dX8_init_117 : decode cX8_init 117 = .ok (.iload_n 2, 1) := by decide +kernel
theorem dX8_init_118 : decode cX8_init 118 = .ok (.aload_n 0, 1) := by decide +kernel
theorem dX8_init_119 : decode cX8_init 119 = .ok (.getfield 9, 3) := by decide +kernel
theorem dX8_init_122 : decode cX8_init 122 = .ok (.iload_n 2, 1) := by decide +kernel
theorem dX8_init_123 : decode cX8_init 123 = .ok (.iconst 1, 1) := by decide +kernel
theorem dX8_init_124 : decode cX8_init 124 = .ok (.isub, 1) := by decide +kernel
theorem dX8_init_125 : decode cX8_init 125 = .ok (.iaload, 1) := by decide +kernel
theorem dX8_init_126 : decode cX8_init 126 = .ok (.iastore, 1) := by decide +kernel
theorem dX8_init_127 : decode cX8_init 127 = .ok (.iinc 2 (-1), 3) := by decide +kernel
theorem dX8_init_130 : decode cX8_init 130 = .ok (.goto (-39), 3) := by decide +kernel
theorem dX8_init_133 : decode cX8_init 133 = .ok (.aload_n 0, 1) := by decide +kernel
theorem dX8_init_134 : decode cX8_init 134 = .ok (.getfield 9, 3) := by decide +kernel
theorem dX8_init_137 : decode cX8_init 137 = .ok (.iload_n 2, 1) := by decide +kernel
theorem dX8_init_138 : decode cX8_init 138 = .ok (.iload_n 1, 1) := by decide +kernel
theorem dX8_init_139 : decode cX8_init 139 = .ok (.iastore, 1) := by decide +kernel
theorem dX8_init_140 : decode cX8_init 140 = .ok (.iinc 1 1, 3) := by decide +kernel
theorem dX8_init_143 : decode cX8_init 143 = .ok (.goto (-60), 3) := by decide +kernel
theorem dX8_init_146 : decode cX8_init 146 = .ok (.return_, 1) := by decide +kernel
theorem dX8_weight_0 : decode cX8_weight 0 = .ok (.iload_n 0, 1) := by decide +kernel
theorem dX8_weight_1 : decode cX8_weight 1 = .ok (.iconst 1, 1) := by decide +kernel
theorem dX8_weight_2 : decode cX8_weight 2 = .ok (.iadd, 1) := by decide +kernel
theorem dX8_weight_3 : decode cX8_weight 3 = .ok (.ldc 48, 2) := by decide +kernel
theorem dX8_weight_5 : decode cX8_weight 5 = .ok (.imul, 1) := by decide +kernel
theorem dX8_weight_6 : decode cX8_weight 6 = .ok (.ldc 49, 2) := by decide +kernel
theorem dX8_weight_8 : decode cX8_weight 8 = .ok (.irem, 1) := by decide +kernel
theorem dX8_weight_9 : decode cX8_weight 9 = .ok (.ireturn, 1) := by decide +kernel
theorem dX8_build_0 : decode cX8_build 0 = .ok (.aload_n 0, 1) := by decide +kernel
theorem dX8_build_1 : decode cX8_build 1 = .ok (.iconst (-1), 1) := by decide +kernel
theorem dX8_build_2 : decode cX8_build 2 = .ok (.putfield 40, 3) := by decide +kernel
theorem dX8_build_5 : decode cX8_build 5 = .ok (.iconst 0, 1) := by decide +kernel
theorem dX8_build_6 : decode cX8_build 6 = .ok (.istore_n 2, 1) := by decide +kernel
theorem dX8_build_7 : decode cX8_build 7 = .ok (.iload_n 2, 1) := by decide +kernel
theorem dX8_build_8 : decode cX8_build 8 = .ok (.bipush 48, 2) := by decide +kernel
theorem dX8_build_10 : decode cX8_build 10 = .ok (.if_icmp .ge 34, 3) := by decide +kernel
theorem dX8_build_13 : decode cX8_build 13 = .ok (.aload_n 1, 1) := by decide +kernel
theorem dX8_build_14 : decode cX8_build 14 = .ok (.getfield 50, 3) := by decide +kernel
theorem dX8_build_17 : decode cX8_build 17 = .ok (.aload_n 0, 1) := by decide +kernel
theorem dX8_build_18 : decode cX8_build 18 = .ok (.getfield 9, 3) := by decide +kernel
theorem dX8_build_21 : decode cX8_build 21 = .ok (.iload_n 2, 1) := by decide +kernel
theorem dX8_build_22 : decode cX8_build 22 = .ok (.iaload, 1) := by decide +kernel
theorem dX8_build_23 : decode cX8_build 23 = .ok (.baload, 1) := by decide +kernel
theorem dX8_build_24 : decode cX8_build 24 = .ok (.ifCond .eq 14, 3) := by decide +kernel
theorem dX8_build_27 : decode cX8_build 27 = .ok (.aload_n 0, 1) := by decide +kernel
theorem dX8_build_28 : decode cX8_build 28 = .ok (.aload_n 0, 1) := by decide +kernel
theorem dX8_build_29 : decode cX8_build 29 = .ok (.getfield 9, 3) := by decide +kernel
theorem dX8_build_32 : decode cX8_build 32 = .ok (.iload_n 2, 1) := by decide +kernel
theorem dX8_build_33 : decode cX8_build 33 = .ok (.iaload, 1) := by decide +kernel
theorem dX8_build_34 : decode cX8_build 34 = .ok (.aload_n 1, 1) := by decide +kernel
theorem dX8_build_35 : decode cX8_build 35 = .ok (.invokevirtual 55, 3) := by decide +kernel
theorem dX8_build_38 : decode cX8_build 38 = .ok (.iinc 2 1, 3) := by decide +kernel
theorem dX8_build_41 : decode cX8_build 41 = .ok (.goto (-34), 3) := by decide +kernel
theorem dX8_build_44 : decode cX8_build 44 = .ok (.bipush 47, 2) := by decide +kernel
theorem dX8_build_46 : decode cX8_build 46 = .ok (.istore_n 2, 1) := by decide +kernel
theorem dX8_build_47 : decode cX8_build 47 = .ok (.iload_n 2, 1) := by decide +kernel
theorem dX8_build_48 : decode cX8_build 48 = .ok (.ifCond .lt 46, 3) := by decide +kernel
theorem dX8_build_51 : decode cX8_build 51 = .ok (.aload_n 0, 1) := by decide +kernel
theorem dX8_build_52 : decode cX8_build 52 = .ok (.getfield 9, 3) := by decide +kernel
theorem dX8_build_55 : decode cX8_build 55 = .ok (.iload_n 2, 1) := by decide +kernel
theorem dX8_build_56 : decode cX8_build 56 = .ok (.iaload, 1) := by decide +kernel
theorem dX8_build_57 : decode cX8_build 57 = .ok (.istore_n 3, 1) := by decide +kernel
theorem dX8_build_58 : decode cX8_build 58 = .ok (.aload_n 1, 1) := by decide +kernel
theorem dX8_build_59 : decode cX8_build 59 = .ok (.getfield 50, 3) := by decide +kernel
theorem dX8_build_62 : decode cX8_build 62 = .ok (.iload_n 3, 1) := by decide +kernel
theorem dX8_build_63 : decode cX8_build 63 = .ok (.baload, 1) := by decide +kernel
theorem dX8_build_64 : decode cX8_build 64 = .ok (.ifCond .eq 24, 3) := by decide +kernel
theorem dX8_build_67 : decode cX8_build 67 = .ok (.aload_n 0, 1) := by decide +kernel
theorem dX8_build_68 : decode cX8_build 68 = .ok (.getfield 15, 3) := by decide +kernel
theorem dX8_build_71 : decode cX8_build 71 = .ok (.iload_n 3, 1) := by decide +kernel
theorem dX8_build_72 : decode cX8_build 72 = .ok (.iaload, 1) := by decide +kernel
theorem dX8_build_73 : decode cX8_build 73 = .ok (.iconst (-1), 1) := by decide +kernel
theorem dX8_build_74 : decode cX8_build 74 = .ok (.if_icmp .eq 14, 3) := by decide +kernel
theorem dX8_build_77 : decode cX8_build 77 = .ok (.aload_n 0, 1) := by decide +kernel
theorem dX8_build_78 : decode cX8_build 78 = .ok (.iload_n 3, 1) := by decide +kernel
theorem dX8_build_79 : decode cX8_build 79 = .ok (.aload_n 0, 1) := by decide +kernel
theorem dX8_build_80 : decode cX8_build 80 = .ok (.getfield 15, 3) := by decide +kernel
theorem dX8_build_83 : decode cX8_build 83 = .ok (.iload_n 3, 1) := by decide +kernel
theorem dX8_build_84 : decode cX8_build 84 = .ok (.iaload, 1) := by decide +kernel
theorem dX8_build_85 : decode cX8_build 85 = .ok (.invokevirtual 59, 3) := by decide +kernel
theorem dX8_build_88 : decode cX8_build 88 = .ok (.iinc 2 (-1), 3) := by decide +kernel
theorem dX8_build_91 : decode cX8_build 91 = .ok (.goto (-44), 3) := by decide +kernel
theorem dX8_build_94 : decode cX8_build 94 = .ok (.return_, 1) := by decide +kernel
theorem dX8_hang_0 : decode cX8_hang 0 = .ok (.iconst (-1), 1) := by decide +kernel
theorem dX8_hang_1 : decode cX8_hang 1 = .ok (.istore_n 3, 1) := by decide +kernel
theorem dX8_hang_2 : decode cX8_hang 2 = .ok (.aload_n 0, 1) := by decide +kernel
theorem dX8_hang_3 : decode cX8_hang 3 = .ok (.getfield 40, 3) := by decide +kernel
theorem dX8_hang_6 : decode cX8_hang 6 = .ok (.istore 4, 2) := by decide +kernel
theorem dX8_hang_8 : decode cX8_hang 8 = .ok (.iconst 0, 1) := by decide +kernel
theorem dX8_hang_9 : decode cX8_hang 9 = .ok (.istore 5, 2) := by decide +kernel
theorem dX8_hang_11 : decode cX8_hang 11 = .ok (.iload 4, 2) := by decide +kernel
theorem dX8_hang_13 : decode cX8_hang 13 = .ok (.iconst (-1), 1) := by decide +kernel
theorem dX8_hang_14 : decode cX8_hang 14 = .ok (.if_icmp .eq 51, 3) := by decide +kernel
theorem dX8_hang_17 : decode cX8_hang 17 = .ok (.iload 5, 2) := by decide +kernel
theorem dX8_hang_19 : decode cX8_hang 19 = .ok (.bipush 48, 2) := by decide +kernel
theorem dX8_hang_21 : decode cX8_hang 21 = .ok (.if_icmp .ge 44, 3) := by decide +kernel
theorem dX8_hang_24 : decode cX8_hang 24 = .ok (.iload 4, 2) := by decide +kernel
theorem dX8_hang_26 : decode cX8_hang 26 = .ok (.istore_n 3, 1) := by decide +kernel
theorem dX8_hang_27 : decode cX8_hang 27 = .ok (.aload_n 2, 1) := by decide +kernel
theorem dX8_hang_28 : decode cX8_hang 28 = .ok (.getfield 63, 3) := by decide +kernel
theorem dX8_hang_31 : decode cX8_hang 31 = .ok (.iload_n 1, 1) := by decide +kernel
theorem dX8_hang_32 : decode cX8_hang 32 = .ok (.iaload, 1) := by decide +kernel
theorem dX8_hang_33 : decode cX8_hang 33 = .ok (.aload_n 2, 1) := by decide +kernel
theorem dX8_hang_34 : decode cX8_hang 34 = .ok (.getfield 63, 3) := by decide +kernel
theorem dX8_hang_37 : decode cX8_hang 37 = .ok (.iload_n 3, 1) := by decide +kernel
theorem dX8_hang_38 : decode cX8_hang 38 = .ok (.iaload, 1) := by decide +kernel
theorem dX8_hang_39 : decode cX8_hang 39 = .ok (.if_icmp .ge 12, 3) := by decide +kernel
theorem dX8_hang_42 : decode cX8_hang 42 = .ok (.aload_n 0, 1) := by decide +kernel
theorem dX8_hang_43 : decode cX8_hang 43 = .ok (.getfield 18, 3) := by decide +kernel
theorem dX8_hang_46 : decode cX8_hang 46 = .ok (.iload_n 3, 1) := by decide +kernel
theorem dX8_hang_47 : decode cX8_hang 47 = .ok (.iaload, 1) := by decide +kernel
theorem dX8_hang_48 : decode cX8_hang 48 = .ok (.goto 9, 3) := by decide +kernel
theorem dX8_hang_51 : decode cX8_hang 51 = .ok (.aload_n 0, 1) := by decide +kernel
theorem dX8_hang_52 : decode cX8_hang 52 = .ok (.getfield 21, 3) := by decide +kernel
theorem dX8_hang_55 : decode cX8_hang 55 = .ok (.iload_n 3, 1) := by decide +kernel
theorem dX8_hang_56 : decode cX8_hang 56 = .ok (.iaload, 1) := by decide +kernel
theorem dX8_hang_57 : decode cX8_hang 57 = .ok (.istore 4, 2) := by decide +kernel
theorem dX8_hang_59 : decode cX8_hang 59 = .ok (.iinc 5 1, 3) := by decide +kernel
theorem dX8_hang_62 : decode cX8_hang 62 = .ok (.goto (-51), 3) := by decide +kernel
theorem dX8_hang_65 : decode cX8_hang 65 = .ok (.aload_n 0, 1) := by decide +kernel
theorem dX8_hang_66 : decode cX8_hang 66 = .ok (.getfield 15, 3) := by decide +kernel
theorem dX8_hang_69 : decode cX8_hang 69 = .ok (.iload_n 1, 1) := by decide +kernel
theorem dX8_hang_70 : decode cX8_hang 70 = .ok (.iload_n 3, 1) := by decide +kernel
theorem dX8_hang_71 : decode cX8_hang 71 = .ok (.iastore, 1) := by decide +kernel
theorem dX8_hang_72 : decode cX8_hang 72 = .ok (.aload_n 0, 1) := by decide +kernel
theorem dX8_hang_73 : decode cX8_hang 73 = .ok (.getfield 18, 3) := by decide +kernel
theorem dX8_hang_76 : decode cX8_hang 76 = .ok (.iload_n 1, 1) := by decide +kernel
theorem dX8_hang_77 : decode cX8_hang 77 = .ok (.iconst (-1), 1) := by decide +kernel
theorem dX8_hang_78 : decode cX8_hang 78 = .ok (.iastore, 1) := by decide +kernel
theorem dX8_hang_79 : decode cX8_hang 79 = .ok (.aload_n 0, 1) := by decide +kernel
theorem dX8_hang_80 : decode cX8_hang 80 = .ok (.getfield 21, 3) := by decide +kernel
theorem dX8_hang_83 : decode cX8_hang 83 = .ok (.iload_n 1, 1) := by decide +kernel
theorem dX8_hang_84 : decode cX8_hang 84 = .ok (.iconst (-1), 1) := by decide +kernel
theorem dX8_hang_85 : decode cX8_hang 85 = .ok (.iastore, 1) := by decide +kernel
theorem dX8_hang_86 : decode cX8_hang 86 = .ok (.aload_n 0, 1) := by decide +kernel
theorem dX8_hang_87 : decode cX8_hang 87 = .ok (.getfield 24, 3) := by decide +kernel
theorem dX8_hang_90 : decode cX8_hang 90 = .ok (.iload_n 1, 1) := by decide +kernel
theorem dX8_hang_91 : decode cX8_hang 91 = .ok (.iload 5, 2) := by decide +kernel
theorem dX8_hang_93 : decode cX8_hang 93 = .ok (.iastore, 1) := by decide +kernel
theorem dX8_hang_94 : decode cX8_hang 94 = .ok (.aload_n 0, 1) := by decide +kernel
theorem dX8_hang_95 : decode cX8_hang 95 = .ok (.getfield 27, 3) := by decide +kernel
theorem dX8_hang_98 : decode cX8_hang 98 = .ok (.iload_n 1, 1) := by decide +kernel
theorem dX8_hang_99 : decode cX8_hang 99 = .ok (.iconst 1, 1) := by decide +kernel
theorem dX8_hang_100 : decode cX8_hang 100 = .ok (.iastore, 1) := by decide +kernel
theorem dX8_hang_101 : decode cX8_hang 101 = .ok (.aload_n 0, 1) := by decide +kernel
theorem dX8_hang_102 : decode cX8_hang 102 = .ok (.getfield 30, 3) := by decide +kernel
theorem dX8_hang_105 : decode cX8_hang 105 = .ok (.iload_n 1, 1) := by decide +kernel
theorem dX8_hang_106 : decode cX8_hang 106 = .ok (.iconst 1, 1) := by decide +kernel
theorem dX8_hang_107 : decode cX8_hang 107 = .ok (.iastore, 1) := by decide +kernel
theorem dX8_hang_108 : decode cX8_hang 108 = .ok (.aload_n 0, 1) := by decide +kernel
theorem dX8_hang_109 : decode cX8_hang 109 = .ok (.getfield 33, 3) := by decide +kernel
theorem dX8_hang_112 : decode cX8_hang 112 = .ok (.iload_n 1, 1) := by decide +kernel
theorem dX8_hang_113 : decode cX8_hang 113 = .ok (.aload_n 2, 1) := by decide +kernel
theorem dX8_hang_114 : decode cX8_hang 114 = .ok (.getfield 66, 3) := by decide +kernel
theorem dX8_hang_117 : decode cX8_hang 117 = .ok (.iload_n 1, 1) := by decide +kernel
theorem dX8_hang_118 : decode cX8_hang 118 = .ok (.iaload, 1) := by decide +kernel
theorem dX8_hang_119 : decode cX8_hang 119 = .ok (.iastore, 1) := by decide +kernel
theorem dX8_hang_120 : decode cX8_hang 120 = .ok (.iload_n 3, 1) := by decide +kernel
theorem dX8_hang_121 : decode cX8_hang 121 = .ok (.iconst (-1), 1) := by decide +kernel
theorem dX8_hang_122 : decode cX8_hang 122 = .ok (.if_icmp .ne 11, 3) := by decide +kernel
theorem dX8_hang_125 : decode cX8_hang 125 = .ok (.aload_n 0, 1) := by decide +kernel
theorem dX8_hang_126 : decode cX8_hang 126 = .ok (.iload_n 1, 1) := by decide +kernel
theorem dX8_hang_127 : decode cX8_hang 127 = .ok (.putfield 40, 3) := by decide +kernel
theorem dX8_hang_130 : decode cX8_hang 130 = .ok (.goto 35, 3) := by decide +kernel
theorem dX8_hang_133 : decode cX8_hang 133 = .ok (.aload_n 2, 1) := by decide +kernel
theorem dX8_hang_134 : decode cX8_hang 134 = .ok (.getfield 63, 3) := by decide +kernel
theorem dX8_hang_137 : decode cX8_hang 137 = .ok (.iload_n 1, 1) := by decide +kernel
theorem dX8_hang_138 : decode cX8_hang 138 = .ok (.iaload, 1) := by decide +kernel
theorem dX8_hang_139 : decode cX8_hang 139 = .ok (.aload_n 2, 1) := by decide +kernel
theorem dX8_hang_140 : decode cX8_hang 140 = .ok (.getfield 63, 3) := by decide +kernel
theorem dX8_hang_143 : decode cX8_hang 143 = .ok (.iload_n 3, 1) := by decide +kernel
theorem dX8_hang_144 : decode cX8_hang 144 = .ok (.iaload, 1) := by decide +kernel
theorem dX8_hang_145 : decode cX8_hang 145 = .ok (.if_icmp .ge 13, 3) := by decide +kernel
theorem dX8_hang_148 : decode cX8_hang 148 = .ok (.aload_n 0, 1) := by decide +kernel
theorem dX8_hang_149 : decode cX8_hang 149 = .ok (.getfield 18, 3) := by decide +kernel
theorem dX8_hang_152 : decode cX8_hang 152 = .ok (.iload_n 3, 1) := by decide +kernel
theorem dX8_hang_153 : decode cX8_hang 153 = .ok (.iload_n 1, 1) := by decide +kernel
theorem dX8_hang_154 : decode cX8_hang 154 = .ok (.iastore, 1) := by decide +kernel
theorem dX8_hang_155 : decode cX8_hang 155 = .ok (.goto 10, 3) := by decide +kernel
theorem dX8_hang_158 : decode cX8_hang 158 = .ok (.aload_n 0, 1) := by decide +kernel
theorem dX8_hang_159 : decode cX8_hang 159 = .ok (.getfield 21, 3) := by decide +kernel
theorem dX8_hang_162 : decode cX8_hang 162 = .ok (.iload_n 3, 1) := by decide +kernel
theorem dX8_hang_163 : decode cX8_hang 163 = .ok (.iload_n 1, 1) := by decide +kernel
theorem dX8_hang_164 : decode cX8_hang 164 = .ok (.iastore, 1) := by decide +kernel
theorem dX8_hang_165 : decode cX8_hang 165 = .ok (.return_, 1) := by decide +kernel
theorem dX8_tellAbove_0 : decode cX8_tellAbove 0 = .ok (.aload_n 0, 1) := by decide +kernel
theorem dX8_tellAbove_1 : decode cX8_tellAbove 1 = .ok (.getfield 27, 3) := by decide +kernel
theorem dX8_tellAbove_4 : decode cX8_tellAbove 4 = .ok (.iload_n 2, 1) := by decide +kernel
theorem dX8_tellAbove_5 : decode cX8_tellAbove 5 = .ok (.dup2, 1) := by decide +kernel
theorem dX8_tellAbove_6 : decode cX8_tellAbove 6 = .ok (.iaload, 1) := by decide +kernel
theorem dX8_tellAbove_7 : decode cX8_tellAbove 7 = .ok (.aload_n 0, 1) := by decide +kernel
theorem dX8_tellAbove_8 : decode cX8_tellAbove 8 = .ok (.getfield 27, 3) := by decide +kernel
theorem dX8_tellAbove_11 : decode cX8_tellAbove 11 = .ok (.iload_n 1, 1) := by decide +kernel
theorem dX8_tellAbove_12 : decode cX8_tellAbove 12 = .ok (.iaload, 1) := by decide +kernel
theorem dX8_tellAbove_13 : decode cX8_tellAbove 13 = .ok (.iadd, 1) := by decide +kernel
theorem dX8_tellAbove_14 : decode cX8_tellAbove 14 = .ok (.iastore, 1) := by decide +kernel
theorem dX8_tellAbove_15 : decode cX8_tellAbove 15 = .ok (.aload_n 0, 1) := by decide +kernel
theorem dX8_tellAbove_16 : decode cX8_tellAbove 16 = .ok (.getfield 30, 3) := by decide +kernel
theorem dX8_tellAbove_19 : decode cX8_tellAbove 19 = .ok (.iload_n 2, 1) := by decide +kernel
theorem dX8_tellAbove_20 : decode cX8_tellAbove 20 = .ok (.aload_n 0, 1) := by decide +kernel
theorem dX8_tellAbove_21 : decode cX8_tellAbove 21 = .ok (.getfield 30, 3) := by decide +kernel
theorem dX8_tellAbove_24 : decode cX8_tellAbove 24 = .ok (.iload_n 2, 1) := by decide +kernel
theorem dX8_tellAbove_25 : decode cX8_tellAbove 25 = .ok (.iaload, 1) := by decide +kernel
theorem dX8_tellAbove_26 : decode cX8_tellAbove 26 = .ok (.aload_n 0, 1) := by decide +kernel
theorem dX8_tellAbove_27 : decode cX8_tellAbove 27 = .ok (.getfield 30, 3) := by decide +kernel
theorem dX8_tellAbove_30 : decode cX8_tellAbove 30 = .ok (.iload_n 1, 1) := by decide +kernel
theorem dX8_tellAbove_31 : decode cX8_tellAbove 31 = .ok (.iaload, 1) := by decide +kernel
theorem dX8_tellAbove_32 : decode cX8_tellAbove 32 = .ok (.iconst 1, 1) := by decide +kernel
theorem dX8_tellAbove_33 : decode cX8_tellAbove 33 = .ok (.iadd, 1) := by decide +kernel
theorem dX8_tellAbove_34 : decode cX8_tellAbove 34 = .ok (.invokestatic 69, 3) := by decide +kernel
theorem dX8_tellAbove_37 : decode cX8_tellAbove 37 = .ok (.iastore, 1) := by decide +kernel
theorem dX8_tellAbove_38 : decode cX8_tellAbove 38 = .ok (.aload_n 0, 1) := by decide +kernel
theorem dX8_tellAbove_39 : decode cX8_tellAbove 39 = .ok (.getfield 33, 3) := by decide +kernel
theorem dX8_tellAbove_42 : decode cX8_tellAbove 42 = .ok (.iload_n 2, 1) := by decide +kernel
theorem dX8_tellAbove_43 : decode cX8_tellAbove 43 = .ok (.aload_n 0, 1) := by decide +kernel
theorem dX8_tellAbove_44 : decode cX8_tellAbove 44 = .ok (.getfield 33, 3) := by decide +kernel
theorem dX8_tellAbove_47 : decode cX8_tellAbove 47 = .ok (.iload_n 2, 1) := by decide +kernel
theorem dX8_tellAbove_48 : decode cX8_tellAbove 48 = .ok (.iaload, 1) := by decide +kernel
theorem dX8_tellAbove_49 : decode cX8_tellAbove 49 = .ok (.aload_n 0, 1) := by decide +kernel
theorem dX8_tellAbove_50 : decode cX8_tellAbove 50 = .ok (.getfield 33, 3) := by decide +kernel
theorem dX8_tellAbove_53 : decode cX8_tellAbove 53 = .ok (.iload_n 1, 1) := by decide +kernel
theorem dX8_tellAbove_54 : decode cX8_tellAbove 54 = .ok (.iaload, 1) := by decide +kernel
theorem dX8_tellAbove_55 : decode cX8_tellAbove 55 = .ok (.invokestatic 69, 3) := by decide +kernel
theorem dX8_tellAbove_58 : decode cX8_tellAbove 58 = .ok (.iastore, 1) := by decide +kernel
theorem dX8_tellAbove_59 : decode cX8_tellAbove 59 = .ok (.return_, 1) := by decide +kernel
theorem dX8_lookedAt_0 : decode cX8_lookedAt 0 = .ok (.iconst 0, 1) := by decide +kernel
theorem dX8_lookedAt_1 : decode cX8_lookedAt 1 = .ok (.istore 4, 2) := by decide +kernel
theorem dX8_lookedAt_3 : decode cX8_lookedAt 3 = .ok (.iconst 0, 1) := by decide +kernel
theorem dX8_lookedAt_4 : decode cX8_lookedAt 4 = .ok (.istore 5, 2) := by decide +kernel
theorem dX8_lookedAt_6 : decode cX8_lookedAt 6 = .ok (.iload 5, 2) := by decide +kernel
theorem dX8_lookedAt_8 : decode cX8_lookedAt 8 = .ok (.bipush 48, 2) := by decide +kernel
theorem dX8_lookedAt_10 : decode cX8_lookedAt 10 = .ok (.if_icmp .ge 64, 3) := by decide +kernel
theorem dX8_lookedAt_13 : decode cX8_lookedAt 13 = .ok (.aload_n 0, 1) := by decide +kernel
theorem dX8_lookedAt_14 : decode cX8_lookedAt 14 = .ok (.getfield 9, 3) := by decide +kernel
theorem dX8_lookedAt_17 : decode cX8_lookedAt 17 = .ok (.iload 5, 2) := by decide +kernel
theorem dX8_lookedAt_19 : decode cX8_lookedAt 19 = .ok (.iaload, 1) := by decide +kernel
theorem dX8_lookedAt_20 : decode cX8_lookedAt 20 = .ok (.istore 6, 2) := by decide +kernel
theorem dX8_lookedAt_22 : decode cX8_lookedAt 22 = .ok (.aload_n 1, 1) := by decide +kernel
theorem dX8_lookedAt_23 : decode cX8_lookedAt 23 = .ok (.getfield 50, 3) := by decide +kernel
theorem dX8_lookedAt_26 : decode cX8_lookedAt 26 = .ok (.iload 6, 2) := by decide +kernel
theorem dX8_lookedAt_28 : decode cX8_lookedAt 28 = .ok (.baload, 1) := by decide +kernel
theorem dX8_lookedAt_29 : decode cX8_lookedAt 29 = .ok (.ifCond .eq 39, 3) := by decide +kernel
theorem dX8_lookedAt_32 : decode cX8_lookedAt 32 = .ok (.aload_n 0, 1) := by decide +kernel
theorem dX8_lookedAt_33 : decode cX8_lookedAt 33 = .ok (.getfield 36, 3) := by decide +kernel
theorem dX8_lookedAt_36 : decode cX8_lookedAt 36 = .ok (.iload 6, 2) := by decide +kernel
theorem dX8_lookedAt_38 : decode cX8_lookedAt 38 = .ok (.aload_n 0, 1) := by decide +kernel
theorem dX8_lookedAt_39 : decode cX8_lookedAt 39 = .ok (.iload 6, 2) := by decide +kernel
theorem dX8_lookedAt_41 : decode cX8_lookedAt 41 = .ok (.aload_n 1, 1) := by decide +kernel
theorem dX8_lookedAt_42 : decode cX8_lookedAt 42 = .ok (.iload_n 2, 1) := by decide +kernel
theorem dX8_lookedAt_43 : decode cX8_lookedAt 43 = .ok (.iload_n 3, 1) := by decide +kernel
theorem dX8_lookedAt_44 : decode cX8_lookedAt 44 = .ok (.invokevirtual 75, 3) := by decide +kernel
theorem dX8_lookedAt_47 : decode cX8_lookedAt 47 = .ok (.bastore, 1) := by decide +kernel
theorem dX8_lookedAt_48 : decode cX8_lookedAt 48 = .ok (.iload 4, 2) := by decide +kernel
theorem dX8_lookedAt_50 : decode cX8_lookedAt 50 = .ok (.aload_n 0, 1) := by decide +kernel
theorem dX8_lookedAt_51 : decode cX8_lookedAt 51 = .ok (.getfield 36, 3) := by decide +kernel
theorem dX8_lookedAt_54 : decode cX8_lookedAt 54 = .ok (.iload 6, 2) := by decide +kernel
theorem dX8_lookedAt_56 : decode cX8_lookedAt 56 = .ok (.baload, 1) := by decide +kernel
theorem dX8_lookedAt_57 : decode cX8_lookedAt 57 = .ok (.ifCond .eq 7, 3) := by decide +kernel
theorem dX8_lookedAt_60 : decode cX8_lookedAt 60 = .ok (.iconst 1, 1) := by decide +kernel
theorem dX8_lookedAt_61 : decode cX8_lookedAt 61 = .ok (.goto 4, 3) := by decide +kernel
theorem dX8_lookedAt_64 : decode cX8_lookedAt 64 = .ok (.iconst 0, 1) := by decide +kernel
theorem dX8_lookedAt_65 : decode cX8_lookedAt 65 = .ok (.iadd, 1) := by decide +kernel
theorem dX8_lookedAt_66 : decode cX8_lookedAt 66 = .ok (.istore 4, 2) := by decide +kernel
theorem dX8_lookedAt_68 : decode cX8_lookedAt 68 = .ok (.iinc 5 1, 3) := by decide +kernel
theorem dX8_lookedAt_71 : decode cX8_lookedAt 71 = .ok (.goto (-65), 3) := by decide +kernel
theorem dX8_lookedAt_74 : decode cX8_lookedAt 74 = .ok (.iload 4, 2) := by decide +kernel
theorem dX8_lookedAt_76 : decode cX8_lookedAt 76 = .ok (.ireturn, 1) := by decide +kernel
theorem dX8_looksAt_0 : decode cX8_looksAt 0 = .ok (.aload_n 0, 1) := by decide +kernel
theorem dX8_looksAt_1 : decode cX8_looksAt 1 = .ok (.getfield 15, 3) := by decide +kernel
theorem dX8_looksAt_4 : decode cX8_looksAt 4 = .ok (.iload_n 1, 1) := by decide +kernel
theorem dX8_looksAt_5 : decode cX8_looksAt 5 = .ok (.iaload, 1) := by decide +kernel
theorem dX8_looksAt_6 : decode cX8_looksAt 6 = .ok (.istore 5, 2) := by decide +kernel
theorem dX8_looksAt_8 : decode cX8_looksAt 8 = .ok (.iload 5, 2) := by decide +kernel
theorem dX8_looksAt_10 : decode cX8_looksAt 10 = .ok (.iconst (-1), 1) := by decide +kernel
theorem dX8_looksAt_11 : decode cX8_looksAt 11 = .ok (.if_icmp .ne 5, 3) := by decide +kernel
theorem dX8_looksAt_14 : decode cX8_looksAt 14 = .ok (.iconst 1, 1) := by decide +kernel
theorem dX8_looksAt_15 : decode cX8_looksAt 15 = .ok (.ireturn, 1) := by decide +kernel
theorem dX8_looksAt_16 : decode cX8_looksAt 16 = .ok (.aload_n 0, 1) := by decide +kernel
theorem dX8_looksAt_17 : decode cX8_looksAt 17 = .ok (.getfield 36, 3) := by decide +kernel
theorem dX8_looksAt_20 : decode cX8_looksAt 20 = .ok (.iload 5, 2) := by decide +kernel
theorem dX8_looksAt_22 : decode cX8_looksAt 22 = .ok (.baload, 1) := by decide +kernel
theorem dX8_looksAt_23 : decode cX8_looksAt 23 = .ok (.ifCond .eq 13, 3) := by decide +kernel
theorem dX8_looksAt_26 : decode cX8_looksAt 26 = .ok (.aload_n 0, 1) := by decide +kernel
theorem dX8_looksAt_27 : decode cX8_looksAt 27 = .ok (.getfield 33, 3) := by decide +kernel
theorem dX8_looksAt_30 : decode cX8_looksAt 30 = .ok (.iload_n 1, 1) := by decide +kernel
theorem dX8_looksAt_31 : decode cX8_looksAt 31 = .ok (.iaload, 1) := by decide +kernel
theorem dX8_looksAt_32 : decode cX8_looksAt 32 = .ok (.iload_n 3, 1) := by decide +kernel
theorem dX8_looksAt_33 : decode cX8_looksAt 33 = .ok (.if_icmp .gt 5, 3) := by decide +kernel
theorem dX8_looksAt_36 : decode cX8_looksAt 36 = .ok (.iconst 0, 1) := by decide +kernel
theorem dX8_looksAt_37 : decode cX8_looksAt 37 = .ok (.ireturn, 1) := by decide +kernel
theorem dX8_looksAt_38 : decode cX8_looksAt 38 = .ok (.aload_n 0, 1) := by decide +kernel
theorem dX8_looksAt_39 : decode cX8_looksAt 39 = .ok (.getfield 18, 3) := by decide +kernel
theorem dX8_looksAt_42 : decode cX8_looksAt 42 = .ok (.iload 5, 2) := by decide +kernel
theorem dX8_looksAt_44 : decode cX8_looksAt 44 = .ok (.iaload, 1) := by decide +kernel
theorem dX8_looksAt_45 : decode cX8_looksAt 45 = .ok (.iload_n 1, 1) := by decide +kernel
theorem dX8_looksAt_46 : decode cX8_looksAt 46 = .ok (.if_icmp .eq 15, 3) := by decide +kernel
theorem dX8_looksAt_49 : decode cX8_looksAt 49 = .ok (.aload_n 2, 1) := by decide +kernel
theorem dX8_looksAt_50 : decode cX8_looksAt 50 = .ok (.getfield 79, 3) := by decide +kernel
theorem dX8_looksAt_53 : decode cX8_looksAt 53 = .ok (.iload 5, 2) := by decide +kernel
theorem dX8_looksAt_55 : decode cX8_looksAt 55 = .ok (.iaload, 1) := by decide +kernel
theorem dX8_looksAt_56 : decode cX8_looksAt 56 = .ok (.iload 4, 2) := by decide +kernel
theorem dX8_looksAt_58 : decode cX8_looksAt 58 = .ok (.if_icmp .ge 7, 3) := by decide +kernel
theorem dX8_looksAt_61 : decode cX8_looksAt 61 = .ok (.iconst 1, 1) := by decide +kernel
theorem dX8_looksAt_62 : decode cX8_looksAt 62 = .ok (.goto 4, 3) := by decide +kernel
theorem dX8_looksAt_65 : decode cX8_looksAt 65 = .ok (.iconst 0, 1) := by decide +kernel
theorem dX8_looksAt_66 : decode cX8_looksAt 66 = .ok (.ireturn, 1) := by decide +kernel
theorem dX9_init_0 : decode cX9_init 0 = .ok (.aload_n 0, 1) := by decide +kernel
theorem dX9_init_1 : decode cX9_init 1 = .ok (.invokespecial 3, 3) := by decide +kernel
theorem dX9_init_4 : decode cX9_init 4 = .ok (.aload_n 0, 1) := by decide +kernel
theorem dX9_init_5 : decode cX9_init 5 = .ok (.new 9, 3) := by decide +kernel
theorem dX9_init_8 : decode cX9_init 8 = .ok (.dup, 1) := by decide +kernel
theorem dX9_init_9 : decode cX9_init 9 = .ok (.invokespecial 11, 3) := by decide +kernel
theorem dX9_init_12 : decode cX9_init 12 = .ok (.putfield 12, 3) := by decide +kernel
theorem dX9_init_15 : decode cX9_init 15 = .ok (.aload_n 0, 1) := by decide +kernel
theorem dX9_init_16 : decode cX9_init 16 = .ok (.new 16, 3) := by decide +kernel
theorem dX9_init_19 : decode cX9_init 19 = .ok (.dup, 1) := by decide +kernel
theorem dX9_init_20 : decode cX9_init 20 = .ok (.invokespecial 18, 3) := by decide +kernel
theorem dX9_init_23 : decode cX9_init 23 = .ok (.putfield 19, 3) := by decide +kernel
theorem dX9_init_26 : decode cX9_init 26 = .ok (.aload_n 0, 1) := by decide +kernel
theorem dX9_init_27 : decode cX9_init 27 = .ok (.new 23, 3) := by decide +kernel
theorem dX9_init_30 : decode cX9_init 30 = .ok (.dup, 1) := by decide +kernel
theorem dX9_init_31 : decode cX9_init 31 = .ok (.invokespecial 25, 3) := by decide +kernel
theorem dX9_init_34 : decode cX9_init 34 = .ok (.putfield 26, 3) := by decide +kernel
theorem dX9_init_37 : decode cX9_init 37 = .ok (.aload_n 0, 1) := by decide +kernel
theorem dX9_init_38 : decode cX9_init 38 = .ok (.new 30, 3) := by decide +kernel
theorem dX9_init_41 : decode cX9_init 41 = .ok (.dup, 1) := by decide +kernel
theorem dX9_init_42 : decode cX9_init 42 = .ok (.invokespecial 32, 3) := by decide +kernel
theorem dX9_init_45 : decode cX9_init 45 = .ok (.putfield 33, 3) := by decide +kernel
theorem dX9_init_48 : decode cX9_init 48 = .ok (.aload_n 0, 1) := by decide +kernel
theorem dX9_init_49 : decode cX9_init 49 = .ok (.new 37, 3) := by decide +kernel
theorem dX9_init_52 : decode cX9_init 52 = .ok (.dup, 1) := by decide +kernel
theorem dX9_init_53 : decode cX9_init 53 = .ok (.invokespecial 39, 3) := by decide +kernel
theorem dX9_init_56 : decode cX9_init 56 = .ok (.putfield 40, 3) := by decide +kernel
theorem dX9_init_59 : decode cX9_init 59 = .ok (.aload_n 0, 1) := by decide +kernel
theorem dX9_init_60 : decode cX9_init 60 = .ok (.new 44, 3) := by decide +kernel
theorem dX9_init_63 : decode cX9_init 63 = .ok (.dup, 1) := by decide +kernel
theorem dX9_init_64 : decode cX9_init 64 = .ok (.invokespecial 46, 3) := by decide +kernel
theorem dX9_init_67 : decode cX9_init 67 = .ok (.putfield 47, 3) := by decide +kernel
theorem dX9_init_70 : decode cX9_init 70 = .ok (.aload_n 0, 1) := by decide +kernel
theorem dX9_init_71 : decode cX9_init 71 = .ok (.new 51, 3) := by decide +kernel
theorem dX9_init_74 : decode cX9_init 74 = .ok (.dup, 1) := by decide +kernel
theorem dX9_init_75 : decode cX9_init 75 = .ok (.invokespecial 53, 3) := by decide +kernel
theorem dX9_init_78 : decode cX9_init 78 = .ok (.putfield 54, 3) := by decide +kernel
theorem dX9_init_81 : decode cX9_init 81 = .ok (.aload_n 0, 1) := by decide +kernel
theorem dX9_init_82 : decode cX9_init 82 = .ok (.new 58, 3) := by decide +kernel
theorem dX9_init_85 : decode cX9_init 85 = .ok (.dup, 1) := by decide +kernel
theorem dX9_init_86 : decode cX9_init 86 = .ok (.invokespecial 60, 3) := by decide +kernel
theorem dX9_init_89 : decode cX9_init 89 = .ok (.putfield 61, 3) := by decide +kernel
theorem dX9_init_92 : decode cX9_init 92 = .ok (.aload_n 0, 1) := by decide +kernel
theorem dX9_init_93 : decode cX9_init 93 = .ok (.iconst 4, 1) := by decide +kernel
theorem dX9_init_94 : decode cX9_init 94 = .ok (.anewarray 65, 3) := by decide +kernel
theorem dX9_init_97 : decode cX9_init 97 = .ok (.putfield 67, 3) := by decide +kernel
theorem dX9_init_100 : decode cX9_init 100 = .ok (.aload_n 0, 1) := by decide +kernel
theorem dX9_init_101 : decode cX9_init 101 = .ok (.iconst 1, 1) := by decide +kernel
theorem dX9_init_102 : decode cX9_init 102 = .ok (.putfield 71, 3) := by decide +kernel
theorem dX9_init_105 : decode cX9_init 105 = .ok (.aload_n 0, 1) := by decide +kernel
theorem dX9_init_106 : decode cX9_init 106 = .ok (.iconst 0, 1) := by decide +kernel
theorem dX9_init_107 : decode cX9_init 107 = .ok (.putfield 75, 3) := by decide +kernel
theorem dX9_init_110 : decode cX9_init 110 = .ok (.iconst 0, 1) := by decide +kernel
theorem dX9_init_111 : decode cX9_init 111 = .ok (.istore_n 1, 1) := by decide +kernel
theorem dX9_init_112 : decode cX9_init 112 = .ok (.iload_n 1, 1) := by decide +kernel
theorem dX9_init_113 : decode cX9_init 113 = .ok (.iconst 4, 1) := by decide +kernel
theorem dX9_init_114 : decode cX9_init 114 = .ok (.if_icmp .ge 22, 3) := by decide +kernel
theorem dX9_init_117 : decode cX9_init 117 = .ok (.aload_n 0, 1) := by decide +kernel
theorem dX9_init_118 : decode cX9_init 118 = .ok (.getfield 67, 3) := by decide +kernel
theorem dX9_init_121 : decode cX9_init 121 = .ok (.iload_n 1, 1) := by decide +kernel
theorem dX9_init_122 : decode cX9_init 122 = .ok (.new 65, 3) := by decide +kernel
theorem dX9_init_125 : decode cX9_init 125 = .ok (.dup, 1) := by decide +kernel
theorem dX9_init_126 : decode cX9_init 126 = .ok (.invokespecial 79, 3) := by decide +kernel
theorem dX9_init_129 : decode cX9_init 129 = .ok (.aastore, 1) := by decide +kernel
theorem dX9_init_130 : decode cX9_init 130 = .ok (.iinc 1 1, 3) := by decide +kernel
theorem dX9_init_133 : decode cX9_init 133 = .ok (.goto (-21), 3) := by decide +kernel
theorem dX9_init_136 : decode cX9_init 136 = .ok (.return_, 1) := by decide +kernel
theorem dX9_put_0 : decode cX9_put 0 = .ok (.iload_n 1, 1) := by decide +kernel
theorem dX9_put_1 : decode cX9_put 1 = .ok (.invokestatic 80, 3) := by decide +kernel
theorem dX9_put_4 : decode cX9_put 4 = .ok (.ifCond .eq 11, 3) := by decide +kernel
theorem dX9_put_7 : decode cX9_put 7 = .ok (.iload_n 2, 1) := by decide +kernel
theorem dX9_put_8 : decode cX9_put 8 = .ok (.iload_n 3, 1) := by decide +kernel
theorem dX9_put_9 : decode cX9_put 9 = .ok (.invokestatic 84, 3) := by decide +kernel
theorem dX9_put_12 : decode cX9_put 12 = .ok (.ifCond .ne 6, 3) := by decide +kernel
theorem dX9_put_15 : decode cX9_put 15 = .ok (.bipush (-2), 2) := by decide +kernel
theorem dX9_put_17 : decode cX9_put 17 = .ok (.ireturn, 1) := by decide +kernel
theorem dX9_put_18 : decode cX9_put 18 = .ok (.aload_n 0, 1) := by decide +kernel
theorem dX9_put_19 : decode cX9_put 19 = .ok (.getfield 12, 3) := by decide +kernel
theorem dX9_put_22 : decode cX9_put 22 = .ok (.getfield 88, 3) := by decide +kernel
theorem dX9_put_25 : decode cX9_put 25 = .ok (.iload_n 1, 1) := by decide +kernel
theorem dX9_put_26 : decode cX9_put 26 = .ok (.baload, 1) := by decide +kernel
theorem dX9_put_27 : decode cX9_put 27 = .ok (.ifCond .eq 6, 3) := by decide +kernel
theorem dX9_put_30 : decode cX9_put 30 = .ok (.bipush (-3), 2) := by decide +kernel
theorem dX9_put_32 : decode cX9_put 32 = .ok (.ireturn, 1) := by decide +kernel
theorem dX9_put_33 : decode cX9_put 33 = .ok (.aload_n 0, 1) := by decide +kernel
theorem dX9_put_34 : decode cX9_put 34 = .ok (.iload_n 1, 1) := by decide +kernel
theorem dX9_put_35 : decode cX9_put 35 = .ok (.iconst 1, 1) := by decide +kernel
theorem dX9_put_36 : decode cX9_put 36 = .ok (.iload_n 2, 1) := by decide +kernel
theorem dX9_put_37 : decode cX9_put 37 = .ok (.iload_n 3, 1) := by decide +kernel
theorem dX9_put_38 : decode cX9_put 38 = .ok (.invokevirtual 92, 3) := by decide +kernel
theorem dX9_put_41 : decode cX9_put 41 = .ok (.aload_n 0, 1) := by decide +kernel
theorem dX9_put_42 : decode cX9_put 42 = .ok (.getfield 12, 3) := by decide +kernel
theorem dX9_put_45 : decode cX9_put 45 = .ok (.getfield 96, 3) := by decide +kernel
theorem dX9_put_48 : decode cX9_put 48 = .ok (.ireturn, 1) := by decide +kernel
theorem dX9_drop_0 : decode cX9_drop 0 = .ok (.iload_n 1, 1) := by decide +kernel
theorem dX9_drop_1 : decode cX9_drop 1 = .ok (.invokestatic 80, 3) := by decide +kernel
theorem dX9_drop_4 : decode cX9_drop 4 = .ok (.ifCond .ne 6, 3) := by decide +kernel
theorem dX9_drop_7 : decode cX9_drop 7 = .ok (.bipush (-2), 2) := by decide +kernel
theorem dX9_drop_9 : decode cX9_drop 9 = .ok (.ireturn, 1) := by decide +kernel
theorem dX9_drop_10 : decode cX9_drop 10 = .ok (.aload_n 0, 1) := by decide +kernel
theorem dX9_drop_11 : decode cX9_drop 11 = .ok (.getfield 12, 3) := by decide +kernel
theorem dX9_drop_14 : decode cX9_drop 14 = .ok (.getfield 88, 3) := by decide +kernel
theorem dX9_drop_17 : decode cX9_drop 17 = .ok (.iload_n 1, 1) := by decide +kernel
theorem dX9_drop_18 : decode cX9_drop 18 = .ok (.baload, 1) := by decide +kernel
theorem dX9_drop_19 : decode cX9_drop 19 = .ok (.ifCond .ne 6, 3) := by decide +kernel
theorem dX9_drop_22 : decode cX9_drop 22 = .ok (.bipush (-3), 2) := by decide +kernel
theorem dX9_drop_24 : decode cX9_drop 24 = .ok (.ireturn, 1) := by decide +kernel
theorem dX9_drop_25 : decode cX9_drop 25 = .ok (.aload_n 0, 1) := by decide +kernel
theorem dX9_drop_26 : decode cX9_drop 26 = .ok (.iload_n 1, 1) := by decide +kernel
theorem dX9_drop_27 : decode cX9_drop 27 = .ok (.iconst 0, 1) := by decide +kernel
theorem dX9_drop_28 : decode cX9_drop 28 = .ok (.iconst 0, 1) := by decide +kernel
theorem dX9_drop_29 : decode cX9_drop 29 = .ok (.iconst 0, 1) := by decide +kernel
theorem dX9_drop_30 : decode cX9_drop 30 = .ok (.invokevirtual 92, 3) := by decide +kernel
theorem dX9_drop_33 : decode cX9_drop 33 = .ok (.aload_n 0, 1) := by decide +kernel
theorem dX9_drop_34 : decode cX9_drop 34 = .ok (.getfield 12, 3) := by decide +kernel
theorem dX9_drop_37 : decode cX9_drop 37 = .ok (.getfield 96, 3) := by decide +kernel
theorem dX9_drop_40 : decode cX9_drop 40 = .ok (.ireturn, 1) := by decide +kernel
theorem dX9_move_0 : decode cX9_move 0 = .ok (.iload_n 1, 1) := by decide +kernel
theorem dX9_move_1 : decode cX9_move 1 = .ok (.invokestatic 80, 3) := by decide +kernel
theorem dX9_move_4 : decode cX9_move 4 = .ok (.ifCond .ne 6, 3) := by decide +kernel
theorem dX9_move_7 : decode cX9_move 7 = .ok (.bipush (-2), 2) := by decide +kernel
theorem dX9_move_9 : decode cX9_move 9 = .ok (.ireturn, 1) := by decide +kernel
theorem dX9_move_10 : decode cX9_move 10 = .ok (.aload_n 0, 1) := by decide +kernel
theorem dX9_move_11 : decode cX9_move 11 = .ok (.getfield 12, 3) := by decide +kernel
theorem dX9_move_14 : decode cX9_move 14 = .ok (.getfield 88, 3) := by decide +kernel
theorem dX9_move_17 : decode cX9_move 17 = .ok (.iload_n 1, 1) := by decide +kernel
theorem dX9_move_18 : decode cX9_move 18 = .ok (.baload, 1) := by decide +kernel
theorem dX9_move_19 : decode cX9_move 19 = .ok (.ifCond .ne 6, 3) := by decide +kernel
theorem dX9_move_22 : decode cX9_move 22 = .ok (.bipush (-3), 2) := by decide +kernel
theorem dX9_move_24 : decode cX9_move 24 = .ok (.ireturn, 1) := by decide +kernel
theorem dX9_move_25 : decode cX9_move 25 = .ok (.aload_n 0, 1) := by decide +kernel
theorem dX9_move_26 : decode cX9_move 26 = .ok (.getfield 12, 3) := by decide +kernel
theorem dX9_move_29 : decode cX9_move 29 = .ok (.getfield 99, 3) := by decide +kernel
theorem dX9_move_32 : decode cX9_move 32 = .ok (.iload_n 1, 1) := by decide +kernel
theorem dX9_move_33 : decode cX9_move 33 = .ok (.iaload, 1) := by decide +kernel
theorem dX9_move_34 : decode cX9_move 34 = .ok (.i2l, 1) := by decide +kernel
theorem dX9_move_35 : decode cX9_move 35 = .ok (.iload_n 2, 1) := by decide +kernel
theorem dX9_move_36 : decode cX9_move 36 = .ok (.i2l, 1) := by decide +kernel
theorem dX9_move_37 : decode cX9_move 37 = .ok (.ladd, 1) := by decide +kernel
theorem dX9_move_38 : decode cX9_move 38 = .ok (.lstore_n 3, 1) := by decide +kernel
theorem dX9_move_39 : decode cX9_move 39 = .ok (.aload_n 0, 1) := by decide +kernel
theorem dX9_move_40 : decode cX9_move 40 = .ok (.getfield 12, 3) := by decide +kernel
theorem dX9_move_43 : decode cX9_move 43 = .ok (.getfield 103, 3) := by decide +kernel
theorem dX9_move_46 : decode cX9_move 46 = .ok (.iload_n 1, 1) := by decide +kernel
theorem dX9_move_47 : decode cX9_move 47 = .ok (.iaload, 1) := by decide +kernel
theorem dX9_move_48 : decode cX9_move 48 = .ok (.i2l, 1) := by decide +kernel
theorem dX9_move_49 : decode cX9_move 49 = .ok (.iload_n 2, 1) := by decide +kernel
theorem dX9_move_50 : decode cX9_move 50 = .ok (.i2l, 1) := by decide +kernel
theorem dX9_move_51 : decode cX9_move 51 = .ok (.ladd, 1) := by decide +kernel
theorem dX9_move_52 : decode cX9_move 52 = .ok (.lstore 5, 2) := by decide +kernel
theorem dX9_move_54 : decode cX9_move 54 = .ok (.lload_n 3, 1) := by decide +kernel
theorem dX9_move_55 : decode cX9_move 55 = .ok (.ldc2_w 106, 3) := by decide +kernel
theorem dX9_move_58 : decode cX9_move 58 = .ok (.lcmp, 1) := by decide +kernel
theorem dX9_move_59 : decode cX9_move 59 = .ok (.ifCond .lt 12, 3) := by decide +kernel
theorem dX9_move_62 : decode cX9_move 62 = .ok (.lload 5, 2) := by decide +kernel
theorem dX9_move_64 : decode cX9_move 64 = .ok (.ldc2_w 108, 3) := by decide +kernel
theorem dX9_move_67 : decode cX9_move 67 = .ok (.lcmp, 1) := by decide +kernel
theorem dX9_move_68 : decode cX9_move 68 = .ok (.ifCond .le 6, 3) := by decide +kernel
theorem dX9_move_71 : decode cX9_move 71 = .ok (.bipush (-4), 2) := by decide +kernel
theorem dX9_move_73 : decode cX9_move 73 = .ok (.ireturn, 1) := by decide +kernel
theorem dX9_move_74 : decode cX9_move 74 = .ok (.aload_n 0, 1) := by decide +kernel
theorem dX9_move_75 : decode cX9_move 75 = .ok (.iload_n 1, 1) := by decide +kernel
theorem dX9_move_76 : decode cX9_move 76 = .ok (.iconst 1, 1) := by decide +kernel
theorem dX9_move_77 : decode cX9_move 77 = .ok (.lload_n 3, 1) := by decide +kernel
theorem dX9_move_78 : decode cX9_move 78 = .ok (.l2i, 1) := by decide +kernel
theorem dX9_move_79 : decode cX9_move 79 = .ok (.lload 5, 2) := by decide +kernel
theorem dX9_move_81 : decode cX9_move 81 = .ok (.l2i, 1) := by decide +kernel
theorem dX9_move_82 : decode cX9_move 82 = .ok (.invokevirtual 92, 3) := by decide +kernel
theorem dX9_move_85 : decode cX9_move 85 = .ok (.iconst 1, 1) := by decide +kernel
theorem dX9_move_86 : decode cX9_move 86 = .ok (.ireturn, 1) := by decide +kernel
theorem dX9_undo_0 : decode cX9_undo 0 = .ok (.aload_n 0, 1) := by decide +kernel
theorem dX9_undo_1 : decode cX9_undo 1 = .ok (.getfield 19, 3) := by decide +kernel
theorem dX9_undo_4 : decode cX9_undo 4 = .ok (.getfield 110, 3) := by decide +kernel
theorem dX9_undo_7 : decode cX9_undo 7 = .ok (.ifCond .ne 6, 3) := by decide +kernel
theorem dX9_undo_10 : decode cX9_undo 10 = .ok (.bipush (-3), 2) := by decide +kernel
theorem dX9_undo_12 : decode cX9_undo 12 = .ok (.ireturn, 1) := by decide +kernel
theorem dX9_undo_13 : decode cX9_undo 13 = .ok (.aload_n 0, 1) := by decide +kernel
theorem dX9_undo_14 : decode cX9_undo 14 = .ok (.getfield 19, 3) := by decide +kernel
theorem dX9_undo_17 : decode cX9_undo 17 = .ok (.invokevirtual 111, 3) := by decide +kernel
theorem dX9_undo_20 : decode cX9_undo 20 = .ok (.istore_n 1, 1) := by decide +kernel
theorem dX9_undo_21 : decode cX9_undo 21 = .ok (.aload_n 0, 1) := by decide +kernel
theorem dX9_undo_22 : decode cX9_undo 22 = .ok (.aload_n 0, 1) := by decide +kernel
theorem dX9_undo_23 : decode cX9_undo 23 = .ok (.getfield 19, 3) := by decide +kernel
theorem dX9_undo_26 : decode cX9_undo 26 = .ok (.getfield 115, 3) := by decide +kernel
theorem dX9_undo_29 : decode cX9_undo 29 = .ok (.iload_n 1, 1) := by decide +kernel
theorem dX9_undo_30 : decode cX9_undo 30 = .ok (.iaload, 1) := by decide +kernel
theorem dX9_undo_31 : decode cX9_undo 31 = .ok (.aload_n 0, 1) := by decide +kernel
theorem dX9_undo_32 : decode cX9_undo 32 = .ok (.getfield 19, 3) := by decide +kernel
theorem dX9_undo_35 : decode cX9_undo 35 = .ok (.getfield 118, 3) := by decide +kernel
theorem dX9_undo_38 : decode cX9_undo 38 = .ok (.iload_n 1, 1) := by decide +kernel
theorem dX9_undo_39 : decode cX9_undo 39 = .ok (.baload, 1) := by decide +kernel
theorem dX9_undo_40 : decode cX9_undo 40 = .ok (.aload_n 0, 1) := by decide +kernel
theorem dX9_undo_41 : decode cX9_undo 41 = .ok (.getfield 19, 3) := by decide +kernel
theorem dX9_undo_44 : decode cX9_undo 44 = .ok (.getfield 119, 3) := by decide +kernel
theorem dX9_undo_47 : decode cX9_undo 47 = .ok (.iload_n 1, 1) := by decide +kernel
theorem dX9_undo_48 : decode cX9_undo 48 = .ok (.iaload, 1) := by decide +kernel
theorem dX9_undo_49 : decode cX9_undo 49 = .ok (.aload_n 0, 1) := by decide +kernel
theorem dX9_undo_50 : decode cX9_undo 50 = .ok (.getfield 19, 3) := by decide +kernel
theorem dX9_undo_53 : decode cX9_undo 53 = .ok (.getfield 120, 3) := by decide +kernel
theorem dX9_undo_56 : decode cX9_undo 56 = .ok (.iload_n 1, 1) := by decide +kernel
theorem dX9_undo_57 : decode cX9_undo 57 = .ok (.iaload, 1) := by decide +kernel
theorem dX9_undo_58 : decode cX9_undo 58 = .ok (.invokevirtual 121, 3) := by decide +kernel
theorem dX9_undo_61 : decode cX9_undo 61 = .ok (.aload_n 0, 1) := by decide +kernel
theorem dX9_undo_62 : decode cX9_undo 62 = .ok (.getfield 19, 3) := by decide +kernel
theorem dX9_undo_65 : decode cX9_undo 65 = .ok (.getfield 110, 3) := by decide +kernel
theorem dX9_undo_68 : decode cX9_undo 68 = .ok (.ireturn, 1) := by decide +kernel
theorem dX9_fill_0 : decode cX9_fill 0 = .ok (.iload_n 1, 1) := by decide +kernel
theorem dX9_fill_1 : decode cX9_fill 1 = .ok (.invokestatic 124, 3) := by decide +kernel
theorem dX9_fill_4 : decode cX9_fill 4 = .ok (.ifCond .ne 6, 3) := by decide +kernel
theorem dX9_fill_7 : decode cX9_fill 7 = .ok (.bipush (-2), 2) := by decide +kernel
theorem dX9_fill_9 : decode cX9_fill 9 = .ok (.ireturn, 1) := by decide +kernel
theorem dX9_fill_10 : decode cX9_fill 10 = .ok (.aload_n 0, 1) := by decide +kernel
theorem dX9_fill_11 : decode cX9_fill 11 = .ok (.getfield 67, 3) := by decide +kernel
theorem dX9_fill_14 : decode cX9_fill 14 = .ok (.iload_n 1, 1) := by decide +kernel
theorem dX9_fill_15 : decode cX9_fill 15 = .ok (.aaload, 1) := by decide +kernel
theorem dX9_fill_16 : decode cX9_fill 16 = .ok (.astore_n 2, 1) := by decide +kernel
theorem dX9_fill_17 : decode cX9_fill 17 = .ok (.aload_n 2, 1) := by decide +kernel
theorem dX9_fill_18 : decode cX9_fill 18 = .ok (.getfield 127, 3) := by decide +kernel
theorem dX9_fill_21 : decode cX9_fill 21 = .ok (.ifCond .eq 9, 3) := by decide +kernel
theorem dX9_fill_24 : decode cX9_fill 24 = .ok (.aload_n 0, 1) := by decide +kernel
theorem dX9_fill_25 : decode cX9_fill 25 = .ok (.iconst 1, 1) := by decide +kernel
theorem dX9_fill_26 : decode cX9_fill 26 = .ok (.invokevirtual 130, 3) := by decide +kernel
theorem dX9_fill_29 : decode cX9_fill 29 = .ok (.ireturn, 1) := by decide +kernel
theorem dX9_fill_30 : decode cX9_fill 30 = .ok (.iconst 0, 1) := by decide +kernel
theorem dX9_fill_31 : decode cX9_fill 31 = .ok (.istore_n 3, 1) := by decide +kernel
theorem dX9_fill_32 : decode cX9_fill 32 = .ok (.iconst 0, 1) := by decide +kernel
theorem dX9_fill_33 : decode cX9_fill 33 = .ok (.istore 4, 2) := by decide +kernel
theorem dX9_fill_35 : decode cX9_fill 35 = .ok (.iload 4, 2) := by decide +kernel
theorem dX9_fill_37 : decode cX9_fill 37 = .ok (.iconst 1, 1) := by decide +kernel
theorem dX9_fill_38 : decode cX9_fill 38 = .ok (.iadd, 1) := by decide +kernel
theorem dX9_fill_39 : decode cX9_fill 39 = .ok (.aload_n 2, 1) := by decide +kernel
theorem dX9_fill_40 : decode cX9_fill 40 = .ok (.getfield 134, 3) := by decide +kernel
theorem dX9_fill_43 : decode cX9_fill 43 = .ok (.if_icmp .ge 75, 3) := by decide +kernel
theorem dX9_fill_46 : decode cX9_fill 46 = .ok (.aload_n 0, 1) := by decide +kernel
theorem dX9_fill_47 : decode cX9_fill 47 = .ok (.getfield 12, 3) := by decide +kernel
theorem dX9_fill_50 : decode cX9_fill 50 = .ok (.invokevirtual 135, 3) := by decide +kernel
theorem dX9_fill_53 : decode cX9_fill 53 = .ok (.istore 5, 2) := by decide +kernel
theorem dX9_fill_55 : decode cX9_fill 55 = .ok (.iload 5, 2) := by decide +kernel
theorem dX9_fill_57 : decode cX9_fill 57 = .ok (.iconst (-1), 1) := by decide +kernel
theorem dX9_fill_58 : decode cX9_fill 58 = .ok (.if_icmp .eq 60, 3) := by decide +kernel
theorem dX9_fill_61 : decode cX9_fill 61 = .ok (.aload_n 2, 1) := by decide +kernel
theorem dX9_fill_62 : decode cX9_fill 62 = .ok (.getfield 138, 3) := by decide +kernel
theorem dX9_fill_65 : decode cX9_fill 65 = .ok (.iload 4, 2) := by decide +kernel
theorem dX9_fill_67 : decode cX9_fill 67 = .ok (.iaload, 1) := by decide +kernel
theorem dX9_fill_68 : decode cX9_fill 68 = .ok (.aload_n 2, 1) := by decide +kernel
theorem dX9_fill_69 : decode cX9_fill 69 = .ok (.getfield 138, 3) := by decide +kernel
theorem dX9_fill_72 : decode cX9_fill 72 = .ok (.iload 4, 2) := by decide +kernel
theorem dX9_fill_74 : decode cX9_fill 74 = .ok (.iconst 1, 1) := by decide +kernel
theorem dX9_fill_75 : decode cX9_fill 75 = .ok (.iadd, 1) := by decide +kernel
theorem dX9_fill_76 : decode cX9_fill 76 = .ok (.iaload, 1) := by decide +kernel
theorem dX9_fill_77 : decode cX9_fill 77 = .ok (.invokestatic 84, 3) := by decide +kernel
theorem dX9_fill_80 : decode cX9_fill 80 = .ok (.ifCond .ne 6, 3) := by decide +kernel
theorem dX9_fill_83 : decode cX9_fill 83 = .ok (.goto 35, 3) := by decide +kernel
theorem dX9_fill_86 : decode cX9_fill 86 = .ok (.aload_n 0, 1) := by decide +kernel
theorem dX9_fill_87 : decode cX9_fill 87 = .ok (.iload 5, 2) := by decide +kernel
theorem dX9_fill_89 : decode cX9_fill 89 = .ok (.iconst 1, 1) := by decide +kernel
theorem dX9_fill_90 : decode cX9_fill 90 = .ok (.aload_n 2, 1) := by decide +kernel
theorem dX9_fill_91 : decode cX9_fill 91 = .ok (.getfield 138, 3) := by decide +kernel
theorem dX9_fill_94 : decode cX9_fill 94 = .ok (.iload 4, 2) := by decide +kernel
theorem dX9_fill_96 : decode cX9_fill 96 = .ok (.iaload, 1) := by decide +kernel
theorem dX9_fill_97 : decode cX9_fill 97 = .ok (.aload_n 2, 1) := by decide +kernel
theorem dX9_fill_98 : decode cX9_fill 98 = .ok (.getfield 138, 3) := by decide +kernel
theorem dX9_fill_101 : decode cX9_fill 101 = .ok (.iload 4, 2) := by decide +kernel
theorem dX9_fill_103 : decode cX9_fill 103 = .ok (.iconst 1, 1) := by decide +kernel
theorem dX9_fill_104 : decode cX9_fill 104 = .ok (.iadd, 1) := by decide +kernel
theorem dX9_fill_105 : decode cX9_fill 105 = .ok (.iaload, 1) := by decide +kernel
theorem dX9_fill_106 : decode cX9_fill 106 = .ok (.invokevirtual 92, 3) := by decide +kernel
theorem dX9_fill_109 : decode cX9_fill 109 = .ok (.iinc 3 1, 3) := by decide +kernel
theorem dX9_fill_112 : decode cX9_fill 112 = .ok (.iinc 4 2, 3) := by decide +kernel
theorem dX9_fill_115 : decode cX9_fill 115 = .ok (.goto (-80), 3) := by decide +kernel
theorem dX9_fill_118 : decode cX9_fill 118 = .ok (.iload_n 3, 1) := by decide +kernel
theorem dX9_fill_119 : decode cX9_fill 119 = .ok (.ireturn, 1) := by decide +kernel
theorem dX9_span_0 : decode cX9_span 0 = .ok (.aload_n 0, 1) := by decide +kernel
theorem dX9_span_1 : decode cX9_span 1 = .ok (.iload_n 1, 1) := by decide +kernel
theorem dX9_span_2 : decode cX9_span 2 = .ok (.invokevirtual 141, 3) := by decide +kernel
theorem dX9_span_5 : decode cX9_span 5 = .ok (.ifCond .eq 12, 3) := by decide +kernel
theorem dX9_span_8 : decode cX9_span 8 = .ok (.iload_n 2, 1) := by decide +kernel
theorem dX9_span_9 : decode cX9_span 9 = .ok (.ifCond .lt 8, 3) := by decide +kernel
theorem dX9_span_12 : decode cX9_span 12 = .ok (.iload_n 2, 1) := by decide +kernel
theorem dX9_span_13 : decode cX9_span 13 = .ok (.iconst 1, 1) := by decide +kernel
theorem dX9_span_14 : decode cX9_span 14 = .ok (.if_icmp .le 6, 3) := by decide +kernel
theorem dX9_span_17 : decode cX9_span 17 = .ok (.ldc 144, 2) := by decide +kernel
theorem dX9_span_19 : decode cX9_span 19 = .ok (.ireturn, 1) := by decide +kernel
theorem dX9_span_20 : decode cX9_span 20 = .ok (.iload_n 2, 1) := by decide +kernel
theorem dX9_span_21 : decode cX9_span 21 = .ok (.ifCond .ne 15, 3) := by decide +kernel
theorem dX9_span_24 : decode cX9_span 24 = .ok (.aload_n 0, 1) := by decide +kernel
theorem dX9_span_25 : decode cX9_span 25 = .ok (.getfield 12, 3) := by decide +kernel
theorem dX9_span_28 : decode cX9_span 28 = .ok (.getfield 99, 3) := by decide +kernel
theorem dX9_span_31 : decode cX9_span 31 = .ok (.iload_n 1, 1) := by decide +kernel
theorem dX9_span_32 : decode cX9_span 32 = .ok (.iaload, 1) := by decide +kernel
theorem dX9_span_33 : decode cX9_span 33 = .ok (.goto 12, 3) := by decide +kernel
theorem dX9_span_36 : decode cX9_span 36 = .ok (.aload_n 0, 1) := by decide +kernel
theorem dX9_span_37 : decode cX9_span 37 = .ok (.getfield 12, 3) := by decide +kernel
theorem dX9_span_40 : decode cX9_span 40 = .ok (.getfield 103, 3) := by decide +kernel
theorem dX9_span_43 : decode cX9_span 43 = .ok (.iload_n 1, 1) := by decide +kernel
theorem dX9_span_44 : decode cX9_span 44 = .ok (.iaload, 1) := by decide +kernel
theorem dX9_span_45 : decode cX9_span 45 = .ok (.ireturn, 1) := by decide +kernel
theorem dX9_rank_0 : decode cX9_rank 0 = .ok (.iload_n 1, 1) := by decide +kernel
theorem dX9_rank_1 : decode cX9_rank 1 = .ok (.invokestatic 80, 3) := by decide +kernel
theorem dX9_rank_4 : decode cX9_rank 4 = .ok (.ifCond .ne 6, 3) := by decide +kernel
theorem dX9_rank_7 : decode cX9_rank 7 = .ok (.bipush (-2), 2) := by decide +kernel
theorem dX9_rank_9 : decode cX9_rank 9 = .ok (.ireturn, 1) := by decide +kernel
theorem dX9_rank_10 : decode cX9_rank 10 = .ok (.aload_n 0, 1) := by decide +kernel
theorem dX9_rank_11 : decode cX9_rank 11 = .ok (.getfield 12, 3) := by decide +kernel
theorem dX9_rank_14 : decode cX9_rank 14 = .ok (.getfield 88, 3) := by decide +kernel
theorem dX9_rank_17 : decode cX9_rank 17 = .ok (.iload_n 1, 1) := by decide +kernel
theorem dX9_rank_18 : decode cX9_rank 18 = .ok (.baload, 1) := by decide +kernel
theorem dX9_rank_19 : decode cX9_rank 19 = .ok (.ifCond .eq 15, 3) := by decide +kernel
theorem dX9_rank_22 : decode cX9_rank 22 = .ok (.aload_n 0, 1) := by decide +kernel
theorem dX9_rank_23 : decode cX9_rank 23 = .ok (.getfield 12, 3) := by decide +kernel
theorem dX9_rank_26 : decode cX9_rank 26 = .ok (.getfield 145, 3) := by decide +kernel
theorem dX9_rank_29 : decode cX9_rank 29 = .ok (.iload_n 1, 1) := by decide +kernel
theorem dX9_rank_30 : decode cX9_rank 30 = .ok (.iaload, 1) := by decide +kernel
theorem dX9_rank_31 : decode cX9_rank 31 = .ok (.goto 5, 3) := by decide +kernel
theorem dX9_rank_34 : decode cX9_rank 34 = .ok (.bipush (-3), 2) := by decide +kernel
theorem dX9_rank_36 : decode cX9_rank 36 = .ok (.ireturn, 1) := by decide +kernel
theorem dX9_ranked_0 : decode cX9_ranked 0 = .ok (.iload_n 1, 1) := by decide +kernel
theorem dX9_ranked_1 : decode cX9_ranked 1 = .ok (.invokestatic 80, 3) := by decide +kernel
theorem dX9_ranked_4 : decode cX9_ranked 4 = .ok (.ifCond .ne 6, 3) := by decide +kernel
theorem dX9_ranked_7 : decode cX9_ranked 7 = .ok (.bipush (-2), 2) := by decide +kernel
theorem dX9_ranked_9 : decode cX9_ranked 9 = .ok (.ireturn, 1) := by decide +kernel
theorem dX9_ranked_10 : decode cX9_ranked 10 = .ok (.iload_n 1, 1) := by decide +kernel
theorem dX9_ranked_11 : decode cX9_ranked 11 = .ok (.aload_n 0, 1) := by decide +kernel
theorem dX9_ranked_12 : decode cX9_ranked 12 = .ok (.getfield 12, 3) := by decide +kernel
theorem dX9_ranked_15 : decode cX9_ranked 15 = .ok (.getfield 96, 3) := by decide +kernel
theorem dX9_ranked_18 : decode cX9_ranked 18 = .ok (.if_icmp .ge 15, 3) := by decide +kernel
theorem dX9_ranked_21 : decode cX9_ranked 21 = .ok (.aload_n 0, 1) := by decide +kernel
theorem dX9_ranked_22 : decode cX9_ranked 22 = .ok (.getfield 12, 3) := by decide +kernel
theorem dX9_ranked_25 : decode cX9_ranked 25 = .ok (.getfield 148, 3) := by decide +kernel
theorem dX9_ranked_28 : decode cX9_ranked 28 = .ok (.iload_n 1, 1) := by decide +kernel
theorem dX9_ranked_29 : decode cX9_ranked 29 = .ok (.iaload, 1) := by decide +kernel
theorem dX9_ranked_30 : decode cX9_ranked 30 = .ok (.goto 4, 3) := by decide +kernel
theorem dX9_ranked_33 : decode cX9_ranked 33 = .ok (.iconst (-1), 1) := by decide +kernel
theorem dX9_ranked_34 : decode cX9_ranked 34 = .ok (.ireturn, 1) := by decide +kernel
theorem dX9_root_0 : decode cX9_root 0 = .ok (.aload_n 0, 1) := by decide +kernel
theorem dX9_root_1 : decode cX9_root 1 = .ok (.invokevirtual 151, 3) := by decide +kernel
theorem dX9_root_4 : decode cX9_root 4 = .ok (.aload_n 0, 1) := by decide +kernel
theorem dX9_root_5 : decode cX9_root 5 = .ok (.getfield 26, 3) := by decide +kernel
theorem dX9_root_8 : decode cX9_root 8 = .ok (.getfield 154, 3) := by decide +kernel
theorem dX9_root_11 : decode cX9_root 11 = .ok (.ireturn, 1) := by decide +kernel
theorem dX9_tree_0 : decode cX9_tree 0 = .ok (.iload_n 1, 1) := by decide +kernel
theorem dX9_tree_1 : decode cX9_tree 1 = .ok (.invokestatic 80, 3) := by decide +kernel
theorem dX9_tree_4 : decode cX9_tree 4 = .ok (.ifCond .eq 12, 3) := by decide +kernel
theorem dX9_tree_7 : decode cX9_tree 7 = .ok (.iload_n 2, 1) := by decide +kernel
theorem dX9_tree_8 : decode cX9_tree 8 = .ok (.ifCond .lt 8, 3) := by decide +kernel
theorem dX9_tree_11 : decode cX9_tree 11 = .ok (.iload_n 2, 1) := by decide +kernel
theorem dX9_tree_12 : decode cX9_tree 12 = .ok (.iconst 5, 1) := by decide +kernel
theorem dX9_tree_13 : decode cX9_tree 13 = .ok (.if_icmp .le 6, 3) := by decide +kernel
theorem dX9_tree_16 : decode cX9_tree 16 = .ok (.bipush (-2), 2) := by decide +kernel
theorem dX9_tree_18 : decode cX9_tree 18 = .ok (.ireturn, 1) := by decide +kernel
theorem dX9_tree_19 : decode cX9_tree 19 = .ok (.aload_n 0, 1) := by decide +kernel
theorem dX9_tree_20 : decode cX9_tree 20 = .ok (.getfield 12, 3) := by decide +kernel
theorem dX9_tree_23 : decode cX9_tree 23 = .ok (.getfield 88, 3) := by decide +kernel
theorem dX9_tree_26 : decode cX9_tree 26 = .ok (.iload_n 1, 1) := by decide +kernel
theorem dX9_tree_27 : decode cX9_tree 27 = .ok (.baload, 1) := by decide +kernel
theorem dX9_tree_28 : decode cX9_tree 28 = .ok (.ifCond .ne 6, 3) := by decide +kernel
theorem dX9_tree_31 : decode cX9_tree 31 = .ok (.bipush (-3), 2) := by decide +kernel
theorem dX9_tree_33 : decode cX9_tree 33 = .ok (.ireturn, 1) := by decide +kernel
theorem dX9_tree_34 : decode cX9_tree 34 = .ok (.aload_n 0, 1) := by decide +kernel
theorem dX9_tree_35 : decode cX9_tree 35 = .ok (.invokevirtual 151, 3) := by decide +kernel
theorem dX9_tree_38 : decode cX9_tree 38 = .ok (.iload_n 2, 1) := by decide +kernel
theorem dX9_tree_39 : decode cX9_tree 39 = .ok (.tableswitch 83 0 4 #[33, 43, 53, 63, 73], 33) := by decide +kernel
theorem dX9_tree_72 : decode cX9_tree 72 = .ok (.aload_n 0, 1) := by decide +kernel
theorem dX9_tree_73 : decode cX9_tree 73 = .ok (.getfield 26, 3) := by decide +kernel
theorem dX9_tree_76 : decode cX9_tree 76 = .ok (.getfield 157, 3) := by decide +kernel
theorem dX9_tree_79 : decode cX9_tree 79 = .ok (.iload_n 1, 1) := by decide +kernel
theorem dX9_tree_80 : decode cX9_tree 80 = .ok (.iaload, 1) := by decide +kernel
theorem dX9_tree_81 : decode cX9_tree 81 = .ok (.ireturn, 1) := by decide +kernel
theorem dX9_tree_82 : decode cX9_tree 82 = .ok (.aload_n 0, 1) := by decide +kernel
theorem dX9_tree_83 : decode cX9_tree 83 = .ok (.getfield 26, 3) := by decide +kernel
theorem dX9_tree_86 : decode cX9_tree 86 = .ok (.getfield 160, 3) := by decide +kernel
theorem dX9_tree_89 : decode cX9_tree 89 = .ok (.iload_n 1, 1) := by decide +kernel
theorem dX9_tree_90 : decode cX9_tree 90 = .ok (.iaload, 1) := by decide +kernel
theorem dX9_tree_91 : decode cX9_tree 91 = .ok (.ireturn, 1) := by decide +kernel
theorem dX9_tree_92 : decode cX9_tree 92 = .ok (.aload_n 0, 1) := by decide +kernel
theorem dX9_tree_93 : decode cX9_tree 93 = .ok (.getfield 26, 3) := by decide +kernel
theorem dX9_tree_96 : decode cX9_tree 96 = .ok (.getfield 163, 3) := by decide +kernel
theorem dX9_tree_99 : decode cX9_tree 99 = .ok (.iload_n 1, 1) := by decide +kernel
theorem dX9_tree_100 : decode cX9_tree 100 = .ok (.iaload, 1) := by decide +kernel
theorem dX9_tree_101 : decode cX9_tree 101 = .ok (.ireturn, 1) := by decide +kernel
theorem dX9_tree_102 : decode cX9_tree 102 = .ok (.aload_n 0, 1) := by decide +kernel
theorem dX9_tree_103 : decode cX9_tree 103 = .ok (.getfield 26, 3) := by decide +kernel
theorem dX9_tree_106 : decode cX9_tree 106 = .ok (.getfield 166, 3) := by decide +kernel
theorem dX9_tree_109 : decode cX9_tree 109 = .ok (.iload_n 1, 1) := by decide +kernel
theorem dX9_tree_110 : decode cX9_tree 110 = .ok (.iaload, 1) := by decide +kernel
theorem dX9_tree_111 : decode cX9_tree 111 = .ok (.ireturn, 1) := by decide +kernel
theorem dX9_tree_112 : decode cX9_tree 112 = .ok (.aload_n 0, 1) := by decide +kernel
theorem dX9_tree_113 : decode cX9_tree 113 = .ok (.getfield 26, 3) := by decide +kernel
theorem dX9_tree_116 : decode cX9_tree 116 = .ok (.getfield 169, 3) := by decide +kernel
theorem dX9_tree_119 : decode cX9_tree 119 = .ok (.iload_n 1, 1) := by decide +kernel
theorem dX9_tree_120 : decode cX9_tree 120 = .ok (.iaload, 1) := by decide +kernel
theorem dX9_tree_121 : decode cX9_tree 121 = .ok (.ireturn, 1) := by decide +kernel
theorem dX9_tree_122 : decode cX9_tree 122 = .ok (.aload_n 0, 1) := by decide +kernel
theorem dX9_tree_123 : decode cX9_tree 123 = .ok (.getfield 26, 3) := by decide +kernel
theorem dX9_tree_126 : decode cX9_tree 126 = .ok (.getfield 172, 3) := by decide +kernel
theorem dX9_tree_129 : decode cX9_tree 129 = .ok (.iload_n 1, 1) := by decide +kernel
theorem dX9_tree_130 : decode cX9_tree 130 = .ok (.iaload, 1) := by decide +kernel
theorem dX9_tree_131 : decode cX9_tree 131 = .ok (.ireturn, 1) := by decide +kernel
theorem dX9_end_0 : decode cX9_end 0 = .ok (.aload_n 0, 1) := by decide +kernel
theorem dX9_end_1 : decode cX9_end 1 = .ok (.iload_n 1, 1) := by decide +kernel
theorem dX9_end_2 : decode cX9_end 2 = .ok (.invokevirtual 141, 3) := by decide +kernel
theorem dX9_end_5 : decode cX9_end 5 = .ok (.ifCond .ne 6, 3) := by decide +kernel
theorem dX9_end_8 : decode cX9_end 8 = .ok (.ldc 144, 2) := by decide +kernel
theorem dX9_end_10 : decode cX9_end 10 = .ok (.ireturn, 1) := by decide +kernel
theorem dX9_end_11 : decode cX9_end 11 = .ok (.aload_n 0, 1) := by decide +kernel
theorem dX9_end_12 : decode cX9_end 12 = .ok (.invokevirtual 151, 3) := by decide +kernel
theorem dX9_end_15 : decode cX9_end 15 = .ok (.aload_n 0, 1) := by decide +kernel
theorem dX9_end_16 : decode cX9_end 16 = .ok (.getfield 26, 3) := by decide +kernel
theorem dX9_end_19 : decode cX9_end 19 = .ok (.getfield 175, 3) := by decide +kernel
theorem dX9_end_22 : decode cX9_end 22 = .ok (.iload_n 1, 1) := by decide +kernel
theorem dX9_end_23 : decode cX9_end 23 = .ok (.iaload, 1) := by decide +kernel
theorem dX9_end_24 : decode cX9_end 24 = .ok (.ireturn, 1) := by decide +kernel
theorem dX9_looks_0 : decode cX9_looks 0 = .ok (.iload_n 1, 1) := by decide +kernel
theorem dX9_looks_1 : decode cX9_looks 1 = .ok (.iload_n 2, 1) := by decide +kernel
theorem dX9_looks_2 : decode cX9_looks 2 = .ok (.invokestatic 84, 3) := by decide +kernel
theorem dX9_looks_5 : decode cX9_looks 5 = .ok (.ifCond .ne 6, 3) := by decide +kernel
theorem dX9_looks_8 : decode cX9_looks 8 = .ok (.bipush (-2), 2) := by decide +kernel
theorem dX9_looks_10 : decode cX9_looks 10 = .ok (.ireturn, 1) := by decide +kernel
theorem dX9_looks_11 : decode cX9_looks 11 = .ok (.aload_n 0, 1) := by decide +kernel
theorem dX9_looks_12 : decode cX9_looks 12 = .ok (.invokevirtual 151, 3) := by decide +kernel
theorem dX9_looks_15 : decode cX9_looks 15 = .ok (.aload_n 0, 1) := by decide +kernel
theorem dX9_looks_16 : decode cX9_looks 16 = .ok (.getfield 26, 3) := by decide +kernel
theorem dX9_looks_19 : decode cX9_looks 19 = .ok (.aload_n 0, 1) := by decide +kernel
theorem dX9_looks_20 : decode cX9_looks 20 = .ok (.getfield 12, 3) := by decide +kernel
theorem dX9_looks_23 : decode cX9_looks 23 = .ok (.iload_n 1, 1) := by decide +kernel
theorem dX9_looks_24 : decode cX9_looks 24 = .ok (.iload_n 2, 1) := by decide +kernel
theorem dX9_looks_25 : decode cX9_looks 25 = .ok (.invokevirtual 178, 3) := by decide +kernel
theorem dX9_looks_28 : decode cX9_looks 28 = .ok (.ireturn, 1) := by decide +kernel
theorem dX9_meets_0 : decode cX9_meets 0 = .ok (.iload_n 1, 1) := by decide +kernel
theorem dX9_meets_1 : decode cX9_meets 1 = .ok (.iload_n 2, 1) := by decide +kernel
theorem dX9_meets_2 : decode cX9_meets 2 = .ok (.invokestatic 84, 3) := by decide +kernel
theorem dX9_meets_5 : decode cX9_meets 5 = .ok (.ifCond .eq 10, 3) := by decide +kernel
theorem dX9_meets_8 : decode cX9_meets 8 = .ok (.iload_n 3, 1) := by decide +kernel
theorem dX9_meets_9 : decode cX9_meets 9 = .ok (.invokestatic 182, 3) := by decide +kernel
theorem dX9_meets_12 : decode cX9_meets 12 = .ok (.ifCond .ne 6, 3) := by decide +kernel
theorem dX9_meets_15 : decode cX9_meets 15 = .ok (.bipush (-2), 2) := by decide +kernel
theorem dX9_meets_17 : decode cX9_meets 17 = .ok (.ireturn, 1) := by decide +kernel
theorem dX9_meets_18 : decode cX9_meets 18 = .ok (.iload_n 3, 1) := by decide +kernel
theorem dX9_meets_19 : decode cX9_meets 19 = .ok (.iconst (-1), 1) := by decide +kernel
theorem dX9_meets_20 : decode cX9_meets 20 = .ok (.if_icmp .ne 15, 3) := by decide +kernel
theorem dX9_meets_23 : decode cX9_meets 23 = .ok (.aload_n 0, 1) := by decide +kernel
theorem dX9_meets_24 : decode cX9_meets 24 = .ok (.getfield 12, 3) := by decide +kernel
theorem dX9_meets_27 : decode cX9_meets 27 = .ok (.iload_n 1, 1) := by decide +kernel
theorem dX9_meets_28 : decode cX9_meets 28 = .ok (.iload_n 2, 1) := by decide +kernel
theorem dX9_meets_29 : decode cX9_meets 29 = .ok (.invokevirtual 185, 3) := by decide +kernel
theorem dX9_meets_32 : decode cX9_meets 32 = .ok (.goto 13, 3) := by decide +kernel
theorem dX9_meets_35 : decode cX9_meets 35 = .ok (.aload_n 0, 1) := by decide +kernel
theorem dX9_meets_36 : decode cX9_meets 36 = .ok (.getfield 12, 3) := by decide +kernel
theorem dX9_meets_39 : decode cX9_meets 39 = .ok (.iload_n 1, 1) := by decide +kernel
theorem dX9_meets_40 : decode cX9_meets 40 = .ok (.iload_n 2, 1) := by decide +kernel
theorem dX9_meets_41 : decode cX9_meets 41 = .ok (.iload_n 3, 1) := by decide +kernel
theorem dX9_meets_42 : decode cX9_meets 42 = .ok (.invokevirtual 189, 3) := by decide +kernel
theorem dX9_meets_45 : decode cX9_meets 45 = .ok (.ireturn, 1) := by decide +kernel
theorem dX9_holds_0 : decode cX9_holds 0 = .ok (.iload_n 1, 1) := by decide +kernel
theorem dX9_holds_1 : decode cX9_holds 1 = .ok (.invokestatic 193, 3) := by decide +kernel
theorem dX9_holds_4 : decode cX9_holds 4 = .ok (.ifCond .eq 10, 3) := by decide +kernel
theorem dX9_holds_7 : decode cX9_holds 7 = .ok (.iload_n 2, 1) := by decide +kernel
theorem dX9_holds_8 : decode cX9_holds 8 = .ok (.invokestatic 182, 3) := by decide +kernel
theorem dX9_holds_11 : decode cX9_holds 11 = .ok (.ifCond .ne 6, 3) := by decide +kernel
theorem dX9_holds_14 : decode cX9_holds 14 = .ok (.bipush (-2), 2) := by decide +kernel
theorem dX9_holds_16 : decode cX9_holds 16 = .ok (.ireturn, 1) := by decide +kernel
theorem dX9_holds_17 : decode cX9_holds 17 = .ok (.iload_n 2, 1) := by decide +kernel
theorem dX9_holds_18 : decode cX9_holds 18 = .ok (.iconst (-1), 1) := by decide +kernel
theorem dX9_holds_19 : decode cX9_holds 19 = .ok (.if_icmp .ne 17, 3) := by decide +kernel
theorem dX9_holds_22 : decode cX9_holds 22 = .ok (.aload_n 0, 1) := by decide +kernel
theorem dX9_holds_23 : decode cX9_holds 23 = .ok (.getfield 12, 3) := by decide +kernel
theorem dX9_holds_26 : decode cX9_holds 26 = .ok (.iload_n 1, 1) := by decide +kernel
theorem dX9_holds_27 : decode cX9_holds 27 = .ok (.iload_n 1, 1) := by decide +kernel
theorem dX9_holds_28 : decode cX9_holds 28 = .ok (.iconst 1, 1) := by decide +kernel
theorem dX9_holds_29 : decode cX9_holds 29 = .ok (.iadd, 1) := by decide +kernel
theorem dX9_holds_30 : decode cX9_holds 30 = .ok (.invokevirtual 185, 3) := by decide +kernel
theorem dX9_holds_33 : decode cX9_holds 33 = .ok (.goto 15, 3) := by decide +kernel
theorem dX9_holds_36 : decode cX9_holds 36 = .ok (.aload_n 0, 1) := by decide +kernel
theorem dX9_holds_37 : decode cX9_holds 37 = .ok (.getfield 12, 3) := by decide +kernel
theorem dX9_holds_40 : decode cX9_holds 40 = .ok (.iload_n 1, 1) := by decide +kernel
theorem dX9_holds_41 : decode cX9_holds 41 = .ok (.iload_n 1, 1) := by decide +kernel
theorem dX9_holds_42 : decode cX9_holds 42 = .ok (.iconst 1, 1) := by decide +kernel
theorem dX9_holds_43 : decode cX9_holds 43 = .ok (.iadd, 1) := by decide +kernel
theorem dX9_holds_44 : decode cX9_holds 44 = .ok (.iload_n 2, 1) := by decide +kernel
theorem dX9_holds_45 : decode cX9_holds 45 = .ok (.invokevirtual 189, 3) := by decide +kernel
theorem dX9_holds_48 : decode cX9_holds 48 = .ok (.ireturn, 1) := by decide +kernel
theorem dX9_taken_0 : decode cX9_taken 0 = .ok (.iload_n 1, 1) := by decide +kernel
theorem dX9_taken_1 : decode cX9_taken 1 = .ok (.iload_n 2, 1) := by decide +kernel
theorem dX9_taken_2 : decode cX9_taken 2 = .ok (.invokestatic 84, 3) := by decide +kernel
theorem dX9_taken_5 : decode cX9_taken 5 = .ok (.ifCond .ne 6, 3) := by decide +kernel
theorem dX9_taken_8 : decode cX9_taken 8 = .ok (.bipush (-2), 2) := by decide +kernel
theorem dX9_taken_10 : decode cX9_taken 10 = .ok (.ireturn, 1) := by decide +kernel
theorem dX9_taken_11 : decode cX9_taken 11 = .ok (.aload_n 0, 1) := by decide +kernel
theorem dX9_taken_12 : decode cX9_taken 12 = .ok (.invokevirtual 151, 3) := by decide +kernel
theorem dX9_taken_15 : decode cX9_taken 15 = .ok (.iload_n 2, 1) := by decide +kernel
theorem dX9_taken_16 : decode cX9_taken 16 = .ok (.iload_n 1, 1) := by decide +kernel
theorem dX9_taken_17 : decode cX9_taken 17 = .ok (.isub, 1) := by decide +kernel
theorem dX9_taken_18 : decode cX9_taken 18 = .ok (.aload_n 0, 1) := by decide +kernel
theorem dX9_taken_19 : decode cX9_taken 19 = .ok (.getfield 33, 3) := by decide +kernel
theorem dX9_taken_22 : decode cX9_taken 22 = .ok (.iload_n 1, 1) := by decide +kernel
theorem dX9_taken_23 : decode cX9_taken 23 = .ok (.iload_n 2, 1) := by decide +kernel
theorem dX9_taken_24 : decode cX9_taken 24 = .ok (.invokevirtual 196, 3) := by decide +kernel
theorem dX9_taken_27 : decode cX9_taken 27 = .ok (.isub, 1) := by decide +kernel
theorem dX9_taken_28 : decode cX9_taken 28 = .ok (.ireturn, 1) := by decide +kernel
theorem dX9_frees_0 : decode cX9_frees 0 = .ok (.iload_n 1, 1) := by decide +kernel
theorem dX9_frees_1 : decode cX9_frees 1 = .ok (.iload_n 2, 1) := by decide +kernel
theorem dX9_frees_2 : decode cX9_frees 2 = .ok (.invokestatic 84, 3) := by decide +kernel
theorem dX9_frees_5 : decode cX9_frees 5 = .ok (.ifCond .ne 6, 3) := by decide +kernel
theorem dX9_frees_8 : decode cX9_frees 8 = .ok (.bipush (-2), 2) := by decide +kernel
theorem dX9_frees_10 : decode cX9_frees 10 = .ok (.ireturn, 1) := by decide +kernel
theorem dX9_frees_11 : decode cX9_frees 11 = .ok (.aload_n 0, 1) := by decide +kernel
theorem dX9_frees_12 : decode cX9_frees 12 = .ok (.invokevirtual 151, 3) := by decide +kernel
theorem dX9_frees_15 : decode cX9_frees 15 = .ok (.aload_n 0, 1) := by decide +kernel
theorem dX9_frees_16 : decode cX9_frees 16 = .ok (.getfield 33, 3) := by decide +kernel
theorem dX9_frees_19 : decode cX9_frees 19 = .ok (.iload_n 1, 1) := by decide +kernel
theorem dX9_frees_20 : decode cX9_frees 20 = .ok (.iload_n 2, 1) := by decide +kernel
theorem dX9_frees_21 : decode cX9_frees 21 = .ok (.invokevirtual 199, 3) := by decide +kernel
theorem dX9_frees_24 : decode cX9_frees 24 = .ok (.ireturn, 1) := by decide +kernel
theorem dX9_free_0 : decode cX9_free 0 = .ok (.iload_n 1, 1) := by decide +kernel
theorem dX9_free_1 : decode cX9_free 1 = .ok (.iload_n 2, 1) := by decide +kernel
theorem dX9_free_2 : decode cX9_free 2 = .ok (.invokestatic 84, 3) := by decide +kernel
theorem dX9_free_5 : decode cX9_free 5 = .ok (.ifCond .eq 24, 3) := by decide +kernel
theorem dX9_free_8 : decode cX9_free 8 = .ok (.iload_n 3, 1) := by decide +kernel
theorem dX9_free_9 : decode cX9_free 9 = .ok (.ifCond .lt 20, 3) := by decide +kernel
theorem dX9_free_12 : decode cX9_free 12 = .ok (.iload_n 3, 1) := by decide +kernel
theorem dX9_free_13 : decode cX9_free 13 = .ok (.bipush 48, 2) := by decide +kernel
theorem dX9_free_15 : decode cX9_free 15 = .ok (.if_icmp .gt 14, 3) := by decide +kernel
theorem dX9_free_18 : decode cX9_free 18 = .ok (.iload 4, 2) := by decide +kernel
theorem dX9_free_20 : decode cX9_free 20 = .ok (.ifCond .lt 9, 3) := by decide +kernel
theorem dX9_free_23 : decode cX9_free 23 = .ok (.iload 4, 2) := by decide +kernel
theorem dX9_free_25 : decode cX9_free 25 = .ok (.iconst 1, 1) := by decide +kernel
theorem dX9_free_26 : decode cX9_free 26 = .ok (.if_icmp .le 6, 3) := by decide +kernel
theorem dX9_free_29 : decode cX9_free 29 = .ok (.ldc 144, 2) := by decide +kernel
theorem dX9_free_31 : decode cX9_free 31 = .ok (.ireturn, 1) := by decide +kernel
theorem dX9_free_32 : decode cX9_free 32 = .ok (.aload_n 0, 1) := by decide +kernel
theorem dX9_free_33 : decode cX9_free 33 = .ok (.invokevirtual 151, 3) := by decide +kernel
theorem dX9_free_36 : decode cX9_free 36 = .ok (.aload_n 0, 1) := by decide +kernel
theorem dX9_free_37 : decode cX9_free 37 = .ok (.getfield 33, 3) := by decide +kernel
theorem dX9_free_40 : decode cX9_free 40 = .ok (.iload_n 1, 1) := by decide +kernel
theorem dX9_free_41 : decode cX9_free 41 = .ok (.iload_n 2, 1) := by decide +kernel
theorem dX9_free_42 : decode cX9_free 42 = .ok (.iload_n 3, 1) := by decide +kernel
theorem dX9_free_43 : decode cX9_free 43 = .ok (.invokevirtual 202, 3) := by decide +kernel
theorem dX9_free_46 : decode cX9_free 46 = .ok (.istore 5, 2) := by decide +kernel
theorem dX9_free_48 : decode cX9_free 48 = .ok (.iload 5, 2) := by decide +kernel
theorem dX9_free_50 : decode cX9_free 50 = .ok (.iconst (-1), 1) := by decide +kernel
theorem dX9_free_51 : decode cX9_free 51 = .ok (.if_icmp .ne 6, 3) := by decide +kernel
theorem dX9_free_54 : decode cX9_free 54 = .ok (.ldc 144, 2) := by decide +kernel
theorem dX9_free_56 : decode cX9_free 56 = .ok (.ireturn, 1) := by decide +kernel
theorem dX9_free_57 : decode cX9_free 57 = .ok (.iload 4, 2) := by decide +kernel
theorem dX9_free_59 : decode cX9_free 59 = .ok (.ifCond .ne 20, 3) := by decide +kernel
theorem dX9_free_62 : decode cX9_free 62 = .ok (.aload_n 0, 1) := by decide +kernel
theorem dX9_free_63 : decode cX9_free 63 = .ok (.getfield 33, 3) := by decide +kernel
theorem dX9_free_66 : decode cX9_free 66 = .ok (.getfield 205, 3) := by decide +kernel
theorem dX9_free_69 : decode cX9_free 69 = .ok (.iload 5, 2) := by decide +kernel
theorem dX9_free_71 : decode cX9_free 71 = .ok (.iaload, 1) := by decide +kernel
theorem dX9_free_72 : decode cX9_free 72 = .ok (.iload_n 1, 1) := by decide +kernel
theorem dX9_free_73 : decode cX9_free 73 = .ok (.invokestatic 208, 3) := by decide +kernel
theorem dX9_free_76 : decode cX9_free 76 = .ok (.goto 17, 3) := by decide +kernel
theorem dX9_free_79 : decode cX9_free 79 = .ok (.aload_n 0, 1) := by decide +kernel
theorem dX9_free_80 : decode cX9_free 80 = .ok (.getfield 33, 3) := by decide +kernel
theorem dX9_free_83 : decode cX9_free 83 = .ok (.getfield 213, 3) := by decide +kernel
theorem dX9_free_86 : decode cX9_free 86 = .ok (.iload 5, 2) := by decide +kernel
theorem dX9_free_88 : decode cX9_free 88 = .ok (.iaload, 1) := by decide +kernel
theorem dX9_free_89 : decode cX9_free 89 = .ok (.iload_n 2, 1) := by decide +kernel
theorem dX9_free_90 : decode cX9_free 90 = .ok (.invokestatic 216, 3) := by decide +kernel
theorem dX9_free_93 : decode cX9_free 93 = .ok (.ireturn, 1) := by decide +kernel
theorem dX9_place_0 : decode cX9_place 0 = .ok (.iload_n 1, 1) := by decide +kernel
theorem dX9_place_1 : decode cX9_place 1 = .ok (.invokestatic 193, 3) := by decide +kernel
theorem dX9_place_4 : decode cX9_place 4 = .ok (.ifCond .eq 23, 3) := by decide +kernel
theorem dX9_place_7 : decode cX9_place 7 = .ok (.iload_n 2, 1) := by decide +kernel
theorem dX9_place_8 : decode cX9_place 8 = .ok (.iconst 1, 1) := by decide +kernel
theorem dX9_place_9 : decode cX9_place 9 = .ok (.if_icmp .lt 18, 3) := by decide +kernel
theorem dX9_place_12 : decode cX9_place 12 = .ok (.iload_n 2, 1) := by decide +kernel
theorem dX9_place_13 : decode cX9_place 13 = .ok (.ldc 219, 2) := by decide +kernel
theorem dX9_place_15 : decode cX9_place 15 = .ok (.if_icmp .gt 12, 3) := by decide +kernel
theorem dX9_place_18 : decode cX9_place 18 = .ok (.iload_n 3, 1) := by decide +kernel
theorem dX9_place_19 : decode cX9_place 19 = .ok (.ifCond .lt 8, 3) := by decide +kernel
theorem dX9_place_22 : decode cX9_place 22 = .ok (.iload_n 3, 1) := by decide +kernel
theorem dX9_place_23 : decode cX9_place 23 = .ok (.iconst 2, 1) := by decide +kernel
theorem dX9_place_24 : decode cX9_place 24 = .ok (.if_icmp .le 6, 3) := by decide +kernel
theorem dX9_place_27 : decode cX9_place 27 = .ok (.ldc 144, 2) := by decide +kernel
theorem dX9_place_29 : decode cX9_place 29 = .ok (.ireturn, 1) := by decide +kernel
theorem dX9_place_30 : decode cX9_place 30 = .ok (.aload_n 0, 1) := by decide +kernel
theorem dX9_place_31 : decode cX9_place 31 = .ok (.invokevirtual 151, 3) := by decide +kernel
theorem dX9_place_34 : decode cX9_place 34 = .ok (.iload_n 3, 1) := by decide +kernel
theorem dX9_place_35 : decode cX9_place 35 = .ok (.lookupswitch 45 #[(0, 25), (1, 35)], 25) := by decide +kernel
theorem dX9_place_60 : decode cX9_place 60 = .ok (.aload_n 0, 1) := by decide +kernel
theorem dX9_place_61 : decode cX9_place 61 = .ok (.getfield 33, 3) := by decide +kernel
theorem dX9_place_64 : decode cX9_place 64 = .ok (.iload_n 1, 1) := by decide +kernel
theorem dX9_place_65 : decode cX9_place 65 = .ok (.iload_n 2, 1) := by decide +kernel
theorem dX9_place_66 : decode cX9_place 66 = .ok (.invokevirtual 220, 3) := by decide +kernel
theorem dX9_place_69 : decode cX9_place 69 = .ok (.ireturn, 1) := by decide +kernel
theorem dX9_place_70 : decode cX9_place 70 = .ok (.aload_n 0, 1) := by decide +kernel
theorem dX9_place_71 : decode cX9_place 71 = .ok (.getfield 33, 3) := by decide +kernel
theorem dX9_place_74 : decode cX9_place 74 = .ok (.iload_n 1, 1) := by decide +kernel
theorem dX9_place_75 : decode cX9_place 75 = .ok (.iload_n 2, 1) := by decide +kernel
theorem dX9_place_76 : decode cX9_place 76 = .ok (.invokevirtual 223, 3) := by decide +kernel
theorem dX9_place_79 : decode cX9_place 79 = .ok (.ireturn, 1) := by decide +kernel
theorem dX9_place_80 : decode cX9_place 80 = .ok (.aload_n 0, 1) := by decide +kernel
theorem dX9_place_81 : decode cX9_place 81 = .ok (.getfield 33, 3) := by decide +kernel
theorem dX9_place_84 : decode cX9_place 84 = .ok (.iload_n 1, 1) := by decide +kernel
theorem dX9_place_85 : decode cX9_place 85 = .ok (.iload_n 2, 1) := by decide +kernel
theorem dX9_place_86 : decode cX9_place 86 = .ok (.invokevirtual 226, 3) := by decide +kernel
theorem dX9_place_89 : decode cX9_place 89 = .ok (.ireturn, 1) := by decide +kernel
theorem dX9_deep_0 : decode cX9_deep 0 = .ok (.aload_n 0, 1) := by decide +kernel
theorem dX9_deep_1 : decode cX9_deep 1 = .ok (.invokevirtual 151, 3) := by decide +kernel
theorem dX9_deep_4 : decode cX9_deep 4 = .ok (.aload_n 0, 1) := by decide +kernel
theorem dX9_deep_5 : decode cX9_deep 5 = .ok (.getfield 40, 3) := by decide +kernel
theorem dX9_deep_8 : decode cX9_deep 8 = .ok (.getfield 229, 3) := by decide +kernel
theorem dX9_deep_11 : decode cX9_deep 11 = .ok (.ireturn, 1) := by decide +kernel
theorem dX9_point_0 : decode cX9_point 0 = .ok (.aload_n 0, 1) := by decide +kernel
theorem dX9_point_1 : decode cX9_point 1 = .ok (.invokevirtual 151, 3) := by decide +kernel
theorem dX9_point_4 : decode cX9_point 4 = .ok (.aload_n 0, 1) := by decide +kernel
theorem dX9_point_5 : decode cX9_point 5 = .ok (.getfield 40, 3) := by decide +kernel
theorem dX9_point_8 : decode cX9_point 8 = .ok (.getfield 232, 3) := by decide +kernel
theorem dX9_point_11 : decode cX9_point 11 = .ok (.ireturn, 1) := by decide +kernel
theorem dX9_room_0 : decode cX9_room 0 = .ok (.iload_n 1, 1) := by decide +kernel
theorem dX9_room_1 : decode cX9_room 1 = .ok (.invokestatic 182, 3) := by decide +kernel
theorem dX9_room_4 : decode cX9_room 4 = .ok (.ifCond .ne 6, 3) := by decide +kernel
theorem dX9_room_7 : decode cX9_room 7 = .ok (.bipush (-2), 2) := by decide +kernel
theorem dX9_room_9 : decode cX9_room 9 = .ok (.ireturn, 1) := by decide +kernel
theorem dX9_room_10 : decode cX9_room 10 = .ok (.iload_n 1, 1) := by decide +kernel
theorem dX9_room_11 : decode cX9_room 11 = .ok (.iconst (-1), 1) := by decide +kernel
theorem dX9_room_12 : decode cX9_room 12 = .ok (.if_icmp .eq 18, 3) := by decide +kernel
theorem dX9_room_15 : decode cX9_room 15 = .ok (.aload_n 0, 1) := by decide +kernel
theorem dX9_room_16 : decode cX9_room 16 = .ok (.getfield 12, 3) := by decide +kernel
theorem dX9_room_19 : decode cX9_room 19 = .ok (.getfield 88, 3) := by decide +kernel
theorem dX9_room_22 : decode cX9_room 22 = .ok (.iload_n 1, 1) := by decide +kernel
theorem dX9_room_23 : decode cX9_room 23 = .ok (.baload, 1) := by decide +kernel
theorem dX9_room_24 : decode cX9_room 24 = .ok (.ifCond .ne 6, 3) := by decide +kernel
theorem dX9_room_27 : decode cX9_room 27 = .ok (.bipush (-3), 2) := by decide +kernel
theorem dX9_room_29 : decode cX9_room 29 = .ok (.ireturn, 1) := by decide +kernel
theorem dX9_room_30 : decode cX9_room 30 = .ok (.aload_n 0, 1) := by decide +kernel
theorem dX9_room_31 : decode cX9_room 31 = .ok (.invokevirtual 151, 3) := by decide +kernel
theorem dX9_room_34 : decode cX9_room 34 = .ok (.iload_n 1, 1) := by decide +kernel
theorem dX9_room_35 : decode cX9_room 35 = .ok (.iconst (-1), 1) := by decide +kernel
theorem dX9_room_36 : decode cX9_room 36 = .ok (.if_icmp .ne 13, 3) := by decide +kernel
theorem dX9_room_39 : decode cX9_room 39 = .ok (.aload_n 0, 1) := by decide +kernel
theorem dX9_room_40 : decode cX9_room 40 = .ok (.getfield 40, 3) := by decide +kernel
theorem dX9_room_43 : decode cX9_room 43 = .ok (.getfield 235, 3) := by decide +kernel
theorem dX9_room_46 : decode cX9_room 46 = .ok (.goto 12, 3) := by decide +kernel
theorem dX9_room_49 : decode cX9_room 49 = .ok (.aload_n 0, 1) := by decide +kernel
theorem dX9_room_50 : decode cX9_room 50 = .ok (.getfield 40, 3) := by decide +kernel
theorem dX9_room_53 : decode cX9_room 53 = .ok (.getfield 236, 3) := by decide +kernel
theorem dX9_room_56 : decode cX9_room 56 = .ok (.iload_n 1, 1) := by decide +kernel
theorem dX9_room_57 : decode cX9_room 57 = .ok (.iaload, 1) := by decide +kernel
theorem dX9_room_58 : decode cX9_room 58 = .ok (.ireturn, 1) := by decide +kernel
theorem dX9_keep_0 : decode cX9_keep 0 = .ok (.iload_n 1, 1) := by decide +kernel
theorem dX9_keep_1 : decode cX9_keep 1 = .ok (.invokestatic 182, 3) := by decide +kernel
theorem dX9_keep_4 : decode cX9_keep 4 = .ok (.ifCond .ne 6, 3) := by decide +kernel
theorem dX9_keep_7 : decode cX9_keep 7 = .ok (.bipush (-2), 2) := by decide +kernel
theorem dX9_keep_9 : decode cX9_keep 9 = .ok (.ireturn, 1) := by decide +kernel
theorem dX9_keep_10 : decode cX9_keep 10 = .ok (.aload_n 0, 1) := by decide +kernel
theorem dX9_keep_11 : decode cX9_keep 11 = .ok (.invokevirtual 151, 3) := by decide +kernel
theorem dX9_keep_14 : decode cX9_keep 14 = .ok (.iload_n 1, 1) := by decide +kernel
theorem dX9_keep_15 : decode cX9_keep 15 = .ok (.iconst (-1), 1) := by decide +kernel
theorem dX9_keep_16 : decode cX9_keep 16 = .ok (.if_icmp .ne 11, 3) := by decide +kernel
theorem dX9_keep_19 : decode cX9_keep 19 = .ok (.aload_n 0, 1) := by decide +kernel
theorem dX9_keep_20 : decode cX9_keep 20 = .ok (.getfield 47, 3) := by decide +kernel
theorem dX9_keep_23 : decode cX9_keep 23 = .ok (.getfield 239, 3) := by decide +kernel
theorem dX9_keep_26 : decode cX9_keep 26 = .ok (.ireturn, 1) := by decide +kernel
theorem dX9_keep_27 : decode cX9_keep 27 = .ok (.iload_n 1, 1) := by decide +kernel
theorem dX9_keep_28 : decode cX9_keep 28 = .ok (.aload_n 0, 1) := by decide +kernel
theorem dX9_keep_29 : decode cX9_keep 29 = .ok (.getfield 47, 3) := by decide +kernel
theorem dX9_keep_32 : decode cX9_keep 32 = .ok (.getfield 239, 3) := by decide +kernel
theorem dX9_keep_35 : decode cX9_keep 35 = .ok (.if_icmp .ge 15, 3) := by decide +kernel
theorem dX9_keep_38 : decode cX9_keep 38 = .ok (.aload_n 0, 1) := by decide +kernel
theorem dX9_keep_39 : decode cX9_keep 39 = .ok (.getfield 47, 3) := by decide +kernel
theorem dX9_keep_42 : decode cX9_keep 42 = .ok (.getfield 240, 3) := by decide +kernel
theorem dX9_keep_45 : decode cX9_keep 45 = .ok (.iload_n 1, 1) := by decide +kernel
theorem dX9_keep_46 : decode cX9_keep 46 = .ok (.iaload, 1) := by decide +kernel
theorem dX9_keep_47 : decode cX9_keep 47 = .ok (.goto 4, 3) := by decide +kernel
theorem dX9_keep_50 : decode cX9_keep 50 = .ok (.iconst (-1), 1) := by decide +kernel
theorem dX9_keep_51 : decode cX9_keep 51 = .ok (.ireturn, 1) := by decide +kernel
theorem dX9_clashes_0 : decode cX9_clashes 0 = .ok (.aload_n 0, 1) := by decide +kernel
theorem dX9_clashes_1 : decode cX9_clashes 1 = .ok (.invokevirtual 151, 3) := by decide +kernel
theorem dX9_clashes_4 : decode cX9_clashes 4 = .ok (.aload_n 0, 1) := by decide +kernel
theorem dX9_clashes_5 : decode cX9_clashes 5 = .ok (.getfield 54, 3) := by decide +kernel
theorem dX9_clashes_8 : decode cX9_clashes 8 = .ok (.getfield 243, 3) := by decide +kernel
theorem dX9_clashes_11 : decode cX9_clashes 11 = .ok (.ireturn, 1) := by decide +kernel
theorem dX9_clash_0 : decode cX9_clash 0 = .ok (.iload_n 1, 1) := by decide +kernel
theorem dX9_clash_1 : decode cX9_clash 1 = .ok (.ifCond .lt 19, 3) := by decide +kernel
theorem dX9_clash_4 : decode cX9_clash 4 = .ok (.iload_n 1, 1) := by decide +kernel
theorem dX9_clash_5 : decode cX9_clash 5 = .ok (.sipush 1128, 3) := by decide +kernel
theorem dX9_clash_8 : decode cX9_clash 8 = .ok (.if_icmp .ge 12, 3) := by decide +kernel
theorem dX9_clash_11 : decode cX9_clash 11 = .ok (.iload_n 2, 1) := by decide +kernel
theorem dX9_clash_12 : decode cX9_clash 12 = .ok (.ifCond .lt 8, 3) := by decide +kernel
theorem dX9_clash_15 : decode cX9_clash 15 = .ok (.iload_n 2, 1) := by decide +kernel
theorem dX9_clash_16 : decode cX9_clash 16 = .ok (.iconst 2, 1) := by decide +kernel
theorem dX9_clash_17 : decode cX9_clash 17 = .ok (.if_icmp .le 6, 3) := by decide +kernel
theorem dX9_clash_20 : decode cX9_clash 20 = .ok (.bipush (-2), 2) := by decide +kernel
theorem dX9_clash_22 : decode cX9_clash 22 = .ok (.ireturn, 1) := by decide +kernel
theorem dX9_clash_23 : decode cX9_clash 23 = .ok (.aload_n 0, 1) := by decide +kernel
theorem dX9_clash_24 : decode cX9_clash 24 = .ok (.invokevirtual 151, 3) := by decide +kernel
theorem dX9_clash_27 : decode cX9_clash 27 = .ok (.aload_n 0, 1) := by decide +kernel
theorem dX9_clash_28 : decode cX9_clash 28 = .ok (.getfield 54, 3) := by decide +kernel
theorem dX9_clash_31 : decode cX9_clash 31 = .ok (.iload_n 1, 1) := by decide +kernel
theorem dX9_clash_32 : decode cX9_clash 32 = .ok (.aload_n 0, 1) := by decide +kernel
theorem dX9_clash_33 : decode cX9_clash 33 = .ok (.getfield 12, 3) := by decide +kernel
theorem dX9_clash_36 : decode cX9_clash 36 = .ok (.getfield 96, 3) := by decide +kernel
theorem dX9_clash_39 : decode cX9_clash 39 = .ok (.invokevirtual 244, 3) := by decide +kernel
theorem dX9_clash_42 : decode cX9_clash 42 = .ok (.istore_n 3, 1) := by decide +kernel
theorem dX9_clash_43 : decode cX9_clash 43 = .ok (.iload_n 3, 1) := by decide +kernel
theorem dX9_clash_44 : decode cX9_clash 44 = .ok (.iconst (-1), 1) := by decide +kernel
theorem dX9_clash_45 : decode cX9_clash 45 = .ok (.if_icmp .ne 5, 3) := by decide +kernel
theorem dX9_clash_48 : decode cX9_clash 48 = .ok (.iconst (-1), 1) := by decide +kernel
theorem dX9_clash_49 : decode cX9_clash 49 = .ok (.ireturn, 1) := by decide +kernel
theorem dX9_clash_50 : decode cX9_clash 50 = .ok (.iload_n 3, 1) := by decide +kernel
theorem dX9_clash_51 : decode cX9_clash 51 = .ok (.iconst 1, 1) := by decide +kernel
theorem dX9_clash_52 : decode cX9_clash 52 = .ok (.iadd, 1) := by decide +kernel
theorem dX9_clash_53 : decode cX9_clash 53 = .ok (.iload_n 1, 1) := by decide +kernel
theorem dX9_clash_54 : decode cX9_clash 54 = .ok (.iadd, 1) := by decide +kernel
theorem dX9_clash_55 : decode cX9_clash 55 = .ok (.aload_n 0, 1) := by decide +kernel
theorem dX9_clash_56 : decode cX9_clash 56 = .ok (.getfield 54, 3) := by decide +kernel
theorem dX9_clash_59 : decode cX9_clash 59 = .ok (.getfield 247, 3) := by decide +kernel
theorem dX9_clash_62 : decode cX9_clash 62 = .ok (.iload_n 3, 1) := by decide +kernel
theorem dX9_clash_63 : decode cX9_clash 63 = .ok (.iaload, 1) := by decide +kernel
theorem dX9_clash_64 : decode cX9_clash 64 = .ok (.isub, 1) := by decide +kernel
theorem dX9_clash_65 : decode cX9_clash 65 = .ok (.istore 4, 2) := by decide +kernel
theorem dX9_clash_67 : decode cX9_clash 67 = .ok (.iload_n 2, 1) := by decide +kernel
theorem dX9_clash_68 : decode cX9_clash 68 = .ok (.lookupswitch 49 #[(0, 28), (1, 38)], 28) := by decide +kernel
theorem dX9_clash_96 : decode cX9_clash 96 = .ok (.aload_n 0, 1) := by decide +kernel
theorem dX9_clash_97 : decode cX9_clash 97 = .ok (.getfield 12, 3) := by decide +kernel
theorem dX9_clash_100 : decode cX9_clash 100 = .ok (.getfield 148, 3) := by decide +kernel
theorem dX9_clash_103 : decode cX9_clash 103 = .ok (.iload_n 3, 1) := by decide +kernel
theorem dX9_clash_104 : decode cX9_clash 104 = .ok (.iaload, 1) := by decide +kernel
theorem dX9_clash_105 : decode cX9_clash 105 = .ok (.ireturn, 1) := by decide +kernel
theorem dX9_clash_106 : decode cX9_clash 106 = .ok (.aload_n 0, 1) := by decide +kernel
theorem dX9_clash_107 : decode cX9_clash 107 = .ok (.getfield 12, 3) := by decide +kernel
theorem dX9_clash_110 : decode cX9_clash 110 = .ok (.getfield 148, 3) := by decide +kernel
theorem dX9_clash_113 : decode cX9_clash 113 = .ok (.iload 4, 2) := by decide +kernel
theorem dX9_clash_115 : decode cX9_clash 115 = .ok (.iaload, 1) := by decide +kernel
theorem dX9_clash_116 : decode cX9_clash 116 = .ok (.ireturn, 1) := by decide +kernel
theorem dX9_clash_117 : decode cX9_clash 117 = .ok (.aload_n 0, 1) := by decide +kernel
theorem dX9_clash_118 : decode cX9_clash 118 = .ok (.getfield 12, 3) := by decide +kernel
theorem dX9_clash_121 : decode cX9_clash 121 = .ok (.iload_n 3, 1) := by decide +kernel
theorem dX9_clash_122 : decode cX9_clash 122 = .ok (.iload 4, 2) := by decide +kernel
theorem dX9_clash_124 : decode cX9_clash 124 = .ok (.invokevirtual 250, 3) := by decide +kernel
theorem dX9_clash_127 : decode cX9_clash 127 = .ok (.ireturn, 1) := by decide +kernel
theorem dX9_alone_0 : decode cX9_alone 0 = .ok (.aload_n 0, 1) := by decide +kernel
theorem dX9_alone_1 : decode cX9_alone 1 = .ok (.invokevirtual 151, 3) := by decide +kernel
theorem dX9_alone_4 : decode cX9_alone 4 = .ok (.aload_n 0, 1) := by decide +kernel
theorem dX9_alone_5 : decode cX9_alone 5 = .ok (.getfield 61, 3) := by decide +kernel
theorem dX9_alone_8 : decode cX9_alone 8 = .ok (.getfield 253, 3) := by decide +kernel
theorem dX9_alone_11 : decode cX9_alone 11 = .ok (.lreturn, 1) := by decide +kernel
theorem dX9_group_0 : decode cX9_group 0 = .ok (.iload_n 1, 1) := by decide +kernel
theorem dX9_group_1 : decode cX9_group 1 = .ok (.invokestatic 182, 3) := by decide +kernel
theorem dX9_group_4 : decode cX9_group 4 = .ok (.ifCond .eq 12, 3) := by decide +kernel
theorem dX9_group_7 : decode cX9_group 7 = .ok (.iload_n 2, 1) := by decide +kernel
theorem dX9_group_8 : decode cX9_group 8 = .ok (.ifCond .lt 8, 3) := by decide +kernel
theorem dX9_group_11 : decode cX9_group 11 = .ok (.iload_n 2, 1) := by decide +kernel
theorem dX9_group_12 : decode cX9_group 12 = .ok (.iconst 1, 1) := by decide +kernel
theorem dX9_group_13 : decode cX9_group 13 = .ok (.if_icmp .le 6, 3) := by decide +kernel
theorem dX9_group_16 : decode cX9_group 16 = .ok (.bipush (-2), 2) := by decide +kernel
theorem dX9_group_18 : decode cX9_group 18 = .ok (.ireturn, 1) := by decide +kernel
theorem dX9_group_19 : decode cX9_group 19 = .ok (.iload_n 1, 1) := by decide +kernel
theorem dX9_group_20 : decode cX9_group 20 = .ok (.iconst (-1), 1) := by decide +kernel
theorem dX9_group_21 : decode cX9_group 21 = .ok (.if_icmp .eq 18, 3) := by decide +kernel
theorem dX9_group_24 : decode cX9_group 24 = .ok (.aload_n 0, 1) := by decide +kernel
theorem dX9_group_25 : decode cX9_group 25 = .ok (.getfield 12, 3) := by decide +kernel
theorem dX9_group_28 : decode cX9_group 28 = .ok (.getfield 88, 3) := by decide +kernel
theorem dX9_group_31 : decode cX9_group 31 = .ok (.iload_n 1, 1) := by decide +kernel
theorem dX9_group_32 : decode cX9_group 32 = .ok (.baload, 1) := by decide +kernel
theorem dX9_group_33 : decode cX9_group 33 = .ok (.ifCond .ne 6, 3) := by decide +kernel
theorem dX9_group_36 : decode cX9_group 36 = .ok (.bipush (-3), 2) := by decide +kernel
theorem dX9_group_38 : decode cX9_group 38 = .ok (.ireturn, 1) := by decide +kernel
theorem dX9_group_39 : decode cX9_group 39 = .ok (.aload_n 0, 1) := by decide +kernel
theorem dX9_group_40 : decode cX9_group 40 = .ok (.invokevirtual 151, 3) := by decide +kernel
theorem dX9_group_43 : decode cX9_group 43 = .ok (.iload_n 1, 1) := by decide +kernel
theorem dX9_group_44 : decode cX9_group 44 = .ok (.iconst (-1), 1) := by decide +kernel
theorem dX9_group_45 : decode cX9_group 45 = .ok (.if_icmp .ne 11, 3) := by decide +kernel
theorem dX9_group_48 : decode cX9_group 48 = .ok (.aload_n 0, 1) := by decide +kernel
theorem dX9_group_49 : decode cX9_group 49 = .ok (.getfield 61, 3) := by decide +kernel
theorem dX9_group_52 : decode cX9_group 52 = .ok (.getfield 257, 3) := by decide +kernel
theorem dX9_group_55 : decode cX9_group 55 = .ok (.ireturn, 1) := by decide +kernel
theorem dX9_group_56 : decode cX9_group 56 = .ok (.aload_n 0, 1) := by decide +kernel
theorem dX9_group_57 : decode cX9_group 57 = .ok (.getfield 61, 3) := by decide +kernel
theorem dX9_group_60 : decode cX9_group 60 = .ok (.getfield 258, 3) := by decide +kernel
theorem dX9_group_63 : decode cX9_group 63 = .ok (.iload_n 1, 1) := by decide +kernel
theorem dX9_group_64 : decode cX9_group 64 = .ok (.iaload, 1) := by decide +kernel
theorem dX9_group_65 : decode cX9_group 65 = .ok (.istore_n 3, 1) := by decide +kernel
theorem dX9_group_66 : decode cX9_group 66 = .ok (.iload_n 2, 1) := by decide +kernel
theorem dX9_group_67 : decode cX9_group 67 = .ok (.ifCond .ne 15, 3) := by decide +kernel
theorem dX9_group_70 : decode cX9_group 70 = .ok (.aload_n 0, 1) := by decide +kernel
theorem dX9_group_71 : decode cX9_group 71 = .ok (.getfield 61, 3) := by decide +kernel
theorem dX9_group_74 : decode cX9_group 74 = .ok (.getfield 261, 3) := by decide +kernel
theorem dX9_group_77 : decode cX9_group 77 = .ok (.iload_n 3, 1) := by decide +kernel
theorem dX9_group_78 : decode cX9_group 78 = .ok (.iaload, 1) := by decide +kernel
theorem dX9_group_79 : decode cX9_group 79 = .ok (.goto 12, 3) := by decide +kernel
theorem dX9_group_82 : decode cX9_group 82 = .ok (.aload_n 0, 1) := by decide +kernel
theorem dX9_group_83 : decode cX9_group 83 = .ok (.getfield 61, 3) := by decide +kernel
theorem dX9_group_86 : decode cX9_group 86 = .ok (.getfield 264, 3) := by decide +kernel
theorem dX9_group_89 : decode cX9_group 89 = .ok (.iload_n 3, 1) := by decide +kernel
theorem dX9_group_90 : decode cX9_group 90 = .ok (.iaload, 1) := by decide +kernel
theorem dX9_group_91 : decode cX9_group 91 = .ok (.ireturn, 1) := by decide +kernel
theorem dX9_sheet_0 : decode cX9_sheet 0 = .ok (.iload_n 1, 1) := by decide +kernel
theorem dX9_sheet_1 : decode cX9_sheet 1 = .ok (.invokestatic 124, 3) := by decide +kernel
theorem dX9_sheet_4 : decode cX9_sheet 4 = .ok (.ifCond .eq 16, 3) := by decide +kernel
theorem dX9_sheet_7 : decode cX9_sheet 7 = .ok (.iload_n 2, 1) := by decide +kernel
theorem dX9_sheet_8 : decode cX9_sheet 8 = .ok (.invokestatic 265, 3) := by decide +kernel
theorem dX9_sheet_11 : decode cX9_sheet 11 = .ok (.ifCond .eq 9, 3) := by decide +kernel
theorem dX9_sheet_14 : decode cX9_sheet 14 = .ok (.iload_n 3, 1) := by decide +kernel
theorem dX9_sheet_15 : decode cX9_sheet 15 = .ok (.bipush 60, 2) := by decide +kernel
theorem dX9_sheet_17 : decode cX9_sheet 17 = .ok (.if_icmp .le 6, 3) := by decide +kernel
theorem dX9_sheet_20 : decode cX9_sheet 20 = .ok (.bipush (-2), 2) := by decide +kernel
theorem dX9_sheet_22 : decode cX9_sheet 22 = .ok (.ireturn, 1) := by decide +kernel
theorem dX9_sheet_23 : decode cX9_sheet 23 = .ok (.iload_n 3, 1) := by decide +kernel
theorem dX9_sheet_24 : decode cX9_sheet 24 = .ok (.ifCond .ge 9, 3) := by decide +kernel
theorem dX9_sheet_27 : decode cX9_sheet 27 = .ok (.aload_n 0, 1) := by decide +kernel
theorem dX9_sheet_28 : decode cX9_sheet 28 = .ok (.iconst 5, 1) := by decide +kernel
theorem dX9_sheet_29 : decode cX9_sheet 29 = .ok (.invokevirtual 130, 3) := by decide +kernel
theorem dX9_sheet_32 : decode cX9_sheet 32 = .ok (.ireturn, 1) := by decide +kernel
theorem dX9_sheet_33 : decode cX9_sheet 33 = .ok (.aload_n 0, 1) := by decide +kernel
theorem dX9_sheet_34 : decode cX9_sheet 34 = .ok (.getfield 67, 3) := by decide +kernel
theorem dX9_sheet_37 : decode cX9_sheet 37 = .ok (.iload_n 1, 1) := by decide +kernel
theorem dX9_sheet_38 : decode cX9_sheet 38 = .ok (.aaload, 1) := by decide +kernel
theorem dX9_sheet_39 : decode cX9_sheet 39 = .ok (.iload_n 2, 1) := by decide +kernel
theorem dX9_sheet_40 : decode cX9_sheet 40 = .ok (.iload_n 3, 1) := by decide +kernel
theorem dX9_sheet_41 : decode cX9_sheet 41 = .ok (.invokevirtual 268, 3) := by decide +kernel
theorem dX9_sheet_44 : decode cX9_sheet 44 = .ok (.iload_n 3, 1) := by decide +kernel
theorem dX9_sheet_45 : decode cX9_sheet 45 = .ok (.ireturn, 1) := by decide +kernel
theorem dX9_lose_0 : decode cX9_lose 0 = .ok (.iload_n 1, 1) := by decide +kernel
theorem dX9_lose_1 : decode cX9_lose 1 = .ok (.invokestatic 124, 3) := by decide +kernel
theorem dX9_lose_4 : decode cX9_lose 4 = .ok (.ifCond .ne 6, 3) := by decide +kernel
theorem dX9_lose_7 : decode cX9_lose 7 = .ok (.bipush (-2), 2) := by decide +kernel
theorem dX9_lose_9 : decode cX9_lose 9 = .ok (.ireturn, 1) := by decide +kernel
theorem dX9_lose_10 : decode cX9_lose 10 = .ok (.aload_n 0, 1) := by decide +kernel
theorem dX9_lose_11 : decode cX9_lose 11 = .ok (.getfield 67, 3) := by decide +kernel
theorem dX9_lose_14 : decode cX9_lose 14 = .ok (.iload_n 1, 1) := by decide +kernel
theorem dX9_lose_15 : decode cX9_lose 15 = .ok (.aaload, 1) := by decide +kernel
theorem dX9_lose_16 : decode cX9_lose 16 = .ok (.getfield 127, 3) := by decide +kernel
theorem dX9_lose_19 : decode cX9_lose 19 = .ok (.ifCond .eq 9, 3) := by decide +kernel
theorem dX9_lose_22 : decode cX9_lose 22 = .ok (.aload_n 0, 1) := by decide +kernel
theorem dX9_lose_23 : decode cX9_lose 23 = .ok (.iconst 1, 1) := by decide +kernel
theorem dX9_lose_24 : decode cX9_lose 24 = .ok (.invokevirtual 130, 3) := by decide +kernel
theorem dX9_lose_27 : decode cX9_lose 27 = .ok (.ireturn, 1) := by decide +kernel
theorem dX9_lose_28 : decode cX9_lose 28 = .ok (.aload_n 0, 1) := by decide +kernel
theorem dX9_lose_29 : decode cX9_lose 29 = .ok (.getfield 67, 3) := by decide +kernel
theorem dX9_lose_32 : decode cX9_lose 32 = .ok (.iload_n 1, 1) := by decide +kernel
theorem dX9_lose_33 : decode cX9_lose 33 = .ok (.aaload, 1) := by decide +kernel
theorem dX9_lose_34 : decode cX9_lose 34 = .ok (.iconst 1, 1) := by decide +kernel
theorem dX9_lose_35 : decode cX9_lose 35 = .ok (.putfield 127, 3) := by decide +kernel
theorem dX9_lose_38 : decode cX9_lose 38 = .ok (.aload_n 0, 1) := by decide +kernel
theorem dX9_lose_39 : decode cX9_lose 39 = .ok (.getfield 67, 3) := by decide +kernel
theorem dX9_lose_42 : decode cX9_lose 42 = .ok (.iload_n 1, 1) := by decide +kernel
theorem dX9_lose_43 : decode cX9_lose 43 = .ok (.aaload, 1) := by decide +kernel
theorem dX9_lose_44 : decode cX9_lose 44 = .ok (.getfield 134, 3) := by decide +kernel
theorem dX9_lose_47 : decode cX9_lose 47 = .ok (.ireturn, 1) := by decide +kernel
theorem dX9_lay_0 : decode cX9_lay 0 = .ok (.aload_n 0, 1) := by decide +kernel
theorem dX9_lay_1 : decode cX9_lay 1 = .ok (.iload_n 1, 1) := by decide +kernel
theorem dX9_lay_2 : decode cX9_lay 2 = .ok (.iload_n 2, 1) := by decide +kernel
theorem dX9_lay_3 : decode cX9_lay 3 = .ok (.iload_n 3, 1) := by decide +kernel
theorem dX9_lay_4 : decode cX9_lay 4 = .ok (.invokevirtual 272, 3) := by decide +kernel
theorem dX9_lay_7 : decode cX9_lay 7 = .ok (.istore 5, 2) := by decide +kernel
theorem dX9_lay_9 : decode cX9_lay 9 = .ok (.iload 5, 2) := by decide +kernel
theorem dX9_lay_11 : decode cX9_lay 11 = .ok (.ifCond .eq 6, 3) := by decide +kernel
theorem dX9_lay_14 : decode cX9_lay 14 = .ok (.iload 5, 2) := by decide +kernel
theorem dX9_lay_16 : decode cX9_lay 16 = .ok (.ireturn, 1) := by decide +kernel
theorem dX9_lay_17 : decode cX9_lay 17 = .ok (.aload_n 0, 1) := by decide +kernel
theorem dX9_lay_18 : decode cX9_lay 18 = .ok (.getfield 67, 3) := by decide +kernel
theorem dX9_lay_21 : decode cX9_lay 21 = .ok (.iload_n 1, 1) := by decide +kernel
theorem dX9_lay_22 : decode cX9_lay 22 = .ok (.aaload, 1) := by decide +kernel
theorem dX9_lay_23 : decode cX9_lay 23 = .ok (.iload_n 3, 1) := by decide +kernel
end
section
theorem dX9_lay_24 : decode cX9_lay 24 = .ok (.iload 4, 2) := by decide +kernel
theorem dX9_lay_26 : decode cX9_lay 26 = .ok (.invokevirtual 275, 3) := by decide +kernel
theorem dX9_lay_29 : decode cX9_lay 29 = .ok (.iconst 1, 1) := by decide +kernel
theorem dX9_lay_30 : decode cX9_lay 30 = .ok (.ireturn, 1) := by decide +kernel
theorem dX9_get_0 : decode cX9_get 0 = .ok (.aload_n 0, 1) := by decide +kernel
theorem dX9_get_1 : decode cX9_get 1 = .ok (.iload_n 1, 1) := by decide +kernel
theorem dX9_get_2 : decode cX9_get 2 = .ok (.iload_n 2, 1) := by decide +kernel
theorem dX9_get_3 : decode cX9_get 3 = .ok (.iload_n 3, 1) := by decide +kernel
theorem dX9_get_4 : decode cX9_get 4 = .ok (.invokevirtual 272, 3) := by decide +kernel
theorem dX9_get_7 : decode cX9_get 7 = .ok (.ifCond .ne 17, 3) := by decide +kernel
theorem dX9_get_10 : decode cX9_get 10 = .ok (.aload_n 0, 1) := by decide +kernel
theorem dX9_get_11 : decode cX9_get 11 = .ok (.getfield 67, 3) := by decide +kernel
theorem dX9_get_14 : decode cX9_get 14 = .ok (.iload_n 1, 1) := by decide +kernel
theorem dX9_get_15 : decode cX9_get 15 = .ok (.aaload, 1) := by decide +kernel
theorem dX9_get_16 : decode cX9_get 16 = .ok (.getfield 138, 3) := by decide +kernel
theorem dX9_get_19 : decode cX9_get 19 = .ok (.iload_n 3, 1) := by decide +kernel
theorem dX9_get_20 : decode cX9_get 20 = .ok (.iaload, 1) := by decide +kernel
theorem dX9_get_21 : decode cX9_get 21 = .ok (.goto 5, 3) := by decide +kernel
theorem dX9_get_24 : decode cX9_get 24 = .ok (.ldc 144, 2) := by decide +kernel
theorem dX9_get_26 : decode cX9_get 26 = .ok (.ireturn, 1) := by decide +kernel
theorem dX9_copy_0 : decode cX9_copy 0 = .ok (.iload_n 1, 1) := by decide +kernel
theorem dX9_copy_1 : decode cX9_copy 1 = .ok (.invokestatic 124, 3) := by decide +kernel
theorem dX9_copy_4 : decode cX9_copy 4 = .ok (.ifCond .eq 10, 3) := by decide +kernel
theorem dX9_copy_7 : decode cX9_copy 7 = .ok (.iload_n 3, 1) := by decide +kernel
theorem dX9_copy_8 : decode cX9_copy 8 = .ok (.invokestatic 124, 3) := by decide +kernel
theorem dX9_copy_11 : decode cX9_copy 11 = .ok (.ifCond .ne 6, 3) := by decide +kernel
theorem dX9_copy_14 : decode cX9_copy 14 = .ok (.bipush (-2), 2) := by decide +kernel
theorem dX9_copy_16 : decode cX9_copy 16 = .ok (.ireturn, 1) := by decide +kernel
theorem dX9_copy_17 : decode cX9_copy 17 = .ok (.aload_n 0, 1) := by decide +kernel
theorem dX9_copy_18 : decode cX9_copy 18 = .ok (.getfield 67, 3) := by decide +kernel
theorem dX9_copy_21 : decode cX9_copy 21 = .ok (.iload_n 1, 1) := by decide +kernel
theorem dX9_copy_22 : decode cX9_copy 22 = .ok (.aaload, 1) := by decide +kernel
theorem dX9_copy_23 : decode cX9_copy 23 = .ok (.astore 6, 2) := by decide +kernel
theorem dX9_copy_25 : decode cX9_copy 25 = .ok (.aload_n 0, 1) := by decide +kernel
theorem dX9_copy_26 : decode cX9_copy 26 = .ok (.getfield 67, 3) := by decide +kernel
theorem dX9_copy_29 : decode cX9_copy 29 = .ok (.iload_n 3, 1) := by decide +kernel
theorem dX9_copy_30 : decode cX9_copy 30 = .ok (.aaload, 1) := by decide +kernel
theorem dX9_copy_31 : decode cX9_copy 31 = .ok (.astore 7, 2) := by decide +kernel
theorem dX9_copy_33 : decode cX9_copy 33 = .ok (.aload 6, 2) := by decide +kernel
theorem dX9_copy_35 : decode cX9_copy 35 = .ok (.getfield 127, 3) := by decide +kernel
theorem dX9_copy_38 : decode cX9_copy 38 = .ok (.ifCond .ne 11, 3) := by decide +kernel
theorem dX9_copy_41 : decode cX9_copy 41 = .ok (.aload 7, 2) := by decide +kernel
theorem dX9_copy_43 : decode cX9_copy 43 = .ok (.getfield 127, 3) := by decide +kernel
theorem dX9_copy_46 : decode cX9_copy 46 = .ok (.ifCond .eq 9, 3) := by decide +kernel
theorem dX9_copy_49 : decode cX9_copy 49 = .ok (.aload_n 0, 1) := by decide +kernel
theorem dX9_copy_50 : decode cX9_copy 50 = .ok (.iconst 1, 1) := by decide +kernel
theorem dX9_copy_51 : decode cX9_copy 51 = .ok (.invokevirtual 130, 3) := by decide +kernel
theorem dX9_copy_54 : decode cX9_copy 54 = .ok (.ireturn, 1) := by decide +kernel
theorem dX9_copy_55 : decode cX9_copy 55 = .ok (.aload 6, 2) := by decide +kernel
theorem dX9_copy_57 : decode cX9_copy 57 = .ok (.getfield 278, 3) := by decide +kernel
theorem dX9_copy_60 : decode cX9_copy 60 = .ok (.aload 7, 2) := by decide +kernel
theorem dX9_copy_62 : decode cX9_copy 62 = .ok (.getfield 278, 3) := by decide +kernel
theorem dX9_copy_65 : decode cX9_copy 65 = .ok (.if_icmp .eq 9, 3) := by decide +kernel
theorem dX9_copy_68 : decode cX9_copy 68 = .ok (.aload_n 0, 1) := by decide +kernel
theorem dX9_copy_69 : decode cX9_copy 69 = .ok (.iconst 4, 1) := by decide +kernel
theorem dX9_copy_70 : decode cX9_copy 70 = .ok (.invokevirtual 130, 3) := by decide +kernel
theorem dX9_copy_73 : decode cX9_copy 73 = .ok (.ireturn, 1) := by decide +kernel
theorem dX9_copy_74 : decode cX9_copy 74 = .ok (.aload 6, 2) := by decide +kernel
theorem dX9_copy_76 : decode cX9_copy 76 = .ok (.iload_n 2, 1) := by decide +kernel
theorem dX9_copy_77 : decode cX9_copy 77 = .ok (.iload 5, 2) := by decide +kernel
theorem dX9_copy_79 : decode cX9_copy 79 = .ok (.invokevirtual 281, 3) := by decide +kernel
theorem dX9_copy_82 : decode cX9_copy 82 = .ok (.ifCond .eq 15, 3) := by decide +kernel
theorem dX9_copy_85 : decode cX9_copy 85 = .ok (.aload 7, 2) := by decide +kernel
theorem dX9_copy_87 : decode cX9_copy 87 = .ok (.iload 4, 2) := by decide +kernel
theorem dX9_copy_89 : decode cX9_copy 89 = .ok (.iload 5, 2) := by decide +kernel
theorem dX9_copy_91 : decode cX9_copy 91 = .ok (.invokevirtual 281, 3) := by decide +kernel
theorem dX9_copy_94 : decode cX9_copy 94 = .ok (.ifCond .ne 9, 3) := by decide +kernel
theorem dX9_copy_97 : decode cX9_copy 97 = .ok (.aload_n 0, 1) := by decide +kernel
theorem dX9_copy_98 : decode cX9_copy 98 = .ok (.iconst 2, 1) := by decide +kernel
theorem dX9_copy_99 : decode cX9_copy 99 = .ok (.invokevirtual 130, 3) := by decide +kernel
theorem dX9_copy_102 : decode cX9_copy 102 = .ok (.ireturn, 1) := by decide +kernel
theorem dX9_copy_103 : decode cX9_copy 103 = .ok (.aload 6, 2) := by decide +kernel
theorem dX9_copy_105 : decode cX9_copy 105 = .ok (.getfield 138, 3) := by decide +kernel
theorem dX9_copy_108 : decode cX9_copy 108 = .ok (.iload_n 2, 1) := by decide +kernel
theorem dX9_copy_109 : decode cX9_copy 109 = .ok (.aload 7, 2) := by decide +kernel
theorem dX9_copy_111 : decode cX9_copy 111 = .ok (.getfield 138, 3) := by decide +kernel
theorem dX9_copy_114 : decode cX9_copy 114 = .ok (.iload 4, 2) := by decide +kernel
theorem dX9_copy_116 : decode cX9_copy 116 = .ok (.iload 5, 2) := by decide +kernel
theorem dX9_copy_118 : decode cX9_copy 118 = .ok (.invokestatic 284, 3) := by decide +kernel
theorem dX9_copy_121 : decode cX9_copy 121 = .ok (.iconst 1, 1) := by decide +kernel
theorem dX9_copy_122 : decode cX9_copy 122 = .ok (.ireturn, 1) := by decide +kernel
theorem dX9_write_0 : decode cX9_write 0 = .ok (.iload_n 1, 1) := by decide +kernel
theorem dX9_write_1 : decode cX9_write 1 = .ok (.iload_n 2, 1) := by decide +kernel
theorem dX9_write_2 : decode cX9_write 2 = .ok (.invokestatic 84, 3) := by decide +kernel
theorem dX9_write_5 : decode cX9_write 5 = .ok (.ifCond .eq 10, 3) := by decide +kernel
theorem dX9_write_8 : decode cX9_write 8 = .ok (.iload_n 3, 1) := by decide +kernel
theorem dX9_write_9 : decode cX9_write 9 = .ok (.invokestatic 124, 3) := by decide +kernel
theorem dX9_write_12 : decode cX9_write 12 = .ok (.ifCond .ne 6, 3) := by decide +kernel
theorem dX9_write_15 : decode cX9_write 15 = .ok (.bipush (-2), 2) := by decide +kernel
theorem dX9_write_17 : decode cX9_write 17 = .ok (.ireturn, 1) := by decide +kernel
theorem dX9_write_18 : decode cX9_write 18 = .ok (.aload_n 0, 1) := by decide +kernel
theorem dX9_write_19 : decode cX9_write 19 = .ok (.getfield 67, 3) := by decide +kernel
theorem dX9_write_22 : decode cX9_write 22 = .ok (.iload_n 3, 1) := by decide +kernel
theorem dX9_write_23 : decode cX9_write 23 = .ok (.aaload, 1) := by decide +kernel
theorem dX9_write_24 : decode cX9_write 24 = .ok (.astore 4, 2) := by decide +kernel
theorem dX9_write_26 : decode cX9_write 26 = .ok (.aload 4, 2) := by decide +kernel
theorem dX9_write_28 : decode cX9_write 28 = .ok (.getfield 127, 3) := by decide +kernel
theorem dX9_write_31 : decode cX9_write 31 = .ok (.ifCond .eq 9, 3) := by decide +kernel
theorem dX9_write_34 : decode cX9_write 34 = .ok (.aload_n 0, 1) := by decide +kernel
theorem dX9_write_35 : decode cX9_write 35 = .ok (.iconst 1, 1) := by decide +kernel
theorem dX9_write_36 : decode cX9_write 36 = .ok (.invokevirtual 130, 3) := by decide +kernel
theorem dX9_write_39 : decode cX9_write 39 = .ok (.ireturn, 1) := by decide +kernel
theorem dX9_write_40 : decode cX9_write 40 = .ok (.iconst 0, 1) := by decide +kernel
theorem dX9_write_41 : decode cX9_write 41 = .ok (.istore 5, 2) := by decide +kernel
theorem dX9_write_43 : decode cX9_write 43 = .ok (.iconst 0, 1) := by decide +kernel
theorem dX9_write_44 : decode cX9_write 44 = .ok (.istore 6, 2) := by decide +kernel
theorem dX9_write_46 : decode cX9_write 46 = .ok (.iload 6, 2) := by decide +kernel
theorem dX9_write_48 : decode cX9_write 48 = .ok (.aload_n 0, 1) := by decide +kernel
theorem dX9_write_49 : decode cX9_write 49 = .ok (.getfield 12, 3) := by decide +kernel
theorem dX9_write_52 : decode cX9_write 52 = .ok (.getfield 96, 3) := by decide +kernel
theorem dX9_write_55 : decode cX9_write 55 = .ok (.if_icmp .ge 57, 3) := by decide +kernel
theorem dX9_write_58 : decode cX9_write 58 = .ok (.iload 5, 2) := by decide +kernel
theorem dX9_write_60 : decode cX9_write 60 = .ok (.aload 4, 2) := by decide +kernel
theorem dX9_write_62 : decode cX9_write 62 = .ok (.getfield 134, 3) := by decide +kernel
theorem dX9_write_65 : decode cX9_write 65 = .ok (.if_icmp .ge 47, 3) := by decide +kernel
theorem dX9_write_68 : decode cX9_write 68 = .ok (.aload_n 0, 1) := by decide +kernel
theorem dX9_write_69 : decode cX9_write 69 = .ok (.getfield 12, 3) := by decide +kernel
theorem dX9_write_72 : decode cX9_write 72 = .ok (.getfield 148, 3) := by decide +kernel
theorem dX9_write_75 : decode cX9_write 75 = .ok (.iload 6, 2) := by decide +kernel
theorem dX9_write_77 : decode cX9_write 77 = .ok (.iaload, 1) := by decide +kernel
theorem dX9_write_78 : decode cX9_write 78 = .ok (.istore 7, 2) := by decide +kernel
theorem dX9_write_80 : decode cX9_write 80 = .ok (.aload_n 0, 1) := by decide +kernel
theorem dX9_write_81 : decode cX9_write 81 = .ok (.getfield 12, 3) := by decide +kernel
theorem dX9_write_84 : decode cX9_write 84 = .ok (.iload 7, 2) := by decide +kernel
theorem dX9_write_86 : decode cX9_write 86 = .ok (.iload_n 1, 1) := by decide +kernel
theorem dX9_write_87 : decode cX9_write 87 = .ok (.iload_n 2, 1) := by decide +kernel
theorem dX9_write_88 : decode cX9_write 88 = .ok (.invokevirtual 290, 3) := by decide +kernel
theorem dX9_write_91 : decode cX9_write 91 = .ok (.ifCond .eq 15, 3) := by decide +kernel
theorem dX9_write_94 : decode cX9_write 94 = .ok (.aload 4, 2) := by decide +kernel
theorem dX9_write_96 : decode cX9_write 96 = .ok (.iload 5, 2) := by decide +kernel
theorem dX9_write_98 : decode cX9_write 98 = .ok (.iload 7, 2) := by decide +kernel
theorem dX9_write_100 : decode cX9_write 100 = .ok (.invokevirtual 275, 3) := by decide +kernel
theorem dX9_write_103 : decode cX9_write 103 = .ok (.iinc 5 1, 3) := by decide +kernel
theorem dX9_write_106 : decode cX9_write 106 = .ok (.iinc 6 1, 3) := by decide +kernel
theorem dX9_write_109 : decode cX9_write 109 = .ok (.goto (-63), 3) := by decide +kernel
theorem dX9_write_112 : decode cX9_write 112 = .ok (.iload 5, 2) := by decide +kernel
theorem dX9_write_114 : decode cX9_write 114 = .ok (.ireturn, 1) := by decide +kernel
theorem dX9_count_0 : decode cX9_count 0 = .ok (.aload_n 0, 1) := by decide +kernel
theorem dX9_count_1 : decode cX9_count 1 = .ok (.invokevirtual 151, 3) := by decide +kernel
theorem dX9_count_4 : decode cX9_count 4 = .ok (.iload_n 1, 1) := by decide +kernel
theorem dX9_count_5 : decode cX9_count 5 = .ok (.tableswitch 143 0 8 #[51, 59, 67, 98, 106, 114, 122, 130, 138], 51) := by decide +kernel
theorem dX9_count_56 : decode cX9_count 56 = .ok (.aload_n 0, 1) := by decide +kernel
theorem dX9_count_57 : decode cX9_count 57 = .ok (.getfield 12, 3) := by decide +kernel
theorem dX9_count_60 : decode cX9_count 60 = .ok (.getfield 96, 3) := by decide +kernel
theorem dX9_count_63 : decode cX9_count 63 = .ok (.ireturn, 1) := by decide +kernel
theorem dX9_count_64 : decode cX9_count 64 = .ok (.aload_n 0, 1) := by decide +kernel
theorem dX9_count_65 : decode cX9_count 65 = .ok (.getfield 19, 3) := by decide +kernel
theorem dX9_count_68 : decode cX9_count 68 = .ok (.getfield 110, 3) := by decide +kernel
theorem dX9_count_71 : decode cX9_count 71 = .ok (.ireturn, 1) := by decide +kernel
theorem dX9_count_72 : decode cX9_count 72 = .ok (.aload_n 0, 1) := by decide +kernel
theorem dX9_count_73 : decode cX9_count 73 = .ok (.getfield 26, 3) := by decide +kernel
theorem dX9_count_76 : decode cX9_count 76 = .ok (.getfield 154, 3) := by decide +kernel
theorem dX9_count_79 : decode cX9_count 79 = .ok (.iconst (-1), 1) := by decide +kernel
theorem dX9_count_80 : decode cX9_count 80 = .ok (.if_icmp .ne 7, 3) := by decide +kernel
theorem dX9_count_83 : decode cX9_count 83 = .ok (.iconst 0, 1) := by decide +kernel
theorem dX9_count_84 : decode cX9_count 84 = .ok (.goto 18, 3) := by decide +kernel
theorem dX9_count_87 : decode cX9_count 87 = .ok (.aload_n 0, 1) := by decide +kernel
theorem dX9_count_88 : decode cX9_count 88 = .ok (.getfield 26, 3) := by decide +kernel
theorem dX9_count_91 : decode cX9_count 91 = .ok (.getfield 172, 3) := by decide +kernel
theorem dX9_count_94 : decode cX9_count 94 = .ok (.aload_n 0, 1) := by decide +kernel
theorem dX9_count_95 : decode cX9_count 95 = .ok (.getfield 26, 3) := by decide +kernel
theorem dX9_count_98 : decode cX9_count 98 = .ok (.getfield 154, 3) := by decide +kernel
theorem dX9_count_101 : decode cX9_count 101 = .ok (.iaload, 1) := by decide +kernel
theorem dX9_count_102 : decode cX9_count 102 = .ok (.ireturn, 1) := by decide +kernel
theorem dX9_count_103 : decode cX9_count 103 = .ok (.aload_n 0, 1) := by decide +kernel
theorem dX9_count_104 : decode cX9_count 104 = .ok (.getfield 40, 3) := by decide +kernel
theorem dX9_count_107 : decode cX9_count 107 = .ok (.getfield 229, 3) := by decide +kernel
theorem dX9_count_110 : decode cX9_count 110 = .ok (.ireturn, 1) := by decide +kernel
theorem dX9_count_111 : decode cX9_count 111 = .ok (.aload_n 0, 1) := by decide +kernel
theorem dX9_count_112 : decode cX9_count 112 = .ok (.getfield 40, 3) := by decide +kernel
theorem dX9_count_115 : decode cX9_count 115 = .ok (.getfield 235, 3) := by decide +kernel
theorem dX9_count_118 : decode cX9_count 118 = .ok (.ireturn, 1) := by decide +kernel
theorem dX9_count_119 : decode cX9_count 119 = .ok (.aload_n 0, 1) := by decide +kernel
theorem dX9_count_120 : decode cX9_count 120 = .ok (.getfield 47, 3) := by decide +kernel
theorem dX9_count_123 : decode cX9_count 123 = .ok (.getfield 239, 3) := by decide +kernel
theorem dX9_count_126 : decode cX9_count 126 = .ok (.ireturn, 1) := by decide +kernel
theorem dX9_count_127 : decode cX9_count 127 = .ok (.aload_n 0, 1) := by decide +kernel
theorem dX9_count_128 : decode cX9_count 128 = .ok (.getfield 61, 3) := by decide +kernel
theorem dX9_count_131 : decode cX9_count 131 = .ok (.getfield 257, 3) := by decide +kernel
theorem dX9_count_134 : decode cX9_count 134 = .ok (.ireturn, 1) := by decide +kernel
theorem dX9_count_135 : decode cX9_count 135 = .ok (.aload_n 0, 1) := by decide +kernel
theorem dX9_count_136 : decode cX9_count 136 = .ok (.getfield 54, 3) := by decide +kernel
theorem dX9_count_139 : decode cX9_count 139 = .ok (.getfield 243, 3) := by decide +kernel
theorem dX9_count_142 : decode cX9_count 142 = .ok (.ireturn, 1) := by decide +kernel
theorem dX9_count_143 : decode cX9_count 143 = .ok (.aload_n 0, 1) := by decide +kernel
theorem dX9_count_144 : decode cX9_count 144 = .ok (.getfield 75, 3) := by decide +kernel
theorem dX9_count_147 : decode cX9_count 147 = .ok (.ireturn, 1) := by decide +kernel
theorem dX9_count_148 : decode cX9_count 148 = .ok (.bipush (-2), 2) := by decide +kernel
theorem dX9_count_150 : decode cX9_count 150 = .ok (.ireturn, 1) := by decide +kernel
theorem dX9_digest_0 : decode cX9_digest 0 = .ok (.ldc2_w 294, 3) := by decide +kernel
theorem dX9_digest_3 : decode cX9_digest 3 = .ok (.lstore_n 1, 1) := by decide +kernel
theorem dX9_digest_4 : decode cX9_digest 4 = .ok (.iconst 0, 1) := by decide +kernel
theorem dX9_digest_5 : decode cX9_digest 5 = .ok (.istore_n 3, 1) := by decide +kernel
theorem dX9_digest_6 : decode cX9_digest 6 = .ok (.iload_n 3, 1) := by decide +kernel
theorem dX9_digest_7 : decode cX9_digest 7 = .ok (.bipush 7, 2) := by decide +kernel
theorem dX9_digest_9 : decode cX9_digest 9 = .ok (.if_icmp .gt 20, 3) := by decide +kernel
theorem dX9_digest_12 : decode cX9_digest 12 = .ok (.lload_n 1, 1) := by decide +kernel
theorem dX9_digest_13 : decode cX9_digest 13 = .ok (.aload_n 0, 1) := by decide +kernel
theorem dX9_digest_14 : decode cX9_digest 14 = .ok (.iload_n 3, 1) := by decide +kernel
theorem dX9_digest_15 : decode cX9_digest 15 = .ok (.invokevirtual 296, 3) := by decide +kernel
theorem dX9_digest_18 : decode cX9_digest 18 = .ok (.i2l, 1) := by decide +kernel
theorem dX9_digest_19 : decode cX9_digest 19 = .ok (.invokestatic 299, 3) := by decide +kernel
theorem dX9_digest_22 : decode cX9_digest 22 = .ok (.lstore_n 1, 1) := by decide +kernel
theorem dX9_digest_23 : decode cX9_digest 23 = .ok (.iinc 3 1, 3) := by decide +kernel
theorem dX9_digest_26 : decode cX9_digest 26 = .ok (.goto (-20), 3) := by decide +kernel
theorem dX9_digest_29 : decode cX9_digest 29 = .ok (.lload_n 1, 1) := by decide +kernel
theorem dX9_digest_30 : decode cX9_digest 30 = .ok (.aload_n 0, 1) := by decide +kernel
theorem dX9_digest_31 : decode cX9_digest 31 = .ok (.invokevirtual 303, 3) := by decide +kernel
theorem dX9_digest_34 : decode cX9_digest 34 = .ok (.i2l, 1) := by decide +kernel
theorem dX9_digest_35 : decode cX9_digest 35 = .ok (.invokestatic 299, 3) := by decide +kernel
theorem dX9_digest_38 : decode cX9_digest 38 = .ok (.lstore_n 1, 1) := by decide +kernel
theorem dX9_digest_39 : decode cX9_digest 39 = .ok (.lload_n 1, 1) := by decide +kernel
theorem dX9_digest_40 : decode cX9_digest 40 = .ok (.aload_n 0, 1) := by decide +kernel
theorem dX9_digest_41 : decode cX9_digest 41 = .ok (.invokevirtual 306, 3) := by decide +kernel
theorem dX9_digest_44 : decode cX9_digest 44 = .ok (.i2l, 1) := by decide +kernel
theorem dX9_digest_45 : decode cX9_digest 45 = .ok (.invokestatic 299, 3) := by decide +kernel
theorem dX9_digest_48 : decode cX9_digest 48 = .ok (.lstore_n 1, 1) := by decide +kernel
theorem dX9_digest_49 : decode cX9_digest 49 = .ok (.lload_n 1, 1) := by decide +kernel
theorem dX9_digest_50 : decode cX9_digest 50 = .ok (.aload_n 0, 1) := by decide +kernel
theorem dX9_digest_51 : decode cX9_digest 51 = .ok (.invokevirtual 309, 3) := by decide +kernel
theorem dX9_digest_54 : decode cX9_digest 54 = .ok (.invokestatic 299, 3) := by decide +kernel
theorem dX9_digest_57 : decode cX9_digest 57 = .ok (.lstore_n 1, 1) := by decide +kernel
theorem dX9_digest_58 : decode cX9_digest 58 = .ok (.iconst 0, 1) := by decide +kernel
theorem dX9_digest_59 : decode cX9_digest 59 = .ok (.istore_n 3, 1) := by decide +kernel
theorem dX9_digest_60 : decode cX9_digest 60 = .ok (.iload_n 3, 1) := by decide +kernel
theorem dX9_digest_61 : decode cX9_digest 61 = .ok (.bipush 48, 2) := by decide +kernel
theorem dX9_digest_63 : decode cX9_digest 63 = .ok (.if_icmp .ge 16, 3) := by decide +kernel
theorem dX9_digest_66 : decode cX9_digest 66 = .ok (.aload_n 0, 1) := by decide +kernel
theorem dX9_digest_67 : decode cX9_digest 67 = .ok (.lload_n 1, 1) := by decide +kernel
theorem dX9_digest_68 : decode cX9_digest 68 = .ok (.iload_n 3, 1) := by decide +kernel
theorem dX9_digest_69 : decode cX9_digest 69 = .ok (.invokevirtual 313, 3) := by decide +kernel
theorem dX9_digest_72 : decode cX9_digest 72 = .ok (.lstore_n 1, 1) := by decide +kernel
theorem dX9_digest_73 : decode cX9_digest 73 = .ok (.iinc 3 1, 3) := by decide +kernel
theorem dX9_digest_76 : decode cX9_digest 76 = .ok (.goto (-16), 3) := by decide +kernel
theorem dX9_digest_79 : decode cX9_digest 79 = .ok (.iconst 0, 1) := by decide +kernel
theorem dX9_digest_80 : decode cX9_digest 80 = .ok (.istore_n 3, 1) := by decide +kernel
theorem dX9_digest_81 : decode cX9_digest 81 = .ok (.iload_n 3, 1) := by decide +kernel
theorem dX9_digest_82 : decode cX9_digest 82 = .ok (.bipush 48, 2) := by decide +kernel
theorem dX9_digest_84 : decode cX9_digest 84 = .ok (.if_icmp .ge 31, 3) := by decide +kernel
theorem dX9_digest_87 : decode cX9_digest 87 = .ok (.lload_n 1, 1) := by decide +kernel
theorem dX9_digest_88 : decode cX9_digest 88 = .ok (.aload_n 0, 1) := by decide +kernel
theorem dX9_digest_89 : decode cX9_digest 89 = .ok (.iload_n 3, 1) := by decide +kernel
theorem dX9_digest_90 : decode cX9_digest 90 = .ok (.invokevirtual 317, 3) := by decide +kernel
theorem dX9_digest_93 : decode cX9_digest 93 = .ok (.i2l, 1) := by decide +kernel
theorem dX9_digest_94 : decode cX9_digest 94 = .ok (.invokestatic 299, 3) := by decide +kernel
theorem dX9_digest_97 : decode cX9_digest 97 = .ok (.lstore_n 1, 1) := by decide +kernel
theorem dX9_digest_98 : decode cX9_digest 98 = .ok (.lload_n 1, 1) := by decide +kernel
theorem dX9_digest_99 : decode cX9_digest 99 = .ok (.aload_n 0, 1) := by decide +kernel
theorem dX9_digest_100 : decode cX9_digest 100 = .ok (.iload_n 3, 1) := by decide +kernel
theorem dX9_digest_101 : decode cX9_digest 101 = .ok (.invokevirtual 320, 3) := by decide +kernel
theorem dX9_digest_104 : decode cX9_digest 104 = .ok (.i2l, 1) := by decide +kernel
theorem dX9_digest_105 : decode cX9_digest 105 = .ok (.invokestatic 299, 3) := by decide +kernel
theorem dX9_digest_108 : decode cX9_digest 108 = .ok (.lstore_n 1, 1) := by decide +kernel
theorem dX9_digest_109 : decode cX9_digest 109 = .ok (.iinc 3 1, 3) := by decide +kernel
theorem dX9_digest_112 : decode cX9_digest 112 = .ok (.goto (-31), 3) := by decide +kernel
theorem dX9_digest_115 : decode cX9_digest 115 = .ok (.iconst 0, 1) := by decide +kernel
theorem dX9_digest_116 : decode cX9_digest 116 = .ok (.istore_n 3, 1) := by decide +kernel
theorem dX9_digest_117 : decode cX9_digest 117 = .ok (.iload_n 3, 1) := by decide +kernel
theorem dX9_digest_118 : decode cX9_digest 118 = .ok (.bipush 30, 2) := by decide +kernel
theorem dX9_digest_120 : decode cX9_digest 120 = .ok (.if_icmp .gt 37, 3) := by decide +kernel
theorem dX9_digest_123 : decode cX9_digest 123 = .ok (.iconst 0, 1) := by decide +kernel
theorem dX9_digest_124 : decode cX9_digest 124 = .ok (.istore 4, 2) := by decide +kernel
theorem dX9_digest_126 : decode cX9_digest 126 = .ok (.iload 4, 2) := by decide +kernel
theorem dX9_digest_128 : decode cX9_digest 128 = .ok (.iconst 2, 1) := by decide +kernel
theorem dX9_digest_129 : decode cX9_digest 129 = .ok (.if_icmp .gt 22, 3) := by decide +kernel
theorem dX9_digest_132 : decode cX9_digest 132 = .ok (.lload_n 1, 1) := by decide +kernel
theorem dX9_digest_133 : decode cX9_digest 133 = .ok (.aload_n 0, 1) := by decide +kernel
theorem dX9_digest_134 : decode cX9_digest 134 = .ok (.iload_n 3, 1) := by decide +kernel
theorem dX9_digest_135 : decode cX9_digest 135 = .ok (.iload 4, 2) := by decide +kernel
theorem dX9_digest_137 : decode cX9_digest 137 = .ok (.invokevirtual 323, 3) := by decide +kernel
theorem dX9_digest_140 : decode cX9_digest 140 = .ok (.i2l, 1) := by decide +kernel
theorem dX9_digest_141 : decode cX9_digest 141 = .ok (.invokestatic 299, 3) := by decide +kernel
theorem dX9_digest_144 : decode cX9_digest 144 = .ok (.lstore_n 1, 1) := by decide +kernel
theorem dX9_digest_145 : decode cX9_digest 145 = .ok (.iinc 4 1, 3) := by decide +kernel
theorem dX9_digest_148 : decode cX9_digest 148 = .ok (.goto (-22), 3) := by decide +kernel
theorem dX9_digest_151 : decode cX9_digest 151 = .ok (.iinc 3 1, 3) := by decide +kernel
theorem dX9_digest_154 : decode cX9_digest 154 = .ok (.goto (-37), 3) := by decide +kernel
theorem dX9_digest_157 : decode cX9_digest 157 = .ok (.bipush (-50), 2) := by decide +kernel
theorem dX9_digest_159 : decode cX9_digest 159 = .ok (.istore_n 3, 1) := by decide +kernel
theorem dX9_digest_160 : decode cX9_digest 160 = .ok (.iload_n 3, 1) := by decide +kernel
theorem dX9_digest_161 : decode cX9_digest 161 = .ok (.sipush 150, 3) := by decide +kernel
theorem dX9_digest_164 : decode cX9_digest 164 = .ok (.if_icmp .gt 16, 3) := by decide +kernel
theorem dX9_digest_167 : decode cX9_digest 167 = .ok (.aload_n 0, 1) := by decide +kernel
theorem dX9_digest_168 : decode cX9_digest 168 = .ok (.lload_n 1, 1) := by decide +kernel
theorem dX9_digest_169 : decode cX9_digest 169 = .ok (.iload_n 3, 1) := by decide +kernel
theorem dX9_digest_170 : decode cX9_digest 170 = .ok (.invokevirtual 326, 3) := by decide +kernel
theorem dX9_digest_173 : decode cX9_digest 173 = .ok (.lstore_n 1, 1) := by decide +kernel
theorem dX9_digest_174 : decode cX9_digest 174 = .ok (.iinc 3 20, 3) := by decide +kernel
theorem dX9_digest_177 : decode cX9_digest 177 = .ok (.goto (-17), 3) := by decide +kernel
theorem dX9_digest_180 : decode cX9_digest 180 = .ok (.bipush (-60), 2) := by decide +kernel
theorem dX9_digest_182 : decode cX9_digest 182 = .ok (.istore_n 3, 1) := by decide +kernel
theorem dX9_digest_183 : decode cX9_digest 183 = .ok (.iload_n 3, 1) := by decide +kernel
theorem dX9_digest_184 : decode cX9_digest 184 = .ok (.bipush 60, 2) := by decide +kernel
theorem dX9_digest_186 : decode cX9_digest 186 = .ok (.if_icmp .gt 20, 3) := by decide +kernel
theorem dX9_digest_189 : decode cX9_digest 189 = .ok (.aload_n 0, 1) := by decide +kernel
theorem dX9_digest_190 : decode cX9_digest 190 = .ok (.lload_n 1, 1) := by decide +kernel
theorem dX9_digest_191 : decode cX9_digest 191 = .ok (.iload_n 3, 1) := by decide +kernel
theorem dX9_digest_192 : decode cX9_digest 192 = .ok (.iload_n 3, 1) := by decide +kernel
theorem dX9_digest_193 : decode cX9_digest 193 = .ok (.bipush 90, 2) := by decide +kernel
theorem dX9_digest_195 : decode cX9_digest 195 = .ok (.iadd, 1) := by decide +kernel
theorem dX9_digest_196 : decode cX9_digest 196 = .ok (.invokevirtual 329, 3) := by decide +kernel
theorem dX9_digest_199 : decode cX9_digest 199 = .ok (.lstore_n 1, 1) := by decide +kernel
theorem dX9_digest_200 : decode cX9_digest 200 = .ok (.iinc 3 40, 3) := by decide +kernel
theorem dX9_digest_203 : decode cX9_digest 203 = .ok (.goto (-20), 3) := by decide +kernel
theorem dX9_digest_206 : decode cX9_digest 206 = .ok (.lload_n 1, 1) := by decide +kernel
theorem dX9_digest_207 : decode cX9_digest 207 = .ok (.lreturn, 1) := by decide +kernel
theorem dX9_mixed_0 : decode cX9_mixed 0 = .ok (.ldc2_w 333, 3) := by decide +kernel
theorem dX9_mixed_3 : decode cX9_mixed 3 = .ok (.lload_n 0, 1) := by decide +kernel
theorem dX9_mixed_4 : decode cX9_mixed 4 = .ok (.lmul, 1) := by decide +kernel
theorem dX9_mixed_5 : decode cX9_mixed 5 = .ok (.lload_n 2, 1) := by decide +kernel
theorem dX9_mixed_6 : decode cX9_mixed 6 = .ok (.ladd, 1) := by decide +kernel
theorem dX9_mixed_7 : decode cX9_mixed 7 = .ok (.lreturn, 1) := by decide +kernel
theorem dX9_mixedKey_0 : decode cX9_mixedKey 0 = .ok (.lload_n 1, 1) := by decide +kernel
theorem dX9_mixedKey_1 : decode cX9_mixedKey 1 = .ok (.aload_n 0, 1) := by decide +kernel
theorem dX9_mixedKey_2 : decode cX9_mixedKey 2 = .ok (.iload_n 3, 1) := by decide +kernel
theorem dX9_mixedKey_3 : decode cX9_mixedKey 3 = .ok (.iconst 0, 1) := by decide +kernel
theorem dX9_mixedKey_4 : decode cX9_mixedKey 4 = .ok (.invokevirtual 335, 3) := by decide +kernel
theorem dX9_mixedKey_7 : decode cX9_mixedKey 7 = .ok (.i2l, 1) := by decide +kernel
theorem dX9_mixedKey_8 : decode cX9_mixedKey 8 = .ok (.invokestatic 299, 3) := by decide +kernel
theorem dX9_mixedKey_11 : decode cX9_mixedKey 11 = .ok (.lstore 4, 2) := by decide +kernel
theorem dX9_mixedKey_13 : decode cX9_mixedKey 13 = .ok (.lload 4, 2) := by decide +kernel
theorem dX9_mixedKey_15 : decode cX9_mixedKey 15 = .ok (.aload_n 0, 1) := by decide +kernel
theorem dX9_mixedKey_16 : decode cX9_mixedKey 16 = .ok (.iload_n 3, 1) := by decide +kernel
theorem dX9_mixedKey_17 : decode cX9_mixedKey 17 = .ok (.iconst 1, 1) := by decide +kernel
theorem dX9_mixedKey_18 : decode cX9_mixedKey 18 = .ok (.invokevirtual 335, 3) := by decide +kernel
theorem dX9_mixedKey_21 : decode cX9_mixedKey 21 = .ok (.i2l, 1) := by decide +kernel
theorem dX9_mixedKey_22 : decode cX9_mixedKey 22 = .ok (.invokestatic 299, 3) := by decide +kernel
theorem dX9_mixedKey_25 : decode cX9_mixedKey 25 = .ok (.lstore 4, 2) := by decide +kernel
theorem dX9_mixedKey_27 : decode cX9_mixedKey 27 = .ok (.lload 4, 2) := by decide +kernel
theorem dX9_mixedKey_29 : decode cX9_mixedKey 29 = .ok (.aload_n 0, 1) := by decide +kernel
theorem dX9_mixedKey_30 : decode cX9_mixedKey 30 = .ok (.iload_n 3, 1) := by decide +kernel
theorem dX9_mixedKey_31 : decode cX9_mixedKey 31 = .ok (.invokevirtual 338, 3) := by decide +kernel
theorem dX9_mixedKey_34 : decode cX9_mixedKey 34 = .ok (.i2l, 1) := by decide +kernel
theorem dX9_mixedKey_35 : decode cX9_mixedKey 35 = .ok (.invokestatic 299, 3) := by decide +kernel
theorem dX9_mixedKey_38 : decode cX9_mixedKey 38 = .ok (.lstore 4, 2) := by decide +kernel
theorem dX9_mixedKey_40 : decode cX9_mixedKey 40 = .ok (.iconst 0, 1) := by decide +kernel
theorem dX9_mixedKey_41 : decode cX9_mixedKey 41 = .ok (.istore 6, 2) := by decide +kernel
theorem dX9_mixedKey_43 : decode cX9_mixedKey 43 = .ok (.iload 6, 2) := by decide +kernel
theorem dX9_mixedKey_45 : decode cX9_mixedKey 45 = .ok (.iconst 5, 1) := by decide +kernel
theorem dX9_mixedKey_46 : decode cX9_mixedKey 46 = .ok (.if_icmp .gt 24, 3) := by decide +kernel
theorem dX9_mixedKey_49 : decode cX9_mixedKey 49 = .ok (.lload 4, 2) := by decide +kernel
theorem dX9_mixedKey_51 : decode cX9_mixedKey 51 = .ok (.aload_n 0, 1) := by decide +kernel
theorem dX9_mixedKey_52 : decode cX9_mixedKey 52 = .ok (.iload_n 3, 1) := by decide +kernel
theorem dX9_mixedKey_53 : decode cX9_mixedKey 53 = .ok (.iload 6, 2) := by decide +kernel
theorem dX9_mixedKey_55 : decode cX9_mixedKey 55 = .ok (.invokevirtual 341, 3) := by decide +kernel
theorem dX9_mixedKey_58 : decode cX9_mixedKey 58 = .ok (.i2l, 1) := by decide +kernel
theorem dX9_mixedKey_59 : decode cX9_mixedKey 59 = .ok (.invokestatic 299, 3) := by decide +kernel
theorem dX9_mixedKey_62 : decode cX9_mixedKey 62 = .ok (.lstore 4, 2) := by decide +kernel
theorem dX9_mixedKey_64 : decode cX9_mixedKey 64 = .ok (.iinc 6 1, 3) := by decide +kernel
theorem dX9_mixedKey_67 : decode cX9_mixedKey 67 = .ok (.goto (-24), 3) := by decide +kernel
theorem dX9_mixedKey_70 : decode cX9_mixedKey 70 = .ok (.lload 4, 2) := by decide +kernel
theorem dX9_mixedKey_72 : decode cX9_mixedKey 72 = .ok (.aload_n 0, 1) := by decide +kernel
theorem dX9_mixedKey_73 : decode cX9_mixedKey 73 = .ok (.iload_n 3, 1) := by decide +kernel
theorem dX9_mixedKey_74 : decode cX9_mixedKey 74 = .ok (.invokevirtual 344, 3) := by decide +kernel
theorem dX9_mixedKey_77 : decode cX9_mixedKey 77 = .ok (.i2l, 1) := by decide +kernel
theorem dX9_mixedKey_78 : decode cX9_mixedKey 78 = .ok (.invokestatic 299, 3) := by decide +kernel
theorem dX9_mixedKey_81 : decode cX9_mixedKey 81 = .ok (.lstore 4, 2) := by decide +kernel
theorem dX9_mixedKey_83 : decode cX9_mixedKey 83 = .ok (.lload 4, 2) := by decide +kernel
theorem dX9_mixedKey_85 : decode cX9_mixedKey 85 = .ok (.aload_n 0, 1) := by decide +kernel
theorem dX9_mixedKey_86 : decode cX9_mixedKey 86 = .ok (.iload_n 3, 1) := by decide +kernel
theorem dX9_mixedKey_87 : decode cX9_mixedKey 87 = .ok (.invokevirtual 347, 3) := by decide +kernel
theorem dX9_mixedKey_90 : decode cX9_mixedKey 90 = .ok (.i2l, 1) := by decide +kernel
theorem dX9_mixedKey_91 : decode cX9_mixedKey 91 = .ok (.invokestatic 299, 3) := by decide +kernel
theorem dX9_mixedKey_94 : decode cX9_mixedKey 94 = .ok (.lstore 4, 2) := by decide +kernel
theorem dX9_mixedKey_96 : decode cX9_mixedKey 96 = .ok (.lload 4, 2) := by decide +kernel
theorem dX9_mixedKey_98 : decode cX9_mixedKey 98 = .ok (.aload_n 0, 1) := by decide +kernel
theorem dX9_mixedKey_99 : decode cX9_mixedKey 99 = .ok (.iload_n 3, 1) := by decide +kernel
theorem dX9_mixedKey_100 : decode cX9_mixedKey 100 = .ok (.iconst 0, 1) := by decide +kernel
theorem dX9_mixedKey_101 : decode cX9_mixedKey 101 = .ok (.invokevirtual 350, 3) := by decide +kernel
theorem dX9_mixedKey_104 : decode cX9_mixedKey 104 = .ok (.i2l, 1) := by decide +kernel
theorem dX9_mixedKey_105 : decode cX9_mixedKey 105 = .ok (.invokestatic 299, 3) := by decide +kernel
theorem dX9_mixedKey_108 : decode cX9_mixedKey 108 = .ok (.lstore 4, 2) := by decide +kernel
theorem dX9_mixedKey_110 : decode cX9_mixedKey 110 = .ok (.lload 4, 2) := by decide +kernel
theorem dX9_mixedKey_112 : decode cX9_mixedKey 112 = .ok (.aload_n 0, 1) := by decide +kernel
theorem dX9_mixedKey_113 : decode cX9_mixedKey 113 = .ok (.iload_n 3, 1) := by decide +kernel
theorem dX9_mixedKey_114 : decode cX9_mixedKey 114 = .ok (.iconst 1, 1) := by decide +kernel
theorem dX9_mixedKey_115 : decode cX9_mixedKey 115 = .ok (.invokevirtual 350, 3) := by decide +kernel
theorem dX9_mixedKey_118 : decode cX9_mixedKey 118 = .ok (.i2l, 1) := by decide +kernel
theorem dX9_mixedKey_119 : decode cX9_mixedKey 119 = .ok (.invokestatic 299, 3) := by decide +kernel
theorem dX9_mixedKey_122 : decode cX9_mixedKey 122 = .ok (.lreturn, 1) := by decide +kernel
theorem dX9_mixedPoint_0 : decode cX9_mixedPoint 0 = .ok (.lload_n 1, 1) := by decide +kernel
theorem dX9_mixedPoint_1 : decode cX9_mixedPoint 1 = .ok (.aload_n 0, 1) := by decide +kernel
theorem dX9_mixedPoint_2 : decode cX9_mixedPoint 2 = .ok (.iload_n 3, 1) := by decide +kernel
theorem dX9_mixedPoint_3 : decode cX9_mixedPoint 3 = .ok (.iconst (-1), 1) := by decide +kernel
theorem dX9_mixedPoint_4 : decode cX9_mixedPoint 4 = .ok (.invokevirtual 353, 3) := by decide +kernel
theorem dX9_mixedPoint_7 : decode cX9_mixedPoint 7 = .ok (.i2l, 1) := by decide +kernel
theorem dX9_mixedPoint_8 : decode cX9_mixedPoint 8 = .ok (.invokestatic 299, 3) := by decide +kernel
theorem dX9_mixedPoint_11 : decode cX9_mixedPoint 11 = .ok (.lstore 4, 2) := by decide +kernel
theorem dX9_mixedPoint_13 : decode cX9_mixedPoint 13 = .ok (.lload 4, 2) := by decide +kernel
theorem dX9_mixedPoint_15 : decode cX9_mixedPoint 15 = .ok (.aload_n 0, 1) := by decide +kernel
theorem dX9_mixedPoint_16 : decode cX9_mixedPoint 16 = .ok (.iload_n 3, 1) := by decide +kernel
theorem dX9_mixedPoint_17 : decode cX9_mixedPoint 17 = .ok (.iconst 1, 1) := by decide +kernel
theorem dX9_mixedPoint_18 : decode cX9_mixedPoint 18 = .ok (.invokevirtual 353, 3) := by decide +kernel
theorem dX9_mixedPoint_21 : decode cX9_mixedPoint 21 = .ok (.i2l, 1) := by decide +kernel
theorem dX9_mixedPoint_22 : decode cX9_mixedPoint 22 = .ok (.invokestatic 299, 3) := by decide +kernel
theorem dX9_mixedPoint_25 : decode cX9_mixedPoint 25 = .ok (.lstore 4, 2) := by decide +kernel
theorem dX9_mixedPoint_27 : decode cX9_mixedPoint 27 = .ok (.iconst 0, 1) := by decide +kernel
theorem dX9_mixedPoint_28 : decode cX9_mixedPoint 28 = .ok (.istore 6, 2) := by decide +kernel
theorem dX9_mixedPoint_30 : decode cX9_mixedPoint 30 = .ok (.iload 6, 2) := by decide +kernel
theorem dX9_mixedPoint_32 : decode cX9_mixedPoint 32 = .ok (.iconst 2, 1) := by decide +kernel
theorem dX9_mixedPoint_33 : decode cX9_mixedPoint 33 = .ok (.if_icmp .gt 26, 3) := by decide +kernel
theorem dX9_mixedPoint_36 : decode cX9_mixedPoint 36 = .ok (.lload 4, 2) := by decide +kernel
theorem dX9_mixedPoint_38 : decode cX9_mixedPoint 38 = .ok (.aload_n 0, 1) := by decide +kernel
theorem dX9_mixedPoint_39 : decode cX9_mixedPoint 39 = .ok (.iload_n 3, 1) := by decide +kernel
theorem dX9_mixedPoint_40 : decode cX9_mixedPoint 40 = .ok (.bipush 7, 2) := by decide +kernel
theorem dX9_mixedPoint_42 : decode cX9_mixedPoint 42 = .ok (.iload 6, 2) := by decide +kernel
theorem dX9_mixedPoint_44 : decode cX9_mixedPoint 44 = .ok (.invokevirtual 356, 3) := by decide +kernel
theorem dX9_mixedPoint_47 : decode cX9_mixedPoint 47 = .ok (.i2l, 1) := by decide +kernel
theorem dX9_mixedPoint_48 : decode cX9_mixedPoint 48 = .ok (.invokestatic 299, 3) := by decide +kernel
theorem dX9_mixedPoint_51 : decode cX9_mixedPoint 51 = .ok (.lstore 4, 2) := by decide +kernel
theorem dX9_mixedPoint_53 : decode cX9_mixedPoint 53 = .ok (.iinc 6 1, 3) := by decide +kernel
theorem dX9_mixedPoint_56 : decode cX9_mixedPoint 56 = .ok (.goto (-26), 3) := by decide +kernel
theorem dX9_mixedPoint_59 : decode cX9_mixedPoint 59 = .ok (.lload 4, 2) := by decide +kernel
theorem dX9_mixedPoint_61 : decode cX9_mixedPoint 61 = .ok (.lreturn, 1) := by decide +kernel
theorem dX9_mixedStretch_0 : decode cX9_mixedStretch 0 = .ok (.lload_n 1, 1) := by decide +kernel
theorem dX9_mixedStretch_1 : decode cX9_mixedStretch 1 = .ok (.aload_n 0, 1) := by decide +kernel
theorem dX9_mixedStretch_2 : decode cX9_mixedStretch 2 = .ok (.iload_n 3, 1) := by decide +kernel
theorem dX9_mixedStretch_3 : decode cX9_mixedStretch 3 = .ok (.iload 4, 2) := by decide +kernel
theorem dX9_mixedStretch_5 : decode cX9_mixedStretch 5 = .ok (.invokevirtual 359, 3) := by decide +kernel
theorem dX9_mixedStretch_8 : decode cX9_mixedStretch 8 = .ok (.i2l, 1) := by decide +kernel
theorem dX9_mixedStretch_9 : decode cX9_mixedStretch 9 = .ok (.invokestatic 299, 3) := by decide +kernel
theorem dX9_mixedStretch_12 : decode cX9_mixedStretch 12 = .ok (.lstore 5, 2) := by decide +kernel
theorem dX9_mixedStretch_14 : decode cX9_mixedStretch 14 = .ok (.lload 5, 2) := by decide +kernel
theorem dX9_mixedStretch_16 : decode cX9_mixedStretch 16 = .ok (.aload_n 0, 1) := by decide +kernel
theorem dX9_mixedStretch_17 : decode cX9_mixedStretch 17 = .ok (.iload_n 3, 1) := by decide +kernel
theorem dX9_mixedStretch_18 : decode cX9_mixedStretch 18 = .ok (.iload 4, 2) := by decide +kernel
theorem dX9_mixedStretch_20 : decode cX9_mixedStretch 20 = .ok (.iconst (-1), 1) := by decide +kernel
theorem dX9_mixedStretch_21 : decode cX9_mixedStretch 21 = .ok (.invokevirtual 362, 3) := by decide +kernel
theorem dX9_mixedStretch_24 : decode cX9_mixedStretch 24 = .ok (.i2l, 1) := by decide +kernel
theorem dX9_mixedStretch_25 : decode cX9_mixedStretch 25 = .ok (.invokestatic 299, 3) := by decide +kernel
theorem dX9_mixedStretch_28 : decode cX9_mixedStretch 28 = .ok (.lstore 5, 2) := by decide +kernel
theorem dX9_mixedStretch_30 : decode cX9_mixedStretch 30 = .ok (.lload 5, 2) := by decide +kernel
theorem dX9_mixedStretch_32 : decode cX9_mixedStretch 32 = .ok (.aload_n 0, 1) := by decide +kernel
theorem dX9_mixedStretch_33 : decode cX9_mixedStretch 33 = .ok (.iload_n 3, 1) := by decide +kernel
theorem dX9_mixedStretch_34 : decode cX9_mixedStretch 34 = .ok (.iload 4, 2) := by decide +kernel
theorem dX9_mixedStretch_36 : decode cX9_mixedStretch 36 = .ok (.iconst 0, 1) := by decide +kernel
theorem dX9_mixedStretch_37 : decode cX9_mixedStretch 37 = .ok (.invokevirtual 362, 3) := by decide +kernel
theorem dX9_mixedStretch_40 : decode cX9_mixedStretch 40 = .ok (.i2l, 1) := by decide +kernel
theorem dX9_mixedStretch_41 : decode cX9_mixedStretch 41 = .ok (.invokestatic 299, 3) := by decide +kernel
theorem dX9_mixedStretch_44 : decode cX9_mixedStretch 44 = .ok (.lstore 5, 2) := by decide +kernel
theorem dX9_mixedStretch_46 : decode cX9_mixedStretch 46 = .ok (.lload 5, 2) := by decide +kernel
theorem dX9_mixedStretch_48 : decode cX9_mixedStretch 48 = .ok (.aload_n 0, 1) := by decide +kernel
theorem dX9_mixedStretch_49 : decode cX9_mixedStretch 49 = .ok (.iload_n 3, 1) := by decide +kernel
theorem dX9_mixedStretch_50 : decode cX9_mixedStretch 50 = .ok (.iload 4, 2) := by decide +kernel
theorem dX9_mixedStretch_52 : decode cX9_mixedStretch 52 = .ok (.invokevirtual 365, 3) := by decide +kernel
theorem dX9_mixedStretch_55 : decode cX9_mixedStretch 55 = .ok (.i2l, 1) := by decide +kernel
theorem dX9_mixedStretch_56 : decode cX9_mixedStretch 56 = .ok (.invokestatic 299, 3) := by decide +kernel
theorem dX9_mixedStretch_59 : decode cX9_mixedStretch 59 = .ok (.lstore 5, 2) := by decide +kernel
theorem dX9_mixedStretch_61 : decode cX9_mixedStretch 61 = .ok (.lload 5, 2) := by decide +kernel
theorem dX9_mixedStretch_63 : decode cX9_mixedStretch 63 = .ok (.aload_n 0, 1) := by decide +kernel
theorem dX9_mixedStretch_64 : decode cX9_mixedStretch 64 = .ok (.iload_n 3, 1) := by decide +kernel
theorem dX9_mixedStretch_65 : decode cX9_mixedStretch 65 = .ok (.iload 4, 2) := by decide +kernel
theorem dX9_mixedStretch_67 : decode cX9_mixedStretch 67 = .ok (.invokevirtual 368, 3) := by decide +kernel
theorem dX9_mixedStretch_70 : decode cX9_mixedStretch 70 = .ok (.i2l, 1) := by decide +kernel
theorem dX9_mixedStretch_71 : decode cX9_mixedStretch 71 = .ok (.invokestatic 299, 3) := by decide +kernel
theorem dX9_mixedStretch_74 : decode cX9_mixedStretch 74 = .ok (.lstore 5, 2) := by decide +kernel
theorem dX9_mixedStretch_76 : decode cX9_mixedStretch 76 = .ok (.iconst 0, 1) := by decide +kernel
theorem dX9_mixedStretch_77 : decode cX9_mixedStretch 77 = .ok (.istore 7, 2) := by decide +kernel
theorem dX9_mixedStretch_79 : decode cX9_mixedStretch 79 = .ok (.iload 7, 2) := by decide +kernel
theorem dX9_mixedStretch_81 : decode cX9_mixedStretch 81 = .ok (.iconst 1, 1) := by decide +kernel
theorem dX9_mixedStretch_82 : decode cX9_mixedStretch 82 = .ok (.if_icmp .gt 45, 3) := by decide +kernel
theorem dX9_mixedStretch_85 : decode cX9_mixedStretch 85 = .ok (.lload 5, 2) := by decide +kernel
theorem dX9_mixedStretch_87 : decode cX9_mixedStretch 87 = .ok (.aload_n 0, 1) := by decide +kernel
theorem dX9_mixedStretch_88 : decode cX9_mixedStretch 88 = .ok (.iload_n 3, 1) := by decide +kernel
theorem dX9_mixedStretch_89 : decode cX9_mixedStretch 89 = .ok (.iload 4, 2) := by decide +kernel
theorem dX9_mixedStretch_91 : decode cX9_mixedStretch 91 = .ok (.iload 7, 2) := by decide +kernel
theorem dX9_mixedStretch_93 : decode cX9_mixedStretch 93 = .ok (.iconst 0, 1) := by decide +kernel
theorem dX9_mixedStretch_94 : decode cX9_mixedStretch 94 = .ok (.invokevirtual 371, 3) := by decide +kernel
theorem dX9_mixedStretch_97 : decode cX9_mixedStretch 97 = .ok (.i2l, 1) := by decide +kernel
theorem dX9_mixedStretch_98 : decode cX9_mixedStretch 98 = .ok (.invokestatic 299, 3) := by decide +kernel
theorem dX9_mixedStretch_101 : decode cX9_mixedStretch 101 = .ok (.lstore 5, 2) := by decide +kernel
theorem dX9_mixedStretch_103 : decode cX9_mixedStretch 103 = .ok (.lload 5, 2) := by decide +kernel
theorem dX9_mixedStretch_105 : decode cX9_mixedStretch 105 = .ok (.aload_n 0, 1) := by decide +kernel
theorem dX9_mixedStretch_106 : decode cX9_mixedStretch 106 = .ok (.iload_n 3, 1) := by decide +kernel
theorem dX9_mixedStretch_107 : decode cX9_mixedStretch 107 = .ok (.iload 4, 2) := by decide +kernel
theorem dX9_mixedStretch_109 : decode cX9_mixedStretch 109 = .ok (.iload 7, 2) := by decide +kernel
theorem dX9_mixedStretch_111 : decode cX9_mixedStretch 111 = .ok (.iconst 1, 1) := by decide +kernel
theorem dX9_mixedStretch_112 : decode cX9_mixedStretch 112 = .ok (.invokevirtual 371, 3) := by decide +kernel
theorem dX9_mixedStretch_115 : decode cX9_mixedStretch 115 = .ok (.i2l, 1) := by decide +kernel
theorem dX9_mixedStretch_116 : decode cX9_mixedStretch 116 = .ok (.invokestatic 299, 3) := by decide +kernel
theorem dX9_mixedStretch_119 : decode cX9_mixedStretch 119 = .ok (.lstore 5, 2) := by decide +kernel
theorem dX9_mixedStretch_121 : decode cX9_mixedStretch 121 = .ok (.iinc 7 1, 3) := by decide +kernel
theorem dX9_mixedStretch_124 : decode cX9_mixedStretch 124 = .ok (.goto (-45), 3) := by decide +kernel
theorem dX9_mixedStretch_127 : decode cX9_mixedStretch 127 = .ok (.lload 5, 2) := by decide +kernel
theorem dX9_mixedStretch_129 : decode cX9_mixedStretch 129 = .ok (.lreturn, 1) := by decide +kernel
theorem dX9_isKey_0 : decode cX9_isKey 0 = .ok (.iload_n 0, 1) := by decide +kernel
theorem dX9_isKey_1 : decode cX9_isKey 1 = .ok (.ifCond .lt 13, 3) := by decide +kernel
theorem dX9_isKey_4 : decode cX9_isKey 4 = .ok (.iload_n 0, 1) := by decide +kernel
theorem dX9_isKey_5 : decode cX9_isKey 5 = .ok (.bipush 48, 2) := by decide +kernel
theorem dX9_isKey_7 : decode cX9_isKey 7 = .ok (.if_icmp .ge 7, 3) := by decide +kernel
theorem dX9_isKey_10 : decode cX9_isKey 10 = .ok (.iconst 1, 1) := by decide +kernel
theorem dX9_isKey_11 : decode cX9_isKey 11 = .ok (.goto 4, 3) := by decide +kernel
theorem dX9_isKey_14 : decode cX9_isKey 14 = .ok (.iconst 0, 1) := by decide +kernel
theorem dX9_isKey_15 : decode cX9_isKey 15 = .ok (.ireturn, 1) := by decide +kernel
theorem dX9_isKeyOrNone_0 : decode cX9_isKeyOrNone 0 = .ok (.iload_n 0, 1) := by decide +kernel
theorem dX9_isKeyOrNone_1 : decode cX9_isKeyOrNone 1 = .ok (.iconst (-1), 1) := by decide +kernel
theorem dX9_isKeyOrNone_2 : decode cX9_isKeyOrNone 2 = .ok (.if_icmp .eq 10, 3) := by decide +kernel
theorem dX9_isKeyOrNone_5 : decode cX9_isKeyOrNone 5 = .ok (.iload_n 0, 1) := by decide +kernel
theorem dX9_isKeyOrNone_6 : decode cX9_isKeyOrNone 6 = .ok (.invokestatic 80, 3) := by decide +kernel
theorem dX9_isKeyOrNone_9 : decode cX9_isKeyOrNone 9 = .ok (.ifCond .eq 7, 3) := by decide +kernel
theorem dX9_isKeyOrNone_12 : decode cX9_isKeyOrNone 12 = .ok (.iconst 1, 1) := by decide +kernel
theorem dX9_isKeyOrNone_13 : decode cX9_isKeyOrNone 13 = .ok (.goto 4, 3) := by decide +kernel
theorem dX9_isKeyOrNone_16 : decode cX9_isKeyOrNone 16 = .ok (.iconst 0, 1) := by decide +kernel
theorem dX9_isKeyOrNone_17 : decode cX9_isKeyOrNone 17 = .ok (.ireturn, 1) := by decide +kernel
theorem dX9_isPoint_0 : decode cX9_isPoint 0 = .ok (.iload_n 0, 1) := by decide +kernel
theorem dX9_isPoint_1 : decode cX9_isPoint 1 = .ok (.ldc_w 375, 3) := by decide +kernel
theorem dX9_isPoint_4 : decode cX9_isPoint 4 = .ok (.if_icmp .lt 13, 3) := by decide +kernel
theorem dX9_isPoint_7 : decode cX9_isPoint 7 = .ok (.iload_n 0, 1) := by decide +kernel
theorem dX9_isPoint_8 : decode cX9_isPoint 8 = .ok (.ldc 219, 2) := by decide +kernel
theorem dX9_isPoint_10 : decode cX9_isPoint 10 = .ok (.if_icmp .gt 7, 3) := by decide +kernel
theorem dX9_isPoint_13 : decode cX9_isPoint 13 = .ok (.iconst 1, 1) := by decide +kernel
theorem dX9_isPoint_14 : decode cX9_isPoint 14 = .ok (.goto 4, 3) := by decide +kernel
theorem dX9_isPoint_17 : decode cX9_isPoint 17 = .ok (.iconst 0, 1) := by decide +kernel
theorem dX9_isPoint_18 : decode cX9_isPoint 18 = .ok (.ireturn, 1) := by decide +kernel
theorem dX9_isStretch_0 : decode cX9_isStretch 0 = .ok (.iload_n 0, 1) := by decide +kernel
theorem dX9_isStretch_1 : decode cX9_isStretch 1 = .ok (.ldc_w 375, 3) := by decide +kernel
theorem dX9_isStretch_4 : decode cX9_isStretch 4 = .ok (.if_icmp .lt 18, 3) := by decide +kernel
theorem dX9_isStretch_7 : decode cX9_isStretch 7 = .ok (.iload_n 0, 1) := by decide +kernel
theorem dX9_isStretch_8 : decode cX9_isStretch 8 = .ok (.iload_n 1, 1) := by decide +kernel
theorem dX9_isStretch_9 : decode cX9_isStretch 9 = .ok (.if_icmp .ge 13, 3) := by decide +kernel
theorem dX9_isStretch_12 : decode cX9_isStretch 12 = .ok (.iload_n 1, 1) := by decide +kernel
theorem dX9_isStretch_13 : decode cX9_isStretch 13 = .ok (.ldc 219, 2) := by decide +kernel
theorem dX9_isStretch_15 : decode cX9_isStretch 15 = .ok (.if_icmp .gt 7, 3) := by decide +kernel
theorem dX9_isStretch_18 : decode cX9_isStretch 18 = .ok (.iconst 1, 1) := by decide +kernel
theorem dX9_isStretch_19 : decode cX9_isStretch 19 = .ok (.goto 4, 3) := by decide +kernel
theorem dX9_isStretch_22 : decode cX9_isStretch 22 = .ok (.iconst 0, 1) := by decide +kernel
theorem dX9_isStretch_23 : decode cX9_isStretch 23 = .ok (.ireturn, 1) := by decide +kernel
theorem dX9_isSheet_0 : decode cX9_isSheet 0 = .ok (.iload_n 0, 1) := by decide +kernel
theorem dX9_isSheet_1 : decode cX9_isSheet 1 = .ok (.ifCond .lt 12, 3) := by decide +kernel
theorem dX9_isSheet_4 : decode cX9_isSheet 4 = .ok (.iload_n 0, 1) := by decide +kernel
theorem dX9_isSheet_5 : decode cX9_isSheet 5 = .ok (.iconst 4, 1) := by decide +kernel
theorem dX9_isSheet_6 : decode cX9_isSheet 6 = .ok (.if_icmp .ge 7, 3) := by decide +kernel
theorem dX9_isSheet_9 : decode cX9_isSheet 9 = .ok (.iconst 1, 1) := by decide +kernel
theorem dX9_isSheet_10 : decode cX9_isSheet 10 = .ok (.goto 4, 3) := by decide +kernel
theorem dX9_isSheet_13 : decode cX9_isSheet 13 = .ok (.iconst 0, 1) := by decide +kernel
theorem dX9_isSheet_14 : decode cX9_isSheet 14 = .ok (.ireturn, 1) := by decide +kernel
theorem dX9_isForm_0 : decode cX9_isForm 0 = .ok (.iload_n 0, 1) := by decide +kernel
theorem dX9_isForm_1 : decode cX9_isForm 1 = .ok (.ifCond .lt 12, 3) := by decide +kernel
theorem dX9_isForm_4 : decode cX9_isForm 4 = .ok (.iload_n 0, 1) := by decide +kernel
theorem dX9_isForm_5 : decode cX9_isForm 5 = .ok (.iconst 2, 1) := by decide +kernel
theorem dX9_isForm_6 : decode cX9_isForm 6 = .ok (.if_icmp .gt 7, 3) := by decide +kernel
theorem dX9_isForm_9 : decode cX9_isForm 9 = .ok (.iconst 1, 1) := by decide +kernel
theorem dX9_isForm_10 : decode cX9_isForm 10 = .ok (.goto 4, 3) := by decide +kernel
theorem dX9_isForm_13 : decode cX9_isForm 13 = .ok (.iconst 0, 1) := by decide +kernel
theorem dX9_isForm_14 : decode cX9_isForm 14 = .ok (.ireturn, 1) := by decide +kernel
theorem dX9_isThere_0 : decode cX9_isThere 0 = .ok (.iload_n 1, 1) := by decide +kernel
theorem dX9_isThere_1 : decode cX9_isThere 1 = .ok (.invokestatic 80, 3) := by decide +kernel
theorem dX9_isThere_4 : decode cX9_isThere 4 = .ok (.ifCond .eq 19, 3) := by decide +kernel
theorem dX9_isThere_7 : decode cX9_isThere 7 = .ok (.aload_n 0, 1) := by decide +kernel
theorem dX9_isThere_8 : decode cX9_isThere 8 = .ok (.getfield 12, 3) := by decide +kernel
theorem dX9_isThere_11 : decode cX9_isThere 11 = .ok (.getfield 88, 3) := by decide +kernel
theorem dX9_isThere_14 : decode cX9_isThere 14 = .ok (.iload_n 1, 1) := by decide +kernel
theorem dX9_isThere_15 : decode cX9_isThere 15 = .ok (.baload, 1) := by decide +kernel
theorem dX9_isThere_16 : decode cX9_isThere 16 = .ok (.ifCond .eq 7, 3) := by decide +kernel
theorem dX9_isThere_19 : decode cX9_isThere 19 = .ok (.iconst 1, 1) := by decide +kernel
theorem dX9_isThere_20 : decode cX9_isThere 20 = .ok (.goto 4, 3) := by decide +kernel
theorem dX9_isThere_23 : decode cX9_isThere 23 = .ok (.iconst 0, 1) := by decide +kernel
theorem dX9_isThere_24 : decode cX9_isThere 24 = .ok (.ireturn, 1) := by decide +kernel
theorem dX9_found_0 : decode cX9_found 0 = .ok (.aload_n 0, 1) := by decide +kernel
theorem dX9_found_1 : decode cX9_found 1 = .ok (.iload_n 1, 1) := by decide +kernel
theorem dX9_found_2 : decode cX9_found 2 = .ok (.putfield 75, 3) := by decide +kernel
theorem dX9_found_5 : decode cX9_found 5 = .ok (.bipush (-10), 2) := by decide +kernel
theorem dX9_found_7 : decode cX9_found 7 = .ok (.iload_n 1, 1) := by decide +kernel
theorem dX9_found_8 : decode cX9_found 8 = .ok (.isub, 1) := by decide +kernel
theorem dX9_found_9 : decode cX9_found 9 = .ok (.ireturn, 1) := by decide +kernel
theorem dX9_itemRefusal_0 : decode cX9_itemRefusal 0 = .ok (.iload_n 1, 1) := by decide +kernel
theorem dX9_itemRefusal_1 : decode cX9_itemRefusal 1 = .ok (.invokestatic 124, 3) := by decide +kernel
theorem dX9_itemRefusal_4 : decode cX9_itemRefusal 4 = .ok (.ifCond .eq 10, 3) := by decide +kernel
theorem dX9_itemRefusal_7 : decode cX9_itemRefusal 7 = .ok (.iload_n 2, 1) := by decide +kernel
theorem dX9_itemRefusal_8 : decode cX9_itemRefusal 8 = .ok (.invokestatic 265, 3) := by decide +kernel
theorem dX9_itemRefusal_11 : decode cX9_itemRefusal 11 = .ok (.ifCond .ne 6, 3) := by decide +kernel
theorem dX9_itemRefusal_14 : decode cX9_itemRefusal 14 = .ok (.bipush (-2), 2) := by decide +kernel
theorem dX9_itemRefusal_16 : decode cX9_itemRefusal 16 = .ok (.ireturn, 1) := by decide +kernel
theorem dX9_itemRefusal_17 : decode cX9_itemRefusal 17 = .ok (.aload_n 0, 1) := by decide +kernel
theorem dX9_itemRefusal_18 : decode cX9_itemRefusal 18 = .ok (.getfield 67, 3) := by decide +kernel
theorem dX9_itemRefusal_21 : decode cX9_itemRefusal 21 = .ok (.iload_n 1, 1) := by decide +kernel
theorem dX9_itemRefusal_22 : decode cX9_itemRefusal 22 = .ok (.aaload, 1) := by decide +kernel
theorem dX9_itemRefusal_23 : decode cX9_itemRefusal 23 = .ok (.astore 4, 2) := by decide +kernel
theorem dX9_itemRefusal_25 : decode cX9_itemRefusal 25 = .ok (.aload 4, 2) := by decide +kernel
theorem dX9_itemRefusal_27 : decode cX9_itemRefusal 27 = .ok (.getfield 127, 3) := by decide +kernel
theorem dX9_itemRefusal_30 : decode cX9_itemRefusal 30 = .ok (.ifCond .eq 9, 3) := by decide +kernel
theorem dX9_itemRefusal_33 : decode cX9_itemRefusal 33 = .ok (.aload_n 0, 1) := by decide +kernel
theorem dX9_itemRefusal_34 : decode cX9_itemRefusal 34 = .ok (.iconst 1, 1) := by decide +kernel
theorem dX9_itemRefusal_35 : decode cX9_itemRefusal 35 = .ok (.invokevirtual 130, 3) := by decide +kernel
theorem dX9_itemRefusal_38 : decode cX9_itemRefusal 38 = .ok (.ireturn, 1) := by decide +kernel
theorem dX9_itemRefusal_39 : decode cX9_itemRefusal 39 = .ok (.aload 4, 2) := by decide +kernel
theorem dX9_itemRefusal_41 : decode cX9_itemRefusal 41 = .ok (.getfield 278, 3) := by decide +kernel
theorem dX9_itemRefusal_44 : decode cX9_itemRefusal 44 = .ok (.iload_n 2, 1) := by decide +kernel
theorem dX9_itemRefusal_45 : decode cX9_itemRefusal 45 = .ok (.if_icmp .eq 9, 3) := by decide +kernel
theorem dX9_itemRefusal_48 : decode cX9_itemRefusal 48 = .ok (.aload_n 0, 1) := by decide +kernel
theorem dX9_itemRefusal_49 : decode cX9_itemRefusal 49 = .ok (.iconst 3, 1) := by decide +kernel
theorem dX9_itemRefusal_50 : decode cX9_itemRefusal 50 = .ok (.invokevirtual 130, 3) := by decide +kernel
theorem dX9_itemRefusal_53 : decode cX9_itemRefusal 53 = .ok (.ireturn, 1) := by decide +kernel
theorem dX9_itemRefusal_54 : decode cX9_itemRefusal 54 = .ok (.aload 4, 2) := by decide +kernel
theorem dX9_itemRefusal_56 : decode cX9_itemRefusal 56 = .ok (.iload_n 3, 1) := by decide +kernel
theorem dX9_itemRefusal_57 : decode cX9_itemRefusal 57 = .ok (.iconst 1, 1) := by decide +kernel
theorem dX9_itemRefusal_58 : decode cX9_itemRefusal 58 = .ok (.invokevirtual 281, 3) := by decide +kernel
theorem dX9_itemRefusal_61 : decode cX9_itemRefusal 61 = .ok (.ifCond .eq 7, 3) := by decide +kernel
theorem dX9_itemRefusal_64 : decode cX9_itemRefusal 64 = .ok (.iconst 0, 1) := by decide +kernel
theorem dX9_itemRefusal_65 : decode cX9_itemRefusal 65 = .ok (.goto 8, 3) := by decide +kernel
theorem dX9_itemRefusal_68 : decode cX9_itemRefusal 68 = .ok (.aload_n 0, 1) := by decide +kernel
theorem dX9_itemRefusal_69 : decode cX9_itemRefusal 69 = .ok (.iconst 2, 1) := by decide +kernel
theorem dX9_itemRefusal_70 : decode cX9_itemRefusal 70 = .ok (.invokevirtual 130, 3) := by decide +kernel
theorem dX9_itemRefusal_73 : decode cX9_itemRefusal 73 = .ok (.ireturn, 1) := by decide +kernel
theorem dX9_change_0 : decode cX9_change 0 = .ok (.aload_n 0, 1) := by decide +kernel
theorem dX9_change_1 : decode cX9_change 1 = .ok (.getfield 19, 3) := by decide +kernel
theorem dX9_change_4 : decode cX9_change 4 = .ok (.iload_n 1, 1) := by decide +kernel
theorem dX9_change_5 : decode cX9_change 5 = .ok (.aload_n 0, 1) := by decide +kernel
theorem dX9_change_6 : decode cX9_change 6 = .ok (.getfield 12, 3) := by decide +kernel
theorem dX9_change_9 : decode cX9_change 9 = .ok (.invokevirtual 376, 3) := by decide +kernel
theorem dX9_change_12 : decode cX9_change 12 = .ok (.aload_n 0, 1) := by decide +kernel
theorem dX9_change_13 : decode cX9_change 13 = .ok (.iload_n 1, 1) := by decide +kernel
theorem dX9_change_14 : decode cX9_change 14 = .ok (.iload_n 2, 1) := by decide +kernel
theorem dX9_change_15 : decode cX9_change 15 = .ok (.iload_n 3, 1) := by decide +kernel
theorem dX9_change_16 : decode cX9_change 16 = .ok (.iload 4, 2) := by decide +kernel
theorem dX9_change_18 : decode cX9_change 18 = .ok (.invokevirtual 121, 3) := by decide +kernel
theorem dX9_change_21 : decode cX9_change 21 = .ok (.return_, 1) := by decide +kernel
theorem dX9_setSpan_0 : decode cX9_setSpan 0 = .ok (.aload_n 0, 1) := by decide +kernel
theorem dX9_setSpan_1 : decode cX9_setSpan 1 = .ok (.getfield 12, 3) := by decide +kernel
theorem dX9_setSpan_4 : decode cX9_setSpan 4 = .ok (.getfield 88, 3) := by decide +kernel
theorem dX9_setSpan_7 : decode cX9_setSpan 7 = .ok (.iload_n 1, 1) := by decide +kernel
theorem dX9_setSpan_8 : decode cX9_setSpan 8 = .ok (.baload, 1) := by decide +kernel
theorem dX9_setSpan_9 : decode cX9_setSpan 9 = .ok (.ifCond .eq 11, 3) := by decide +kernel
theorem dX9_setSpan_12 : decode cX9_setSpan 12 = .ok (.aload_n 0, 1) := by decide +kernel
theorem dX9_setSpan_13 : decode cX9_setSpan 13 = .ok (.getfield 12, 3) := by decide +kernel
theorem dX9_setSpan_16 : decode cX9_setSpan 16 = .ok (.iload_n 1, 1) := by decide +kernel
theorem dX9_setSpan_17 : decode cX9_setSpan 17 = .ok (.invokevirtual 380, 3) := by decide +kernel
theorem dX9_setSpan_20 : decode cX9_setSpan 20 = .ok (.iload_n 2, 1) := by decide +kernel
theorem dX9_setSpan_21 : decode cX9_setSpan 21 = .ok (.ifCond .eq 14, 3) := by decide +kernel
theorem dX9_setSpan_24 : decode cX9_setSpan 24 = .ok (.aload_n 0, 1) := by decide +kernel
theorem dX9_setSpan_25 : decode cX9_setSpan 25 = .ok (.getfield 12, 3) := by decide +kernel
theorem dX9_setSpan_28 : decode cX9_setSpan 28 = .ok (.iload_n 1, 1) := by decide +kernel
theorem dX9_setSpan_29 : decode cX9_setSpan 29 = .ok (.iload_n 3, 1) := by decide +kernel
theorem dX9_setSpan_30 : decode cX9_setSpan 30 = .ok (.iload 4, 2) := by decide +kernel
theorem dX9_setSpan_32 : decode cX9_setSpan 32 = .ok (.invokevirtual 384, 3) := by decide +kernel
theorem dX9_setSpan_35 : decode cX9_setSpan 35 = .ok (.aload_n 0, 1) := by decide +kernel
theorem dX9_setSpan_36 : decode cX9_setSpan 36 = .ok (.iconst 1, 1) := by decide +kernel
theorem dX9_setSpan_37 : decode cX9_setSpan 37 = .ok (.putfield 71, 3) := by decide +kernel
theorem dX9_setSpan_40 : decode cX9_setSpan 40 = .ok (.return_, 1) := by decide +kernel
theorem dX9_settle_0 : decode cX9_settle 0 = .ok (.aload_n 0, 1) := by decide +kernel
theorem dX9_settle_1 : decode cX9_settle 1 = .ok (.getfield 71, 3) := by decide +kernel
theorem dX9_settle_4 : decode cX9_settle 4 = .ok (.ifCond .ne 4, 3) := by decide +kernel
theorem dX9_settle_7 : decode cX9_settle 7 = .ok (.return_, 1) := by decide +kernel
theorem dX9_settle_8 : decode cX9_settle 8 = .ok (.aload_n 0, 1) := by decide +kernel
theorem dX9_settle_9 : decode cX9_settle 9 = .ok (.getfield 26, 3) := by decide +kernel
theorem dX9_settle_12 : decode cX9_settle 12 = .ok (.aload_n 0, 1) := by decide +kernel
theorem dX9_settle_13 : decode cX9_settle 13 = .ok (.getfield 12, 3) := by decide +kernel
theorem dX9_settle_16 : decode cX9_settle 16 = .ok (.invokevirtual 388, 3) := by decide +kernel
theorem dX9_settle_19 : decode cX9_settle 19 = .ok (.aload_n 0, 1) := by decide +kernel
theorem dX9_settle_20 : decode cX9_settle 20 = .ok (.getfield 33, 3) := by decide +kernel
theorem dX9_settle_23 : decode cX9_settle 23 = .ok (.aload_n 0, 1) := by decide +kernel
theorem dX9_settle_24 : decode cX9_settle 24 = .ok (.getfield 12, 3) := by decide +kernel
theorem dX9_settle_27 : decode cX9_settle 27 = .ok (.invokevirtual 392, 3) := by decide +kernel
theorem dX9_settle_30 : decode cX9_settle 30 = .ok (.aload_n 0, 1) := by decide +kernel
theorem dX9_settle_31 : decode cX9_settle 31 = .ok (.getfield 40, 3) := by decide +kernel
theorem dX9_settle_34 : decode cX9_settle 34 = .ok (.aload_n 0, 1) := by decide +kernel
theorem dX9_settle_35 : decode cX9_settle 35 = .ok (.getfield 12, 3) := by decide +kernel
theorem dX9_settle_38 : decode cX9_settle 38 = .ok (.invokevirtual 393, 3) := by decide +kernel
theorem dX9_settle_41 : decode cX9_settle 41 = .ok (.aload_n 0, 1) := by decide +kernel
theorem dX9_settle_42 : decode cX9_settle 42 = .ok (.getfield 47, 3) := by decide +kernel
theorem dX9_settle_45 : decode cX9_settle 45 = .ok (.aload_n 0, 1) := by decide +kernel
theorem dX9_settle_46 : decode cX9_settle 46 = .ok (.getfield 12, 3) := by decide +kernel
theorem dX9_settle_49 : decode cX9_settle 49 = .ok (.invokevirtual 394, 3) := by decide +kernel
theorem dX9_settle_52 : decode cX9_settle 52 = .ok (.aload_n 0, 1) := by decide +kernel
theorem dX9_settle_53 : decode cX9_settle 53 = .ok (.getfield 54, 3) := by decide +kernel
theorem dX9_settle_56 : decode cX9_settle 56 = .ok (.aload_n 0, 1) := by decide +kernel
theorem dX9_settle_57 : decode cX9_settle 57 = .ok (.getfield 12, 3) := by decide +kernel
theorem dX9_settle_60 : decode cX9_settle 60 = .ok (.invokevirtual 395, 3) := by decide +kernel
theorem dX9_settle_63 : decode cX9_settle 63 = .ok (.aload_n 0, 1) := by decide +kernel
theorem dX9_settle_64 : decode cX9_settle 64 = .ok (.getfield 61, 3) := by decide +kernel
theorem dX9_settle_67 : decode cX9_settle 67 = .ok (.aload_n 0, 1) := by decide +kernel
theorem dX9_settle_68 : decode cX9_settle 68 = .ok (.getfield 12, 3) := by decide +kernel
theorem dX9_settle_71 : decode cX9_settle 71 = .ok (.invokevirtual 396, 3) := by decide +kernel
theorem dX9_settle_74 : decode cX9_settle 74 = .ok (.aload_n 0, 1) := by decide +kernel
theorem dX9_settle_75 : decode cX9_settle 75 = .ok (.iconst 0, 1) := by decide +kernel
theorem dX9_settle_76 : decode cX9_settle 76 = .ok (.putfield 71, 3) := by decide +kernel
theorem dX9_settle_79 : decode cX9_settle 79 = .ok (.return_, 1) := by decide +kernel
theorem dX10_init_0 : decode cX10_init 0 = .ok (.aload_n 0, 1) := by decide +kernel
theorem dX10_init_1 : decode cX10_init 1 = .ok (.invokespecial 1, 3) := by decide +kernel
theorem dX10_init_4 : decode cX10_init 4 = .ok (.aload_n 0, 1) := by decide +kernel
theorem dX10_init_5 : decode cX10_init 5 = .ok (.iconst 4, 1) := by decide +kernel
theorem dX10_init_6 : decode cX10_init 6 = .ok (.newarray .int, 2) := by decide +kernel
theorem dX10_init_8 : decode cX10_init 8 = .ok (.putfield 7, 3) := by decide +kernel
theorem dX10_init_11 : decode cX10_init 11 = .ok (.aload_n 0, 1) := by decide +kernel
theorem dX10_init_12 : decode cX10_init 12 = .ok (.iconst 4, 1) := by decide +kernel
theorem dX10_init_13 : decode cX10_init 13 = .ok (.newarray .int, 2) := by decide +kernel
theorem dX10_init_15 : decode cX10_init 15 = .ok (.putfield 13, 3) := by decide +kernel
theorem dX10_init_18 : decode cX10_init 18 = .ok (.aload_n 0, 1) := by decide +kernel
theorem dX10_init_19 : decode cX10_init 19 = .ok (.sipush 240, 3) := by decide +kernel
theorem dX10_init_22 : decode cX10_init 22 = .ok (.newarray .int, 2) := by decide +kernel
theorem dX10_init_24 : decode cX10_init 24 = .ok (.putfield 16, 3) := by decide +kernel
theorem dX10_init_27 : decode cX10_init 27 = .ok (.aload_n 0, 1) := by decide +kernel
theorem dX10_init_28 : decode cX10_init 28 = .ok (.bipush 60, 2) := by decide +kernel
theorem dX10_init_30 : decode cX10_init 30 = .ok (.newarray .int, 2) := by decide +kernel
theorem dX10_init_32 : decode cX10_init 32 = .ok (.putfield 19, 3) := by decide +kernel
theorem dX10_init_35 : decode cX10_init 35 = .ok (.aload_n 0, 1) := by decide +kernel
theorem dX10_init_36 : decode cX10_init 36 = .ok (.bipush 48, 2) := by decide +kernel
theorem dX10_init_38 : decode cX10_init 38 = .ok (.newarray .boolean, 2) := by decide +kernel
theorem dX10_init_40 : decode cX10_init 40 = .ok (.putfield 22, 3) := by decide +kernel
theorem dX10_init_43 : decode cX10_init 43 = .ok (.aload_n 0, 1) := by decide +kernel
theorem dX10_init_44 : decode cX10_init 44 = .ok (.bipush 48, 2) := by decide +kernel
theorem dX10_init_46 : decode cX10_init 46 = .ok (.newarray .int, 2) := by decide +kernel
theorem dX10_init_48 : decode cX10_init 48 = .ok (.putfield 26, 3) := by decide +kernel
theorem dX10_init_51 : decode cX10_init 51 = .ok (.aload_n 0, 1) := by decide +kernel
theorem dX10_init_52 : decode cX10_init 52 = .ok (.bipush 48, 2) := by decide +kernel
theorem dX10_init_54 : decode cX10_init 54 = .ok (.newarray .int, 2) := by decide +kernel
theorem dX10_init_56 : decode cX10_init 56 = .ok (.putfield 29, 3) := by decide +kernel
theorem dX10_init_59 : decode cX10_init 59 = .ok (.aload_n 0, 1) := by decide +kernel
theorem dX10_init_60 : decode cX10_init 60 = .ok (.bipush 64, 2) := by decide +kernel
theorem dX10_init_62 : decode cX10_init 62 = .ok (.newarray .int, 2) := by decide +kernel
theorem dX10_init_64 : decode cX10_init 64 = .ok (.putfield 32, 3) := by decide +kernel
theorem dX10_init_67 : decode cX10_init 67 = .ok (.aload_n 0, 1) := by decide +kernel
theorem dX10_init_68 : decode cX10_init 68 = .ok (.bipush 64, 2) := by decide +kernel
theorem dX10_init_70 : decode cX10_init 70 = .ok (.newarray .int, 2) := by decide +kernel
theorem dX10_init_72 : decode cX10_init 72 = .ok (.putfield 35, 3) := by decide +kernel
theorem dX10_init_75 : decode cX10_init 75 = .ok (.aload_n 0, 1) := by decide +kernel
theorem dX10_init_76 : decode cX10_init 76 = .ok (.bipush 64, 2) := by decide +kernel
theorem dX10_init_78 : decode cX10_init 78 = .ok (.newarray .int, 2) := by decide +kernel
theorem dX10_init_80 : decode cX10_init 80 = .ok (.putfield 38, 3) := by decide +kernel
theorem dX10_init_83 : decode cX10_init 83 = .ok (.aload_n 0, 1) := by decide +kernel
theorem dX10_init_84 : decode cX10_init 84 = .ok (.bipush 64, 2) := by decide +kernel
theorem dX10_init_86 : decode cX10_init 86 = .ok (.newarray .int, 2) := by decide +kernel
theorem dX10_init_88 : decode cX10_init 88 = .ok (.putfield 41, 3) := by decide +kernel
theorem dX10_init_91 : decode cX10_init 91 = .ok (.aload_n 0, 1) := by decide +kernel
theorem dX10_init_92 : decode cX10_init 92 = .ok (.bipush 48, 2) := by decide +kernel
theorem dX10_init_94 : decode cX10_init 94 = .ok (.newarray .int, 2) := by decide +kernel
theorem dX10_init_96 : decode cX10_init 96 = .ok (.putfield 44, 3) := by decide +kernel
theorem dX10_init_99 : decode cX10_init 99 = .ok (.aload_n 0, 1) := by decide +kernel
theorem dX10_init_100 : decode cX10_init 100 = .ok (.bipush 48, 2) := by decide +kernel
theorem dX10_init_102 : decode cX10_init 102 = .ok (.newarray .int, 2) := by decide +kernel
theorem dX10_init_104 : decode cX10_init 104 = .ok (.putfield 47, 3) := by decide +kernel
theorem dX10_init_107 : decode cX10_init 107 = .ok (.aload_n 0, 1) := by decide +kernel
theorem dX10_init_108 : decode cX10_init 108 = .ok (.bipush 48, 2) := by decide +kernel
theorem dX10_init_110 : decode cX10_init 110 = .ok (.newarray .int, 2) := by decide +kernel
theorem dX10_init_112 : decode cX10_init 112 = .ok (.putfield 50, 3) := by decide +kernel
theorem dX10_init_115 : decode cX10_init 115 = .ok (.aload_n 0, 1) := by decide +kernel
theorem dX10_init_116 : decode cX10_init 116 = .ok (.bipush 48, 2) := by decide +kernel
theorem dX10_init_118 : decode cX10_init 118 = .ok (.newarray .int, 2) := by decide +kernel
theorem dX10_init_120 : decode cX10_init 120 = .ok (.putfield 53, 3) := by decide +kernel
theorem dX10_init_123 : decode cX10_init 123 = .ok (.aload_n 0, 1) := by decide +kernel
theorem dX10_init_124 : decode cX10_init 124 = .ok (.bipush 48, 2) := by decide +kernel
theorem dX10_init_126 : decode cX10_init 126 = .ok (.newarray .int, 2) := by decide +kernel
theorem dX10_init_128 : decode cX10_init 128 = .ok (.putfield 56, 3) := by decide +kernel
theorem dX10_init_131 : decode cX10_init 131 = .ok (.aload_n 0, 1) := by decide +kernel
theorem dX10_init_132 : decode cX10_init 132 = .ok (.bipush 48, 2) := by decide +kernel
theorem dX10_init_134 : decode cX10_init 134 = .ok (.newarray .int, 2) := by decide +kernel
theorem dX10_init_136 : decode cX10_init 136 = .ok (.putfield 59, 3) := by decide +kernel
theorem dX10_init_139 : decode cX10_init 139 = .ok (.aload_n 0, 1) := by decide +kernel
theorem dX10_init_140 : decode cX10_init 140 = .ok (.bipush 48, 2) := by decide +kernel
theorem dX10_init_142 : decode cX10_init 142 = .ok (.newarray .int, 2) := by decide +kernel
theorem dX10_init_144 : decode cX10_init 144 = .ok (.putfield 62, 3) := by decide +kernel
theorem dX10_init_147 : decode cX10_init 147 = .ok (.aload_n 0, 1) := by decide +kernel
theorem dX10_init_148 : decode cX10_init 148 = .ok (.bipush 48, 2) := by decide +kernel
theorem dX10_init_150 : decode cX10_init 150 = .ok (.newarray .int, 2) := by decide +kernel
theorem dX10_init_152 : decode cX10_init 152 = .ok (.putfield 65, 3) := by decide +kernel
theorem dX10_init_155 : decode cX10_init 155 = .ok (.aload_n 0, 1) := by decide +kernel
theorem dX10_init_156 : decode cX10_init 156 = .ok (.bipush 48, 2) := by decide +kernel
theorem dX10_init_158 : decode cX10_init 158 = .ok (.newarray .int, 2) := by decide +kernel
theorem dX10_init_160 : decode cX10_init 160 = .ok (.putfield 68, 3) := by decide +kernel
theorem dX10_init_163 : decode cX10_init 163 = .ok (.aload_n 0, 1) := by decide +kernel
theorem dX10_init_164 : decode cX10_init 164 = .ok (.bipush 48, 2) := by decide +kernel
theorem dX10_init_166 : decode cX10_init 166 = .ok (.newarray .int, 2) := by decide +kernel
theorem dX10_init_168 : decode cX10_init 168 = .ok (.putfield 71, 3) := by decide +kernel
theorem dX10_init_171 : decode cX10_init 171 = .ok (.aload_n 0, 1) := by decide +kernel
theorem dX10_init_172 : decode cX10_init 172 = .ok (.bipush 48, 2) := by decide +kernel
theorem dX10_init_174 : decode cX10_init 174 = .ok (.newarray .int, 2) := by decide +kernel
theorem dX10_init_176 : decode cX10_init 176 = .ok (.putfield 74, 3) := by decide +kernel
theorem dX10_init_179 : decode cX10_init 179 = .ok (.aload_n 0, 1) := by decide +kernel
theorem dX10_init_180 : decode cX10_init 180 = .ok (.bipush 48, 2) := by decide +kernel
theorem dX10_init_182 : decode cX10_init 182 = .ok (.newarray .int, 2) := by decide +kernel
theorem dX10_init_184 : decode cX10_init 184 = .ok (.putfield 77, 3) := by decide +kernel
theorem dX10_init_187 : decode cX10_init 187 = .ok (.aload_n 0, 1) := by decide +kernel
theorem dX10_init_188 : decode cX10_init 188 = .ok (.bipush 48, 2) := by decide +kernel
theorem dX10_init_190 : decode cX10_init 190 = .ok (.newarray .int, 2) := by decide +kernel
theorem dX10_init_192 : decode cX10_init 192 = .ok (.putfield 80, 3) := by decide +kernel
theorem dX10_init_195 : decode cX10_init 195 = .ok (.aload_n 0, 1) := by decide +kernel
theorem dX10_init_196 : decode cX10_init 196 = .ok (.bipush 49, 2) := by decide +kernel
theorem dX10_init_198 : decode cX10_init 198 = .ok (.newarray .int, 2) := by decide +kernel
theorem dX10_init_200 : decode cX10_init 200 = .ok (.putfield 83, 3) := by decide +kernel
theorem dX10_init_203 : decode cX10_init 203 = .ok (.aload_n 0, 1) := by decide +kernel
theorem dX10_init_204 : decode cX10_init 204 = .ok (.bipush 49, 2) := by decide +kernel
theorem dX10_init_206 : decode cX10_init 206 = .ok (.newarray .int, 2) := by decide +kernel
theorem dX10_init_208 : decode cX10_init 208 = .ok (.putfield 86, 3) := by decide +kernel
theorem dX10_init_211 : decode cX10_init 211 = .ok (.aload_n 0, 1) := by decide +kernel
theorem dX10_init_212 : decode cX10_init 212 = .ok (.bipush 48, 2) := by decide +kernel
theorem dX10_init_214 : decode cX10_init 214 = .ok (.newarray .int, 2) := by decide +kernel
theorem dX10_init_216 : decode cX10_init 216 = .ok (.putfield 89, 3) := by decide +kernel
theorem dX10_init_219 : decode cX10_init 219 = .ok (.aload_n 0, 1) := by decide +kernel
theorem dX10_init_220 : decode cX10_init 220 = .ok (.bipush 48, 2) := by decide +kernel
theorem dX10_init_222 : decode cX10_init 222 = .ok (.newarray .int, 2) := by decide +kernel
theorem dX10_init_224 : decode cX10_init 224 = .ok (.putfield 92, 3) := by decide +kernel
theorem dX10_init_227 : decode cX10_init 227 = .ok (.aload_n 0, 1) := by decide +kernel
theorem dX10_init_228 : decode cX10_init 228 = .ok (.bipush 48, 2) := by decide +kernel
theorem dX10_init_230 : decode cX10_init 230 = .ok (.newarray .int, 2) := by decide +kernel
theorem dX10_init_232 : decode cX10_init 232 = .ok (.putfield 95, 3) := by decide +kernel
theorem dX10_init_235 : decode cX10_init 235 = .ok (.aload_n 0, 1) := by decide +kernel
theorem dX10_init_236 : decode cX10_init 236 = .ok (.bipush 48, 2) := by decide +kernel
theorem dX10_init_238 : decode cX10_init 238 = .ok (.newarray .int, 2) := by decide +kernel
theorem dX10_init_240 : decode cX10_init 240 = .ok (.putfield 98, 3) := by decide +kernel
theorem dX10_init_243 : decode cX10_init 243 = .ok (.iconst 0, 1) := by decide +kernel
theorem dX10_init_244 : decode cX10_init 244 = .ok (.istore_n 1, 1) := by decide +kernel
theorem dX10_init_245 : decode cX10_init 245 = .ok (.iload_n 1, 1) := by decide +kernel
theorem dX10_init_246 : decode cX10_init 246 = .ok (.iconst 4, 1) := by decide +kernel
theorem dX10_init_247 : decode cX10_init 247 = .ok (.if_icmp .ge 16, 3) := by decide +kernel
theorem dX10_init_250 : decode cX10_init 250 = .ok (.aload_n 0, 1) := by decide +kernel
theorem dX10_init_251 : decode cX10_init 251 = .ok (.getfield 7, 3) := by decide +kernel
theorem dX10_init_254 : decode cX10_init 254 = .ok (.iload_n 1, 1) := by decide +kernel
theorem dX10_init_255 : decode cX10_init 255 = .ok (.iconst (-1), 1) := by decide +kernel
theorem dX10_init_256 : decode cX10_init 256 = .ok (.iastore, 1) := by decide +kernel
theorem dX10_init_257 : decode cX10_init 257 = .ok (.iinc 1 1, 3) := by decide +kernel
theorem dX10_init_260 : decode cX10_init 260 = .ok (.goto (-15), 3) := by decide +kernel
theorem dX10_init_263 : decode cX10_init 263 = .ok (.return_, 1) := by decide +kernel
theorem dX10_in_0 : decode cX10_in 0 = .ok (.lload_n 0, 1) := by decide +kernel
theorem dX10_in_1 : decode cX10_in 1 = .ok (.lload_n 2, 1) := by decide +kernel
theorem dX10_in_2 : decode cX10_in 2 = .ok (.lcmp, 1) := by decide +kernel
theorem dX10_in_3 : decode cX10_in 3 = .ok (.ifCond .lt 14, 3) := by decide +kernel
theorem dX10_in_6 : decode cX10_in 6 = .ok (.lload_n 0, 1) := by decide +kernel
theorem dX10_in_7 : decode cX10_in 7 = .ok (.lload 4, 2) := by decide +kernel
theorem dX10_in_9 : decode cX10_in 9 = .ok (.lcmp, 1) := by decide +kernel
theorem dX10_in_10 : decode cX10_in 10 = .ok (.ifCond .gt 7, 3) := by decide +kernel
theorem dX10_in_13 : decode cX10_in 13 = .ok (.iconst 1, 1) := by decide +kernel
theorem dX10_in_14 : decode cX10_in 14 = .ok (.goto 4, 3) := by decide +kernel
theorem dX10_in_17 : decode cX10_in 17 = .ok (.iconst 0, 1) := by decide +kernel
theorem dX10_in_18 : decode cX10_in 18 = .ok (.ireturn, 1) := by decide +kernel
theorem dX10_isTwo_0 : decode cX10_isTwo 0 = .ok (.iload_n 0, 1) := by decide +kernel
theorem dX10_isTwo_1 : decode cX10_isTwo 1 = .ok (.i2l, 1) := by decide +kernel
theorem dX10_isTwo_2 : decode cX10_isTwo 2 = .ok (.lconst 0, 1) := by decide +kernel
theorem dX10_isTwo_3 : decode cX10_isTwo 3 = .ok (.lconst 1, 1) := by decide +kernel
theorem dX10_isTwo_4 : decode cX10_isTwo 4 = .ok (.invokestatic 101, 3) := by decide +kernel
theorem dX10_isTwo_7 : decode cX10_isTwo 7 = .ok (.ireturn, 1) := by decide +kernel
theorem dX10_lesser_0 : decode cX10_lesser 0 = .ok (.iload_n 0, 1) := by decide +kernel
theorem dX10_lesser_1 : decode cX10_lesser 1 = .ok (.iload_n 1, 1) := by decide +kernel
theorem dX10_lesser_2 : decode cX10_lesser 2 = .ok (.if_icmp .ge 7, 3) := by decide +kernel
theorem dX10_lesser_5 : decode cX10_lesser 5 = .ok (.iload_n 0, 1) := by decide +kernel
theorem dX10_lesser_6 : decode cX10_lesser 6 = .ok (.goto 4, 3) := by decide +kernel
theorem dX10_lesser_9 : decode cX10_lesser 9 = .ok (.iload_n 1, 1) := by decide +kernel
theorem dX10_lesser_10 : decode cX10_lesser 10 = .ok (.ireturn, 1) := by decide +kernel
theorem dX10_greater_0 : decode cX10_greater 0 = .ok (.iload_n 0, 1) := by decide +kernel
theorem dX10_greater_1 : decode cX10_greater 1 = .ok (.iload_n 1, 1) := by decide +kernel
theorem dX10_greater_2 : decode cX10_greater 2 = .ok (.if_icmp .le 7, 3) := by decide +kernel
theorem dX10_greater_5 : decode cX10_greater 5 = .ok (.iload_n 0, 1) := by decide +kernel
theorem dX10_greater_6 : decode cX10_greater 6 = .ok (.goto 4, 3) := by decide +kernel
theorem dX10_greater_9 : decode cX10_greater 9 = .ok (.iload_n 1, 1) := by decide +kernel
theorem dX10_greater_10 : decode cX10_greater 10 = .ok (.ireturn, 1) := by decide +kernel
theorem dX10_finds_0 : decode cX10_finds 0 = .ok (.aload_n 0, 1) := by decide +kernel
theorem dX10_finds_1 : decode cX10_finds 1 = .ok (.iload_n 1, 1) := by decide +kernel
theorem dX10_finds_2 : decode cX10_finds 2 = .ok (.putfield 105, 3) := by decide +kernel
theorem dX10_finds_5 : decode cX10_finds 5 = .ok (.bipush (-10), 2) := by decide +kernel
theorem dX10_finds_7 : decode cX10_finds 7 = .ok (.iload_n 1, 1) := by decide +kernel
theorem dX10_finds_8 : decode cX10_finds 8 = .ok (.isub, 1) := by decide +kernel
theorem dX10_finds_9 : decode cX10_finds 9 = .ok (.ireturn, 1) := by decide +kernel
theorem dX10_isSheet_0 : decode cX10_isSheet 0 = .ok (.iload_n 0, 1) := by decide +kernel
theorem dX10_isSheet_1 : decode cX10_isSheet 1 = .ok (.i2l, 1) := by decide +kernel
theorem dX10_isSheet_2 : decode cX10_isSheet 2 = .ok (.lconst 0, 1) := by decide +kernel
theorem dX10_isSheet_3 : decode cX10_isSheet 3 = .ok (.ldc2_w 109, 3) := by decide +kernel
theorem dX10_isSheet_6 : decode cX10_isSheet 6 = .ok (.invokestatic 101, 3) := by decide +kernel
theorem dX10_isSheet_9 : decode cX10_isSheet 9 = .ok (.ireturn, 1) := by decide +kernel
theorem dX10_sheet_0 : decode cX10_sheet 0 = .ok (.iload_n 1, 1) := by decide +kernel
theorem dX10_sheet_1 : decode cX10_sheet 1 = .ok (.invokestatic 111, 3) := by decide +kernel
theorem dX10_sheet_4 : decode cX10_sheet 4 = .ok (.ifCond .eq 21, 3) := by decide +kernel
theorem dX10_sheet_7 : decode cX10_sheet 7 = .ok (.iload_n 2, 1) := by decide +kernel
theorem dX10_sheet_8 : decode cX10_sheet 8 = .ok (.i2l, 1) := by decide +kernel
theorem dX10_sheet_9 : decode cX10_sheet 9 = .ok (.lconst 0, 1) := by decide +kernel
theorem dX10_sheet_10 : decode cX10_sheet 10 = .ok (.ldc2_w 115, 3) := by decide +kernel
theorem dX10_sheet_13 : decode cX10_sheet 13 = .ok (.invokestatic 101, 3) := by decide +kernel
theorem dX10_sheet_16 : decode cX10_sheet 16 = .ok (.ifCond .eq 9, 3) := by decide +kernel
theorem dX10_sheet_19 : decode cX10_sheet 19 = .ok (.iload_n 3, 1) := by decide +kernel
theorem dX10_sheet_20 : decode cX10_sheet 20 = .ok (.bipush 60, 2) := by decide +kernel
theorem dX10_sheet_22 : decode cX10_sheet 22 = .ok (.if_icmp .le 6, 3) := by decide +kernel
theorem dX10_sheet_25 : decode cX10_sheet 25 = .ok (.bipush (-2), 2) := by decide +kernel
theorem dX10_sheet_27 : decode cX10_sheet 27 = .ok (.ireturn, 1) := by decide +kernel
theorem dX10_sheet_28 : decode cX10_sheet 28 = .ok (.iload_n 3, 1) := by decide +kernel
theorem dX10_sheet_29 : decode cX10_sheet 29 = .ok (.ifCond .ge 9, 3) := by decide +kernel
theorem dX10_sheet_32 : decode cX10_sheet 32 = .ok (.aload_n 0, 1) := by decide +kernel
theorem dX10_sheet_33 : decode cX10_sheet 33 = .ok (.iconst 5, 1) := by decide +kernel
theorem dX10_sheet_34 : decode cX10_sheet 34 = .ok (.invokevirtual 117, 3) := by decide +kernel
theorem dX10_sheet_37 : decode cX10_sheet 37 = .ok (.ireturn, 1) := by decide +kernel
theorem dX10_sheet_38 : decode cX10_sheet 38 = .ok (.aload_n 0, 1) := by decide +kernel
theorem dX10_sheet_39 : decode cX10_sheet 39 = .ok (.getfield 7, 3) := by decide +kernel
theorem dX10_sheet_42 : decode cX10_sheet 42 = .ok (.iload_n 1, 1) := by decide +kernel
theorem dX10_sheet_43 : decode cX10_sheet 43 = .ok (.iload_n 2, 1) := by decide +kernel
theorem dX10_sheet_44 : decode cX10_sheet 44 = .ok (.iastore, 1) := by decide +kernel
theorem dX10_sheet_45 : decode cX10_sheet 45 = .ok (.aload_n 0, 1) := by decide +kernel
theorem dX10_sheet_46 : decode cX10_sheet 46 = .ok (.getfield 13, 3) := by decide +kernel
theorem dX10_sheet_49 : decode cX10_sheet 49 = .ok (.iload_n 1, 1) := by decide +kernel
theorem dX10_sheet_50 : decode cX10_sheet 50 = .ok (.iload_n 3, 1) := by decide +kernel
theorem dX10_sheet_51 : decode cX10_sheet 51 = .ok (.iastore, 1) := by decide +kernel
theorem dX10_sheet_52 : decode cX10_sheet 52 = .ok (.iconst 0, 1) := by decide +kernel
theorem dX10_sheet_53 : decode cX10_sheet 53 = .ok (.istore 4, 2) := by decide +kernel
theorem dX10_sheet_55 : decode cX10_sheet 55 = .ok (.iload 4, 2) := by decide +kernel
theorem dX10_sheet_57 : decode cX10_sheet 57 = .ok (.iload_n 3, 1) := by decide +kernel
theorem dX10_sheet_58 : decode cX10_sheet 58 = .ok (.if_icmp .ge 22, 3) := by decide +kernel
theorem dX10_sheet_61 : decode cX10_sheet 61 = .ok (.aload_n 0, 1) := by decide +kernel
theorem dX10_sheet_62 : decode cX10_sheet 62 = .ok (.getfield 16, 3) := by decide +kernel
theorem dX10_sheet_65 : decode cX10_sheet 65 = .ok (.bipush 60, 2) := by decide +kernel
theorem dX10_sheet_67 : decode cX10_sheet 67 = .ok (.iload_n 1, 1) := by decide +kernel
theorem dX10_sheet_68 : decode cX10_sheet 68 = .ok (.imul, 1) := by decide +kernel
theorem dX10_sheet_69 : decode cX10_sheet 69 = .ok (.iload 4, 2) := by decide +kernel
theorem dX10_sheet_71 : decode cX10_sheet 71 = .ok (.iadd, 1) := by decide +kernel
theorem dX10_sheet_72 : decode cX10_sheet 72 = .ok (.iconst 0, 1) := by decide +kernel
theorem dX10_sheet_73 : decode cX10_sheet 73 = .ok (.iastore, 1) := by decide +kernel
theorem dX10_sheet_74 : decode cX10_sheet 74 = .ok (.iinc 4 1, 3) := by decide +kernel
theorem dX10_sheet_77 : decode cX10_sheet 77 = .ok (.goto (-22), 3) := by decide +kernel
theorem dX10_sheet_80 : decode cX10_sheet 80 = .ok (.iload_n 3, 1) := by decide +kernel
theorem dX10_sheet_81 : decode cX10_sheet 81 = .ok (.ireturn, 1) := by decide +kernel
theorem dX10_lose_0 : decode cX10_lose 0 = .ok (.iload_n 1, 1) := by decide +kernel
theorem dX10_lose_1 : decode cX10_lose 1 = .ok (.invokestatic 111, 3) := by decide +kernel
theorem dX10_lose_4 : decode cX10_lose 4 = .ok (.ifCond .ne 6, 3) := by decide +kernel
theorem dX10_lose_7 : decode cX10_lose 7 = .ok (.bipush (-2), 2) := by decide +kernel
theorem dX10_lose_9 : decode cX10_lose 9 = .ok (.ireturn, 1) := by decide +kernel
theorem dX10_lose_10 : decode cX10_lose 10 = .ok (.aload_n 0, 1) := by decide +kernel
theorem dX10_lose_11 : decode cX10_lose 11 = .ok (.getfield 7, 3) := by decide +kernel
theorem dX10_lose_14 : decode cX10_lose 14 = .ok (.iload_n 1, 1) := by decide +kernel
theorem dX10_lose_15 : decode cX10_lose 15 = .ok (.iaload, 1) := by decide +kernel
theorem dX10_lose_16 : decode cX10_lose 16 = .ok (.ifCond .ge 9, 3) := by decide +kernel
theorem dX10_lose_19 : decode cX10_lose 19 = .ok (.aload_n 0, 1) := by decide +kernel
theorem dX10_lose_20 : decode cX10_lose 20 = .ok (.iconst 1, 1) := by decide +kernel
theorem dX10_lose_21 : decode cX10_lose 21 = .ok (.invokevirtual 117, 3) := by decide +kernel
theorem dX10_lose_24 : decode cX10_lose 24 = .ok (.ireturn, 1) := by decide +kernel
theorem dX10_lose_25 : decode cX10_lose 25 = .ok (.aload_n 0, 1) := by decide +kernel
theorem dX10_lose_26 : decode cX10_lose 26 = .ok (.getfield 7, 3) := by decide +kernel
theorem dX10_lose_29 : decode cX10_lose 29 = .ok (.iload_n 1, 1) := by decide +kernel
theorem dX10_lose_30 : decode cX10_lose 30 = .ok (.iconst (-1), 1) := by decide +kernel
theorem dX10_lose_31 : decode cX10_lose 31 = .ok (.iastore, 1) := by decide +kernel
theorem dX10_lose_32 : decode cX10_lose 32 = .ok (.aload_n 0, 1) := by decide +kernel
theorem dX10_lose_33 : decode cX10_lose 33 = .ok (.getfield 13, 3) := by decide +kernel
theorem dX10_lose_36 : decode cX10_lose 36 = .ok (.iload_n 1, 1) := by decide +kernel
theorem dX10_lose_37 : decode cX10_lose 37 = .ok (.iaload, 1) := by decide +kernel
theorem dX10_lose_38 : decode cX10_lose 38 = .ok (.ireturn, 1) := by decide +kernel
theorem dX10_lacks_0 : decode cX10_lacks 0 = .ok (.aload_n 0, 1) := by decide +kernel
theorem dX10_lacks_1 : decode cX10_lacks 1 = .ok (.getfield 7, 3) := by decide +kernel
theorem dX10_lacks_4 : decode cX10_lacks 4 = .ok (.iload_n 1, 1) := by decide +kernel
theorem dX10_lacks_5 : decode cX10_lacks 5 = .ok (.iaload, 1) := by decide +kernel
theorem dX10_lacks_6 : decode cX10_lacks 6 = .ok (.ifCond .ge 9, 3) := by decide +kernel
theorem dX10_lacks_9 : decode cX10_lacks 9 = .ok (.aload_n 0, 1) := by decide +kernel
theorem dX10_lacks_10 : decode cX10_lacks 10 = .ok (.iconst 1, 1) := by decide +kernel
theorem dX10_lacks_11 : decode cX10_lacks 11 = .ok (.invokevirtual 117, 3) := by decide +kernel
theorem dX10_lacks_14 : decode cX10_lacks 14 = .ok (.ireturn, 1) := by decide +kernel
theorem dX10_lacks_15 : decode cX10_lacks 15 = .ok (.aload_n 0, 1) := by decide +kernel
theorem dX10_lacks_16 : decode cX10_lacks 16 = .ok (.getfield 7, 3) := by decide +kernel
theorem dX10_lacks_19 : decode cX10_lacks 19 = .ok (.iload_n 1, 1) := by decide +kernel
theorem dX10_lacks_20 : decode cX10_lacks 20 = .ok (.iaload, 1) := by decide +kernel
theorem dX10_lacks_21 : decode cX10_lacks 21 = .ok (.iload_n 2, 1) := by decide +kernel
theorem dX10_lacks_22 : decode cX10_lacks 22 = .ok (.if_icmp .eq 9, 3) := by decide +kernel
theorem dX10_lacks_25 : decode cX10_lacks 25 = .ok (.aload_n 0, 1) := by decide +kernel
theorem dX10_lacks_26 : decode cX10_lacks 26 = .ok (.iconst 3, 1) := by decide +kernel
theorem dX10_lacks_27 : decode cX10_lacks 27 = .ok (.invokevirtual 117, 3) := by decide +kernel
theorem dX10_lacks_30 : decode cX10_lacks 30 = .ok (.ireturn, 1) := by decide +kernel
theorem dX10_lacks_31 : decode cX10_lacks 31 = .ok (.iload_n 3, 1) := by decide +kernel
theorem dX10_lacks_32 : decode cX10_lacks 32 = .ok (.i2l, 1) := by decide +kernel
theorem dX10_lacks_33 : decode cX10_lacks 33 = .ok (.lconst 0, 1) := by decide +kernel
theorem dX10_lacks_34 : decode cX10_lacks 34 = .ok (.aload_n 0, 1) := by decide +kernel
theorem dX10_lacks_35 : decode cX10_lacks 35 = .ok (.getfield 13, 3) := by decide +kernel
theorem dX10_lacks_38 : decode cX10_lacks 38 = .ok (.iload_n 1, 1) := by decide +kernel
theorem dX10_lacks_39 : decode cX10_lacks 39 = .ok (.iaload, 1) := by decide +kernel
theorem dX10_lacks_40 : decode cX10_lacks 40 = .ok (.iconst 1, 1) := by decide +kernel
theorem dX10_lacks_41 : decode cX10_lacks 41 = .ok (.isub, 1) := by decide +kernel
theorem dX10_lacks_42 : decode cX10_lacks 42 = .ok (.i2l, 1) := by decide +kernel
theorem dX10_lacks_43 : decode cX10_lacks 43 = .ok (.invokestatic 101, 3) := by decide +kernel
theorem dX10_lacks_46 : decode cX10_lacks 46 = .ok (.ifCond .eq 7, 3) := by decide +kernel
theorem dX10_lacks_49 : decode cX10_lacks 49 = .ok (.iconst 0, 1) := by decide +kernel
theorem dX10_lacks_50 : decode cX10_lacks 50 = .ok (.goto 8, 3) := by decide +kernel
theorem dX10_lacks_53 : decode cX10_lacks 53 = .ok (.aload_n 0, 1) := by decide +kernel
theorem dX10_lacks_54 : decode cX10_lacks 54 = .ok (.iconst 2, 1) := by decide +kernel
theorem dX10_lacks_55 : decode cX10_lacks 55 = .ok (.invokevirtual 117, 3) := by decide +kernel
theorem dX10_lacks_58 : decode cX10_lacks 58 = .ok (.ireturn, 1) := by decide +kernel
theorem dX10_cut_0 : decode cX10_cut 0 = .ok (.iload_n 0, 1) := by decide +kernel
theorem dX10_cut_1 : decode cX10_cut 1 = .ok (.ifCond .ne 8, 3) := by decide +kernel
theorem dX10_cut_4 : decode cX10_cut 4 = .ok (.iload_n 1, 1) := by decide +kernel
theorem dX10_cut_5 : decode cX10_cut 5 = .ok (.i2b, 1) := by decide +kernel
theorem dX10_cut_6 : decode cX10_cut 6 = .ok (.goto 14, 3) := by decide +kernel
theorem dX10_cut_9 : decode cX10_cut 9 = .ok (.iload_n 0, 1) := by decide +kernel
theorem dX10_cut_10 : decode cX10_cut 10 = .ok (.iconst 1, 1) := by decide +kernel
theorem dX10_cut_11 : decode cX10_cut 11 = .ok (.if_icmp .ne 8, 3) := by decide +kernel
theorem dX10_cut_14 : decode cX10_cut 14 = .ok (.iload_n 1, 1) := by decide +kernel
theorem dX10_cut_15 : decode cX10_cut 15 = .ok (.i2s, 1) := by decide +kernel
theorem dX10_cut_16 : decode cX10_cut 16 = .ok (.goto 4, 3) := by decide +kernel
theorem dX10_cut_19 : decode cX10_cut 19 = .ok (.iload_n 1, 1) := by decide +kernel
theorem dX10_cut_20 : decode cX10_cut 20 = .ok (.ireturn, 1) := by decide +kernel
theorem dX10_lay_0 : decode cX10_lay 0 = .ok (.iload_n 1, 1) := by decide +kernel
theorem dX10_lay_1 : decode cX10_lay 1 = .ok (.invokestatic 111, 3) := by decide +kernel
theorem dX10_lay_4 : decode cX10_lay 4 = .ok (.ifCond .eq 15, 3) := by decide +kernel
theorem dX10_lay_7 : decode cX10_lay 7 = .ok (.iload_n 2, 1) := by decide +kernel
theorem dX10_lay_8 : decode cX10_lay 8 = .ok (.i2l, 1) := by decide +kernel
theorem dX10_lay_9 : decode cX10_lay 9 = .ok (.lconst 0, 1) := by decide +kernel
theorem dX10_lay_10 : decode cX10_lay 10 = .ok (.ldc2_w 115, 3) := by decide +kernel
theorem dX10_lay_13 : decode cX10_lay 13 = .ok (.invokestatic 101, 3) := by decide +kernel
theorem dX10_lay_16 : decode cX10_lay 16 = .ok (.ifCond .ne 6, 3) := by decide +kernel
theorem dX10_lay_19 : decode cX10_lay 19 = .ok (.bipush (-2), 2) := by decide +kernel
theorem dX10_lay_21 : decode cX10_lay 21 = .ok (.ireturn, 1) := by decide +kernel
theorem dX10_lay_22 : decode cX10_lay 22 = .ok (.aload_n 0, 1) := by decide +kernel
theorem dX10_lay_23 : decode cX10_lay 23 = .ok (.iload_n 1, 1) := by decide +kernel
theorem dX10_lay_24 : decode cX10_lay 24 = .ok (.iload_n 2, 1) := by decide +kernel
theorem dX10_lay_25 : decode cX10_lay 25 = .ok (.iload_n 3, 1) := by decide +kernel
theorem dX10_lay_26 : decode cX10_lay 26 = .ok (.invokevirtual 121, 3) := by decide +kernel
theorem dX10_lay_29 : decode cX10_lay 29 = .ok (.istore 5, 2) := by decide +kernel
theorem dX10_lay_31 : decode cX10_lay 31 = .ok (.iload 5, 2) := by decide +kernel
theorem dX10_lay_33 : decode cX10_lay 33 = .ok (.ifCond .eq 6, 3) := by decide +kernel
theorem dX10_lay_36 : decode cX10_lay 36 = .ok (.iload 5, 2) := by decide +kernel
theorem dX10_lay_38 : decode cX10_lay 38 = .ok (.ireturn, 1) := by decide +kernel
theorem dX10_lay_39 : decode cX10_lay 39 = .ok (.aload_n 0, 1) := by decide +kernel
theorem dX10_lay_40 : decode cX10_lay 40 = .ok (.getfield 16, 3) := by decide +kernel
theorem dX10_lay_43 : decode cX10_lay 43 = .ok (.bipush 60, 2) := by decide +kernel
theorem dX10_lay_45 : decode cX10_lay 45 = .ok (.iload_n 1, 1) := by decide +kernel
theorem dX10_lay_46 : decode cX10_lay 46 = .ok (.imul, 1) := by decide +kernel
theorem dX10_lay_47 : decode cX10_lay 47 = .ok (.iload_n 3, 1) := by decide +kernel
theorem dX10_lay_48 : decode cX10_lay 48 = .ok (.iadd, 1) := by decide +kernel
theorem dX10_lay_49 : decode cX10_lay 49 = .ok (.iload_n 2, 1) := by decide +kernel
theorem dX10_lay_50 : decode cX10_lay 50 = .ok (.iload 4, 2) := by decide +kernel
theorem dX10_lay_52 : decode cX10_lay 52 = .ok (.invokestatic 125, 3) := by decide +kernel
theorem dX10_lay_55 : decode cX10_lay 55 = .ok (.iastore, 1) := by decide +kernel
theorem dX10_lay_56 : decode cX10_lay 56 = .ok (.iconst 1, 1) := by decide +kernel
theorem dX10_lay_57 : decode cX10_lay 57 = .ok (.ireturn, 1) := by decide +kernel
theorem dX10_get_0 : decode cX10_get 0 = .ok (.iload_n 1, 1) := by decide +kernel
theorem dX10_get_1 : decode cX10_get 1 = .ok (.invokestatic 111, 3) := by decide +kernel
theorem dX10_get_4 : decode cX10_get 4 = .ok (.ifCond .eq 25, 3) := by decide +kernel
theorem dX10_get_7 : decode cX10_get 7 = .ok (.iload_n 2, 1) := by decide +kernel
theorem dX10_get_8 : decode cX10_get 8 = .ok (.i2l, 1) := by decide +kernel
theorem dX10_get_9 : decode cX10_get 9 = .ok (.lconst 0, 1) := by decide +kernel
theorem dX10_get_10 : decode cX10_get 10 = .ok (.ldc2_w 115, 3) := by decide +kernel
theorem dX10_get_13 : decode cX10_get 13 = .ok (.invokestatic 101, 3) := by decide +kernel
theorem dX10_get_16 : decode cX10_get 16 = .ok (.ifCond .eq 13, 3) := by decide +kernel
theorem dX10_get_19 : decode cX10_get 19 = .ok (.aload_n 0, 1) := by decide +kernel
theorem dX10_get_20 : decode cX10_get 20 = .ok (.iload_n 1, 1) := by decide +kernel
theorem dX10_get_21 : decode cX10_get 21 = .ok (.iload_n 2, 1) := by decide +kernel
theorem dX10_get_22 : decode cX10_get 22 = .ok (.iload_n 3, 1) := by decide +kernel
theorem dX10_get_23 : decode cX10_get 23 = .ok (.invokevirtual 121, 3) := by decide +kernel
theorem dX10_get_26 : decode cX10_get 26 = .ok (.ifCond .eq 6, 3) := by decide +kernel
theorem dX10_get_29 : decode cX10_get 29 = .ok (.ldc 129, 2) := by decide +kernel
theorem dX10_get_31 : decode cX10_get 31 = .ok (.ireturn, 1) := by decide +kernel
theorem dX10_get_32 : decode cX10_get 32 = .ok (.aload_n 0, 1) := by decide +kernel
theorem dX10_get_33 : decode cX10_get 33 = .ok (.getfield 16, 3) := by decide +kernel
theorem dX10_get_36 : decode cX10_get 36 = .ok (.bipush 60, 2) := by decide +kernel
theorem dX10_get_38 : decode cX10_get 38 = .ok (.iload_n 1, 1) := by decide +kernel
theorem dX10_get_39 : decode cX10_get 39 = .ok (.imul, 1) := by decide +kernel
theorem dX10_get_40 : decode cX10_get 40 = .ok (.iload_n 3, 1) := by decide +kernel
theorem dX10_get_41 : decode cX10_get 41 = .ok (.iadd, 1) := by decide +kernel
theorem dX10_get_42 : decode cX10_get 42 = .ok (.iaload, 1) := by decide +kernel
theorem dX10_get_43 : decode cX10_get 43 = .ok (.ireturn, 1) := by decide +kernel
theorem dX10_copy_0 : decode cX10_copy 0 = .ok (.iload_n 1, 1) := by decide +kernel
theorem dX10_copy_1 : decode cX10_copy 1 = .ok (.invokestatic 111, 3) := by decide +kernel
theorem dX10_copy_4 : decode cX10_copy 4 = .ok (.ifCond .eq 10, 3) := by decide +kernel
theorem dX10_copy_7 : decode cX10_copy 7 = .ok (.iload_n 3, 1) := by decide +kernel
theorem dX10_copy_8 : decode cX10_copy 8 = .ok (.invokestatic 111, 3) := by decide +kernel
theorem dX10_copy_11 : decode cX10_copy 11 = .ok (.ifCond .ne 6, 3) := by decide +kernel
theorem dX10_copy_14 : decode cX10_copy 14 = .ok (.bipush (-2), 2) := by decide +kernel
theorem dX10_copy_16 : decode cX10_copy 16 = .ok (.ireturn, 1) := by decide +kernel
theorem dX10_copy_17 : decode cX10_copy 17 = .ok (.aload_n 0, 1) := by decide +kernel
theorem dX10_copy_18 : decode cX10_copy 18 = .ok (.getfield 7, 3) := by decide +kernel
theorem dX10_copy_21 : decode cX10_copy 21 = .ok (.iload_n 1, 1) := by decide +kernel
theorem dX10_copy_22 : decode cX10_copy 22 = .ok (.iaload, 1) := by decide +kernel
theorem dX10_copy_23 : decode cX10_copy 23 = .ok (.ifCond .lt 12, 3) := by decide +kernel
theorem dX10_copy_26 : decode cX10_copy 26 = .ok (.aload_n 0, 1) := by decide +kernel
theorem dX10_copy_27 : decode cX10_copy 27 = .ok (.getfield 7, 3) := by decide +kernel
theorem dX10_copy_30 : decode cX10_copy 30 = .ok (.iload_n 3, 1) := by decide +kernel
theorem dX10_copy_31 : decode cX10_copy 31 = .ok (.iaload, 1) := by decide +kernel
theorem dX10_copy_32 : decode cX10_copy 32 = .ok (.ifCond .ge 9, 3) := by decide +kernel
theorem dX10_copy_35 : decode cX10_copy 35 = .ok (.aload_n 0, 1) := by decide +kernel
theorem dX10_copy_36 : decode cX10_copy 36 = .ok (.iconst 1, 1) := by decide +kernel
theorem dX10_copy_37 : decode cX10_copy 37 = .ok (.invokevirtual 117, 3) := by decide +kernel
theorem dX10_copy_40 : decode cX10_copy 40 = .ok (.ireturn, 1) := by decide +kernel
theorem dX10_copy_41 : decode cX10_copy 41 = .ok (.aload_n 0, 1) := by decide +kernel
theorem dX10_copy_42 : decode cX10_copy 42 = .ok (.getfield 7, 3) := by decide +kernel
theorem dX10_copy_45 : decode cX10_copy 45 = .ok (.iload_n 1, 1) := by decide +kernel
theorem dX10_copy_46 : decode cX10_copy 46 = .ok (.iaload, 1) := by decide +kernel
theorem dX10_copy_47 : decode cX10_copy 47 = .ok (.aload_n 0, 1) := by decide +kernel
theorem dX10_copy_48 : decode cX10_copy 48 = .ok (.getfield 7, 3) := by decide +kernel
theorem dX10_copy_51 : decode cX10_copy 51 = .ok (.iload_n 3, 1) := by decide +kernel
theorem dX10_copy_52 : decode cX10_copy 52 = .ok (.iaload, 1) := by decide +kernel
theorem dX10_copy_53 : decode cX10_copy 53 = .ok (.if_icmp .eq 9, 3) := by decide +kernel
theorem dX10_copy_56 : decode cX10_copy 56 = .ok (.aload_n 0, 1) := by decide +kernel
theorem dX10_copy_57 : decode cX10_copy 57 = .ok (.iconst 4, 1) := by decide +kernel
theorem dX10_copy_58 : decode cX10_copy 58 = .ok (.invokevirtual 117, 3) := by decide +kernel
theorem dX10_copy_61 : decode cX10_copy 61 = .ok (.ireturn, 1) := by decide +kernel
theorem dX10_copy_62 : decode cX10_copy 62 = .ok (.iload_n 2, 1) := by decide +kernel
theorem dX10_copy_63 : decode cX10_copy 63 = .ok (.ifCond .lt 48, 3) := by decide +kernel
theorem dX10_copy_66 : decode cX10_copy 66 = .ok (.iload 4, 2) := by decide +kernel
theorem dX10_copy_68 : decode cX10_copy 68 = .ok (.ifCond .lt 43, 3) := by decide +kernel
theorem dX10_copy_71 : decode cX10_copy 71 = .ok (.iload 5, 2) := by decide +kernel
theorem dX10_copy_73 : decode cX10_copy 73 = .ok (.ifCond .lt 38, 3) := by decide +kernel
theorem dX10_copy_76 : decode cX10_copy 76 = .ok (.iload_n 2, 1) := by decide +kernel
theorem dX10_copy_77 : decode cX10_copy 77 = .ok (.i2l, 1) := by decide +kernel
theorem dX10_copy_78 : decode cX10_copy 78 = .ok (.iload 5, 2) := by decide +kernel
theorem dX10_copy_80 : decode cX10_copy 80 = .ok (.i2l, 1) := by decide +kernel
theorem dX10_copy_81 : decode cX10_copy 81 = .ok (.ladd, 1) := by decide +kernel
theorem dX10_copy_82 : decode cX10_copy 82 = .ok (.aload_n 0, 1) := by decide +kernel
theorem dX10_copy_83 : decode cX10_copy 83 = .ok (.getfield 13, 3) := by decide +kernel
theorem dX10_copy_86 : decode cX10_copy 86 = .ok (.iload_n 1, 1) := by decide +kernel
theorem dX10_copy_87 : decode cX10_copy 87 = .ok (.iaload, 1) := by decide +kernel
theorem dX10_copy_88 : decode cX10_copy 88 = .ok (.i2l, 1) := by decide +kernel
theorem dX10_copy_89 : decode cX10_copy 89 = .ok (.lcmp, 1) := by decide +kernel
theorem dX10_copy_90 : decode cX10_copy 90 = .ok (.ifCond .gt 21, 3) := by decide +kernel
theorem dX10_copy_93 : decode cX10_copy 93 = .ok (.iload 4, 2) := by decide +kernel
theorem dX10_copy_95 : decode cX10_copy 95 = .ok (.i2l, 1) := by decide +kernel
theorem dX10_copy_96 : decode cX10_copy 96 = .ok (.iload 5, 2) := by decide +kernel
theorem dX10_copy_98 : decode cX10_copy 98 = .ok (.i2l, 1) := by decide +kernel
theorem dX10_copy_99 : decode cX10_copy 99 = .ok (.ladd, 1) := by decide +kernel
theorem dX10_copy_100 : decode cX10_copy 100 = .ok (.aload_n 0, 1) := by decide +kernel
theorem dX10_copy_101 : decode cX10_copy 101 = .ok (.getfield 13, 3) := by decide +kernel
theorem dX10_copy_104 : decode cX10_copy 104 = .ok (.iload_n 3, 1) := by decide +kernel
theorem dX10_copy_105 : decode cX10_copy 105 = .ok (.iaload, 1) := by decide +kernel
theorem dX10_copy_106 : decode cX10_copy 106 = .ok (.i2l, 1) := by decide +kernel
theorem dX10_copy_107 : decode cX10_copy 107 = .ok (.lcmp, 1) := by decide +kernel
theorem dX10_copy_108 : decode cX10_copy 108 = .ok (.ifCond .le 9, 3) := by decide +kernel
theorem dX10_copy_111 : decode cX10_copy 111 = .ok (.aload_n 0, 1) := by decide +kernel
theorem dX10_copy_112 : decode cX10_copy 112 = .ok (.iconst 2, 1) := by decide +kernel
theorem dX10_copy_113 : decode cX10_copy 113 = .ok (.invokevirtual 117, 3) := by decide +kernel
theorem dX10_copy_116 : decode cX10_copy 116 = .ok (.ireturn, 1) := by decide +kernel
theorem dX10_copy_117 : decode cX10_copy 117 = .ok (.iconst 0, 1) := by decide +kernel
theorem dX10_copy_118 : decode cX10_copy 118 = .ok (.istore 6, 2) := by decide +kernel
theorem dX10_copy_120 : decode cX10_copy 120 = .ok (.iload 6, 2) := by decide +kernel
theorem dX10_copy_122 : decode cX10_copy 122 = .ok (.iload 5, 2) := by decide +kernel
theorem dX10_copy_124 : decode cX10_copy 124 = .ok (.if_icmp .ge 30, 3) := by decide +kernel
theorem dX10_copy_127 : decode cX10_copy 127 = .ok (.aload_n 0, 1) := by decide +kernel
theorem dX10_copy_128 : decode cX10_copy 128 = .ok (.getfield 19, 3) := by decide +kernel
theorem dX10_copy_131 : decode cX10_copy 131 = .ok (.iload 6, 2) := by decide +kernel
theorem dX10_copy_133 : decode cX10_copy 133 = .ok (.aload_n 0, 1) := by decide +kernel
theorem dX10_copy_134 : decode cX10_copy 134 = .ok (.getfield 16, 3) := by decide +kernel
theorem dX10_copy_137 : decode cX10_copy 137 = .ok (.bipush 60, 2) := by decide +kernel
theorem dX10_copy_139 : decode cX10_copy 139 = .ok (.iload_n 1, 1) := by decide +kernel
theorem dX10_copy_140 : decode cX10_copy 140 = .ok (.imul, 1) := by decide +kernel
theorem dX10_copy_141 : decode cX10_copy 141 = .ok (.iload_n 2, 1) := by decide +kernel
theorem dX10_copy_142 : decode cX10_copy 142 = .ok (.iadd, 1) := by decide +kernel
theorem dX10_copy_143 : decode cX10_copy 143 = .ok (.iload 6, 2) := by decide +kernel
theorem dX10_copy_145 : decode cX10_copy 145 = .ok (.iadd, 1) := by decide +kernel
theorem dX10_copy_146 : decode cX10_copy 146 = .ok (.iaload, 1) := by decide +kernel
theorem dX10_copy_147 : decode cX10_copy 147 = .ok (.iastore, 1) := by decide +kernel
theorem dX10_copy_148 : decode cX10_copy 148 = .ok (.iinc 6 1, 3) := by decide +kernel
theorem dX10_copy_151 : decode cX10_copy 151 = .ok (.goto (-31), 3) := by decide +kernel
theorem dX10_copy_154 : decode cX10_copy 154 = .ok (.iconst 0, 1) := by decide +kernel
theorem dX10_copy_155 : decode cX10_copy 155 = .ok (.istore 6, 2) := by decide +kernel
theorem dX10_copy_157 : decode cX10_copy 157 = .ok (.iload 6, 2) := by decide +kernel
theorem dX10_copy_159 : decode cX10_copy 159 = .ok (.iload 5, 2) := by decide +kernel
theorem dX10_copy_161 : decode cX10_copy 161 = .ok (.if_icmp .ge 31, 3) := by decide +kernel
theorem dX10_copy_164 : decode cX10_copy 164 = .ok (.aload_n 0, 1) := by decide +kernel
theorem dX10_copy_165 : decode cX10_copy 165 = .ok (.getfield 16, 3) := by decide +kernel
theorem dX10_copy_168 : decode cX10_copy 168 = .ok (.bipush 60, 2) := by decide +kernel
theorem dX10_copy_170 : decode cX10_copy 170 = .ok (.iload_n 3, 1) := by decide +kernel
theorem dX10_copy_171 : decode cX10_copy 171 = .ok (.imul, 1) := by decide +kernel
theorem dX10_copy_172 : decode cX10_copy 172 = .ok (.iload 4, 2) := by decide +kernel
theorem dX10_copy_174 : decode cX10_copy 174 = .ok (.iadd, 1) := by decide +kernel
theorem dX10_copy_175 : decode cX10_copy 175 = .ok (.iload 6, 2) := by decide +kernel
theorem dX10_copy_177 : decode cX10_copy 177 = .ok (.iadd, 1) := by decide +kernel
theorem dX10_copy_178 : decode cX10_copy 178 = .ok (.aload_n 0, 1) := by decide +kernel
theorem dX10_copy_179 : decode cX10_copy 179 = .ok (.getfield 19, 3) := by decide +kernel
theorem dX10_copy_182 : decode cX10_copy 182 = .ok (.iload 6, 2) := by decide +kernel
theorem dX10_copy_184 : decode cX10_copy 184 = .ok (.iaload, 1) := by decide +kernel
theorem dX10_copy_185 : decode cX10_copy 185 = .ok (.iastore, 1) := by decide +kernel
theorem dX10_copy_186 : decode cX10_copy 186 = .ok (.iinc 6 1, 3) := by decide +kernel
theorem dX10_copy_189 : decode cX10_copy 189 = .ok (.goto (-32), 3) := by decide +kernel
theorem dX10_copy_192 : decode cX10_copy 192 = .ok (.iconst 1, 1) := by decide +kernel
theorem dX10_copy_193 : decode cX10_copy 193 = .ok (.ireturn, 1) := by decide +kernel
theorem dX10_isKey_0 : decode cX10_isKey 0 = .ok (.iload_n 0, 1) := by decide +kernel
theorem dX10_isKey_1 : decode cX10_isKey 1 = .ok (.i2l, 1) := by decide +kernel
theorem dX10_isKey_2 : decode cX10_isKey 2 = .ok (.lconst 0, 1) := by decide +kernel
theorem dX10_isKey_3 : decode cX10_isKey 3 = .ok (.ldc2_w 130, 3) := by decide +kernel
theorem dX10_isKey_6 : decode cX10_isKey 6 = .ok (.invokestatic 101, 3) := by decide +kernel
theorem dX10_isKey_9 : decode cX10_isKey 9 = .ok (.ireturn, 1) := by decide +kernel
theorem dX10_isPoint_0 : decode cX10_isPoint 0 = .ok (.iload_n 0, 1) := by decide +kernel
theorem dX10_isPoint_1 : decode cX10_isPoint 1 = .ok (.i2l, 1) := by decide +kernel
theorem dX10_isPoint_2 : decode cX10_isPoint 2 = .ok (.ldc2_w 132, 3) := by decide +kernel
theorem dX10_isPoint_5 : decode cX10_isPoint 5 = .ok (.ldc2_w 134, 3) := by decide +kernel
theorem dX10_isPoint_8 : decode cX10_isPoint 8 = .ok (.invokestatic 101, 3) := by decide +kernel
theorem dX10_isPoint_11 : decode cX10_isPoint 11 = .ok (.ireturn, 1) := by decide +kernel
theorem dX10_isStretch_0 : decode cX10_isStretch 0 = .ok (.iload_n 0, 1) := by decide +kernel
theorem dX10_isStretch_1 : decode cX10_isStretch 1 = .ok (.invokestatic 136, 3) := by decide +kernel
theorem dX10_isStretch_4 : decode cX10_isStretch 4 = .ok (.ifCond .eq 19, 3) := by decide +kernel
theorem dX10_isStretch_7 : decode cX10_isStretch 7 = .ok (.iload_n 1, 1) := by decide +kernel
theorem dX10_isStretch_8 : decode cX10_isStretch 8 = .ok (.invokestatic 136, 3) := by decide +kernel
theorem dX10_isStretch_11 : decode cX10_isStretch 11 = .ok (.ifCond .eq 12, 3) := by decide +kernel
theorem dX10_isStretch_14 : decode cX10_isStretch 14 = .ok (.iload_n 0, 1) := by decide +kernel
theorem dX10_isStretch_15 : decode cX10_isStretch 15 = .ok (.iload_n 1, 1) := by decide +kernel
theorem dX10_isStretch_16 : decode cX10_isStretch 16 = .ok (.if_icmp .ge 7, 3) := by decide +kernel
theorem dX10_isStretch_19 : decode cX10_isStretch 19 = .ok (.iconst 1, 1) := by decide +kernel
theorem dX10_isStretch_20 : decode cX10_isStretch 20 = .ok (.goto 4, 3) := by decide +kernel
theorem dX10_isStretch_23 : decode cX10_isStretch 23 = .ok (.iconst 0, 1) := by decide +kernel
theorem dX10_isStretch_24 : decode cX10_isStretch 24 = .ok (.ireturn, 1) := by decide +kernel
theorem dX10_remembers_0 : decode cX10_remembers 0 = .ok (.aload_n 0, 1) := by decide +kernel
theorem dX10_remembers_1 : decode cX10_remembers 1 = .ok (.getfield 139, 3) := by decide +kernel
theorem dX10_remembers_4 : decode cX10_remembers 4 = .ok (.bipush 64, 2) := by decide +kernel
theorem dX10_remembers_6 : decode cX10_remembers 6 = .ok (.if_icmp .ne 83, 3) := by decide +kernel
theorem dX10_remembers_9 : decode cX10_remembers 9 = .ok (.iconst 1, 1) := by decide +kernel
theorem dX10_remembers_10 : decode cX10_remembers 10 = .ok (.istore_n 3, 1) := by decide +kernel
theorem dX10_remembers_11 : decode cX10_remembers 11 = .ok (.iload_n 3, 1) := by decide +kernel
theorem dX10_remembers_12 : decode cX10_remembers 12 = .ok (.bipush 64, 2) := by decide +kernel
theorem dX10_remembers_14 : decode cX10_remembers 14 = .ok (.if_icmp .ge 65, 3) := by decide +kernel
theorem dX10_remembers_17 : decode cX10_remembers 17 = .ok (.aload_n 0, 1) := by decide +kernel
theorem dX10_remembers_18 : decode cX10_remembers 18 = .ok (.getfield 32, 3) := by decide +kernel
theorem dX10_remembers_21 : decode cX10_remembers 21 = .ok (.iload_n 3, 1) := by decide +kernel
theorem dX10_remembers_22 : decode cX10_remembers 22 = .ok (.iconst 1, 1) := by decide +kernel
theorem dX10_remembers_23 : decode cX10_remembers 23 = .ok (.isub, 1) := by decide +kernel
theorem dX10_remembers_24 : decode cX10_remembers 24 = .ok (.aload_n 0, 1) := by decide +kernel
theorem dX10_remembers_25 : decode cX10_remembers 25 = .ok (.getfield 32, 3) := by decide +kernel
theorem dX10_remembers_28 : decode cX10_remembers 28 = .ok (.iload_n 3, 1) := by decide +kernel
theorem dX10_remembers_29 : decode cX10_remembers 29 = .ok (.iaload, 1) := by decide +kernel
theorem dX10_remembers_30 : decode cX10_remembers 30 = .ok (.iastore, 1) := by decide +kernel
theorem dX10_remembers_31 : decode cX10_remembers 31 = .ok (.aload_n 0, 1) := by decide +kernel
theorem dX10_remembers_32 : decode cX10_remembers 32 = .ok (.getfield 35, 3) := by decide +kernel
theorem dX10_remembers_35 : decode cX10_remembers 35 = .ok (.iload_n 3, 1) := by decide +kernel
theorem dX10_remembers_36 : decode cX10_remembers 36 = .ok (.iconst 1, 1) := by decide +kernel
end
section
theorem dX10_remembers_37 : decode cX10_remembers 37 = .ok (.isub, 1) := by decide +kernel
theorem dX10_remembers_38 : decode cX10_remembers 38 = .ok (.aload_n 0, 1) := by decide +kernel
theorem dX10_remembers_39 : decode cX10_remembers 39 = .ok (.getfield 35, 3) := by decide +kernel
theorem dX10_remembers_42 : decode cX10_remembers 42 = .ok (.iload_n 3, 1) := by decide +kernel
theorem dX10_remembers_43 : decode cX10_remembers 43 = .ok (.iaload, 1) := by decide +kernel
theorem dX10_remembers_44 : decode cX10_remembers 44 = .ok (.iastore, 1) := by decide +kernel
theorem dX10_remembers_45 : decode cX10_remembers 45 = .ok (.aload_n 0, 1) := by decide +kernel
theorem dX10_remembers_46 : decode cX10_remembers 46 = .ok (.getfield 38, 3) := by decide +kernel
theorem dX10_remembers_49 : decode cX10_remembers 49 = .ok (.iload_n 3, 1) := by decide +kernel
theorem dX10_remembers_50 : decode cX10_remembers 50 = .ok (.iconst 1, 1) := by decide +kernel
theorem dX10_remembers_51 : decode cX10_remembers 51 = .ok (.isub, 1) := by decide +kernel
theorem dX10_remembers_52 : decode cX10_remembers 52 = .ok (.aload_n 0, 1) := by decide +kernel
theorem dX10_remembers_53 : decode cX10_remembers 53 = .ok (.getfield 38, 3) := by decide +kernel
theorem dX10_remembers_56 : decode cX10_remembers 56 = .ok (.iload_n 3, 1) := by decide +kernel
theorem dX10_remembers_57 : decode cX10_remembers 57 = .ok (.iaload, 1) := by decide +kernel
theorem dX10_remembers_58 : decode cX10_remembers 58 = .ok (.iastore, 1) := by decide +kernel
theorem dX10_remembers_59 : decode cX10_remembers 59 = .ok (.aload_n 0, 1) := by decide +kernel
theorem dX10_remembers_60 : decode cX10_remembers 60 = .ok (.getfield 41, 3) := by decide +kernel
theorem dX10_remembers_63 : decode cX10_remembers 63 = .ok (.iload_n 3, 1) := by decide +kernel
theorem dX10_remembers_64 : decode cX10_remembers 64 = .ok (.iconst 1, 1) := by decide +kernel
theorem dX10_remembers_65 : decode cX10_remembers 65 = .ok (.isub, 1) := by decide +kernel
theorem dX10_remembers_66 : decode cX10_remembers 66 = .ok (.aload_n 0, 1) := by decide +kernel
theorem dX10_remembers_67 : decode cX10_remembers 67 = .ok (.getfield 41, 3) := by decide +kernel
theorem dX10_remembers_70 : decode cX10_remembers 70 = .ok (.iload_n 3, 1) := by decide +kernel
theorem dX10_remembers_71 : decode cX10_remembers 71 = .ok (.iaload, 1) := by decide +kernel
theorem dX10_remembers_72 : decode cX10_remembers 72 = .ok (.iastore, 1) := by decide +kernel
theorem dX10_remembers_73 : decode cX10_remembers 73 = .ok (.iinc 3 1, 3) := by decide +kernel
theorem dX10_remembers_76 : decode cX10_remembers 76 = .ok (.goto (-65), 3) := by decide +kernel
theorem dX10_remembers_79 : decode cX10_remembers 79 = .ok (.aload_n 0, 1) := by decide +kernel
theorem dX10_remembers_80 : decode cX10_remembers 80 = .ok (.dup, 1) := by decide +kernel
theorem dX10_remembers_81 : decode cX10_remembers 81 = .ok (.getfield 139, 3) := by decide +kernel
theorem dX10_remembers_84 : decode cX10_remembers 84 = .ok (.iconst 1, 1) := by decide +kernel
theorem dX10_remembers_85 : decode cX10_remembers 85 = .ok (.isub, 1) := by decide +kernel
theorem dX10_remembers_86 : decode cX10_remembers 86 = .ok (.putfield 139, 3) := by decide +kernel
theorem dX10_remembers_89 : decode cX10_remembers 89 = .ok (.aload_n 0, 1) := by decide +kernel
theorem dX10_remembers_90 : decode cX10_remembers 90 = .ok (.getfield 32, 3) := by decide +kernel
theorem dX10_remembers_93 : decode cX10_remembers 93 = .ok (.aload_n 0, 1) := by decide +kernel
theorem dX10_remembers_94 : decode cX10_remembers 94 = .ok (.getfield 139, 3) := by decide +kernel
theorem dX10_remembers_97 : decode cX10_remembers 97 = .ok (.iload_n 1, 1) := by decide +kernel
theorem dX10_remembers_98 : decode cX10_remembers 98 = .ok (.iastore, 1) := by decide +kernel
theorem dX10_remembers_99 : decode cX10_remembers 99 = .ok (.aload_n 0, 1) := by decide +kernel
theorem dX10_remembers_100 : decode cX10_remembers 100 = .ok (.getfield 35, 3) := by decide +kernel
theorem dX10_remembers_103 : decode cX10_remembers 103 = .ok (.aload_n 0, 1) := by decide +kernel
theorem dX10_remembers_104 : decode cX10_remembers 104 = .ok (.getfield 139, 3) := by decide +kernel
theorem dX10_remembers_107 : decode cX10_remembers 107 = .ok (.iload_n 2, 1) := by decide +kernel
theorem dX10_remembers_108 : decode cX10_remembers 108 = .ok (.iastore, 1) := by decide +kernel
theorem dX10_remembers_109 : decode cX10_remembers 109 = .ok (.aload_n 0, 1) := by decide +kernel
theorem dX10_remembers_110 : decode cX10_remembers 110 = .ok (.getfield 38, 3) := by decide +kernel
theorem dX10_remembers_113 : decode cX10_remembers 113 = .ok (.aload_n 0, 1) := by decide +kernel
theorem dX10_remembers_114 : decode cX10_remembers 114 = .ok (.getfield 139, 3) := by decide +kernel
theorem dX10_remembers_117 : decode cX10_remembers 117 = .ok (.aload_n 0, 1) := by decide +kernel
theorem dX10_remembers_118 : decode cX10_remembers 118 = .ok (.getfield 26, 3) := by decide +kernel
theorem dX10_remembers_121 : decode cX10_remembers 121 = .ok (.iload_n 2, 1) := by decide +kernel
theorem dX10_remembers_122 : decode cX10_remembers 122 = .ok (.iaload, 1) := by decide +kernel
theorem dX10_remembers_123 : decode cX10_remembers 123 = .ok (.iastore, 1) := by decide +kernel
theorem dX10_remembers_124 : decode cX10_remembers 124 = .ok (.aload_n 0, 1) := by decide +kernel
theorem dX10_remembers_125 : decode cX10_remembers 125 = .ok (.getfield 41, 3) := by decide +kernel
theorem dX10_remembers_128 : decode cX10_remembers 128 = .ok (.aload_n 0, 1) := by decide +kernel
theorem dX10_remembers_129 : decode cX10_remembers 129 = .ok (.getfield 139, 3) := by decide +kernel
theorem dX10_remembers_132 : decode cX10_remembers 132 = .ok (.aload_n 0, 1) := by decide +kernel
theorem dX10_remembers_133 : decode cX10_remembers 133 = .ok (.getfield 29, 3) := by decide +kernel
theorem dX10_remembers_136 : decode cX10_remembers 136 = .ok (.iload_n 2, 1) := by decide +kernel
theorem dX10_remembers_137 : decode cX10_remembers 137 = .ok (.iaload, 1) := by decide +kernel
theorem dX10_remembers_138 : decode cX10_remembers 138 = .ok (.iastore, 1) := by decide +kernel
theorem dX10_remembers_139 : decode cX10_remembers 139 = .ok (.aload_n 0, 1) := by decide +kernel
theorem dX10_remembers_140 : decode cX10_remembers 140 = .ok (.dup, 1) := by decide +kernel
theorem dX10_remembers_141 : decode cX10_remembers 141 = .ok (.getfield 139, 3) := by decide +kernel
theorem dX10_remembers_144 : decode cX10_remembers 144 = .ok (.iconst 1, 1) := by decide +kernel
theorem dX10_remembers_145 : decode cX10_remembers 145 = .ok (.iadd, 1) := by decide +kernel
theorem dX10_remembers_146 : decode cX10_remembers 146 = .ok (.putfield 139, 3) := by decide +kernel
theorem dX10_remembers_149 : decode cX10_remembers 149 = .ok (.return_, 1) := by decide +kernel
theorem dX10_comes_0 : decode cX10_comes 0 = .ok (.aload_n 0, 1) := by decide +kernel
theorem dX10_comes_1 : decode cX10_comes 1 = .ok (.getfield 22, 3) := by decide +kernel
theorem dX10_comes_4 : decode cX10_comes 4 = .ok (.iload_n 1, 1) := by decide +kernel
theorem dX10_comes_5 : decode cX10_comes 5 = .ok (.iconst 1, 1) := by decide +kernel
theorem dX10_comes_6 : decode cX10_comes 6 = .ok (.bastore, 1) := by decide +kernel
theorem dX10_comes_7 : decode cX10_comes 7 = .ok (.aload_n 0, 1) := by decide +kernel
theorem dX10_comes_8 : decode cX10_comes 8 = .ok (.getfield 26, 3) := by decide +kernel
theorem dX10_comes_11 : decode cX10_comes 11 = .ok (.iload_n 1, 1) := by decide +kernel
theorem dX10_comes_12 : decode cX10_comes 12 = .ok (.iload_n 2, 1) := by decide +kernel
theorem dX10_comes_13 : decode cX10_comes 13 = .ok (.iastore, 1) := by decide +kernel
theorem dX10_comes_14 : decode cX10_comes 14 = .ok (.aload_n 0, 1) := by decide +kernel
theorem dX10_comes_15 : decode cX10_comes 15 = .ok (.getfield 29, 3) := by decide +kernel
theorem dX10_comes_18 : decode cX10_comes 18 = .ok (.iload_n 1, 1) := by decide +kernel
theorem dX10_comes_19 : decode cX10_comes 19 = .ok (.iload_n 3, 1) := by decide +kernel
theorem dX10_comes_20 : decode cX10_comes 20 = .ok (.iastore, 1) := by decide +kernel
theorem dX10_comes_21 : decode cX10_comes 21 = .ok (.aload_n 0, 1) := by decide +kernel
theorem dX10_comes_22 : decode cX10_comes 22 = .ok (.dup, 1) := by decide +kernel
theorem dX10_comes_23 : decode cX10_comes 23 = .ok (.getfield 142, 3) := by decide +kernel
theorem dX10_comes_26 : decode cX10_comes 26 = .ok (.iconst 1, 1) := by decide +kernel
theorem dX10_comes_27 : decode cX10_comes 27 = .ok (.iadd, 1) := by decide +kernel
theorem dX10_comes_28 : decode cX10_comes 28 = .ok (.putfield 142, 3) := by decide +kernel
theorem dX10_comes_31 : decode cX10_comes 31 = .ok (.return_, 1) := by decide +kernel
theorem dX10_leaves_0 : decode cX10_leaves 0 = .ok (.aload_n 0, 1) := by decide +kernel
theorem dX10_leaves_1 : decode cX10_leaves 1 = .ok (.getfield 22, 3) := by decide +kernel
theorem dX10_leaves_4 : decode cX10_leaves 4 = .ok (.iload_n 1, 1) := by decide +kernel
theorem dX10_leaves_5 : decode cX10_leaves 5 = .ok (.iconst 0, 1) := by decide +kernel
theorem dX10_leaves_6 : decode cX10_leaves 6 = .ok (.bastore, 1) := by decide +kernel
theorem dX10_leaves_7 : decode cX10_leaves 7 = .ok (.aload_n 0, 1) := by decide +kernel
theorem dX10_leaves_8 : decode cX10_leaves 8 = .ok (.dup, 1) := by decide +kernel
theorem dX10_leaves_9 : decode cX10_leaves 9 = .ok (.getfield 142, 3) := by decide +kernel
theorem dX10_leaves_12 : decode cX10_leaves 12 = .ok (.iconst 1, 1) := by decide +kernel
theorem dX10_leaves_13 : decode cX10_leaves 13 = .ok (.isub, 1) := by decide +kernel
theorem dX10_leaves_14 : decode cX10_leaves 14 = .ok (.putfield 142, 3) := by decide +kernel
theorem dX10_leaves_17 : decode cX10_leaves 17 = .ok (.return_, 1) := by decide +kernel
theorem dX10_put_0 : decode cX10_put 0 = .ok (.iload_n 1, 1) := by decide +kernel
theorem dX10_put_1 : decode cX10_put 1 = .ok (.invokestatic 145, 3) := by decide +kernel
theorem dX10_put_4 : decode cX10_put 4 = .ok (.ifCond .eq 11, 3) := by decide +kernel
theorem dX10_put_7 : decode cX10_put 7 = .ok (.iload_n 2, 1) := by decide +kernel
theorem dX10_put_8 : decode cX10_put 8 = .ok (.iload_n 3, 1) := by decide +kernel
theorem dX10_put_9 : decode cX10_put 9 = .ok (.invokestatic 148, 3) := by decide +kernel
theorem dX10_put_12 : decode cX10_put 12 = .ok (.ifCond .ne 6, 3) := by decide +kernel
theorem dX10_put_15 : decode cX10_put 15 = .ok (.bipush (-2), 2) := by decide +kernel
theorem dX10_put_17 : decode cX10_put 17 = .ok (.ireturn, 1) := by decide +kernel
theorem dX10_put_18 : decode cX10_put 18 = .ok (.aload_n 0, 1) := by decide +kernel
theorem dX10_put_19 : decode cX10_put 19 = .ok (.getfield 22, 3) := by decide +kernel
theorem dX10_put_22 : decode cX10_put 22 = .ok (.iload_n 1, 1) := by decide +kernel
theorem dX10_put_23 : decode cX10_put 23 = .ok (.baload, 1) := by decide +kernel
theorem dX10_put_24 : decode cX10_put 24 = .ok (.ifCond .eq 6, 3) := by decide +kernel
theorem dX10_put_27 : decode cX10_put 27 = .ok (.bipush (-3), 2) := by decide +kernel
theorem dX10_put_29 : decode cX10_put 29 = .ok (.ireturn, 1) := by decide +kernel
theorem dX10_put_30 : decode cX10_put 30 = .ok (.aload_n 0, 1) := by decide +kernel
theorem dX10_put_31 : decode cX10_put 31 = .ok (.iload_n 1, 1) := by decide +kernel
theorem dX10_put_32 : decode cX10_put 32 = .ok (.iload_n 2, 1) := by decide +kernel
theorem dX10_put_33 : decode cX10_put 33 = .ok (.iload_n 3, 1) := by decide +kernel
theorem dX10_put_34 : decode cX10_put 34 = .ok (.invokevirtual 152, 3) := by decide +kernel
theorem dX10_put_37 : decode cX10_put 37 = .ok (.aload_n 0, 1) := by decide +kernel
theorem dX10_put_38 : decode cX10_put 38 = .ok (.iconst 0, 1) := by decide +kernel
theorem dX10_put_39 : decode cX10_put 39 = .ok (.iload_n 1, 1) := by decide +kernel
theorem dX10_put_40 : decode cX10_put 40 = .ok (.invokevirtual 156, 3) := by decide +kernel
theorem dX10_put_43 : decode cX10_put 43 = .ok (.aload_n 0, 1) := by decide +kernel
theorem dX10_put_44 : decode cX10_put 44 = .ok (.getfield 142, 3) := by decide +kernel
theorem dX10_put_47 : decode cX10_put 47 = .ok (.ireturn, 1) := by decide +kernel
theorem dX10_drop_0 : decode cX10_drop 0 = .ok (.iload_n 1, 1) := by decide +kernel
theorem dX10_drop_1 : decode cX10_drop 1 = .ok (.invokestatic 145, 3) := by decide +kernel
theorem dX10_drop_4 : decode cX10_drop 4 = .ok (.ifCond .ne 6, 3) := by decide +kernel
theorem dX10_drop_7 : decode cX10_drop 7 = .ok (.bipush (-2), 2) := by decide +kernel
theorem dX10_drop_9 : decode cX10_drop 9 = .ok (.ireturn, 1) := by decide +kernel
theorem dX10_drop_10 : decode cX10_drop 10 = .ok (.aload_n 0, 1) := by decide +kernel
theorem dX10_drop_11 : decode cX10_drop 11 = .ok (.getfield 22, 3) := by decide +kernel
theorem dX10_drop_14 : decode cX10_drop 14 = .ok (.iload_n 1, 1) := by decide +kernel
theorem dX10_drop_15 : decode cX10_drop 15 = .ok (.baload, 1) := by decide +kernel
theorem dX10_drop_16 : decode cX10_drop 16 = .ok (.ifCond .ne 6, 3) := by decide +kernel
theorem dX10_drop_19 : decode cX10_drop 19 = .ok (.bipush (-3), 2) := by decide +kernel
theorem dX10_drop_21 : decode cX10_drop 21 = .ok (.ireturn, 1) := by decide +kernel
theorem dX10_drop_22 : decode cX10_drop 22 = .ok (.aload_n 0, 1) := by decide +kernel
theorem dX10_drop_23 : decode cX10_drop 23 = .ok (.iconst 1, 1) := by decide +kernel
theorem dX10_drop_24 : decode cX10_drop 24 = .ok (.iload_n 1, 1) := by decide +kernel
theorem dX10_drop_25 : decode cX10_drop 25 = .ok (.invokevirtual 156, 3) := by decide +kernel
theorem dX10_drop_28 : decode cX10_drop 28 = .ok (.aload_n 0, 1) := by decide +kernel
theorem dX10_drop_29 : decode cX10_drop 29 = .ok (.iload_n 1, 1) := by decide +kernel
theorem dX10_drop_30 : decode cX10_drop 30 = .ok (.invokevirtual 160, 3) := by decide +kernel
theorem dX10_drop_33 : decode cX10_drop 33 = .ok (.aload_n 0, 1) := by decide +kernel
theorem dX10_drop_34 : decode cX10_drop 34 = .ok (.getfield 142, 3) := by decide +kernel
theorem dX10_drop_37 : decode cX10_drop 37 = .ok (.ireturn, 1) := by decide +kernel
theorem dX10_move_0 : decode cX10_move 0 = .ok (.iload_n 1, 1) := by decide +kernel
theorem dX10_move_1 : decode cX10_move 1 = .ok (.invokestatic 145, 3) := by decide +kernel
theorem dX10_move_4 : decode cX10_move 4 = .ok (.ifCond .ne 6, 3) := by decide +kernel
theorem dX10_move_7 : decode cX10_move 7 = .ok (.bipush (-2), 2) := by decide +kernel
theorem dX10_move_9 : decode cX10_move 9 = .ok (.ireturn, 1) := by decide +kernel
theorem dX10_move_10 : decode cX10_move 10 = .ok (.aload_n 0, 1) := by decide +kernel
theorem dX10_move_11 : decode cX10_move 11 = .ok (.getfield 22, 3) := by decide +kernel
theorem dX10_move_14 : decode cX10_move 14 = .ok (.iload_n 1, 1) := by decide +kernel
theorem dX10_move_15 : decode cX10_move 15 = .ok (.baload, 1) := by decide +kernel
theorem dX10_move_16 : decode cX10_move 16 = .ok (.ifCond .ne 6, 3) := by decide +kernel
theorem dX10_move_19 : decode cX10_move 19 = .ok (.bipush (-3), 2) := by decide +kernel
theorem dX10_move_21 : decode cX10_move 21 = .ok (.ireturn, 1) := by decide +kernel
theorem dX10_move_22 : decode cX10_move 22 = .ok (.aload_n 0, 1) := by decide +kernel
theorem dX10_move_23 : decode cX10_move 23 = .ok (.getfield 26, 3) := by decide +kernel
theorem dX10_move_26 : decode cX10_move 26 = .ok (.iload_n 1, 1) := by decide +kernel
theorem dX10_move_27 : decode cX10_move 27 = .ok (.iaload, 1) := by decide +kernel
theorem dX10_move_28 : decode cX10_move 28 = .ok (.i2l, 1) := by decide +kernel
theorem dX10_move_29 : decode cX10_move 29 = .ok (.iload_n 2, 1) := by decide +kernel
theorem dX10_move_30 : decode cX10_move 30 = .ok (.i2l, 1) := by decide +kernel
theorem dX10_move_31 : decode cX10_move 31 = .ok (.ladd, 1) := by decide +kernel
theorem dX10_move_32 : decode cX10_move 32 = .ok (.ldc2_w 132, 3) := by decide +kernel
theorem dX10_move_35 : decode cX10_move 35 = .ok (.lcmp, 1) := by decide +kernel
theorem dX10_move_36 : decode cX10_move 36 = .ok (.ifCond .lt 20, 3) := by decide +kernel
theorem dX10_move_39 : decode cX10_move 39 = .ok (.aload_n 0, 1) := by decide +kernel
theorem dX10_move_40 : decode cX10_move 40 = .ok (.getfield 29, 3) := by decide +kernel
theorem dX10_move_43 : decode cX10_move 43 = .ok (.iload_n 1, 1) := by decide +kernel
theorem dX10_move_44 : decode cX10_move 44 = .ok (.iaload, 1) := by decide +kernel
theorem dX10_move_45 : decode cX10_move 45 = .ok (.i2l, 1) := by decide +kernel
theorem dX10_move_46 : decode cX10_move 46 = .ok (.iload_n 2, 1) := by decide +kernel
theorem dX10_move_47 : decode cX10_move 47 = .ok (.i2l, 1) := by decide +kernel
theorem dX10_move_48 : decode cX10_move 48 = .ok (.ladd, 1) := by decide +kernel
theorem dX10_move_49 : decode cX10_move 49 = .ok (.ldc2_w 134, 3) := by decide +kernel
theorem dX10_move_52 : decode cX10_move 52 = .ok (.lcmp, 1) := by decide +kernel
theorem dX10_move_53 : decode cX10_move 53 = .ok (.ifCond .le 6, 3) := by decide +kernel
theorem dX10_move_56 : decode cX10_move 56 = .ok (.bipush (-4), 2) := by decide +kernel
theorem dX10_move_58 : decode cX10_move 58 = .ok (.ireturn, 1) := by decide +kernel
theorem dX10_move_59 : decode cX10_move 59 = .ok (.aload_n 0, 1) := by decide +kernel
theorem dX10_move_60 : decode cX10_move 60 = .ok (.iconst 2, 1) := by decide +kernel
theorem dX10_move_61 : decode cX10_move 61 = .ok (.iload_n 1, 1) := by decide +kernel
theorem dX10_move_62 : decode cX10_move 62 = .ok (.invokevirtual 156, 3) := by decide +kernel
theorem dX10_move_65 : decode cX10_move 65 = .ok (.aload_n 0, 1) := by decide +kernel
theorem dX10_move_66 : decode cX10_move 66 = .ok (.getfield 26, 3) := by decide +kernel
theorem dX10_move_69 : decode cX10_move 69 = .ok (.iload_n 1, 1) := by decide +kernel
theorem dX10_move_70 : decode cX10_move 70 = .ok (.dup2, 1) := by decide +kernel
theorem dX10_move_71 : decode cX10_move 71 = .ok (.iaload, 1) := by decide +kernel
theorem dX10_move_72 : decode cX10_move 72 = .ok (.iload_n 2, 1) := by decide +kernel
theorem dX10_move_73 : decode cX10_move 73 = .ok (.iadd, 1) := by decide +kernel
theorem dX10_move_74 : decode cX10_move 74 = .ok (.iastore, 1) := by decide +kernel
theorem dX10_move_75 : decode cX10_move 75 = .ok (.aload_n 0, 1) := by decide +kernel
theorem dX10_move_76 : decode cX10_move 76 = .ok (.getfield 29, 3) := by decide +kernel
theorem dX10_move_79 : decode cX10_move 79 = .ok (.iload_n 1, 1) := by decide +kernel
theorem dX10_move_80 : decode cX10_move 80 = .ok (.dup2, 1) := by decide +kernel
theorem dX10_move_81 : decode cX10_move 81 = .ok (.iaload, 1) := by decide +kernel
theorem dX10_move_82 : decode cX10_move 82 = .ok (.iload_n 2, 1) := by decide +kernel
theorem dX10_move_83 : decode cX10_move 83 = .ok (.iadd, 1) := by decide +kernel
theorem dX10_move_84 : decode cX10_move 84 = .ok (.iastore, 1) := by decide +kernel
theorem dX10_move_85 : decode cX10_move 85 = .ok (.iconst 1, 1) := by decide +kernel
theorem dX10_move_86 : decode cX10_move 86 = .ok (.ireturn, 1) := by decide +kernel
theorem dX10_undo_0 : decode cX10_undo 0 = .ok (.aload_n 0, 1) := by decide +kernel
theorem dX10_undo_1 : decode cX10_undo 1 = .ok (.getfield 139, 3) := by decide +kernel
theorem dX10_undo_4 : decode cX10_undo 4 = .ok (.ifCond .ne 6, 3) := by decide +kernel
theorem dX10_undo_7 : decode cX10_undo 7 = .ok (.bipush (-3), 2) := by decide +kernel
theorem dX10_undo_9 : decode cX10_undo 9 = .ok (.ireturn, 1) := by decide +kernel
theorem dX10_undo_10 : decode cX10_undo 10 = .ok (.aload_n 0, 1) := by decide +kernel
theorem dX10_undo_11 : decode cX10_undo 11 = .ok (.dup, 1) := by decide +kernel
theorem dX10_undo_12 : decode cX10_undo 12 = .ok (.getfield 139, 3) := by decide +kernel
theorem dX10_undo_15 : decode cX10_undo 15 = .ok (.iconst 1, 1) := by decide +kernel
theorem dX10_undo_16 : decode cX10_undo 16 = .ok (.isub, 1) := by decide +kernel
theorem dX10_undo_17 : decode cX10_undo 17 = .ok (.putfield 139, 3) := by decide +kernel
theorem dX10_undo_20 : decode cX10_undo 20 = .ok (.aload_n 0, 1) := by decide +kernel
theorem dX10_undo_21 : decode cX10_undo 21 = .ok (.getfield 35, 3) := by decide +kernel
theorem dX10_undo_24 : decode cX10_undo 24 = .ok (.aload_n 0, 1) := by decide +kernel
theorem dX10_undo_25 : decode cX10_undo 25 = .ok (.getfield 139, 3) := by decide +kernel
theorem dX10_undo_28 : decode cX10_undo 28 = .ok (.iaload, 1) := by decide +kernel
theorem dX10_undo_29 : decode cX10_undo 29 = .ok (.istore_n 1, 1) := by decide +kernel
theorem dX10_undo_30 : decode cX10_undo 30 = .ok (.aload_n 0, 1) := by decide +kernel
theorem dX10_undo_31 : decode cX10_undo 31 = .ok (.getfield 32, 3) := by decide +kernel
theorem dX10_undo_34 : decode cX10_undo 34 = .ok (.aload_n 0, 1) := by decide +kernel
theorem dX10_undo_35 : decode cX10_undo 35 = .ok (.getfield 139, 3) := by decide +kernel
theorem dX10_undo_38 : decode cX10_undo 38 = .ok (.iaload, 1) := by decide +kernel
theorem dX10_undo_39 : decode cX10_undo 39 = .ok (.lookupswitch 59 #[(0, 25), (1, 33)], 25) := by decide +kernel
theorem dX10_undo_64 : decode cX10_undo 64 = .ok (.aload_n 0, 1) := by decide +kernel
theorem dX10_undo_65 : decode cX10_undo 65 = .ok (.iload_n 1, 1) := by decide +kernel
theorem dX10_undo_66 : decode cX10_undo 66 = .ok (.invokevirtual 160, 3) := by decide +kernel
theorem dX10_undo_69 : decode cX10_undo 69 = .ok (.goto 59, 3) := by decide +kernel
theorem dX10_undo_72 : decode cX10_undo 72 = .ok (.aload_n 0, 1) := by decide +kernel
theorem dX10_undo_73 : decode cX10_undo 73 = .ok (.iload_n 1, 1) := by decide +kernel
theorem dX10_undo_74 : decode cX10_undo 74 = .ok (.aload_n 0, 1) := by decide +kernel
theorem dX10_undo_75 : decode cX10_undo 75 = .ok (.getfield 38, 3) := by decide +kernel
theorem dX10_undo_78 : decode cX10_undo 78 = .ok (.aload_n 0, 1) := by decide +kernel
theorem dX10_undo_79 : decode cX10_undo 79 = .ok (.getfield 139, 3) := by decide +kernel
theorem dX10_undo_82 : decode cX10_undo 82 = .ok (.iaload, 1) := by decide +kernel
theorem dX10_undo_83 : decode cX10_undo 83 = .ok (.aload_n 0, 1) := by decide +kernel
theorem dX10_undo_84 : decode cX10_undo 84 = .ok (.getfield 41, 3) := by decide +kernel
theorem dX10_undo_87 : decode cX10_undo 87 = .ok (.aload_n 0, 1) := by decide +kernel
theorem dX10_undo_88 : decode cX10_undo 88 = .ok (.getfield 139, 3) := by decide +kernel
theorem dX10_undo_91 : decode cX10_undo 91 = .ok (.iaload, 1) := by decide +kernel
theorem dX10_undo_92 : decode cX10_undo 92 = .ok (.invokevirtual 152, 3) := by decide +kernel
theorem dX10_undo_95 : decode cX10_undo 95 = .ok (.goto 33, 3) := by decide +kernel
theorem dX10_undo_98 : decode cX10_undo 98 = .ok (.aload_n 0, 1) := by decide +kernel
theorem dX10_undo_99 : decode cX10_undo 99 = .ok (.getfield 26, 3) := by decide +kernel
theorem dX10_undo_102 : decode cX10_undo 102 = .ok (.iload_n 1, 1) := by decide +kernel
theorem dX10_undo_103 : decode cX10_undo 103 = .ok (.aload_n 0, 1) := by decide +kernel
theorem dX10_undo_104 : decode cX10_undo 104 = .ok (.getfield 38, 3) := by decide +kernel
theorem dX10_undo_107 : decode cX10_undo 107 = .ok (.aload_n 0, 1) := by decide +kernel
theorem dX10_undo_108 : decode cX10_undo 108 = .ok (.getfield 139, 3) := by decide +kernel
theorem dX10_undo_111 : decode cX10_undo 111 = .ok (.iaload, 1) := by decide +kernel
theorem dX10_undo_112 : decode cX10_undo 112 = .ok (.iastore, 1) := by decide +kernel
theorem dX10_undo_113 : decode cX10_undo 113 = .ok (.aload_n 0, 1) := by decide +kernel
theorem dX10_undo_114 : decode cX10_undo 114 = .ok (.getfield 29, 3) := by decide +kernel
theorem dX10_undo_117 : decode cX10_undo 117 = .ok (.iload_n 1, 1) := by decide +kernel
theorem dX10_undo_118 : decode cX10_undo 118 = .ok (.aload_n 0, 1) := by decide +kernel
theorem dX10_undo_119 : decode cX10_undo 119 = .ok (.getfield 41, 3) := by decide +kernel
theorem dX10_undo_122 : decode cX10_undo 122 = .ok (.aload_n 0, 1) := by decide +kernel
theorem dX10_undo_123 : decode cX10_undo 123 = .ok (.getfield 139, 3) := by decide +kernel
theorem dX10_undo_126 : decode cX10_undo 126 = .ok (.iaload, 1) := by decide +kernel
theorem dX10_undo_127 : decode cX10_undo 127 = .ok (.iastore, 1) := by decide +kernel
theorem dX10_undo_128 : decode cX10_undo 128 = .ok (.aload_n 0, 1) := by decide +kernel
theorem dX10_undo_129 : decode cX10_undo 129 = .ok (.getfield 139, 3) := by decide +kernel
theorem dX10_undo_132 : decode cX10_undo 132 = .ok (.ireturn, 1) := by decide +kernel
theorem dX10_leastKey_0 : decode cX10_leastKey 0 = .ok (.iconst 0, 1) := by decide +kernel
theorem dX10_leastKey_1 : decode cX10_leastKey 1 = .ok (.istore_n 1, 1) := by decide +kernel
theorem dX10_leastKey_2 : decode cX10_leastKey 2 = .ok (.iload_n 1, 1) := by decide +kernel
theorem dX10_leastKey_3 : decode cX10_leastKey 3 = .ok (.bipush 48, 2) := by decide +kernel
theorem dX10_leastKey_5 : decode cX10_leastKey 5 = .ok (.if_icmp .ge 18, 3) := by decide +kernel
theorem dX10_leastKey_8 : decode cX10_leastKey 8 = .ok (.aload_n 0, 1) := by decide +kernel
theorem dX10_leastKey_9 : decode cX10_leastKey 9 = .ok (.getfield 22, 3) := by decide +kernel
theorem dX10_leastKey_12 : decode cX10_leastKey 12 = .ok (.iload_n 1, 1) := by decide +kernel
theorem dX10_leastKey_13 : decode cX10_leastKey 13 = .ok (.baload, 1) := by decide +kernel
theorem dX10_leastKey_14 : decode cX10_leastKey 14 = .ok (.ifCond .eq 9, 3) := by decide +kernel
theorem dX10_leastKey_17 : decode cX10_leastKey 17 = .ok (.iinc 1 1, 3) := by decide +kernel
theorem dX10_leastKey_20 : decode cX10_leastKey 20 = .ok (.goto (-18), 3) := by decide +kernel
theorem dX10_leastKey_23 : decode cX10_leastKey 23 = .ok (.iload_n 1, 1) := by decide +kernel
theorem dX10_leastKey_24 : decode cX10_leastKey 24 = .ok (.ireturn, 1) := by decide +kernel
theorem dX10_fill_0 : decode cX10_fill 0 = .ok (.iload_n 1, 1) := by decide +kernel
theorem dX10_fill_1 : decode cX10_fill 1 = .ok (.invokestatic 111, 3) := by decide +kernel
theorem dX10_fill_4 : decode cX10_fill 4 = .ok (.ifCond .ne 6, 3) := by decide +kernel
theorem dX10_fill_7 : decode cX10_fill 7 = .ok (.bipush (-2), 2) := by decide +kernel
theorem dX10_fill_9 : decode cX10_fill 9 = .ok (.ireturn, 1) := by decide +kernel
theorem dX10_fill_10 : decode cX10_fill 10 = .ok (.aload_n 0, 1) := by decide +kernel
theorem dX10_fill_11 : decode cX10_fill 11 = .ok (.getfield 7, 3) := by decide +kernel
theorem dX10_fill_14 : decode cX10_fill 14 = .ok (.iload_n 1, 1) := by decide +kernel
theorem dX10_fill_15 : decode cX10_fill 15 = .ok (.iaload, 1) := by decide +kernel
theorem dX10_fill_16 : decode cX10_fill 16 = .ok (.ifCond .ge 9, 3) := by decide +kernel
theorem dX10_fill_19 : decode cX10_fill 19 = .ok (.aload_n 0, 1) := by decide +kernel
theorem dX10_fill_20 : decode cX10_fill 20 = .ok (.iconst 1, 1) := by decide +kernel
theorem dX10_fill_21 : decode cX10_fill 21 = .ok (.invokevirtual 117, 3) := by decide +kernel
theorem dX10_fill_24 : decode cX10_fill 24 = .ok (.ireturn, 1) := by decide +kernel
theorem dX10_fill_25 : decode cX10_fill 25 = .ok (.iconst 0, 1) := by decide +kernel
theorem dX10_fill_26 : decode cX10_fill 26 = .ok (.istore_n 2, 1) := by decide +kernel
theorem dX10_fill_27 : decode cX10_fill 27 = .ok (.iconst 1, 1) := by decide +kernel
theorem dX10_fill_28 : decode cX10_fill 28 = .ok (.istore_n 3, 1) := by decide +kernel
theorem dX10_fill_29 : decode cX10_fill 29 = .ok (.iload_n 3, 1) := by decide +kernel
theorem dX10_fill_30 : decode cX10_fill 30 = .ok (.ifCond .eq 75, 3) := by decide +kernel
theorem dX10_fill_33 : decode cX10_fill 33 = .ok (.iconst 2, 1) := by decide +kernel
theorem dX10_fill_34 : decode cX10_fill 34 = .ok (.iload_n 2, 1) := by decide +kernel
theorem dX10_fill_35 : decode cX10_fill 35 = .ok (.imul, 1) := by decide +kernel
theorem dX10_fill_36 : decode cX10_fill 36 = .ok (.iconst 2, 1) := by decide +kernel
theorem dX10_fill_37 : decode cX10_fill 37 = .ok (.iadd, 1) := by decide +kernel
theorem dX10_fill_38 : decode cX10_fill 38 = .ok (.aload_n 0, 1) := by decide +kernel
theorem dX10_fill_39 : decode cX10_fill 39 = .ok (.getfield 13, 3) := by decide +kernel
theorem dX10_fill_42 : decode cX10_fill 42 = .ok (.iload_n 1, 1) := by decide +kernel
theorem dX10_fill_43 : decode cX10_fill 43 = .ok (.iaload, 1) := by decide +kernel
theorem dX10_fill_44 : decode cX10_fill 44 = .ok (.if_icmp .gt 61, 3) := by decide +kernel
theorem dX10_fill_47 : decode cX10_fill 47 = .ok (.bipush 60, 2) := by decide +kernel
theorem dX10_fill_49 : decode cX10_fill 49 = .ok (.iload_n 1, 1) := by decide +kernel
theorem dX10_fill_50 : decode cX10_fill 50 = .ok (.imul, 1) := by decide +kernel
theorem dX10_fill_51 : decode cX10_fill 51 = .ok (.iconst 2, 1) := by decide +kernel
theorem dX10_fill_52 : decode cX10_fill 52 = .ok (.iload_n 2, 1) := by decide +kernel
theorem dX10_fill_53 : decode cX10_fill 53 = .ok (.imul, 1) := by decide +kernel
theorem dX10_fill_54 : decode cX10_fill 54 = .ok (.iadd, 1) := by decide +kernel
theorem dX10_fill_55 : decode cX10_fill 55 = .ok (.istore 4, 2) := by decide +kernel
theorem dX10_fill_57 : decode cX10_fill 57 = .ok (.aload_n 0, 1) := by decide +kernel
theorem dX10_fill_58 : decode cX10_fill 58 = .ok (.aload_n 0, 1) := by decide +kernel
theorem dX10_fill_59 : decode cX10_fill 59 = .ok (.invokevirtual 164, 3) := by decide +kernel
theorem dX10_fill_62 : decode cX10_fill 62 = .ok (.aload_n 0, 1) := by decide +kernel
theorem dX10_fill_63 : decode cX10_fill 63 = .ok (.getfield 16, 3) := by decide +kernel
theorem dX10_fill_66 : decode cX10_fill 66 = .ok (.iload 4, 2) := by decide +kernel
theorem dX10_fill_68 : decode cX10_fill 68 = .ok (.iaload, 1) := by decide +kernel
theorem dX10_fill_69 : decode cX10_fill 69 = .ok (.aload_n 0, 1) := by decide +kernel
theorem dX10_fill_70 : decode cX10_fill 70 = .ok (.getfield 16, 3) := by decide +kernel
theorem dX10_fill_73 : decode cX10_fill 73 = .ok (.iload 4, 2) := by decide +kernel
theorem dX10_fill_75 : decode cX10_fill 75 = .ok (.iconst 1, 1) := by decide +kernel
theorem dX10_fill_76 : decode cX10_fill 76 = .ok (.iadd, 1) := by decide +kernel
theorem dX10_fill_77 : decode cX10_fill 77 = .ok (.iaload, 1) := by decide +kernel
theorem dX10_fill_78 : decode cX10_fill 78 = .ok (.invokevirtual 168, 3) := by decide +kernel
theorem dX10_fill_81 : decode cX10_fill 81 = .ok (.ifCond .lt 7, 3) := by decide +kernel
theorem dX10_fill_84 : decode cX10_fill 84 = .ok (.iconst 1, 1) := by decide +kernel
theorem dX10_fill_85 : decode cX10_fill 85 = .ok (.goto 4, 3) := by decide +kernel
theorem dX10_fill_88 : decode cX10_fill 88 = .ok (.iconst 0, 1) := by decide +kernel
theorem dX10_fill_89 : decode cX10_fill 89 = .ok (.istore_n 3, 1) := by decide +kernel
theorem dX10_fill_90 : decode cX10_fill 90 = .ok (.iload_n 2, 1) := by decide +kernel
theorem dX10_fill_91 : decode cX10_fill 91 = .ok (.iload_n 3, 1) := by decide +kernel
theorem dX10_fill_92 : decode cX10_fill 92 = .ok (.ifCond .eq 7, 3) := by decide +kernel
theorem dX10_fill_95 : decode cX10_fill 95 = .ok (.iconst 1, 1) := by decide +kernel
theorem dX10_fill_96 : decode cX10_fill 96 = .ok (.goto 4, 3) := by decide +kernel
theorem dX10_fill_99 : decode cX10_fill 99 = .ok (.iconst 0, 1) := by decide +kernel
theorem dX10_fill_100 : decode cX10_fill 100 = .ok (.iadd, 1) := by decide +kernel
theorem dX10_fill_101 : decode cX10_fill 101 = .ok (.istore_n 2, 1) := by decide +kernel
theorem dX10_fill_102 : decode cX10_fill 102 = .ok (.goto (-73), 3) := by decide +kernel
theorem dX10_fill_105 : decode cX10_fill 105 = .ok (.iload_n 2, 1) := by decide +kernel
theorem dX10_fill_106 : decode cX10_fill 106 = .ok (.ireturn, 1) := by decide +kernel
theorem dX10_has_0 : decode cX10_has 0 = .ok (.iload_n 1, 1) := by decide +kernel
theorem dX10_has_1 : decode cX10_has 1 = .ok (.invokestatic 145, 3) := by decide +kernel
theorem dX10_has_4 : decode cX10_has 4 = .ok (.ifCond .eq 16, 3) := by decide +kernel
theorem dX10_has_7 : decode cX10_has 7 = .ok (.aload_n 0, 1) := by decide +kernel
theorem dX10_has_8 : decode cX10_has 8 = .ok (.getfield 22, 3) := by decide +kernel
theorem dX10_has_11 : decode cX10_has 11 = .ok (.iload_n 1, 1) := by decide +kernel
theorem dX10_has_12 : decode cX10_has 12 = .ok (.baload, 1) := by decide +kernel
theorem dX10_has_13 : decode cX10_has 13 = .ok (.ifCond .eq 7, 3) := by decide +kernel
theorem dX10_has_16 : decode cX10_has 16 = .ok (.iconst 1, 1) := by decide +kernel
theorem dX10_has_17 : decode cX10_has 17 = .ok (.goto 4, 3) := by decide +kernel
theorem dX10_has_20 : decode cX10_has 20 = .ok (.iconst 0, 1) := by decide +kernel
theorem dX10_has_21 : decode cX10_has 21 = .ok (.ireturn, 1) := by decide +kernel
theorem dX10_span_0 : decode cX10_span 0 = .ok (.aload_n 0, 1) := by decide +kernel
theorem dX10_span_1 : decode cX10_span 1 = .ok (.iload_n 1, 1) := by decide +kernel
theorem dX10_span_2 : decode cX10_span 2 = .ok (.invokevirtual 171, 3) := by decide +kernel
theorem dX10_span_5 : decode cX10_span 5 = .ok (.ifCond .eq 32, 3) := by decide +kernel
theorem dX10_span_8 : decode cX10_span 8 = .ok (.iload_n 2, 1) := by decide +kernel
theorem dX10_span_9 : decode cX10_span 9 = .ok (.invokestatic 174, 3) := by decide +kernel
theorem dX10_span_12 : decode cX10_span 12 = .ok (.ifCond .eq 25, 3) := by decide +kernel
theorem dX10_span_15 : decode cX10_span 15 = .ok (.iload_n 2, 1) := by decide +kernel
theorem dX10_span_16 : decode cX10_span 16 = .ok (.ifCond .ne 12, 3) := by decide +kernel
theorem dX10_span_19 : decode cX10_span 19 = .ok (.aload_n 0, 1) := by decide +kernel
theorem dX10_span_20 : decode cX10_span 20 = .ok (.getfield 26, 3) := by decide +kernel
theorem dX10_span_23 : decode cX10_span 23 = .ok (.iload_n 1, 1) := by decide +kernel
theorem dX10_span_24 : decode cX10_span 24 = .ok (.iaload, 1) := by decide +kernel
theorem dX10_span_25 : decode cX10_span 25 = .ok (.goto 14, 3) := by decide +kernel
theorem dX10_span_28 : decode cX10_span 28 = .ok (.aload_n 0, 1) := by decide +kernel
theorem dX10_span_29 : decode cX10_span 29 = .ok (.getfield 29, 3) := by decide +kernel
theorem dX10_span_32 : decode cX10_span 32 = .ok (.iload_n 1, 1) := by decide +kernel
theorem dX10_span_33 : decode cX10_span 33 = .ok (.iaload, 1) := by decide +kernel
theorem dX10_span_34 : decode cX10_span 34 = .ok (.goto 5, 3) := by decide +kernel
theorem dX10_span_37 : decode cX10_span 37 = .ok (.ldc 129, 2) := by decide +kernel
theorem dX10_span_39 : decode cX10_span 39 = .ok (.ireturn, 1) := by decide +kernel
theorem dX10_isAhead_0 : decode cX10_isAhead 0 = .ok (.aload_n 0, 1) := by decide +kernel
theorem dX10_isAhead_1 : decode cX10_isAhead 1 = .ok (.getfield 26, 3) := by decide +kernel
theorem dX10_isAhead_4 : decode cX10_isAhead 4 = .ok (.iload_n 1, 1) := by decide +kernel
theorem dX10_isAhead_5 : decode cX10_isAhead 5 = .ok (.iaload, 1) := by decide +kernel
theorem dX10_isAhead_6 : decode cX10_isAhead 6 = .ok (.aload_n 0, 1) := by decide +kernel
theorem dX10_isAhead_7 : decode cX10_isAhead 7 = .ok (.getfield 26, 3) := by decide +kernel
theorem dX10_isAhead_10 : decode cX10_isAhead 10 = .ok (.iload_n 2, 1) := by decide +kernel
theorem dX10_isAhead_11 : decode cX10_isAhead 11 = .ok (.iaload, 1) := by decide +kernel
theorem dX10_isAhead_12 : decode cX10_isAhead 12 = .ok (.if_icmp .eq 26, 3) := by decide +kernel
theorem dX10_isAhead_15 : decode cX10_isAhead 15 = .ok (.aload_n 0, 1) := by decide +kernel
theorem dX10_isAhead_16 : decode cX10_isAhead 16 = .ok (.getfield 26, 3) := by decide +kernel
theorem dX10_isAhead_19 : decode cX10_isAhead 19 = .ok (.iload_n 1, 1) := by decide +kernel
theorem dX10_isAhead_20 : decode cX10_isAhead 20 = .ok (.iaload, 1) := by decide +kernel
theorem dX10_isAhead_21 : decode cX10_isAhead 21 = .ok (.aload_n 0, 1) := by decide +kernel
theorem dX10_isAhead_22 : decode cX10_isAhead 22 = .ok (.getfield 26, 3) := by decide +kernel
theorem dX10_isAhead_25 : decode cX10_isAhead 25 = .ok (.iload_n 2, 1) := by decide +kernel
theorem dX10_isAhead_26 : decode cX10_isAhead 26 = .ok (.iaload, 1) := by decide +kernel
theorem dX10_isAhead_27 : decode cX10_isAhead 27 = .ok (.if_icmp .ge 7, 3) := by decide +kernel
theorem dX10_isAhead_30 : decode cX10_isAhead 30 = .ok (.iconst 1, 1) := by decide +kernel
theorem dX10_isAhead_31 : decode cX10_isAhead 31 = .ok (.goto 55, 3) := by decide +kernel
theorem dX10_isAhead_34 : decode cX10_isAhead 34 = .ok (.iconst 0, 1) := by decide +kernel
theorem dX10_isAhead_35 : decode cX10_isAhead 35 = .ok (.goto 51, 3) := by decide +kernel
theorem dX10_isAhead_38 : decode cX10_isAhead 38 = .ok (.aload_n 0, 1) := by decide +kernel
theorem dX10_isAhead_39 : decode cX10_isAhead 39 = .ok (.getfield 29, 3) := by decide +kernel
theorem dX10_isAhead_42 : decode cX10_isAhead 42 = .ok (.iload_n 1, 1) := by decide +kernel
theorem dX10_isAhead_43 : decode cX10_isAhead 43 = .ok (.iaload, 1) := by decide +kernel
theorem dX10_isAhead_44 : decode cX10_isAhead 44 = .ok (.aload_n 0, 1) := by decide +kernel
theorem dX10_isAhead_45 : decode cX10_isAhead 45 = .ok (.getfield 29, 3) := by decide +kernel
theorem dX10_isAhead_48 : decode cX10_isAhead 48 = .ok (.iload_n 2, 1) := by decide +kernel
theorem dX10_isAhead_49 : decode cX10_isAhead 49 = .ok (.iaload, 1) := by decide +kernel
theorem dX10_isAhead_50 : decode cX10_isAhead 50 = .ok (.if_icmp .eq 26, 3) := by decide +kernel
theorem dX10_isAhead_53 : decode cX10_isAhead 53 = .ok (.aload_n 0, 1) := by decide +kernel
theorem dX10_isAhead_54 : decode cX10_isAhead 54 = .ok (.getfield 29, 3) := by decide +kernel
theorem dX10_isAhead_57 : decode cX10_isAhead 57 = .ok (.iload_n 1, 1) := by decide +kernel
theorem dX10_isAhead_58 : decode cX10_isAhead 58 = .ok (.iaload, 1) := by decide +kernel
theorem dX10_isAhead_59 : decode cX10_isAhead 59 = .ok (.aload_n 0, 1) := by decide +kernel
theorem dX10_isAhead_60 : decode cX10_isAhead 60 = .ok (.getfield 29, 3) := by decide +kernel
theorem dX10_isAhead_63 : decode cX10_isAhead 63 = .ok (.iload_n 2, 1) := by decide +kernel
theorem dX10_isAhead_64 : decode cX10_isAhead 64 = .ok (.iaload, 1) := by decide +kernel
theorem dX10_isAhead_65 : decode cX10_isAhead 65 = .ok (.if_icmp .ge 7, 3) := by decide +kernel
theorem dX10_isAhead_68 : decode cX10_isAhead 68 = .ok (.iconst 1, 1) := by decide +kernel
theorem dX10_isAhead_69 : decode cX10_isAhead 69 = .ok (.goto 17, 3) := by decide +kernel
theorem dX10_isAhead_72 : decode cX10_isAhead 72 = .ok (.iconst 0, 1) := by decide +kernel
theorem dX10_isAhead_73 : decode cX10_isAhead 73 = .ok (.goto 13, 3) := by decide +kernel
theorem dX10_isAhead_76 : decode cX10_isAhead 76 = .ok (.iload_n 1, 1) := by decide +kernel
theorem dX10_isAhead_77 : decode cX10_isAhead 77 = .ok (.iload_n 2, 1) := by decide +kernel
theorem dX10_isAhead_78 : decode cX10_isAhead 78 = .ok (.if_icmp .ge 7, 3) := by decide +kernel
theorem dX10_isAhead_81 : decode cX10_isAhead 81 = .ok (.iconst 1, 1) := by decide +kernel
theorem dX10_isAhead_82 : decode cX10_isAhead 82 = .ok (.goto 4, 3) := by decide +kernel
theorem dX10_isAhead_85 : decode cX10_isAhead 85 = .ok (.iconst 0, 1) := by decide +kernel
theorem dX10_isAhead_86 : decode cX10_isAhead 86 = .ok (.ireturn, 1) := by decide +kernel
theorem dX10_orders_0 : decode cX10_orders 0 = .ok (.iconst 0, 1) := by decide +kernel
theorem dX10_orders_1 : decode cX10_orders 1 = .ok (.istore_n 1, 1) := by decide +kernel
theorem dX10_orders_2 : decode cX10_orders 2 = .ok (.iconst 0, 1) := by decide +kernel
theorem dX10_orders_3 : decode cX10_orders 3 = .ok (.istore_n 2, 1) := by decide +kernel
theorem dX10_orders_4 : decode cX10_orders 4 = .ok (.iload_n 2, 1) := by decide +kernel
theorem dX10_orders_5 : decode cX10_orders 5 = .ok (.bipush 48, 2) := by decide +kernel
theorem dX10_orders_7 : decode cX10_orders 7 = .ok (.if_icmp .ge 70, 3) := by decide +kernel
theorem dX10_orders_10 : decode cX10_orders 10 = .ok (.aload_n 0, 1) := by decide +kernel
theorem dX10_orders_11 : decode cX10_orders 11 = .ok (.getfield 22, 3) := by decide +kernel
theorem dX10_orders_14 : decode cX10_orders 14 = .ok (.iload_n 2, 1) := by decide +kernel
theorem dX10_orders_15 : decode cX10_orders 15 = .ok (.baload, 1) := by decide +kernel
theorem dX10_orders_16 : decode cX10_orders 16 = .ok (.ifCond .eq 55, 3) := by decide +kernel
theorem dX10_orders_19 : decode cX10_orders 19 = .ok (.iload_n 1, 1) := by decide +kernel
theorem dX10_orders_20 : decode cX10_orders 20 = .ok (.istore_n 3, 1) := by decide +kernel
theorem dX10_orders_21 : decode cX10_orders 21 = .ok (.iload_n 3, 1) := by decide +kernel
theorem dX10_orders_22 : decode cX10_orders 22 = .ok (.ifCond .le 39, 3) := by decide +kernel
theorem dX10_orders_25 : decode cX10_orders 25 = .ok (.aload_n 0, 1) := by decide +kernel
theorem dX10_orders_26 : decode cX10_orders 26 = .ok (.iload_n 2, 1) := by decide +kernel
theorem dX10_orders_27 : decode cX10_orders 27 = .ok (.aload_n 0, 1) := by decide +kernel
theorem dX10_orders_28 : decode cX10_orders 28 = .ok (.getfield 44, 3) := by decide +kernel
theorem dX10_orders_31 : decode cX10_orders 31 = .ok (.iload_n 3, 1) := by decide +kernel
theorem dX10_orders_32 : decode cX10_orders 32 = .ok (.iconst 1, 1) := by decide +kernel
theorem dX10_orders_33 : decode cX10_orders 33 = .ok (.isub, 1) := by decide +kernel
theorem dX10_orders_34 : decode cX10_orders 34 = .ok (.iaload, 1) := by decide +kernel
theorem dX10_orders_35 : decode cX10_orders 35 = .ok (.invokevirtual 177, 3) := by decide +kernel
theorem dX10_orders_38 : decode cX10_orders 38 = .ok (.ifCond .eq 23, 3) := by decide +kernel
theorem dX10_orders_41 : decode cX10_orders 41 = .ok (.aload_n 0, 1) := by decide +kernel
theorem dX10_orders_42 : decode cX10_orders 42 = .ok (.getfield 44, 3) := by decide +kernel
theorem dX10_orders_45 : decode cX10_orders 45 = .ok (.iload_n 3, 1) := by decide +kernel
theorem dX10_orders_46 : decode cX10_orders 46 = .ok (.aload_n 0, 1) := by decide +kernel
theorem dX10_orders_47 : decode cX10_orders 47 = .ok (.getfield 44, 3) := by decide +kernel
theorem dX10_orders_50 : decode cX10_orders 50 = .ok (.iload_n 3, 1) := by decide +kernel
theorem dX10_orders_51 : decode cX10_orders 51 = .ok (.iconst 1, 1) := by decide +kernel
theorem dX10_orders_52 : decode cX10_orders 52 = .ok (.isub, 1) := by decide +kernel
theorem dX10_orders_53 : decode cX10_orders 53 = .ok (.iaload, 1) := by decide +kernel
theorem dX10_orders_54 : decode cX10_orders 54 = .ok (.iastore, 1) := by decide +kernel
theorem dX10_orders_55 : decode cX10_orders 55 = .ok (.iinc 3 (-1), 3) := by decide +kernel
theorem dX10_orders_58 : decode cX10_orders 58 = .ok (.goto (-37), 3) := by decide +kernel
theorem dX10_orders_61 : decode cX10_orders 61 = .ok (.aload_n 0, 1) := by decide +kernel
theorem dX10_orders_62 : decode cX10_orders 62 = .ok (.getfield 44, 3) := by decide +kernel
theorem dX10_orders_65 : decode cX10_orders 65 = .ok (.iload_n 3, 1) := by decide +kernel
theorem dX10_orders_66 : decode cX10_orders 66 = .ok (.iload_n 2, 1) := by decide +kernel
theorem dX10_orders_67 : decode cX10_orders 67 = .ok (.iastore, 1) := by decide +kernel
theorem dX10_orders_68 : decode cX10_orders 68 = .ok (.iinc 1 1, 3) := by decide +kernel
theorem dX10_orders_71 : decode cX10_orders 71 = .ok (.iinc 2 1, 3) := by decide +kernel
theorem dX10_orders_74 : decode cX10_orders 74 = .ok (.goto (-70), 3) := by decide +kernel
theorem dX10_orders_77 : decode cX10_orders 77 = .ok (.iconst 0, 1) := by decide +kernel
theorem dX10_orders_78 : decode cX10_orders 78 = .ok (.istore_n 2, 1) := by decide +kernel
theorem dX10_orders_79 : decode cX10_orders 79 = .ok (.iload_n 2, 1) := by decide +kernel
theorem dX10_orders_80 : decode cX10_orders 80 = .ok (.iload_n 1, 1) := by decide +kernel
theorem dX10_orders_81 : decode cX10_orders 81 = .ok (.if_icmp .ge 21, 3) := by decide +kernel
theorem dX10_orders_84 : decode cX10_orders 84 = .ok (.aload_n 0, 1) := by decide +kernel
theorem dX10_orders_85 : decode cX10_orders 85 = .ok (.getfield 47, 3) := by decide +kernel
theorem dX10_orders_88 : decode cX10_orders 88 = .ok (.aload_n 0, 1) := by decide +kernel
theorem dX10_orders_89 : decode cX10_orders 89 = .ok (.getfield 44, 3) := by decide +kernel
theorem dX10_orders_92 : decode cX10_orders 92 = .ok (.iload_n 2, 1) := by decide +kernel
theorem dX10_orders_93 : decode cX10_orders 93 = .ok (.iaload, 1) := by decide +kernel
theorem dX10_orders_94 : decode cX10_orders 94 = .ok (.iload_n 2, 1) := by decide +kernel
theorem dX10_orders_95 : decode cX10_orders 95 = .ok (.iastore, 1) := by decide +kernel
theorem dX10_orders_96 : decode cX10_orders 96 = .ok (.iinc 2 1, 3) := by decide +kernel
theorem dX10_orders_99 : decode cX10_orders 99 = .ok (.goto (-20), 3) := by decide +kernel
theorem dX10_orders_102 : decode cX10_orders 102 = .ok (.return_, 1) := by decide +kernel
theorem dX10_weightAt_0 : decode cX10_weightAt 0 = .ok (.aload_n 0, 1) := by decide +kernel
theorem dX10_weightAt_1 : decode cX10_weightAt 1 = .ok (.getfield 44, 3) := by decide +kernel
theorem dX10_weightAt_4 : decode cX10_weightAt 4 = .ok (.iload_n 1, 1) := by decide +kernel
theorem dX10_weightAt_5 : decode cX10_weightAt 5 = .ok (.iaload, 1) := by decide +kernel
theorem dX10_weightAt_6 : decode cX10_weightAt 6 = .ok (.iconst 1, 1) := by decide +kernel
theorem dX10_weightAt_7 : decode cX10_weightAt 7 = .ok (.iadd, 1) := by decide +kernel
theorem dX10_weightAt_8 : decode cX10_weightAt 8 = .ok (.ldc 180, 2) := by decide +kernel
theorem dX10_weightAt_10 : decode cX10_weightAt 10 = .ok (.imul, 1) := by decide +kernel
theorem dX10_weightAt_11 : decode cX10_weightAt 11 = .ok (.ldc 181, 2) := by decide +kernel
theorem dX10_weightAt_13 : decode cX10_weightAt 13 = .ok (.irem, 1) := by decide +kernel
theorem dX10_weightAt_14 : decode cX10_weightAt 14 = .ok (.ireturn, 1) := by decide +kernel
theorem dX10_greatest_0 : decode cX10_greatest 0 = .ok (.iconst (-1), 1) := by decide +kernel
theorem dX10_greatest_1 : decode cX10_greatest 1 = .ok (.istore_n 3, 1) := by decide +kernel
theorem dX10_greatest_2 : decode cX10_greatest 2 = .ok (.iload_n 1, 1) := by decide +kernel
theorem dX10_greatest_3 : decode cX10_greatest 3 = .ok (.istore 4, 2) := by decide +kernel
theorem dX10_greatest_5 : decode cX10_greatest 5 = .ok (.iload 4, 2) := by decide +kernel
theorem dX10_greatest_7 : decode cX10_greatest 7 = .ok (.iload_n 2, 1) := by decide +kernel
theorem dX10_greatest_8 : decode cX10_greatest 8 = .ok (.if_icmp .ge 35, 3) := by decide +kernel
theorem dX10_greatest_11 : decode cX10_greatest 11 = .ok (.iload_n 3, 1) := by decide +kernel
theorem dX10_greatest_12 : decode cX10_greatest 12 = .ok (.iconst (-1), 1) := by decide +kernel
theorem dX10_greatest_13 : decode cX10_greatest 13 = .ok (.if_icmp .eq 17, 3) := by decide +kernel
theorem dX10_greatest_16 : decode cX10_greatest 16 = .ok (.aload_n 0, 1) := by decide +kernel
theorem dX10_greatest_17 : decode cX10_greatest 17 = .ok (.iload 4, 2) := by decide +kernel
theorem dX10_greatest_19 : decode cX10_greatest 19 = .ok (.invokevirtual 182, 3) := by decide +kernel
theorem dX10_greatest_22 : decode cX10_greatest 22 = .ok (.aload_n 0, 1) := by decide +kernel
theorem dX10_greatest_23 : decode cX10_greatest 23 = .ok (.iload_n 3, 1) := by decide +kernel
theorem dX10_greatest_24 : decode cX10_greatest 24 = .ok (.invokevirtual 182, 3) := by decide +kernel
theorem dX10_greatest_27 : decode cX10_greatest 27 = .ok (.if_icmp .le 8, 3) := by decide +kernel
theorem dX10_greatest_30 : decode cX10_greatest 30 = .ok (.iload 4, 2) := by decide +kernel
theorem dX10_greatest_32 : decode cX10_greatest 32 = .ok (.goto 4, 3) := by decide +kernel
theorem dX10_greatest_35 : decode cX10_greatest 35 = .ok (.iload_n 3, 1) := by decide +kernel
theorem dX10_greatest_36 : decode cX10_greatest 36 = .ok (.istore_n 3, 1) := by decide +kernel
theorem dX10_greatest_37 : decode cX10_greatest 37 = .ok (.iinc 4 1, 3) := by decide +kernel
theorem dX10_greatest_40 : decode cX10_greatest 40 = .ok (.goto (-35), 3) := by decide +kernel
theorem dX10_greatest_43 : decode cX10_greatest 43 = .ok (.iload_n 3, 1) := by decide +kernel
theorem dX10_greatest_44 : decode cX10_greatest 44 = .ok (.ireturn, 1) := by decide +kernel
theorem dX10_hangs_0 : decode cX10_hangs 0 = .ok (.aload_n 0, 1) := by decide +kernel
theorem dX10_hangs_1 : decode cX10_hangs 1 = .ok (.iload_n 2, 1) := by decide +kernel
theorem dX10_hangs_2 : decode cX10_hangs 2 = .ok (.iload_n 3, 1) := by decide +kernel
theorem dX10_hangs_3 : decode cX10_hangs 3 = .ok (.invokevirtual 185, 3) := by decide +kernel
theorem dX10_hangs_6 : decode cX10_hangs 6 = .ok (.istore 5, 2) := by decide +kernel
theorem dX10_hangs_8 : decode cX10_hangs 8 = .ok (.iload 5, 2) := by decide +kernel
theorem dX10_hangs_10 : decode cX10_hangs 10 = .ok (.iconst (-1), 1) := by decide +kernel
theorem dX10_hangs_11 : decode cX10_hangs 11 = .ok (.if_icmp .eq 36, 3) := by decide +kernel
theorem dX10_hangs_14 : decode cX10_hangs 14 = .ok (.aload_n 0, 1) := by decide +kernel
theorem dX10_hangs_15 : decode cX10_hangs 15 = .ok (.getfield 53, 3) := by decide +kernel
theorem dX10_hangs_18 : decode cX10_hangs 18 = .ok (.iload 5, 2) := by decide +kernel
theorem dX10_hangs_20 : decode cX10_hangs 20 = .ok (.iload_n 1, 1) := by decide +kernel
theorem dX10_hangs_21 : decode cX10_hangs 21 = .ok (.iastore, 1) := by decide +kernel
theorem dX10_hangs_22 : decode cX10_hangs 22 = .ok (.aload_n 0, 1) := by decide +kernel
theorem dX10_hangs_23 : decode cX10_hangs 23 = .ok (.getfield 74, 3) := by decide +kernel
theorem dX10_hangs_26 : decode cX10_hangs 26 = .ok (.iload 5, 2) := by decide +kernel
theorem dX10_hangs_28 : decode cX10_hangs 28 = .ok (.iload_n 2, 1) := by decide +kernel
theorem dX10_hangs_29 : decode cX10_hangs 29 = .ok (.iastore, 1) := by decide +kernel
theorem dX10_hangs_30 : decode cX10_hangs 30 = .ok (.aload_n 0, 1) := by decide +kernel
theorem dX10_hangs_31 : decode cX10_hangs 31 = .ok (.getfield 77, 3) := by decide +kernel
theorem dX10_hangs_34 : decode cX10_hangs 34 = .ok (.iload 5, 2) := by decide +kernel
theorem dX10_hangs_36 : decode cX10_hangs 36 = .ok (.iload_n 3, 1) := by decide +kernel
theorem dX10_hangs_37 : decode cX10_hangs 37 = .ok (.iastore, 1) := by decide +kernel
theorem dX10_hangs_38 : decode cX10_hangs 38 = .ok (.aload_n 0, 1) := by decide +kernel
theorem dX10_hangs_39 : decode cX10_hangs 39 = .ok (.getfield 62, 3) := by decide +kernel
theorem dX10_hangs_42 : decode cX10_hangs 42 = .ok (.iload 5, 2) := by decide +kernel
theorem dX10_hangs_44 : decode cX10_hangs 44 = .ok (.iload 4, 2) := by decide +kernel
theorem dX10_hangs_46 : decode cX10_hangs 46 = .ok (.iastore, 1) := by decide +kernel
theorem dX10_hangs_47 : decode cX10_hangs 47 = .ok (.iload 5, 2) := by decide +kernel
theorem dX10_hangs_49 : decode cX10_hangs 49 = .ok (.ireturn, 1) := by decide +kernel
theorem dX10_grows_0 : decode cX10_grows 0 = .ok (.aload_n 0, 1) := by decide +kernel
theorem dX10_grows_1 : decode cX10_grows 1 = .ok (.invokevirtual 188, 3) := by decide +kernel
theorem dX10_grows_4 : decode cX10_grows 4 = .ok (.iconst 0, 1) := by decide +kernel
theorem dX10_grows_5 : decode cX10_grows 5 = .ok (.istore_n 1, 1) := by decide +kernel
theorem dX10_grows_6 : decode cX10_grows 6 = .ok (.aload_n 0, 1) := by decide +kernel
theorem dX10_grows_7 : decode cX10_grows 7 = .ok (.getfield 142, 3) := by decide +kernel
theorem dX10_grows_10 : decode cX10_grows 10 = .ok (.ifCond .le 22, 3) := by decide +kernel
theorem dX10_grows_13 : decode cX10_grows 13 = .ok (.aload_n 0, 1) := by decide +kernel
theorem dX10_grows_14 : decode cX10_grows 14 = .ok (.getfield 50, 3) := by decide +kernel
theorem dX10_grows_17 : decode cX10_grows 17 = .ok (.iconst 0, 1) := by decide +kernel
theorem dX10_grows_18 : decode cX10_grows 18 = .ok (.aload_n 0, 1) := by decide +kernel
theorem dX10_grows_19 : decode cX10_grows 19 = .ok (.iconst (-1), 1) := by decide +kernel
theorem dX10_grows_20 : decode cX10_grows 20 = .ok (.iconst 0, 1) := by decide +kernel
theorem dX10_grows_21 : decode cX10_grows 21 = .ok (.aload_n 0, 1) := by decide +kernel
theorem dX10_grows_22 : decode cX10_grows 22 = .ok (.getfield 142, 3) := by decide +kernel
theorem dX10_grows_25 : decode cX10_grows 25 = .ok (.iconst 0, 1) := by decide +kernel
theorem dX10_grows_26 : decode cX10_grows 26 = .ok (.invokevirtual 191, 3) := by decide +kernel
theorem dX10_grows_29 : decode cX10_grows 29 = .ok (.iastore, 1) := by decide +kernel
theorem dX10_grows_30 : decode cX10_grows 30 = .ok (.iconst 1, 1) := by decide +kernel
theorem dX10_grows_31 : decode cX10_grows 31 = .ok (.istore_n 1, 1) := by decide +kernel
theorem dX10_grows_32 : decode cX10_grows 32 = .ok (.iconst 0, 1) := by decide +kernel
theorem dX10_grows_33 : decode cX10_grows 33 = .ok (.istore_n 2, 1) := by decide +kernel
theorem dX10_grows_34 : decode cX10_grows 34 = .ok (.iload_n 2, 1) := by decide +kernel
theorem dX10_grows_35 : decode cX10_grows 35 = .ok (.iload_n 1, 1) := by decide +kernel
theorem dX10_grows_36 : decode cX10_grows 36 = .ok (.if_icmp .ge 120, 3) := by decide +kernel
theorem dX10_grows_39 : decode cX10_grows 39 = .ok (.aload_n 0, 1) := by decide +kernel
theorem dX10_grows_40 : decode cX10_grows 40 = .ok (.getfield 50, 3) := by decide +kernel
theorem dX10_grows_43 : decode cX10_grows 43 = .ok (.iload_n 2, 1) := by decide +kernel
theorem dX10_grows_44 : decode cX10_grows 44 = .ok (.iaload, 1) := by decide +kernel
theorem dX10_grows_45 : decode cX10_grows 45 = .ok (.istore_n 3, 1) := by decide +kernel
theorem dX10_grows_46 : decode cX10_grows 46 = .ok (.aload_n 0, 1) := by decide +kernel
theorem dX10_grows_47 : decode cX10_grows 47 = .ok (.getfield 56, 3) := by decide +kernel
theorem dX10_grows_50 : decode cX10_grows 50 = .ok (.iload_n 3, 1) := by decide +kernel
theorem dX10_grows_51 : decode cX10_grows 51 = .ok (.aload_n 0, 1) := by decide +kernel
theorem dX10_grows_52 : decode cX10_grows 52 = .ok (.iload_n 3, 1) := by decide +kernel
theorem dX10_grows_53 : decode cX10_grows 53 = .ok (.aload_n 0, 1) := by decide +kernel
theorem dX10_grows_54 : decode cX10_grows 54 = .ok (.getfield 74, 3) := by decide +kernel
theorem dX10_grows_57 : decode cX10_grows 57 = .ok (.iload_n 3, 1) := by decide +kernel
theorem dX10_grows_58 : decode cX10_grows 58 = .ok (.iaload, 1) := by decide +kernel
theorem dX10_grows_59 : decode cX10_grows 59 = .ok (.iload_n 3, 1) := by decide +kernel
theorem dX10_grows_60 : decode cX10_grows 60 = .ok (.aload_n 0, 1) := by decide +kernel
theorem dX10_grows_61 : decode cX10_grows 61 = .ok (.getfield 62, 3) := by decide +kernel
theorem dX10_grows_64 : decode cX10_grows 64 = .ok (.iload_n 3, 1) := by decide +kernel
theorem dX10_grows_65 : decode cX10_grows 65 = .ok (.iaload, 1) := by decide +kernel
theorem dX10_grows_66 : decode cX10_grows 66 = .ok (.iconst 1, 1) := by decide +kernel
theorem dX10_grows_67 : decode cX10_grows 67 = .ok (.iadd, 1) := by decide +kernel
theorem dX10_grows_68 : decode cX10_grows 68 = .ok (.invokevirtual 191, 3) := by decide +kernel
theorem dX10_grows_71 : decode cX10_grows 71 = .ok (.iastore, 1) := by decide +kernel
theorem dX10_grows_72 : decode cX10_grows 72 = .ok (.aload_n 0, 1) := by decide +kernel
theorem dX10_grows_73 : decode cX10_grows 73 = .ok (.getfield 59, 3) := by decide +kernel
theorem dX10_grows_76 : decode cX10_grows 76 = .ok (.iload_n 3, 1) := by decide +kernel
theorem dX10_grows_77 : decode cX10_grows 77 = .ok (.aload_n 0, 1) := by decide +kernel
theorem dX10_grows_78 : decode cX10_grows 78 = .ok (.iload_n 3, 1) := by decide +kernel
theorem dX10_grows_79 : decode cX10_grows 79 = .ok (.iload_n 3, 1) := by decide +kernel
theorem dX10_grows_80 : decode cX10_grows 80 = .ok (.iconst 1, 1) := by decide +kernel
theorem dX10_grows_81 : decode cX10_grows 81 = .ok (.iadd, 1) := by decide +kernel
theorem dX10_grows_82 : decode cX10_grows 82 = .ok (.aload_n 0, 1) := by decide +kernel
theorem dX10_grows_83 : decode cX10_grows 83 = .ok (.getfield 77, 3) := by decide +kernel
theorem dX10_grows_86 : decode cX10_grows 86 = .ok (.iload_n 3, 1) := by decide +kernel
theorem dX10_grows_87 : decode cX10_grows 87 = .ok (.iaload, 1) := by decide +kernel
theorem dX10_grows_88 : decode cX10_grows 88 = .ok (.aload_n 0, 1) := by decide +kernel
theorem dX10_grows_89 : decode cX10_grows 89 = .ok (.getfield 62, 3) := by decide +kernel
theorem dX10_grows_92 : decode cX10_grows 92 = .ok (.iload_n 3, 1) := by decide +kernel
theorem dX10_grows_93 : decode cX10_grows 93 = .ok (.iaload, 1) := by decide +kernel
theorem dX10_grows_94 : decode cX10_grows 94 = .ok (.iconst 1, 1) := by decide +kernel
theorem dX10_grows_95 : decode cX10_grows 95 = .ok (.iadd, 1) := by decide +kernel
theorem dX10_grows_96 : decode cX10_grows 96 = .ok (.invokevirtual 191, 3) := by decide +kernel
theorem dX10_grows_99 : decode cX10_grows 99 = .ok (.iastore, 1) := by decide +kernel
theorem dX10_grows_100 : decode cX10_grows 100 = .ok (.aload_n 0, 1) := by decide +kernel
theorem dX10_grows_101 : decode cX10_grows 101 = .ok (.getfield 56, 3) := by decide +kernel
theorem dX10_grows_104 : decode cX10_grows 104 = .ok (.iload_n 3, 1) := by decide +kernel
theorem dX10_grows_105 : decode cX10_grows 105 = .ok (.iaload, 1) := by decide +kernel
theorem dX10_grows_106 : decode cX10_grows 106 = .ok (.iconst (-1), 1) := by decide +kernel
theorem dX10_grows_107 : decode cX10_grows 107 = .ok (.if_icmp .eq 18, 3) := by decide +kernel
theorem dX10_grows_110 : decode cX10_grows 110 = .ok (.aload_n 0, 1) := by decide +kernel
theorem dX10_grows_111 : decode cX10_grows 111 = .ok (.getfield 50, 3) := by decide +kernel
theorem dX10_grows_114 : decode cX10_grows 114 = .ok (.iload_n 1, 1) := by decide +kernel
theorem dX10_grows_115 : decode cX10_grows 115 = .ok (.aload_n 0, 1) := by decide +kernel
theorem dX10_grows_116 : decode cX10_grows 116 = .ok (.getfield 56, 3) := by decide +kernel
theorem dX10_grows_119 : decode cX10_grows 119 = .ok (.iload_n 3, 1) := by decide +kernel
theorem dX10_grows_120 : decode cX10_grows 120 = .ok (.iaload, 1) := by decide +kernel
theorem dX10_grows_121 : decode cX10_grows 121 = .ok (.iastore, 1) := by decide +kernel
theorem dX10_grows_122 : decode cX10_grows 122 = .ok (.iinc 1 1, 3) := by decide +kernel
theorem dX10_grows_125 : decode cX10_grows 125 = .ok (.aload_n 0, 1) := by decide +kernel
theorem dX10_grows_126 : decode cX10_grows 126 = .ok (.getfield 59, 3) := by decide +kernel
theorem dX10_grows_129 : decode cX10_grows 129 = .ok (.iload_n 3, 1) := by decide +kernel
theorem dX10_grows_130 : decode cX10_grows 130 = .ok (.iaload, 1) := by decide +kernel
theorem dX10_grows_131 : decode cX10_grows 131 = .ok (.iconst (-1), 1) := by decide +kernel
theorem dX10_grows_132 : decode cX10_grows 132 = .ok (.if_icmp .eq 18, 3) := by decide +kernel
theorem dX10_grows_135 : decode cX10_grows 135 = .ok (.aload_n 0, 1) := by decide +kernel
theorem dX10_grows_136 : decode cX10_grows 136 = .ok (.getfield 50, 3) := by decide +kernel
theorem dX10_grows_139 : decode cX10_grows 139 = .ok (.iload_n 1, 1) := by decide +kernel
theorem dX10_grows_140 : decode cX10_grows 140 = .ok (.aload_n 0, 1) := by decide +kernel
theorem dX10_grows_141 : decode cX10_grows 141 = .ok (.getfield 59, 3) := by decide +kernel
theorem dX10_grows_144 : decode cX10_grows 144 = .ok (.iload_n 3, 1) := by decide +kernel
theorem dX10_grows_145 : decode cX10_grows 145 = .ok (.iaload, 1) := by decide +kernel
theorem dX10_grows_146 : decode cX10_grows 146 = .ok (.iastore, 1) := by decide +kernel
theorem dX10_grows_147 : decode cX10_grows 147 = .ok (.iinc 1 1, 3) := by decide +kernel
theorem dX10_grows_150 : decode cX10_grows 150 = .ok (.iinc 2 1, 3) := by decide +kernel
theorem dX10_grows_153 : decode cX10_grows 153 = .ok (.goto (-119), 3) := by decide +kernel
theorem dX10_grows_156 : decode cX10_grows 156 = .ok (.iload_n 1, 1) := by decide +kernel
theorem dX10_grows_157 : decode cX10_grows 157 = .ok (.iconst 1, 1) := by decide +kernel
theorem dX10_grows_158 : decode cX10_grows 158 = .ok (.isub, 1) := by decide +kernel
theorem dX10_grows_159 : decode cX10_grows 159 = .ok (.istore_n 2, 1) := by decide +kernel
theorem dX10_grows_160 : decode cX10_grows 160 = .ok (.iload_n 2, 1) := by decide +kernel
theorem dX10_grows_161 : decode cX10_grows 161 = .ok (.ifCond .lt 19, 3) := by decide +kernel
theorem dX10_grows_164 : decode cX10_grows 164 = .ok (.aload_n 0, 1) := by decide +kernel
theorem dX10_grows_165 : decode cX10_grows 165 = .ok (.aload_n 0, 1) := by decide +kernel
theorem dX10_grows_166 : decode cX10_grows 166 = .ok (.getfield 50, 3) := by decide +kernel
theorem dX10_grows_169 : decode cX10_grows 169 = .ok (.iload_n 2, 1) := by decide +kernel
theorem dX10_grows_170 : decode cX10_grows 170 = .ok (.iaload, 1) := by decide +kernel
theorem dX10_grows_171 : decode cX10_grows 171 = .ok (.invokevirtual 195, 3) := by decide +kernel
theorem dX10_grows_174 : decode cX10_grows 174 = .ok (.iinc 2 (-1), 3) := by decide +kernel
theorem dX10_grows_177 : decode cX10_grows 177 = .ok (.goto (-17), 3) := by decide +kernel
theorem dX10_grows_180 : decode cX10_grows 180 = .ok (.return_, 1) := by decide +kernel
theorem dX10_sums_0 : decode cX10_sums 0 = .ok (.aload_n 0, 1) := by decide +kernel
theorem dX10_sums_1 : decode cX10_sums 1 = .ok (.getfield 65, 3) := by decide +kernel
theorem dX10_sums_4 : decode cX10_sums 4 = .ok (.iload_n 1, 1) := by decide +kernel
theorem dX10_sums_5 : decode cX10_sums 5 = .ok (.iconst 1, 1) := by decide +kernel
theorem dX10_sums_6 : decode cX10_sums 6 = .ok (.iastore, 1) := by decide +kernel
theorem dX10_sums_7 : decode cX10_sums 7 = .ok (.aload_n 0, 1) := by decide +kernel
theorem dX10_sums_8 : decode cX10_sums 8 = .ok (.getfield 68, 3) := by decide +kernel
theorem dX10_sums_11 : decode cX10_sums 11 = .ok (.iload_n 1, 1) := by decide +kernel
theorem dX10_sums_12 : decode cX10_sums 12 = .ok (.iconst 1, 1) := by decide +kernel
theorem dX10_sums_13 : decode cX10_sums 13 = .ok (.iastore, 1) := by decide +kernel
theorem dX10_sums_14 : decode cX10_sums 14 = .ok (.aload_n 0, 1) := by decide +kernel
theorem dX10_sums_15 : decode cX10_sums 15 = .ok (.getfield 71, 3) := by decide +kernel
theorem dX10_sums_18 : decode cX10_sums 18 = .ok (.iload_n 1, 1) := by decide +kernel
theorem dX10_sums_19 : decode cX10_sums 19 = .ok (.aload_n 0, 1) := by decide +kernel
theorem dX10_sums_20 : decode cX10_sums 20 = .ok (.getfield 29, 3) := by decide +kernel
theorem dX10_sums_23 : decode cX10_sums 23 = .ok (.aload_n 0, 1) := by decide +kernel
theorem dX10_sums_24 : decode cX10_sums 24 = .ok (.getfield 44, 3) := by decide +kernel
theorem dX10_sums_27 : decode cX10_sums 27 = .ok (.iload_n 1, 1) := by decide +kernel
theorem dX10_sums_28 : decode cX10_sums 28 = .ok (.iaload, 1) := by decide +kernel
theorem dX10_sums_29 : decode cX10_sums 29 = .ok (.iaload, 1) := by decide +kernel
theorem dX10_sums_30 : decode cX10_sums 30 = .ok (.iastore, 1) := by decide +kernel
theorem dX10_sums_31 : decode cX10_sums 31 = .ok (.iconst 0, 1) := by decide +kernel
theorem dX10_sums_32 : decode cX10_sums 32 = .ok (.istore_n 2, 1) := by decide +kernel
theorem dX10_sums_33 : decode cX10_sums 33 = .ok (.iload_n 2, 1) := by decide +kernel
theorem dX10_sums_34 : decode cX10_sums 34 = .ok (.iconst 2, 1) := by decide +kernel
theorem dX10_sums_35 : decode cX10_sums 35 = .ok (.if_icmp .ge 93, 3) := by decide +kernel
theorem dX10_sums_38 : decode cX10_sums 38 = .ok (.iload_n 2, 1) := by decide +kernel
theorem dX10_sums_39 : decode cX10_sums 39 = .ok (.ifCond .ne 12, 3) := by decide +kernel
theorem dX10_sums_42 : decode cX10_sums 42 = .ok (.aload_n 0, 1) := by decide +kernel
theorem dX10_sums_43 : decode cX10_sums 43 = .ok (.getfield 56, 3) := by decide +kernel
theorem dX10_sums_46 : decode cX10_sums 46 = .ok (.iload_n 1, 1) := by decide +kernel
theorem dX10_sums_47 : decode cX10_sums 47 = .ok (.iaload, 1) := by decide +kernel
theorem dX10_sums_48 : decode cX10_sums 48 = .ok (.goto 9, 3) := by decide +kernel
theorem dX10_sums_51 : decode cX10_sums 51 = .ok (.aload_n 0, 1) := by decide +kernel
theorem dX10_sums_52 : decode cX10_sums 52 = .ok (.getfield 59, 3) := by decide +kernel
theorem dX10_sums_55 : decode cX10_sums 55 = .ok (.iload_n 1, 1) := by decide +kernel
theorem dX10_sums_56 : decode cX10_sums 56 = .ok (.iaload, 1) := by decide +kernel
theorem dX10_sums_57 : decode cX10_sums 57 = .ok (.istore_n 3, 1) := by decide +kernel
theorem dX10_sums_58 : decode cX10_sums 58 = .ok (.iload_n 3, 1) := by decide +kernel
theorem dX10_sums_59 : decode cX10_sums 59 = .ok (.iconst (-1), 1) := by decide +kernel
theorem dX10_sums_60 : decode cX10_sums 60 = .ok (.if_icmp .eq 62, 3) := by decide +kernel
theorem dX10_sums_63 : decode cX10_sums 63 = .ok (.aload_n 0, 1) := by decide +kernel
theorem dX10_sums_64 : decode cX10_sums 64 = .ok (.getfield 65, 3) := by decide +kernel
theorem dX10_sums_67 : decode cX10_sums 67 = .ok (.iload_n 1, 1) := by decide +kernel
theorem dX10_sums_68 : decode cX10_sums 68 = .ok (.dup2, 1) := by decide +kernel
theorem dX10_sums_69 : decode cX10_sums 69 = .ok (.iaload, 1) := by decide +kernel
theorem dX10_sums_70 : decode cX10_sums 70 = .ok (.aload_n 0, 1) := by decide +kernel
theorem dX10_sums_71 : decode cX10_sums 71 = .ok (.getfield 65, 3) := by decide +kernel
theorem dX10_sums_74 : decode cX10_sums 74 = .ok (.iload_n 3, 1) := by decide +kernel
theorem dX10_sums_75 : decode cX10_sums 75 = .ok (.iaload, 1) := by decide +kernel
theorem dX10_sums_76 : decode cX10_sums 76 = .ok (.iadd, 1) := by decide +kernel
theorem dX10_sums_77 : decode cX10_sums 77 = .ok (.iastore, 1) := by decide +kernel
theorem dX10_sums_78 : decode cX10_sums 78 = .ok (.aload_n 0, 1) := by decide +kernel
theorem dX10_sums_79 : decode cX10_sums 79 = .ok (.getfield 68, 3) := by decide +kernel
theorem dX10_sums_82 : decode cX10_sums 82 = .ok (.iload_n 1, 1) := by decide +kernel
theorem dX10_sums_83 : decode cX10_sums 83 = .ok (.aload_n 0, 1) := by decide +kernel
theorem dX10_sums_84 : decode cX10_sums 84 = .ok (.getfield 68, 3) := by decide +kernel
theorem dX10_sums_87 : decode cX10_sums 87 = .ok (.iload_n 3, 1) := by decide +kernel
theorem dX10_sums_88 : decode cX10_sums 88 = .ok (.iaload, 1) := by decide +kernel
theorem dX10_sums_89 : decode cX10_sums 89 = .ok (.iconst 1, 1) := by decide +kernel
theorem dX10_sums_90 : decode cX10_sums 90 = .ok (.iadd, 1) := by decide +kernel
theorem dX10_sums_91 : decode cX10_sums 91 = .ok (.aload_n 0, 1) := by decide +kernel
theorem dX10_sums_92 : decode cX10_sums 92 = .ok (.getfield 68, 3) := by decide +kernel
theorem dX10_sums_95 : decode cX10_sums 95 = .ok (.iload_n 1, 1) := by decide +kernel
theorem dX10_sums_96 : decode cX10_sums 96 = .ok (.iaload, 1) := by decide +kernel
theorem dX10_sums_97 : decode cX10_sums 97 = .ok (.invokestatic 198, 3) := by decide +kernel
theorem dX10_sums_100 : decode cX10_sums 100 = .ok (.iastore, 1) := by decide +kernel
theorem dX10_sums_101 : decode cX10_sums 101 = .ok (.aload_n 0, 1) := by decide +kernel
theorem dX10_sums_102 : decode cX10_sums 102 = .ok (.getfield 71, 3) := by decide +kernel
theorem dX10_sums_105 : decode cX10_sums 105 = .ok (.iload_n 1, 1) := by decide +kernel
theorem dX10_sums_106 : decode cX10_sums 106 = .ok (.aload_n 0, 1) := by decide +kernel
theorem dX10_sums_107 : decode cX10_sums 107 = .ok (.getfield 71, 3) := by decide +kernel
theorem dX10_sums_110 : decode cX10_sums 110 = .ok (.iload_n 3, 1) := by decide +kernel
theorem dX10_sums_111 : decode cX10_sums 111 = .ok (.iaload, 1) := by decide +kernel
theorem dX10_sums_112 : decode cX10_sums 112 = .ok (.aload_n 0, 1) := by decide +kernel
theorem dX10_sums_113 : decode cX10_sums 113 = .ok (.getfield 71, 3) := by decide +kernel
theorem dX10_sums_116 : decode cX10_sums 116 = .ok (.iload_n 1, 1) := by decide +kernel
theorem dX10_sums_117 : decode cX10_sums 117 = .ok (.iaload, 1) := by decide +kernel
theorem dX10_sums_118 : decode cX10_sums 118 = .ok (.invokestatic 198, 3) := by decide +kernel
theorem dX10_sums_121 : decode cX10_sums 121 = .ok (.iastore, 1) := by decide +kernel
theorem dX10_sums_122 : decode cX10_sums 122 = .ok (.iinc 2 1, 3) := by decide +kernel
theorem dX10_sums_125 : decode cX10_sums 125 = .ok (.goto (-92), 3) := by decide +kernel
theorem dX10_sums_128 : decode cX10_sums 128 = .ok (.return_, 1) := by decide +kernel
theorem dX10_rank_0 : decode cX10_rank 0 = .ok (.aload_n 0, 1) := by decide +kernel
theorem dX10_rank_1 : decode cX10_rank 1 = .ok (.invokevirtual 188, 3) := by decide +kernel
theorem dX10_rank_4 : decode cX10_rank 4 = .ok (.iload_n 1, 1) := by decide +kernel
theorem dX10_rank_5 : decode cX10_rank 5 = .ok (.invokestatic 145, 3) := by decide +kernel
theorem dX10_rank_8 : decode cX10_rank 8 = .ok (.ifCond .ne 8, 3) := by decide +kernel
theorem dX10_rank_11 : decode cX10_rank 11 = .ok (.bipush (-2), 2) := by decide +kernel
theorem dX10_rank_13 : decode cX10_rank 13 = .ok (.goto 23, 3) := by decide +kernel
theorem dX10_rank_16 : decode cX10_rank 16 = .ok (.aload_n 0, 1) := by decide +kernel
theorem dX10_rank_17 : decode cX10_rank 17 = .ok (.getfield 22, 3) := by decide +kernel
theorem dX10_rank_20 : decode cX10_rank 20 = .ok (.iload_n 1, 1) := by decide +kernel
theorem dX10_rank_21 : decode cX10_rank 21 = .ok (.baload, 1) := by decide +kernel
theorem dX10_rank_22 : decode cX10_rank 22 = .ok (.ifCond .eq 12, 3) := by decide +kernel
theorem dX10_rank_25 : decode cX10_rank 25 = .ok (.aload_n 0, 1) := by decide +kernel
theorem dX10_rank_26 : decode cX10_rank 26 = .ok (.getfield 47, 3) := by decide +kernel
theorem dX10_rank_29 : decode cX10_rank 29 = .ok (.iload_n 1, 1) := by decide +kernel
theorem dX10_rank_30 : decode cX10_rank 30 = .ok (.iaload, 1) := by decide +kernel
theorem dX10_rank_31 : decode cX10_rank 31 = .ok (.goto 5, 3) := by decide +kernel
theorem dX10_rank_34 : decode cX10_rank 34 = .ok (.bipush (-3), 2) := by decide +kernel
theorem dX10_rank_36 : decode cX10_rank 36 = .ok (.ireturn, 1) := by decide +kernel
theorem dX10_keyAt_0 : decode cX10_keyAt 0 = .ok (.iload_n 1, 1) := by decide +kernel
theorem dX10_keyAt_1 : decode cX10_keyAt 1 = .ok (.iconst (-1), 1) := by decide +kernel
theorem dX10_keyAt_2 : decode cX10_keyAt 2 = .ok (.if_icmp .eq 11, 3) := by decide +kernel
theorem dX10_keyAt_5 : decode cX10_keyAt 5 = .ok (.iload_n 1, 1) := by decide +kernel
theorem dX10_keyAt_6 : decode cX10_keyAt 6 = .ok (.aload_n 0, 1) := by decide +kernel
theorem dX10_keyAt_7 : decode cX10_keyAt 7 = .ok (.getfield 142, 3) := by decide +kernel
theorem dX10_keyAt_10 : decode cX10_keyAt 10 = .ok (.if_icmp .lt 7, 3) := by decide +kernel
theorem dX10_keyAt_13 : decode cX10_keyAt 13 = .ok (.iconst (-1), 1) := by decide +kernel
theorem dX10_keyAt_14 : decode cX10_keyAt 14 = .ok (.goto 9, 3) := by decide +kernel
theorem dX10_keyAt_17 : decode cX10_keyAt 17 = .ok (.aload_n 0, 1) := by decide +kernel
theorem dX10_keyAt_18 : decode cX10_keyAt 18 = .ok (.getfield 44, 3) := by decide +kernel
theorem dX10_keyAt_21 : decode cX10_keyAt 21 = .ok (.iload_n 1, 1) := by decide +kernel
theorem dX10_keyAt_22 : decode cX10_keyAt 22 = .ok (.iaload, 1) := by decide +kernel
theorem dX10_keyAt_23 : decode cX10_keyAt 23 = .ok (.ireturn, 1) := by decide +kernel
theorem dX10_ranked_0 : decode cX10_ranked 0 = .ok (.aload_n 0, 1) := by decide +kernel
theorem dX10_ranked_1 : decode cX10_ranked 1 = .ok (.invokevirtual 188, 3) := by decide +kernel
theorem dX10_ranked_4 : decode cX10_ranked 4 = .ok (.iload_n 1, 1) := by decide +kernel
theorem dX10_ranked_5 : decode cX10_ranked 5 = .ok (.i2l, 1) := by decide +kernel
theorem dX10_ranked_6 : decode cX10_ranked 6 = .ok (.lconst 0, 1) := by decide +kernel
theorem dX10_ranked_7 : decode cX10_ranked 7 = .ok (.ldc2_w 130, 3) := by decide +kernel
theorem dX10_ranked_10 : decode cX10_ranked 10 = .ok (.invokestatic 101, 3) := by decide +kernel
theorem dX10_ranked_13 : decode cX10_ranked 13 = .ok (.ifCond .eq 11, 3) := by decide +kernel
theorem dX10_ranked_16 : decode cX10_ranked 16 = .ok (.aload_n 0, 1) := by decide +kernel
theorem dX10_ranked_17 : decode cX10_ranked 17 = .ok (.iload_n 1, 1) := by decide +kernel
theorem dX10_ranked_18 : decode cX10_ranked 18 = .ok (.invokevirtual 201, 3) := by decide +kernel
theorem dX10_ranked_21 : decode cX10_ranked 21 = .ok (.goto 5, 3) := by decide +kernel
theorem dX10_ranked_24 : decode cX10_ranked 24 = .ok (.bipush (-2), 2) := by decide +kernel
theorem dX10_ranked_26 : decode cX10_ranked 26 = .ok (.ireturn, 1) := by decide +kernel
theorem dX10_root_0 : decode cX10_root 0 = .ok (.aload_n 0, 1) := by decide +kernel
theorem dX10_root_1 : decode cX10_root 1 = .ok (.invokevirtual 204, 3) := by decide +kernel
theorem dX10_root_4 : decode cX10_root 4 = .ok (.aload_n 0, 1) := by decide +kernel
theorem dX10_root_5 : decode cX10_root 5 = .ok (.getfield 142, 3) := by decide +kernel
theorem dX10_root_8 : decode cX10_root 8 = .ok (.ifCond .ne 7, 3) := by decide +kernel
theorem dX10_root_11 : decode cX10_root 11 = .ok (.iconst (-1), 1) := by decide +kernel
theorem dX10_root_12 : decode cX10_root 12 = .ok (.goto 14, 3) := by decide +kernel
theorem dX10_root_15 : decode cX10_root 15 = .ok (.aload_n 0, 1) := by decide +kernel
theorem dX10_root_16 : decode cX10_root 16 = .ok (.getfield 44, 3) := by decide +kernel
theorem dX10_root_19 : decode cX10_root 19 = .ok (.aload_n 0, 1) := by decide +kernel
theorem dX10_root_20 : decode cX10_root 20 = .ok (.getfield 50, 3) := by decide +kernel
theorem dX10_root_23 : decode cX10_root 23 = .ok (.iconst 0, 1) := by decide +kernel
theorem dX10_root_24 : decode cX10_root 24 = .ok (.iaload, 1) := by decide +kernel
theorem dX10_root_25 : decode cX10_root 25 = .ok (.iaload, 1) := by decide +kernel
theorem dX10_root_26 : decode cX10_root 26 = .ok (.ireturn, 1) := by decide +kernel
theorem dX10_treeBy_0 : decode cX10_treeBy 0 = .ok (.iload_n 2, 1) := by decide +kernel
theorem dX10_treeBy_1 : decode cX10_treeBy 1 = .ok (.tableswitch 82 0 4 #[35, 46, 57, 68, 75], 35) := by decide +kernel
theorem dX10_treeBy_36 : decode cX10_treeBy 36 = .ok (.aload_n 0, 1) := by decide +kernel
theorem dX10_treeBy_37 : decode cX10_treeBy 37 = .ok (.aload_n 0, 1) := by decide +kernel
theorem dX10_treeBy_38 : decode cX10_treeBy 38 = .ok (.getfield 53, 3) := by decide +kernel
theorem dX10_treeBy_41 : decode cX10_treeBy 41 = .ok (.iload_n 1, 1) := by decide +kernel
theorem dX10_treeBy_42 : decode cX10_treeBy 42 = .ok (.iaload, 1) := by decide +kernel
theorem dX10_treeBy_43 : decode cX10_treeBy 43 = .ok (.invokevirtual 201, 3) := by decide +kernel
theorem dX10_treeBy_46 : decode cX10_treeBy 46 = .ok (.ireturn, 1) := by decide +kernel
theorem dX10_treeBy_47 : decode cX10_treeBy 47 = .ok (.aload_n 0, 1) := by decide +kernel
theorem dX10_treeBy_48 : decode cX10_treeBy 48 = .ok (.aload_n 0, 1) := by decide +kernel
theorem dX10_treeBy_49 : decode cX10_treeBy 49 = .ok (.getfield 56, 3) := by decide +kernel
theorem dX10_treeBy_52 : decode cX10_treeBy 52 = .ok (.iload_n 1, 1) := by decide +kernel
theorem dX10_treeBy_53 : decode cX10_treeBy 53 = .ok (.iaload, 1) := by decide +kernel
theorem dX10_treeBy_54 : decode cX10_treeBy 54 = .ok (.invokevirtual 201, 3) := by decide +kernel
theorem dX10_treeBy_57 : decode cX10_treeBy 57 = .ok (.ireturn, 1) := by decide +kernel
theorem dX10_treeBy_58 : decode cX10_treeBy 58 = .ok (.aload_n 0, 1) := by decide +kernel
theorem dX10_treeBy_59 : decode cX10_treeBy 59 = .ok (.aload_n 0, 1) := by decide +kernel
theorem dX10_treeBy_60 : decode cX10_treeBy 60 = .ok (.getfield 59, 3) := by decide +kernel
theorem dX10_treeBy_63 : decode cX10_treeBy 63 = .ok (.iload_n 1, 1) := by decide +kernel
theorem dX10_treeBy_64 : decode cX10_treeBy 64 = .ok (.iaload, 1) := by decide +kernel
theorem dX10_treeBy_65 : decode cX10_treeBy 65 = .ok (.invokevirtual 201, 3) := by decide +kernel
theorem dX10_treeBy_68 : decode cX10_treeBy 68 = .ok (.ireturn, 1) := by decide +kernel
theorem dX10_treeBy_69 : decode cX10_treeBy 69 = .ok (.aload_n 0, 1) := by decide +kernel
theorem dX10_treeBy_70 : decode cX10_treeBy 70 = .ok (.getfield 62, 3) := by decide +kernel
theorem dX10_treeBy_73 : decode cX10_treeBy 73 = .ok (.iload_n 1, 1) := by decide +kernel
theorem dX10_treeBy_74 : decode cX10_treeBy 74 = .ok (.iaload, 1) := by decide +kernel
theorem dX10_treeBy_75 : decode cX10_treeBy 75 = .ok (.ireturn, 1) := by decide +kernel
theorem dX10_treeBy_76 : decode cX10_treeBy 76 = .ok (.aload_n 0, 1) := by decide +kernel
theorem dX10_treeBy_77 : decode cX10_treeBy 77 = .ok (.getfield 65, 3) := by decide +kernel
theorem dX10_treeBy_80 : decode cX10_treeBy 80 = .ok (.iload_n 1, 1) := by decide +kernel
theorem dX10_treeBy_81 : decode cX10_treeBy 81 = .ok (.iaload, 1) := by decide +kernel
theorem dX10_treeBy_82 : decode cX10_treeBy 82 = .ok (.ireturn, 1) := by decide +kernel
theorem dX10_treeBy_83 : decode cX10_treeBy 83 = .ok (.aload_n 0, 1) := by decide +kernel
theorem dX10_treeBy_84 : decode cX10_treeBy 84 = .ok (.getfield 68, 3) := by decide +kernel
theorem dX10_treeBy_87 : decode cX10_treeBy 87 = .ok (.iload_n 1, 1) := by decide +kernel
theorem dX10_treeBy_88 : decode cX10_treeBy 88 = .ok (.iaload, 1) := by decide +kernel
theorem dX10_treeBy_89 : decode cX10_treeBy 89 = .ok (.ireturn, 1) := by decide +kernel
theorem dX10_tree_0 : decode cX10_tree 0 = .ok (.aload_n 0, 1) := by decide +kernel
theorem dX10_tree_1 : decode cX10_tree 1 = .ok (.invokevirtual 204, 3) := by decide +kernel
theorem dX10_tree_4 : decode cX10_tree 4 = .ok (.iload_n 1, 1) := by decide +kernel
theorem dX10_tree_5 : decode cX10_tree 5 = .ok (.invokestatic 145, 3) := by decide +kernel
theorem dX10_tree_8 : decode cX10_tree 8 = .ok (.ifCond .eq 15, 3) := by decide +kernel
theorem dX10_tree_11 : decode cX10_tree 11 = .ok (.iload_n 2, 1) := by decide +kernel
theorem dX10_tree_12 : decode cX10_tree 12 = .ok (.i2l, 1) := by decide +kernel
theorem dX10_tree_13 : decode cX10_tree 13 = .ok (.lconst 0, 1) := by decide +kernel
theorem dX10_tree_14 : decode cX10_tree 14 = .ok (.ldc2_w 207, 3) := by decide +kernel
theorem dX10_tree_17 : decode cX10_tree 17 = .ok (.invokestatic 101, 3) := by decide +kernel
theorem dX10_tree_20 : decode cX10_tree 20 = .ok (.ifCond .ne 6, 3) := by decide +kernel
theorem dX10_tree_23 : decode cX10_tree 23 = .ok (.bipush (-2), 2) := by decide +kernel
theorem dX10_tree_25 : decode cX10_tree 25 = .ok (.ireturn, 1) := by decide +kernel
theorem dX10_tree_26 : decode cX10_tree 26 = .ok (.aload_n 0, 1) := by decide +kernel
theorem dX10_tree_27 : decode cX10_tree 27 = .ok (.getfield 22, 3) := by decide +kernel
theorem dX10_tree_30 : decode cX10_tree 30 = .ok (.iload_n 1, 1) := by decide +kernel
theorem dX10_tree_31 : decode cX10_tree 31 = .ok (.baload, 1) := by decide +kernel
theorem dX10_tree_32 : decode cX10_tree 32 = .ok (.ifCond .eq 17, 3) := by decide +kernel
theorem dX10_tree_35 : decode cX10_tree 35 = .ok (.aload_n 0, 1) := by decide +kernel
theorem dX10_tree_36 : decode cX10_tree 36 = .ok (.aload_n 0, 1) := by decide +kernel
theorem dX10_tree_37 : decode cX10_tree 37 = .ok (.getfield 47, 3) := by decide +kernel
theorem dX10_tree_40 : decode cX10_tree 40 = .ok (.iload_n 1, 1) := by decide +kernel
theorem dX10_tree_41 : decode cX10_tree 41 = .ok (.iaload, 1) := by decide +kernel
theorem dX10_tree_42 : decode cX10_tree 42 = .ok (.iload_n 2, 1) := by decide +kernel
theorem dX10_tree_43 : decode cX10_tree 43 = .ok (.invokevirtual 209, 3) := by decide +kernel
theorem dX10_tree_46 : decode cX10_tree 46 = .ok (.goto 5, 3) := by decide +kernel
theorem dX10_tree_49 : decode cX10_tree 49 = .ok (.bipush (-3), 2) := by decide +kernel
theorem dX10_tree_51 : decode cX10_tree 51 = .ok (.ireturn, 1) := by decide +kernel
theorem dX10_end_0 : decode cX10_end 0 = .ok (.aload_n 0, 1) := by decide +kernel
theorem dX10_end_1 : decode cX10_end 1 = .ok (.invokevirtual 204, 3) := by decide +kernel
theorem dX10_end_4 : decode cX10_end 4 = .ok (.aload_n 0, 1) := by decide +kernel
theorem dX10_end_5 : decode cX10_end 5 = .ok (.iload_n 1, 1) := by decide +kernel
theorem dX10_end_6 : decode cX10_end 6 = .ok (.invokevirtual 171, 3) := by decide +kernel
theorem dX10_end_9 : decode cX10_end 9 = .ok (.ifCond .eq 17, 3) := by decide +kernel
theorem dX10_end_12 : decode cX10_end 12 = .ok (.aload_n 0, 1) := by decide +kernel
theorem dX10_end_13 : decode cX10_end 13 = .ok (.getfield 71, 3) := by decide +kernel
theorem dX10_end_16 : decode cX10_end 16 = .ok (.aload_n 0, 1) := by decide +kernel
theorem dX10_end_17 : decode cX10_end 17 = .ok (.getfield 47, 3) := by decide +kernel
theorem dX10_end_20 : decode cX10_end 20 = .ok (.iload_n 1, 1) := by decide +kernel
theorem dX10_end_21 : decode cX10_end 21 = .ok (.iaload, 1) := by decide +kernel
theorem dX10_end_22 : decode cX10_end 22 = .ok (.iaload, 1) := by decide +kernel
theorem dX10_end_23 : decode cX10_end 23 = .ok (.goto 5, 3) := by decide +kernel
theorem dX10_end_26 : decode cX10_end 26 = .ok (.ldc 129, 2) := by decide +kernel
theorem dX10_end_28 : decode cX10_end 28 = .ok (.ireturn, 1) := by decide +kernel
theorem dX10_looksAt_0 : decode cX10_looksAt 0 = .ok (.iconst 0, 1) := by decide +kernel
theorem dX10_looksAt_1 : decode cX10_looksAt 1 = .ok (.istore_n 3, 1) := by decide +kernel
theorem dX10_looksAt_2 : decode cX10_looksAt 2 = .ok (.iconst 0, 1) := by decide +kernel
theorem dX10_looksAt_3 : decode cX10_looksAt 3 = .ok (.istore 4, 2) := by decide +kernel
theorem dX10_looksAt_5 : decode cX10_looksAt 5 = .ok (.aload_n 0, 1) := by decide +kernel
theorem dX10_looksAt_6 : decode cX10_looksAt 6 = .ok (.getfield 142, 3) := by decide +kernel
theorem dX10_looksAt_9 : decode cX10_looksAt 9 = .ok (.ifCond .le 17, 3) := by decide +kernel
theorem dX10_looksAt_12 : decode cX10_looksAt 12 = .ok (.aload_n 0, 1) := by decide +kernel
theorem dX10_looksAt_13 : decode cX10_looksAt 13 = .ok (.getfield 80, 3) := by decide +kernel
theorem dX10_looksAt_16 : decode cX10_looksAt 16 = .ok (.iconst 0, 1) := by decide +kernel
theorem dX10_looksAt_17 : decode cX10_looksAt 17 = .ok (.aload_n 0, 1) := by decide +kernel
theorem dX10_looksAt_18 : decode cX10_looksAt 18 = .ok (.getfield 50, 3) := by decide +kernel
theorem dX10_looksAt_21 : decode cX10_looksAt 21 = .ok (.iconst 0, 1) := by decide +kernel
theorem dX10_looksAt_22 : decode cX10_looksAt 22 = .ok (.iaload, 1) := by decide +kernel
theorem dX10_looksAt_23 : decode cX10_looksAt 23 = .ok (.iastore, 1) := by decide +kernel
theorem dX10_looksAt_24 : decode cX10_looksAt 24 = .ok (.iconst 1, 1) := by decide +kernel
theorem dX10_looksAt_25 : decode cX10_looksAt 25 = .ok (.istore_n 3, 1) := by decide +kernel
theorem dX10_looksAt_26 : decode cX10_looksAt 26 = .ok (.iconst 0, 1) := by decide +kernel
theorem dX10_looksAt_27 : decode cX10_looksAt 27 = .ok (.istore 5, 2) := by decide +kernel
theorem dX10_looksAt_29 : decode cX10_looksAt 29 = .ok (.iload 5, 2) := by decide +kernel
theorem dX10_looksAt_31 : decode cX10_looksAt 31 = .ok (.iload_n 3, 1) := by decide +kernel
theorem dX10_looksAt_32 : decode cX10_looksAt 32 = .ok (.if_icmp .ge 123, 3) := by decide +kernel
theorem dX10_looksAt_35 : decode cX10_looksAt 35 = .ok (.aload_n 0, 1) := by decide +kernel
theorem dX10_looksAt_36 : decode cX10_looksAt 36 = .ok (.getfield 80, 3) := by decide +kernel
theorem dX10_looksAt_39 : decode cX10_looksAt 39 = .ok (.iload 5, 2) := by decide +kernel
theorem dX10_looksAt_41 : decode cX10_looksAt 41 = .ok (.iaload, 1) := by decide +kernel
theorem dX10_looksAt_42 : decode cX10_looksAt 42 = .ok (.istore 6, 2) := by decide +kernel
theorem dX10_looksAt_44 : decode cX10_looksAt 44 = .ok (.iinc 4 1, 3) := by decide +kernel
theorem dX10_looksAt_47 : decode cX10_looksAt 47 = .ok (.aload_n 0, 1) := by decide +kernel
theorem dX10_looksAt_48 : decode cX10_looksAt 48 = .ok (.getfield 56, 3) := by decide +kernel
theorem dX10_looksAt_51 : decode cX10_looksAt 51 = .ok (.iload 6, 2) := by decide +kernel
theorem dX10_looksAt_53 : decode cX10_looksAt 53 = .ok (.iaload, 1) := by decide +kernel
theorem dX10_looksAt_54 : decode cX10_looksAt 54 = .ok (.iconst (-1), 1) := by decide +kernel
theorem dX10_looksAt_55 : decode cX10_looksAt 55 = .ok (.if_icmp .eq 35, 3) := by decide +kernel
theorem dX10_looksAt_58 : decode cX10_looksAt 58 = .ok (.aload_n 0, 1) := by decide +kernel
theorem dX10_looksAt_59 : decode cX10_looksAt 59 = .ok (.getfield 71, 3) := by decide +kernel
theorem dX10_looksAt_62 : decode cX10_looksAt 62 = .ok (.aload_n 0, 1) := by decide +kernel
theorem dX10_looksAt_63 : decode cX10_looksAt 63 = .ok (.getfield 56, 3) := by decide +kernel
theorem dX10_looksAt_66 : decode cX10_looksAt 66 = .ok (.iload 6, 2) := by decide +kernel
theorem dX10_looksAt_68 : decode cX10_looksAt 68 = .ok (.iaload, 1) := by decide +kernel
theorem dX10_looksAt_69 : decode cX10_looksAt 69 = .ok (.iaload, 1) := by decide +kernel
theorem dX10_looksAt_70 : decode cX10_looksAt 70 = .ok (.iload_n 1, 1) := by decide +kernel
theorem dX10_looksAt_71 : decode cX10_looksAt 71 = .ok (.if_icmp .le 19, 3) := by decide +kernel
theorem dX10_looksAt_74 : decode cX10_looksAt 74 = .ok (.aload_n 0, 1) := by decide +kernel
theorem dX10_looksAt_75 : decode cX10_looksAt 75 = .ok (.getfield 80, 3) := by decide +kernel
theorem dX10_looksAt_78 : decode cX10_looksAt 78 = .ok (.iload_n 3, 1) := by decide +kernel
theorem dX10_looksAt_79 : decode cX10_looksAt 79 = .ok (.aload_n 0, 1) := by decide +kernel
theorem dX10_looksAt_80 : decode cX10_looksAt 80 = .ok (.getfield 56, 3) := by decide +kernel
theorem dX10_looksAt_83 : decode cX10_looksAt 83 = .ok (.iload 6, 2) := by decide +kernel
theorem dX10_looksAt_85 : decode cX10_looksAt 85 = .ok (.iaload, 1) := by decide +kernel
theorem dX10_looksAt_86 : decode cX10_looksAt 86 = .ok (.iastore, 1) := by decide +kernel
theorem dX10_looksAt_87 : decode cX10_looksAt 87 = .ok (.iinc 3 1, 3) := by decide +kernel
theorem dX10_looksAt_90 : decode cX10_looksAt 90 = .ok (.aload_n 0, 1) := by decide +kernel
theorem dX10_looksAt_91 : decode cX10_looksAt 91 = .ok (.getfield 59, 3) := by decide +kernel
theorem dX10_looksAt_94 : decode cX10_looksAt 94 = .ok (.iload 6, 2) := by decide +kernel
theorem dX10_looksAt_96 : decode cX10_looksAt 96 = .ok (.iaload, 1) := by decide +kernel
theorem dX10_looksAt_97 : decode cX10_looksAt 97 = .ok (.iconst (-1), 1) := by decide +kernel
theorem dX10_looksAt_98 : decode cX10_looksAt 98 = .ok (.if_icmp .eq 51, 3) := by decide +kernel
theorem dX10_looksAt_101 : decode cX10_looksAt 101 = .ok (.aload_n 0, 1) := by decide +kernel
theorem dX10_looksAt_102 : decode cX10_looksAt 102 = .ok (.getfield 71, 3) := by decide +kernel
theorem dX10_looksAt_105 : decode cX10_looksAt 105 = .ok (.aload_n 0, 1) := by decide +kernel
theorem dX10_looksAt_106 : decode cX10_looksAt 106 = .ok (.getfield 59, 3) := by decide +kernel
theorem dX10_looksAt_109 : decode cX10_looksAt 109 = .ok (.iload 6, 2) := by decide +kernel
theorem dX10_looksAt_111 : decode cX10_looksAt 111 = .ok (.iaload, 1) := by decide +kernel
theorem dX10_looksAt_112 : decode cX10_looksAt 112 = .ok (.iaload, 1) := by decide +kernel
theorem dX10_looksAt_113 : decode cX10_looksAt 113 = .ok (.iload_n 1, 1) := by decide +kernel
theorem dX10_looksAt_114 : decode cX10_looksAt 114 = .ok (.if_icmp .le 35, 3) := by decide +kernel
theorem dX10_looksAt_117 : decode cX10_looksAt 117 = .ok (.aload_n 0, 1) := by decide +kernel
theorem dX10_looksAt_118 : decode cX10_looksAt 118 = .ok (.getfield 26, 3) := by decide +kernel
theorem dX10_looksAt_121 : decode cX10_looksAt 121 = .ok (.aload_n 0, 1) := by decide +kernel
theorem dX10_looksAt_122 : decode cX10_looksAt 122 = .ok (.getfield 44, 3) := by decide +kernel
theorem dX10_looksAt_125 : decode cX10_looksAt 125 = .ok (.iload 6, 2) := by decide +kernel
theorem dX10_looksAt_127 : decode cX10_looksAt 127 = .ok (.iaload, 1) := by decide +kernel
theorem dX10_looksAt_128 : decode cX10_looksAt 128 = .ok (.iaload, 1) := by decide +kernel
theorem dX10_looksAt_129 : decode cX10_looksAt 129 = .ok (.iload_n 2, 1) := by decide +kernel
theorem dX10_looksAt_130 : decode cX10_looksAt 130 = .ok (.if_icmp .ge 19, 3) := by decide +kernel
theorem dX10_looksAt_133 : decode cX10_looksAt 133 = .ok (.aload_n 0, 1) := by decide +kernel
theorem dX10_looksAt_134 : decode cX10_looksAt 134 = .ok (.getfield 80, 3) := by decide +kernel
theorem dX10_looksAt_137 : decode cX10_looksAt 137 = .ok (.iload_n 3, 1) := by decide +kernel
theorem dX10_looksAt_138 : decode cX10_looksAt 138 = .ok (.aload_n 0, 1) := by decide +kernel
theorem dX10_looksAt_139 : decode cX10_looksAt 139 = .ok (.getfield 59, 3) := by decide +kernel
theorem dX10_looksAt_142 : decode cX10_looksAt 142 = .ok (.iload 6, 2) := by decide +kernel
theorem dX10_looksAt_144 : decode cX10_looksAt 144 = .ok (.iaload, 1) := by decide +kernel
theorem dX10_looksAt_145 : decode cX10_looksAt 145 = .ok (.iastore, 1) := by decide +kernel
theorem dX10_looksAt_146 : decode cX10_looksAt 146 = .ok (.iinc 3 1, 3) := by decide +kernel
theorem dX10_looksAt_149 : decode cX10_looksAt 149 = .ok (.iinc 5 1, 3) := by decide +kernel
theorem dX10_looksAt_152 : decode cX10_looksAt 152 = .ok (.goto (-123), 3) := by decide +kernel
theorem dX10_looksAt_155 : decode cX10_looksAt 155 = .ok (.iload 4, 2) := by decide +kernel
theorem dX10_looksAt_157 : decode cX10_looksAt 157 = .ok (.ireturn, 1) := by decide +kernel
theorem dX10_looks_0 : decode cX10_looks 0 = .ok (.aload_n 0, 1) := by decide +kernel
theorem dX10_looks_1 : decode cX10_looks 1 = .ok (.invokevirtual 204, 3) := by decide +kernel
theorem dX10_looks_4 : decode cX10_looks 4 = .ok (.iload_n 1, 1) := by decide +kernel
theorem dX10_looks_5 : decode cX10_looks 5 = .ok (.iload_n 2, 1) := by decide +kernel
theorem dX10_looks_6 : decode cX10_looks 6 = .ok (.invokestatic 148, 3) := by decide +kernel
theorem dX10_looks_9 : decode cX10_looks 9 = .ok (.ifCond .eq 12, 3) := by decide +kernel
theorem dX10_looks_12 : decode cX10_looks 12 = .ok (.aload_n 0, 1) := by decide +kernel
theorem dX10_looks_13 : decode cX10_looks 13 = .ok (.iload_n 1, 1) := by decide +kernel
theorem dX10_looks_14 : decode cX10_looks 14 = .ok (.iload_n 2, 1) := by decide +kernel
theorem dX10_looks_15 : decode cX10_looks 15 = .ok (.invokevirtual 212, 3) := by decide +kernel
theorem dX10_looks_18 : decode cX10_looks 18 = .ok (.goto 5, 3) := by decide +kernel
theorem dX10_looks_21 : decode cX10_looks 21 = .ok (.bipush (-2), 2) := by decide +kernel
theorem dX10_looks_23 : decode cX10_looks 23 = .ok (.ireturn, 1) := by decide +kernel
theorem dX10_isMet_0 : decode cX10_isMet 0 = .ok (.aload_n 0, 1) := by decide +kernel
theorem dX10_isMet_1 : decode cX10_isMet 1 = .ok (.getfield 26, 3) := by decide +kernel
theorem dX10_isMet_4 : decode cX10_isMet 4 = .ok (.iload_n 1, 1) := by decide +kernel
theorem dX10_isMet_5 : decode cX10_isMet 5 = .ok (.iaload, 1) := by decide +kernel
theorem dX10_isMet_6 : decode cX10_isMet 6 = .ok (.iload_n 3, 1) := by decide +kernel
theorem dX10_isMet_7 : decode cX10_isMet 7 = .ok (.if_icmp .ge 17, 3) := by decide +kernel
theorem dX10_isMet_10 : decode cX10_isMet 10 = .ok (.aload_n 0, 1) := by decide +kernel
theorem dX10_isMet_11 : decode cX10_isMet 11 = .ok (.getfield 29, 3) := by decide +kernel
theorem dX10_isMet_14 : decode cX10_isMet 14 = .ok (.iload_n 1, 1) := by decide +kernel
theorem dX10_isMet_15 : decode cX10_isMet 15 = .ok (.iaload, 1) := by decide +kernel
theorem dX10_isMet_16 : decode cX10_isMet 16 = .ok (.iload_n 2, 1) := by decide +kernel
theorem dX10_isMet_17 : decode cX10_isMet 17 = .ok (.if_icmp .le 7, 3) := by decide +kernel
theorem dX10_isMet_20 : decode cX10_isMet 20 = .ok (.iconst 1, 1) := by decide +kernel
theorem dX10_isMet_21 : decode cX10_isMet 21 = .ok (.goto 4, 3) := by decide +kernel
theorem dX10_isMet_24 : decode cX10_isMet 24 = .ok (.iconst 0, 1) := by decide +kernel
theorem dX10_isMet_25 : decode cX10_isMet 25 = .ok (.ireturn, 1) := by decide +kernel
theorem dX10_meetsBy_0 : decode cX10_meetsBy 0 = .ok (.iconst 0, 1) := by decide +kernel
theorem dX10_meetsBy_1 : decode cX10_meetsBy 1 = .ok (.istore 4, 2) := by decide +kernel
theorem dX10_meetsBy_3 : decode cX10_meetsBy 3 = .ok (.iconst (-1), 1) := by decide +kernel
theorem dX10_meetsBy_4 : decode cX10_meetsBy 4 = .ok (.istore 5, 2) := by decide +kernel
theorem dX10_meetsBy_6 : decode cX10_meetsBy 6 = .ok (.iconst 0, 1) := by decide +kernel
theorem dX10_meetsBy_7 : decode cX10_meetsBy 7 = .ok (.istore 6, 2) := by decide +kernel
theorem dX10_meetsBy_9 : decode cX10_meetsBy 9 = .ok (.iload 6, 2) := by decide +kernel
theorem dX10_meetsBy_11 : decode cX10_meetsBy 11 = .ok (.aload_n 0, 1) := by decide +kernel
theorem dX10_meetsBy_12 : decode cX10_meetsBy 12 = .ok (.getfield 142, 3) := by decide +kernel
theorem dX10_meetsBy_15 : decode cX10_meetsBy 15 = .ok (.if_icmp .ge 48, 3) := by decide +kernel
theorem dX10_meetsBy_18 : decode cX10_meetsBy 18 = .ok (.aload_n 0, 1) := by decide +kernel
theorem dX10_meetsBy_19 : decode cX10_meetsBy 19 = .ok (.aload_n 0, 1) := by decide +kernel
theorem dX10_meetsBy_20 : decode cX10_meetsBy 20 = .ok (.getfield 44, 3) := by decide +kernel
theorem dX10_meetsBy_23 : decode cX10_meetsBy 23 = .ok (.iload 6, 2) := by decide +kernel
theorem dX10_meetsBy_25 : decode cX10_meetsBy 25 = .ok (.iaload, 1) := by decide +kernel
theorem dX10_meetsBy_26 : decode cX10_meetsBy 26 = .ok (.iload_n 1, 1) := by decide +kernel
theorem dX10_meetsBy_27 : decode cX10_meetsBy 27 = .ok (.iload_n 2, 1) := by decide +kernel
theorem dX10_meetsBy_28 : decode cX10_meetsBy 28 = .ok (.invokevirtual 215, 3) := by decide +kernel
theorem dX10_meetsBy_31 : decode cX10_meetsBy 31 = .ok (.ifCond .eq 26, 3) := by decide +kernel
theorem dX10_meetsBy_34 : decode cX10_meetsBy 34 = .ok (.iload 4, 2) := by decide +kernel
theorem dX10_meetsBy_36 : decode cX10_meetsBy 36 = .ok (.iload_n 3, 1) := by decide +kernel
theorem dX10_meetsBy_37 : decode cX10_meetsBy 37 = .ok (.if_icmp .ne 13, 3) := by decide +kernel
theorem dX10_meetsBy_40 : decode cX10_meetsBy 40 = .ok (.aload_n 0, 1) := by decide +kernel
theorem dX10_meetsBy_41 : decode cX10_meetsBy 41 = .ok (.getfield 44, 3) := by decide +kernel
theorem dX10_meetsBy_44 : decode cX10_meetsBy 44 = .ok (.iload 6, 2) := by decide +kernel
theorem dX10_meetsBy_46 : decode cX10_meetsBy 46 = .ok (.iaload, 1) := by decide +kernel
theorem dX10_meetsBy_47 : decode cX10_meetsBy 47 = .ok (.goto 5, 3) := by decide +kernel
theorem dX10_meetsBy_50 : decode cX10_meetsBy 50 = .ok (.iload 5, 2) := by decide +kernel
theorem dX10_meetsBy_52 : decode cX10_meetsBy 52 = .ok (.istore 5, 2) := by decide +kernel
theorem dX10_meetsBy_54 : decode cX10_meetsBy 54 = .ok (.iinc 4 1, 3) := by decide +kernel
theorem dX10_meetsBy_57 : decode cX10_meetsBy 57 = .ok (.iinc 6 1, 3) := by decide +kernel
theorem dX10_meetsBy_60 : decode cX10_meetsBy 60 = .ok (.goto (-51), 3) := by decide +kernel
theorem dX10_meetsBy_63 : decode cX10_meetsBy 63 = .ok (.iload_n 3, 1) := by decide +kernel
theorem dX10_meetsBy_64 : decode cX10_meetsBy 64 = .ok (.iconst (-1), 1) := by decide +kernel
theorem dX10_meetsBy_65 : decode cX10_meetsBy 65 = .ok (.if_icmp .ne 8, 3) := by decide +kernel
theorem dX10_meetsBy_68 : decode cX10_meetsBy 68 = .ok (.iload 4, 2) := by decide +kernel
theorem dX10_meetsBy_70 : decode cX10_meetsBy 70 = .ok (.goto 5, 3) := by decide +kernel
theorem dX10_meetsBy_73 : decode cX10_meetsBy 73 = .ok (.iload 5, 2) := by decide +kernel
theorem dX10_meetsBy_75 : decode cX10_meetsBy 75 = .ok (.ireturn, 1) := by decide +kernel
theorem dX10_meets_0 : decode cX10_meets 0 = .ok (.aload_n 0, 1) := by decide +kernel
theorem dX10_meets_1 : decode cX10_meets 1 = .ok (.invokevirtual 188, 3) := by decide +kernel
theorem dX10_meets_4 : decode cX10_meets 4 = .ok (.iload_n 1, 1) := by decide +kernel
theorem dX10_meets_5 : decode cX10_meets 5 = .ok (.iload_n 2, 1) := by decide +kernel
theorem dX10_meets_6 : decode cX10_meets 6 = .ok (.invokestatic 148, 3) := by decide +kernel
theorem dX10_meets_9 : decode cX10_meets 9 = .ok (.ifCond .eq 27, 3) := by decide +kernel
theorem dX10_meets_12 : decode cX10_meets 12 = .ok (.iload_n 3, 1) := by decide +kernel
theorem dX10_meets_13 : decode cX10_meets 13 = .ok (.i2l, 1) := by decide +kernel
theorem dX10_meets_14 : decode cX10_meets 14 = .ok (.ldc2_w 219, 3) := by decide +kernel
theorem dX10_meets_17 : decode cX10_meets 17 = .ok (.ldc2_w 130, 3) := by decide +kernel
theorem dX10_meets_20 : decode cX10_meets 20 = .ok (.invokestatic 101, 3) := by decide +kernel
theorem dX10_meets_23 : decode cX10_meets 23 = .ok (.ifCond .eq 13, 3) := by decide +kernel
theorem dX10_meets_26 : decode cX10_meets 26 = .ok (.aload_n 0, 1) := by decide +kernel
theorem dX10_meets_27 : decode cX10_meets 27 = .ok (.iload_n 1, 1) := by decide +kernel
theorem dX10_meets_28 : decode cX10_meets 28 = .ok (.iload_n 2, 1) := by decide +kernel
theorem dX10_meets_29 : decode cX10_meets 29 = .ok (.iload_n 3, 1) := by decide +kernel
theorem dX10_meets_30 : decode cX10_meets 30 = .ok (.invokevirtual 221, 3) := by decide +kernel
theorem dX10_meets_33 : decode cX10_meets 33 = .ok (.goto 5, 3) := by decide +kernel
theorem dX10_meets_36 : decode cX10_meets 36 = .ok (.bipush (-2), 2) := by decide +kernel
theorem dX10_meets_38 : decode cX10_meets 38 = .ok (.ireturn, 1) := by decide +kernel
theorem dX10_holds_0 : decode cX10_holds 0 = .ok (.aload_n 0, 1) := by decide +kernel
theorem dX10_holds_1 : decode cX10_holds 1 = .ok (.invokevirtual 188, 3) := by decide +kernel
theorem dX10_holds_4 : decode cX10_holds 4 = .ok (.iload_n 1, 1) := by decide +kernel
theorem dX10_holds_5 : decode cX10_holds 5 = .ok (.invokestatic 136, 3) := by decide +kernel
theorem dX10_holds_8 : decode cX10_holds 8 = .ok (.ifCond .eq 29, 3) := by decide +kernel
theorem dX10_holds_11 : decode cX10_holds 11 = .ok (.iload_n 2, 1) := by decide +kernel
theorem dX10_holds_12 : decode cX10_holds 12 = .ok (.i2l, 1) := by decide +kernel
theorem dX10_holds_13 : decode cX10_holds 13 = .ok (.ldc2_w 219, 3) := by decide +kernel
theorem dX10_holds_16 : decode cX10_holds 16 = .ok (.ldc2_w 130, 3) := by decide +kernel
theorem dX10_holds_19 : decode cX10_holds 19 = .ok (.invokestatic 101, 3) := by decide +kernel
theorem dX10_holds_22 : decode cX10_holds 22 = .ok (.ifCond .eq 15, 3) := by decide +kernel
theorem dX10_holds_25 : decode cX10_holds 25 = .ok (.aload_n 0, 1) := by decide +kernel
theorem dX10_holds_26 : decode cX10_holds 26 = .ok (.iload_n 1, 1) := by decide +kernel
theorem dX10_holds_27 : decode cX10_holds 27 = .ok (.iload_n 1, 1) := by decide +kernel
theorem dX10_holds_28 : decode cX10_holds 28 = .ok (.iconst 1, 1) := by decide +kernel
theorem dX10_holds_29 : decode cX10_holds 29 = .ok (.iadd, 1) := by decide +kernel
theorem dX10_holds_30 : decode cX10_holds 30 = .ok (.iload_n 2, 1) := by decide +kernel
theorem dX10_holds_31 : decode cX10_holds 31 = .ok (.invokevirtual 221, 3) := by decide +kernel
theorem dX10_holds_34 : decode cX10_holds 34 = .ok (.goto 5, 3) := by decide +kernel
theorem dX10_holds_37 : decode cX10_holds 37 = .ok (.bipush (-2), 2) := by decide +kernel
theorem dX10_holds_39 : decode cX10_holds 39 = .ok (.ireturn, 1) := by decide +kernel
theorem dX10_parts_0 : decode cX10_parts 0 = .ok (.iconst 0, 1) := by decide +kernel
theorem dX10_parts_1 : decode cX10_parts 1 = .ok (.istore_n 3, 1) := by decide +kernel
theorem dX10_parts_2 : decode cX10_parts 2 = .ok (.iload_n 1, 1) := by decide +kernel
theorem dX10_parts_3 : decode cX10_parts 3 = .ok (.istore 4, 2) := by decide +kernel
theorem dX10_parts_5 : decode cX10_parts 5 = .ok (.iconst 0, 1) := by decide +kernel
theorem dX10_parts_6 : decode cX10_parts 6 = .ok (.istore 5, 2) := by decide +kernel
theorem dX10_parts_8 : decode cX10_parts 8 = .ok (.iload 5, 2) := by decide +kernel
theorem dX10_parts_10 : decode cX10_parts 10 = .ok (.aload_n 0, 1) := by decide +kernel
theorem dX10_parts_11 : decode cX10_parts 11 = .ok (.getfield 142, 3) := by decide +kernel
theorem dX10_parts_14 : decode cX10_parts 14 = .ok (.if_icmp .ge 79, 3) := by decide +kernel
theorem dX10_parts_17 : decode cX10_parts 17 = .ok (.aload_n 0, 1) := by decide +kernel
theorem dX10_parts_18 : decode cX10_parts 18 = .ok (.getfield 44, 3) := by decide +kernel
theorem dX10_parts_21 : decode cX10_parts 21 = .ok (.iload 5, 2) := by decide +kernel
theorem dX10_parts_23 : decode cX10_parts 23 = .ok (.iaload, 1) := by decide +kernel
theorem dX10_parts_24 : decode cX10_parts 24 = .ok (.istore 6, 2) := by decide +kernel
theorem dX10_parts_26 : decode cX10_parts 26 = .ok (.aload_n 0, 1) := by decide +kernel
theorem dX10_parts_27 : decode cX10_parts 27 = .ok (.iload 6, 2) := by decide +kernel
theorem dX10_parts_29 : decode cX10_parts 29 = .ok (.iload_n 1, 1) := by decide +kernel
theorem dX10_parts_30 : decode cX10_parts 30 = .ok (.iload_n 2, 1) := by decide +kernel
theorem dX10_parts_31 : decode cX10_parts 31 = .ok (.invokevirtual 215, 3) := by decide +kernel
theorem dX10_parts_34 : decode cX10_parts 34 = .ok (.ifCond .eq 53, 3) := by decide +kernel
theorem dX10_parts_37 : decode cX10_parts 37 = .ok (.aload_n 0, 1) := by decide +kernel
theorem dX10_parts_38 : decode cX10_parts 38 = .ok (.getfield 26, 3) := by decide +kernel
theorem dX10_parts_41 : decode cX10_parts 41 = .ok (.iload 6, 2) := by decide +kernel
theorem dX10_parts_43 : decode cX10_parts 43 = .ok (.iaload, 1) := by decide +kernel
theorem dX10_parts_44 : decode cX10_parts 44 = .ok (.iload 4, 2) := by decide +kernel
theorem dX10_parts_46 : decode cX10_parts 46 = .ok (.if_icmp .le 27, 3) := by decide +kernel
theorem dX10_parts_49 : decode cX10_parts 49 = .ok (.aload_n 0, 1) := by decide +kernel
theorem dX10_parts_50 : decode cX10_parts 50 = .ok (.getfield 83, 3) := by decide +kernel
theorem dX10_parts_53 : decode cX10_parts 53 = .ok (.iload_n 3, 1) := by decide +kernel
theorem dX10_parts_54 : decode cX10_parts 54 = .ok (.iload 4, 2) := by decide +kernel
theorem dX10_parts_56 : decode cX10_parts 56 = .ok (.iastore, 1) := by decide +kernel
theorem dX10_parts_57 : decode cX10_parts 57 = .ok (.aload_n 0, 1) := by decide +kernel
theorem dX10_parts_58 : decode cX10_parts 58 = .ok (.getfield 86, 3) := by decide +kernel
theorem dX10_parts_61 : decode cX10_parts 61 = .ok (.iload_n 3, 1) := by decide +kernel
theorem dX10_parts_62 : decode cX10_parts 62 = .ok (.aload_n 0, 1) := by decide +kernel
theorem dX10_parts_63 : decode cX10_parts 63 = .ok (.getfield 26, 3) := by decide +kernel
theorem dX10_parts_66 : decode cX10_parts 66 = .ok (.iload 6, 2) := by decide +kernel
theorem dX10_parts_68 : decode cX10_parts 68 = .ok (.iaload, 1) := by decide +kernel
theorem dX10_parts_69 : decode cX10_parts 69 = .ok (.iastore, 1) := by decide +kernel
theorem dX10_parts_70 : decode cX10_parts 70 = .ok (.iinc 3 1, 3) := by decide +kernel
theorem dX10_parts_73 : decode cX10_parts 73 = .ok (.aload_n 0, 1) := by decide +kernel
theorem dX10_parts_74 : decode cX10_parts 74 = .ok (.getfield 29, 3) := by decide +kernel
theorem dX10_parts_77 : decode cX10_parts 77 = .ok (.iload 6, 2) := by decide +kernel
theorem dX10_parts_79 : decode cX10_parts 79 = .ok (.iaload, 1) := by decide +kernel
theorem dX10_parts_80 : decode cX10_parts 80 = .ok (.iload 4, 2) := by decide +kernel
theorem dX10_parts_82 : decode cX10_parts 82 = .ok (.invokestatic 198, 3) := by decide +kernel
theorem dX10_parts_85 : decode cX10_parts 85 = .ok (.istore 4, 2) := by decide +kernel
theorem dX10_parts_87 : decode cX10_parts 87 = .ok (.iinc 5 1, 3) := by decide +kernel
theorem dX10_parts_90 : decode cX10_parts 90 = .ok (.goto (-82), 3) := by decide +kernel
theorem dX10_parts_93 : decode cX10_parts 93 = .ok (.iload 4, 2) := by decide +kernel
theorem dX10_parts_95 : decode cX10_parts 95 = .ok (.iload_n 2, 1) := by decide +kernel
theorem dX10_parts_96 : decode cX10_parts 96 = .ok (.if_icmp .ge 21, 3) := by decide +kernel
theorem dX10_parts_99 : decode cX10_parts 99 = .ok (.aload_n 0, 1) := by decide +kernel
theorem dX10_parts_100 : decode cX10_parts 100 = .ok (.getfield 83, 3) := by decide +kernel
theorem dX10_parts_103 : decode cX10_parts 103 = .ok (.iload_n 3, 1) := by decide +kernel
theorem dX10_parts_104 : decode cX10_parts 104 = .ok (.iload 4, 2) := by decide +kernel
theorem dX10_parts_106 : decode cX10_parts 106 = .ok (.iastore, 1) := by decide +kernel
theorem dX10_parts_107 : decode cX10_parts 107 = .ok (.aload_n 0, 1) := by decide +kernel
theorem dX10_parts_108 : decode cX10_parts 108 = .ok (.getfield 86, 3) := by decide +kernel
theorem dX10_parts_111 : decode cX10_parts 111 = .ok (.iload_n 3, 1) := by decide +kernel
theorem dX10_parts_112 : decode cX10_parts 112 = .ok (.iload_n 2, 1) := by decide +kernel
theorem dX10_parts_113 : decode cX10_parts 113 = .ok (.iastore, 1) := by decide +kernel
theorem dX10_parts_114 : decode cX10_parts 114 = .ok (.iinc 3 1, 3) := by decide +kernel
theorem dX10_parts_117 : decode cX10_parts 117 = .ok (.iload_n 3, 1) := by decide +kernel
theorem dX10_parts_118 : decode cX10_parts 118 = .ok (.ireturn, 1) := by decide +kernel
theorem dX10_takenIn_0 : decode cX10_takenIn 0 = .ok (.aload_n 0, 1) := by decide +kernel
theorem dX10_takenIn_1 : decode cX10_takenIn 1 = .ok (.iload_n 1, 1) := by decide +kernel
theorem dX10_takenIn_2 : decode cX10_takenIn 2 = .ok (.iload_n 2, 1) := by decide +kernel
theorem dX10_takenIn_3 : decode cX10_takenIn 3 = .ok (.invokevirtual 224, 3) := by decide +kernel
theorem dX10_takenIn_6 : decode cX10_takenIn 6 = .ok (.istore_n 3, 1) := by decide +kernel
theorem dX10_takenIn_7 : decode cX10_takenIn 7 = .ok (.iload_n 2, 1) := by decide +kernel
theorem dX10_takenIn_8 : decode cX10_takenIn 8 = .ok (.iload_n 1, 1) := by decide +kernel
theorem dX10_takenIn_9 : decode cX10_takenIn 9 = .ok (.isub, 1) := by decide +kernel
theorem dX10_takenIn_10 : decode cX10_takenIn 10 = .ok (.istore 4, 2) := by decide +kernel
theorem dX10_takenIn_12 : decode cX10_takenIn 12 = .ok (.iconst 0, 1) := by decide +kernel
theorem dX10_takenIn_13 : decode cX10_takenIn 13 = .ok (.istore 5, 2) := by decide +kernel
theorem dX10_takenIn_15 : decode cX10_takenIn 15 = .ok (.iload 5, 2) := by decide +kernel
theorem dX10_takenIn_17 : decode cX10_takenIn 17 = .ok (.iload_n 3, 1) := by decide +kernel
theorem dX10_takenIn_18 : decode cX10_takenIn 18 = .ok (.if_icmp .ge 29, 3) := by decide +kernel
theorem dX10_takenIn_21 : decode cX10_takenIn 21 = .ok (.iload 4, 2) := by decide +kernel
theorem dX10_takenIn_23 : decode cX10_takenIn 23 = .ok (.aload_n 0, 1) := by decide +kernel
theorem dX10_takenIn_24 : decode cX10_takenIn 24 = .ok (.getfield 86, 3) := by decide +kernel
theorem dX10_takenIn_27 : decode cX10_takenIn 27 = .ok (.iload 5, 2) := by decide +kernel
theorem dX10_takenIn_29 : decode cX10_takenIn 29 = .ok (.iaload, 1) := by decide +kernel
theorem dX10_takenIn_30 : decode cX10_takenIn 30 = .ok (.aload_n 0, 1) := by decide +kernel
theorem dX10_takenIn_31 : decode cX10_takenIn 31 = .ok (.getfield 83, 3) := by decide +kernel
theorem dX10_takenIn_34 : decode cX10_takenIn 34 = .ok (.iload 5, 2) := by decide +kernel
theorem dX10_takenIn_36 : decode cX10_takenIn 36 = .ok (.iaload, 1) := by decide +kernel
theorem dX10_takenIn_37 : decode cX10_takenIn 37 = .ok (.isub, 1) := by decide +kernel
theorem dX10_takenIn_38 : decode cX10_takenIn 38 = .ok (.isub, 1) := by decide +kernel
end
section
theorem dX10_takenIn_39 : decode cX10_takenIn 39 = .ok (.istore 4, 2) := by decide +kernel
theorem dX10_takenIn_41 : decode cX10_takenIn 41 = .ok (.iinc 5 1, 3) := by decide +kernel
theorem dX10_takenIn_44 : decode cX10_takenIn 44 = .ok (.goto (-29), 3) := by decide +kernel
theorem dX10_takenIn_47 : decode cX10_takenIn 47 = .ok (.iload 4, 2) := by decide +kernel
theorem dX10_takenIn_49 : decode cX10_takenIn 49 = .ok (.ireturn, 1) := by decide +kernel
theorem dX10_taken_0 : decode cX10_taken 0 = .ok (.aload_n 0, 1) := by decide +kernel
theorem dX10_taken_1 : decode cX10_taken 1 = .ok (.invokevirtual 188, 3) := by decide +kernel
theorem dX10_taken_4 : decode cX10_taken 4 = .ok (.iload_n 1, 1) := by decide +kernel
theorem dX10_taken_5 : decode cX10_taken 5 = .ok (.iload_n 2, 1) := by decide +kernel
theorem dX10_taken_6 : decode cX10_taken 6 = .ok (.invokestatic 148, 3) := by decide +kernel
theorem dX10_taken_9 : decode cX10_taken 9 = .ok (.ifCond .eq 12, 3) := by decide +kernel
theorem dX10_taken_12 : decode cX10_taken 12 = .ok (.aload_n 0, 1) := by decide +kernel
theorem dX10_taken_13 : decode cX10_taken 13 = .ok (.iload_n 1, 1) := by decide +kernel
theorem dX10_taken_14 : decode cX10_taken 14 = .ok (.iload_n 2, 1) := by decide +kernel
theorem dX10_taken_15 : decode cX10_taken 15 = .ok (.invokevirtual 227, 3) := by decide +kernel
theorem dX10_taken_18 : decode cX10_taken 18 = .ok (.goto 5, 3) := by decide +kernel
theorem dX10_taken_21 : decode cX10_taken 21 = .ok (.bipush (-2), 2) := by decide +kernel
theorem dX10_taken_23 : decode cX10_taken 23 = .ok (.ireturn, 1) := by decide +kernel
theorem dX10_frees_0 : decode cX10_frees 0 = .ok (.aload_n 0, 1) := by decide +kernel
theorem dX10_frees_1 : decode cX10_frees 1 = .ok (.invokevirtual 188, 3) := by decide +kernel
theorem dX10_frees_4 : decode cX10_frees 4 = .ok (.iload_n 1, 1) := by decide +kernel
theorem dX10_frees_5 : decode cX10_frees 5 = .ok (.iload_n 2, 1) := by decide +kernel
theorem dX10_frees_6 : decode cX10_frees 6 = .ok (.invokestatic 148, 3) := by decide +kernel
theorem dX10_frees_9 : decode cX10_frees 9 = .ok (.ifCond .eq 12, 3) := by decide +kernel
theorem dX10_frees_12 : decode cX10_frees 12 = .ok (.aload_n 0, 1) := by decide +kernel
theorem dX10_frees_13 : decode cX10_frees 13 = .ok (.iload_n 1, 1) := by decide +kernel
theorem dX10_frees_14 : decode cX10_frees 14 = .ok (.iload_n 2, 1) := by decide +kernel
theorem dX10_frees_15 : decode cX10_frees 15 = .ok (.invokevirtual 224, 3) := by decide +kernel
theorem dX10_frees_18 : decode cX10_frees 18 = .ok (.goto 5, 3) := by decide +kernel
theorem dX10_frees_21 : decode cX10_frees 21 = .ok (.bipush (-2), 2) := by decide +kernel
theorem dX10_frees_23 : decode cX10_frees 23 = .ok (.ireturn, 1) := by decide +kernel
theorem dX10_freeBy_0 : decode cX10_freeBy 0 = .ok (.iload_n 3, 1) := by decide +kernel
theorem dX10_freeBy_1 : decode cX10_freeBy 1 = .ok (.aload_n 0, 1) := by decide +kernel
theorem dX10_freeBy_2 : decode cX10_freeBy 2 = .ok (.iload_n 1, 1) := by decide +kernel
theorem dX10_freeBy_3 : decode cX10_freeBy 3 = .ok (.iload_n 2, 1) := by decide +kernel
theorem dX10_freeBy_4 : decode cX10_freeBy 4 = .ok (.invokevirtual 224, 3) := by decide +kernel
theorem dX10_freeBy_7 : decode cX10_freeBy 7 = .ok (.if_icmp .lt 8, 3) := by decide +kernel
theorem dX10_freeBy_10 : decode cX10_freeBy 10 = .ok (.ldc 129, 2) := by decide +kernel
theorem dX10_freeBy_12 : decode cX10_freeBy 12 = .ok (.goto 23, 3) := by decide +kernel
theorem dX10_freeBy_15 : decode cX10_freeBy 15 = .ok (.iload 4, 2) := by decide +kernel
theorem dX10_freeBy_17 : decode cX10_freeBy 17 = .ok (.ifCond .ne 12, 3) := by decide +kernel
theorem dX10_freeBy_20 : decode cX10_freeBy 20 = .ok (.aload_n 0, 1) := by decide +kernel
theorem dX10_freeBy_21 : decode cX10_freeBy 21 = .ok (.getfield 83, 3) := by decide +kernel
theorem dX10_freeBy_24 : decode cX10_freeBy 24 = .ok (.iload_n 3, 1) := by decide +kernel
theorem dX10_freeBy_25 : decode cX10_freeBy 25 = .ok (.iaload, 1) := by decide +kernel
theorem dX10_freeBy_26 : decode cX10_freeBy 26 = .ok (.goto 9, 3) := by decide +kernel
theorem dX10_freeBy_29 : decode cX10_freeBy 29 = .ok (.aload_n 0, 1) := by decide +kernel
theorem dX10_freeBy_30 : decode cX10_freeBy 30 = .ok (.getfield 86, 3) := by decide +kernel
theorem dX10_freeBy_33 : decode cX10_freeBy 33 = .ok (.iload_n 3, 1) := by decide +kernel
theorem dX10_freeBy_34 : decode cX10_freeBy 34 = .ok (.iaload, 1) := by decide +kernel
theorem dX10_freeBy_35 : decode cX10_freeBy 35 = .ok (.ireturn, 1) := by decide +kernel
theorem dX10_free_0 : decode cX10_free 0 = .ok (.aload_n 0, 1) := by decide +kernel
theorem dX10_free_1 : decode cX10_free 1 = .ok (.invokevirtual 188, 3) := by decide +kernel
theorem dX10_free_4 : decode cX10_free 4 = .ok (.iload_n 1, 1) := by decide +kernel
theorem dX10_free_5 : decode cX10_free 5 = .ok (.iload_n 2, 1) := by decide +kernel
theorem dX10_free_6 : decode cX10_free 6 = .ok (.invokestatic 148, 3) := by decide +kernel
theorem dX10_free_9 : decode cX10_free 9 = .ok (.ifCond .eq 35, 3) := by decide +kernel
theorem dX10_free_12 : decode cX10_free 12 = .ok (.iload_n 3, 1) := by decide +kernel
theorem dX10_free_13 : decode cX10_free 13 = .ok (.i2l, 1) := by decide +kernel
theorem dX10_free_14 : decode cX10_free 14 = .ok (.lconst 0, 1) := by decide +kernel
theorem dX10_free_15 : decode cX10_free 15 = .ok (.ldc2_w 230, 3) := by decide +kernel
theorem dX10_free_18 : decode cX10_free 18 = .ok (.invokestatic 101, 3) := by decide +kernel
theorem dX10_free_21 : decode cX10_free 21 = .ok (.ifCond .eq 23, 3) := by decide +kernel
theorem dX10_free_24 : decode cX10_free 24 = .ok (.iload 4, 2) := by decide +kernel
theorem dX10_free_26 : decode cX10_free 26 = .ok (.invokestatic 174, 3) := by decide +kernel
theorem dX10_free_29 : decode cX10_free 29 = .ok (.ifCond .eq 15, 3) := by decide +kernel
theorem dX10_free_32 : decode cX10_free 32 = .ok (.aload_n 0, 1) := by decide +kernel
theorem dX10_free_33 : decode cX10_free 33 = .ok (.iload_n 1, 1) := by decide +kernel
theorem dX10_free_34 : decode cX10_free 34 = .ok (.iload_n 2, 1) := by decide +kernel
theorem dX10_free_35 : decode cX10_free 35 = .ok (.iload_n 3, 1) := by decide +kernel
theorem dX10_free_36 : decode cX10_free 36 = .ok (.iload 4, 2) := by decide +kernel
theorem dX10_free_38 : decode cX10_free 38 = .ok (.invokevirtual 232, 3) := by decide +kernel
theorem dX10_free_41 : decode cX10_free 41 = .ok (.goto 5, 3) := by decide +kernel
theorem dX10_free_44 : decode cX10_free 44 = .ok (.ldc 129, 2) := by decide +kernel
theorem dX10_free_46 : decode cX10_free 46 = .ok (.ireturn, 1) := by decide +kernel
theorem dX10_isPlace_0 : decode cX10_isPlace 0 = .ok (.iload_n 1, 1) := by decide +kernel
theorem dX10_isPlace_1 : decode cX10_isPlace 1 = .ok (.ldc 235, 2) := by decide +kernel
theorem dX10_isPlace_3 : decode cX10_isPlace 3 = .ok (.if_icmp .lt 15, 3) := by decide +kernel
theorem dX10_isPlace_6 : decode cX10_isPlace 6 = .ok (.iload_n 1, 1) := by decide +kernel
theorem dX10_isPlace_7 : decode cX10_isPlace 7 = .ok (.ldc 236, 2) := by decide +kernel
theorem dX10_isPlace_9 : decode cX10_isPlace 9 = .ok (.iload_n 2, 1) := by decide +kernel
theorem dX10_isPlace_10 : decode cX10_isPlace 10 = .ok (.isub, 1) := by decide +kernel
theorem dX10_isPlace_11 : decode cX10_isPlace 11 = .ok (.if_icmp .gt 7, 3) := by decide +kernel
theorem dX10_isPlace_14 : decode cX10_isPlace 14 = .ok (.iconst 1, 1) := by decide +kernel
theorem dX10_isPlace_15 : decode cX10_isPlace 15 = .ok (.goto 4, 3) := by decide +kernel
theorem dX10_isPlace_18 : decode cX10_isPlace 18 = .ok (.iconst 0, 1) := by decide +kernel
theorem dX10_isPlace_19 : decode cX10_isPlace 19 = .ok (.istore_n 3, 1) := by decide +kernel
theorem dX10_isPlace_20 : decode cX10_isPlace 20 = .ok (.iconst 0, 1) := by decide +kernel
theorem dX10_isPlace_21 : decode cX10_isPlace 21 = .ok (.istore 4, 2) := by decide +kernel
theorem dX10_isPlace_23 : decode cX10_isPlace 23 = .ok (.iload 4, 2) := by decide +kernel
theorem dX10_isPlace_25 : decode cX10_isPlace 25 = .ok (.aload_n 0, 1) := by decide +kernel
theorem dX10_isPlace_26 : decode cX10_isPlace 26 = .ok (.getfield 142, 3) := by decide +kernel
theorem dX10_isPlace_29 : decode cX10_isPlace 29 = .ok (.if_icmp .ge 37, 3) := by decide +kernel
theorem dX10_isPlace_32 : decode cX10_isPlace 32 = .ok (.iload_n 3, 1) := by decide +kernel
theorem dX10_isPlace_33 : decode cX10_isPlace 33 = .ok (.ifCond .eq 33, 3) := by decide +kernel
theorem dX10_isPlace_36 : decode cX10_isPlace 36 = .ok (.aload_n 0, 1) := by decide +kernel
theorem dX10_isPlace_37 : decode cX10_isPlace 37 = .ok (.aload_n 0, 1) := by decide +kernel
theorem dX10_isPlace_38 : decode cX10_isPlace 38 = .ok (.getfield 44, 3) := by decide +kernel
theorem dX10_isPlace_41 : decode cX10_isPlace 41 = .ok (.iload 4, 2) := by decide +kernel
theorem dX10_isPlace_43 : decode cX10_isPlace 43 = .ok (.iaload, 1) := by decide +kernel
theorem dX10_isPlace_44 : decode cX10_isPlace 44 = .ok (.iload_n 1, 1) := by decide +kernel
theorem dX10_isPlace_45 : decode cX10_isPlace 45 = .ok (.iload_n 1, 1) := by decide +kernel
theorem dX10_isPlace_46 : decode cX10_isPlace 46 = .ok (.iload_n 2, 1) := by decide +kernel
theorem dX10_isPlace_47 : decode cX10_isPlace 47 = .ok (.iadd, 1) := by decide +kernel
theorem dX10_isPlace_48 : decode cX10_isPlace 48 = .ok (.invokevirtual 215, 3) := by decide +kernel
theorem dX10_isPlace_51 : decode cX10_isPlace 51 = .ok (.ifCond .ne 7, 3) := by decide +kernel
theorem dX10_isPlace_54 : decode cX10_isPlace 54 = .ok (.iconst 1, 1) := by decide +kernel
theorem dX10_isPlace_55 : decode cX10_isPlace 55 = .ok (.goto 4, 3) := by decide +kernel
theorem dX10_isPlace_58 : decode cX10_isPlace 58 = .ok (.iconst 0, 1) := by decide +kernel
theorem dX10_isPlace_59 : decode cX10_isPlace 59 = .ok (.istore_n 3, 1) := by decide +kernel
theorem dX10_isPlace_60 : decode cX10_isPlace 60 = .ok (.iinc 4 1, 3) := by decide +kernel
theorem dX10_isPlace_63 : decode cX10_isPlace 63 = .ok (.goto (-40), 3) := by decide +kernel
theorem dX10_isPlace_66 : decode cX10_isPlace 66 = .ok (.iload_n 3, 1) := by decide +kernel
theorem dX10_isPlace_67 : decode cX10_isPlace 67 = .ok (.ireturn, 1) := by decide +kernel
theorem dX10_far_0 : decode cX10_far 0 = .ok (.iload_n 0, 1) := by decide +kernel
theorem dX10_far_1 : decode cX10_far 1 = .ok (.iload_n 1, 1) := by decide +kernel
theorem dX10_far_2 : decode cX10_far 2 = .ok (.if_icmp .ge 9, 3) := by decide +kernel
theorem dX10_far_5 : decode cX10_far 5 = .ok (.iload_n 1, 1) := by decide +kernel
theorem dX10_far_6 : decode cX10_far 6 = .ok (.iload_n 0, 1) := by decide +kernel
theorem dX10_far_7 : decode cX10_far 7 = .ok (.isub, 1) := by decide +kernel
theorem dX10_far_8 : decode cX10_far 8 = .ok (.goto 6, 3) := by decide +kernel
theorem dX10_far_11 : decode cX10_far 11 = .ok (.iload_n 0, 1) := by decide +kernel
theorem dX10_far_12 : decode cX10_far 12 = .ok (.iload_n 1, 1) := by decide +kernel
theorem dX10_far_13 : decode cX10_far 13 = .ok (.isub, 1) := by decide +kernel
theorem dX10_far_14 : decode cX10_far 14 = .ok (.ireturn, 1) := by decide +kernel
theorem dX10_isNearer_0 : decode cX10_isNearer 0 = .ok (.iload_n 0, 1) := by decide +kernel
theorem dX10_isNearer_1 : decode cX10_isNearer 1 = .ok (.iload_n 2, 1) := by decide +kernel
theorem dX10_isNearer_2 : decode cX10_isNearer 2 = .ok (.invokestatic 237, 3) := by decide +kernel
theorem dX10_isNearer_5 : decode cX10_isNearer 5 = .ok (.iload_n 1, 1) := by decide +kernel
theorem dX10_isNearer_6 : decode cX10_isNearer 6 = .ok (.iload_n 2, 1) := by decide +kernel
theorem dX10_isNearer_7 : decode cX10_isNearer 7 = .ok (.invokestatic 237, 3) := by decide +kernel
theorem dX10_isNearer_10 : decode cX10_isNearer 10 = .ok (.if_icmp .lt 21, 3) := by decide +kernel
theorem dX10_isNearer_13 : decode cX10_isNearer 13 = .ok (.iload_n 0, 1) := by decide +kernel
theorem dX10_isNearer_14 : decode cX10_isNearer 14 = .ok (.iload_n 2, 1) := by decide +kernel
theorem dX10_isNearer_15 : decode cX10_isNearer 15 = .ok (.invokestatic 237, 3) := by decide +kernel
theorem dX10_isNearer_18 : decode cX10_isNearer 18 = .ok (.iload_n 1, 1) := by decide +kernel
theorem dX10_isNearer_19 : decode cX10_isNearer 19 = .ok (.iload_n 2, 1) := by decide +kernel
theorem dX10_isNearer_20 : decode cX10_isNearer 20 = .ok (.invokestatic 237, 3) := by decide +kernel
theorem dX10_isNearer_23 : decode cX10_isNearer 23 = .ok (.if_icmp .ne 12, 3) := by decide +kernel
theorem dX10_isNearer_26 : decode cX10_isNearer 26 = .ok (.iload_n 0, 1) := by decide +kernel
theorem dX10_isNearer_27 : decode cX10_isNearer 27 = .ok (.iload_n 1, 1) := by decide +kernel
theorem dX10_isNearer_28 : decode cX10_isNearer 28 = .ok (.if_icmp .ge 7, 3) := by decide +kernel
theorem dX10_isNearer_31 : decode cX10_isNearer 31 = .ok (.iconst 1, 1) := by decide +kernel
theorem dX10_isNearer_32 : decode cX10_isNearer 32 = .ok (.goto 4, 3) := by decide +kernel
theorem dX10_isNearer_35 : decode cX10_isNearer 35 = .ok (.iconst 0, 1) := by decide +kernel
theorem dX10_isNearer_36 : decode cX10_isNearer 36 = .ok (.ireturn, 1) := by decide +kernel
theorem dX10_better_0 : decode cX10_better 0 = .ok (.aload_n 0, 1) := by decide +kernel
theorem dX10_better_1 : decode cX10_better 1 = .ok (.iload_n 2, 1) := by decide +kernel
theorem dX10_better_2 : decode cX10_better 2 = .ok (.iload 4, 2) := by decide +kernel
theorem dX10_better_4 : decode cX10_better 4 = .ok (.invokevirtual 240, 3) := by decide +kernel
theorem dX10_better_7 : decode cX10_better 7 = .ok (.ifCond .eq 34, 3) := by decide +kernel
theorem dX10_better_10 : decode cX10_better 10 = .ok (.iload 5, 2) := by decide +kernel
theorem dX10_better_12 : decode cX10_better 12 = .ok (.iconst 2, 1) := by decide +kernel
theorem dX10_better_13 : decode cX10_better 13 = .ok (.if_icmp .eq 24, 3) := by decide +kernel
theorem dX10_better_16 : decode cX10_better 16 = .ok (.iload 5, 2) := by decide +kernel
theorem dX10_better_18 : decode cX10_better 18 = .ok (.ifCond .ne 11, 3) := by decide +kernel
theorem dX10_better_21 : decode cX10_better 21 = .ok (.iload_n 2, 1) := by decide +kernel
theorem dX10_better_22 : decode cX10_better 22 = .ok (.iload_n 3, 1) := by decide +kernel
theorem dX10_better_23 : decode cX10_better 23 = .ok (.if_icmp .lt 18, 3) := by decide +kernel
theorem dX10_better_26 : decode cX10_better 26 = .ok (.goto 11, 3) := by decide +kernel
theorem dX10_better_29 : decode cX10_better 29 = .ok (.iload_n 2, 1) := by decide +kernel
theorem dX10_better_30 : decode cX10_better 30 = .ok (.iload_n 3, 1) := by decide +kernel
theorem dX10_better_31 : decode cX10_better 31 = .ok (.iload 4, 2) := by decide +kernel
theorem dX10_better_33 : decode cX10_better 33 = .ok (.isub, 1) := by decide +kernel
theorem dX10_better_34 : decode cX10_better 34 = .ok (.if_icmp .gt 7, 3) := by decide +kernel
theorem dX10_better_37 : decode cX10_better 37 = .ok (.iconst 1, 1) := by decide +kernel
theorem dX10_better_38 : decode cX10_better 38 = .ok (.goto 4, 3) := by decide +kernel
theorem dX10_better_41 : decode cX10_better 41 = .ok (.iconst 0, 1) := by decide +kernel
theorem dX10_better_42 : decode cX10_better 42 = .ok (.istore 6, 2) := by decide +kernel
theorem dX10_better_44 : decode cX10_better 44 = .ok (.iload 6, 2) := by decide +kernel
theorem dX10_better_46 : decode cX10_better 46 = .ok (.ifCond .eq 22, 3) := by decide +kernel
theorem dX10_better_49 : decode cX10_better 49 = .ok (.iload_n 1, 1) := by decide +kernel
theorem dX10_better_50 : decode cX10_better 50 = .ok (.ldc 129, 2) := by decide +kernel
theorem dX10_better_52 : decode cX10_better 52 = .ok (.if_icmp .eq 12, 3) := by decide +kernel
theorem dX10_better_55 : decode cX10_better 55 = .ok (.iload_n 2, 1) := by decide +kernel
theorem dX10_better_56 : decode cX10_better 56 = .ok (.iload_n 1, 1) := by decide +kernel
theorem dX10_better_57 : decode cX10_better 57 = .ok (.iload_n 3, 1) := by decide +kernel
theorem dX10_better_58 : decode cX10_better 58 = .ok (.invokestatic 243, 3) := by decide +kernel
theorem dX10_better_61 : decode cX10_better 61 = .ok (.ifCond .eq 7, 3) := by decide +kernel
theorem dX10_better_64 : decode cX10_better 64 = .ok (.iload_n 2, 1) := by decide +kernel
theorem dX10_better_65 : decode cX10_better 65 = .ok (.goto 4, 3) := by decide +kernel
theorem dX10_better_68 : decode cX10_better 68 = .ok (.iload_n 1, 1) := by decide +kernel
theorem dX10_better_69 : decode cX10_better 69 = .ok (.ireturn, 1) := by decide +kernel
theorem dX10_placeBy_0 : decode cX10_placeBy 0 = .ok (.aload_n 0, 1) := by decide +kernel
theorem dX10_placeBy_1 : decode cX10_placeBy 1 = .ok (.ldc 129, 2) := by decide +kernel
theorem dX10_placeBy_3 : decode cX10_placeBy 3 = .ok (.iload_n 3, 1) := by decide +kernel
theorem dX10_placeBy_4 : decode cX10_placeBy 4 = .ok (.iconst 1, 1) := by decide +kernel
theorem dX10_placeBy_5 : decode cX10_placeBy 5 = .ok (.if_icmp .ne 9, 3) := by decide +kernel
theorem dX10_placeBy_8 : decode cX10_placeBy 8 = .ok (.iload_n 1, 1) := by decide +kernel
theorem dX10_placeBy_9 : decode cX10_placeBy 9 = .ok (.iload_n 2, 1) := by decide +kernel
theorem dX10_placeBy_10 : decode cX10_placeBy 10 = .ok (.isub, 1) := by decide +kernel
theorem dX10_placeBy_11 : decode cX10_placeBy 11 = .ok (.goto 4, 3) := by decide +kernel
theorem dX10_placeBy_14 : decode cX10_placeBy 14 = .ok (.iload_n 1, 1) := by decide +kernel
theorem dX10_placeBy_15 : decode cX10_placeBy 15 = .ok (.iload_n 1, 1) := by decide +kernel
theorem dX10_placeBy_16 : decode cX10_placeBy 16 = .ok (.iload_n 2, 1) := by decide +kernel
theorem dX10_placeBy_17 : decode cX10_placeBy 17 = .ok (.iload_n 3, 1) := by decide +kernel
theorem dX10_placeBy_18 : decode cX10_placeBy 18 = .ok (.invokevirtual 246, 3) := by decide +kernel
theorem dX10_placeBy_21 : decode cX10_placeBy 21 = .ok (.istore 4, 2) := by decide +kernel
theorem dX10_placeBy_23 : decode cX10_placeBy 23 = .ok (.aload_n 0, 1) := by decide +kernel
theorem dX10_placeBy_24 : decode cX10_placeBy 24 = .ok (.iload 4, 2) := by decide +kernel
theorem dX10_placeBy_26 : decode cX10_placeBy 26 = .ok (.ldc 235, 2) := by decide +kernel
theorem dX10_placeBy_28 : decode cX10_placeBy 28 = .ok (.iload_n 1, 1) := by decide +kernel
theorem dX10_placeBy_29 : decode cX10_placeBy 29 = .ok (.iload_n 2, 1) := by decide +kernel
theorem dX10_placeBy_30 : decode cX10_placeBy 30 = .ok (.iload_n 3, 1) := by decide +kernel
theorem dX10_placeBy_31 : decode cX10_placeBy 31 = .ok (.invokevirtual 246, 3) := by decide +kernel
theorem dX10_placeBy_34 : decode cX10_placeBy 34 = .ok (.istore 4, 2) := by decide +kernel
theorem dX10_placeBy_36 : decode cX10_placeBy 36 = .ok (.aload_n 0, 1) := by decide +kernel
theorem dX10_placeBy_37 : decode cX10_placeBy 37 = .ok (.iload 4, 2) := by decide +kernel
theorem dX10_placeBy_39 : decode cX10_placeBy 39 = .ok (.ldc 236, 2) := by decide +kernel
theorem dX10_placeBy_41 : decode cX10_placeBy 41 = .ok (.iload_n 2, 1) := by decide +kernel
theorem dX10_placeBy_42 : decode cX10_placeBy 42 = .ok (.isub, 1) := by decide +kernel
theorem dX10_placeBy_43 : decode cX10_placeBy 43 = .ok (.iload_n 1, 1) := by decide +kernel
theorem dX10_placeBy_44 : decode cX10_placeBy 44 = .ok (.iload_n 2, 1) := by decide +kernel
theorem dX10_placeBy_45 : decode cX10_placeBy 45 = .ok (.iload_n 3, 1) := by decide +kernel
theorem dX10_placeBy_46 : decode cX10_placeBy 46 = .ok (.invokevirtual 246, 3) := by decide +kernel
theorem dX10_placeBy_49 : decode cX10_placeBy 49 = .ok (.istore 4, 2) := by decide +kernel
theorem dX10_placeBy_51 : decode cX10_placeBy 51 = .ok (.iconst 0, 1) := by decide +kernel
theorem dX10_placeBy_52 : decode cX10_placeBy 52 = .ok (.istore 5, 2) := by decide +kernel
theorem dX10_placeBy_54 : decode cX10_placeBy 54 = .ok (.iload 5, 2) := by decide +kernel
theorem dX10_placeBy_56 : decode cX10_placeBy 56 = .ok (.aload_n 0, 1) := by decide +kernel
theorem dX10_placeBy_57 : decode cX10_placeBy 57 = .ok (.getfield 142, 3) := by decide +kernel
theorem dX10_placeBy_60 : decode cX10_placeBy 60 = .ok (.if_icmp .ge 57, 3) := by decide +kernel
theorem dX10_placeBy_63 : decode cX10_placeBy 63 = .ok (.aload_n 0, 1) := by decide +kernel
theorem dX10_placeBy_64 : decode cX10_placeBy 64 = .ok (.iload 4, 2) := by decide +kernel
theorem dX10_placeBy_66 : decode cX10_placeBy 66 = .ok (.aload_n 0, 1) := by decide +kernel
theorem dX10_placeBy_67 : decode cX10_placeBy 67 = .ok (.getfield 29, 3) := by decide +kernel
theorem dX10_placeBy_70 : decode cX10_placeBy 70 = .ok (.aload_n 0, 1) := by decide +kernel
theorem dX10_placeBy_71 : decode cX10_placeBy 71 = .ok (.getfield 44, 3) := by decide +kernel
theorem dX10_placeBy_74 : decode cX10_placeBy 74 = .ok (.iload 5, 2) := by decide +kernel
theorem dX10_placeBy_76 : decode cX10_placeBy 76 = .ok (.iaload, 1) := by decide +kernel
theorem dX10_placeBy_77 : decode cX10_placeBy 77 = .ok (.iaload, 1) := by decide +kernel
theorem dX10_placeBy_78 : decode cX10_placeBy 78 = .ok (.iload_n 1, 1) := by decide +kernel
theorem dX10_placeBy_79 : decode cX10_placeBy 79 = .ok (.iload_n 2, 1) := by decide +kernel
theorem dX10_placeBy_80 : decode cX10_placeBy 80 = .ok (.iload_n 3, 1) := by decide +kernel
theorem dX10_placeBy_81 : decode cX10_placeBy 81 = .ok (.invokevirtual 246, 3) := by decide +kernel
theorem dX10_placeBy_84 : decode cX10_placeBy 84 = .ok (.istore 4, 2) := by decide +kernel
theorem dX10_placeBy_86 : decode cX10_placeBy 86 = .ok (.aload_n 0, 1) := by decide +kernel
theorem dX10_placeBy_87 : decode cX10_placeBy 87 = .ok (.iload 4, 2) := by decide +kernel
theorem dX10_placeBy_89 : decode cX10_placeBy 89 = .ok (.aload_n 0, 1) := by decide +kernel
theorem dX10_placeBy_90 : decode cX10_placeBy 90 = .ok (.getfield 26, 3) := by decide +kernel
theorem dX10_placeBy_93 : decode cX10_placeBy 93 = .ok (.aload_n 0, 1) := by decide +kernel
theorem dX10_placeBy_94 : decode cX10_placeBy 94 = .ok (.getfield 44, 3) := by decide +kernel
theorem dX10_placeBy_97 : decode cX10_placeBy 97 = .ok (.iload 5, 2) := by decide +kernel
theorem dX10_placeBy_99 : decode cX10_placeBy 99 = .ok (.iaload, 1) := by decide +kernel
theorem dX10_placeBy_100 : decode cX10_placeBy 100 = .ok (.iaload, 1) := by decide +kernel
theorem dX10_placeBy_101 : decode cX10_placeBy 101 = .ok (.iload_n 2, 1) := by decide +kernel
theorem dX10_placeBy_102 : decode cX10_placeBy 102 = .ok (.isub, 1) := by decide +kernel
theorem dX10_placeBy_103 : decode cX10_placeBy 103 = .ok (.iload_n 1, 1) := by decide +kernel
theorem dX10_placeBy_104 : decode cX10_placeBy 104 = .ok (.iload_n 2, 1) := by decide +kernel
theorem dX10_placeBy_105 : decode cX10_placeBy 105 = .ok (.iload_n 3, 1) := by decide +kernel
theorem dX10_placeBy_106 : decode cX10_placeBy 106 = .ok (.invokevirtual 246, 3) := by decide +kernel
theorem dX10_placeBy_109 : decode cX10_placeBy 109 = .ok (.istore 4, 2) := by decide +kernel
theorem dX10_placeBy_111 : decode cX10_placeBy 111 = .ok (.iinc 5 1, 3) := by decide +kernel
theorem dX10_placeBy_114 : decode cX10_placeBy 114 = .ok (.goto (-60), 3) := by decide +kernel
theorem dX10_placeBy_117 : decode cX10_placeBy 117 = .ok (.iload 4, 2) := by decide +kernel
theorem dX10_placeBy_119 : decode cX10_placeBy 119 = .ok (.ireturn, 1) := by decide +kernel
theorem dX10_place_0 : decode cX10_place 0 = .ok (.aload_n 0, 1) := by decide +kernel
theorem dX10_place_1 : decode cX10_place 1 = .ok (.invokevirtual 188, 3) := by decide +kernel
theorem dX10_place_4 : decode cX10_place 4 = .ok (.iload_n 1, 1) := by decide +kernel
theorem dX10_place_5 : decode cX10_place 5 = .ok (.invokestatic 136, 3) := by decide +kernel
theorem dX10_place_8 : decode cX10_place 8 = .ok (.ifCond .eq 37, 3) := by decide +kernel
theorem dX10_place_11 : decode cX10_place 11 = .ok (.iload_n 2, 1) := by decide +kernel
theorem dX10_place_12 : decode cX10_place 12 = .ok (.i2l, 1) := by decide +kernel
theorem dX10_place_13 : decode cX10_place 13 = .ok (.lconst 1, 1) := by decide +kernel
theorem dX10_place_14 : decode cX10_place 14 = .ok (.ldc2_w 134, 3) := by decide +kernel
theorem dX10_place_17 : decode cX10_place 17 = .ok (.invokestatic 101, 3) := by decide +kernel
theorem dX10_place_20 : decode cX10_place 20 = .ok (.ifCond .eq 25, 3) := by decide +kernel
theorem dX10_place_23 : decode cX10_place 23 = .ok (.iload_n 3, 1) := by decide +kernel
theorem dX10_place_24 : decode cX10_place 24 = .ok (.i2l, 1) := by decide +kernel
theorem dX10_place_25 : decode cX10_place 25 = .ok (.lconst 0, 1) := by decide +kernel
theorem dX10_place_26 : decode cX10_place 26 = .ok (.ldc2_w 115, 3) := by decide +kernel
theorem dX10_place_29 : decode cX10_place 29 = .ok (.invokestatic 101, 3) := by decide +kernel
theorem dX10_place_32 : decode cX10_place 32 = .ok (.ifCond .eq 13, 3) := by decide +kernel
theorem dX10_place_35 : decode cX10_place 35 = .ok (.aload_n 0, 1) := by decide +kernel
theorem dX10_place_36 : decode cX10_place 36 = .ok (.iload_n 1, 1) := by decide +kernel
theorem dX10_place_37 : decode cX10_place 37 = .ok (.iload_n 2, 1) := by decide +kernel
theorem dX10_place_38 : decode cX10_place 38 = .ok (.iload_n 3, 1) := by decide +kernel
theorem dX10_place_39 : decode cX10_place 39 = .ok (.invokevirtual 250, 3) := by decide +kernel
theorem dX10_place_42 : decode cX10_place 42 = .ok (.goto 5, 3) := by decide +kernel
theorem dX10_place_45 : decode cX10_place 45 = .ok (.ldc 129, 2) := by decide +kernel
theorem dX10_place_47 : decode cX10_place 47 = .ok (.ireturn, 1) := by decide +kernel
theorem dX10_deepest_0 : decode cX10_deepest 0 = .ok (.iconst 0, 1) := by decide +kernel
theorem dX10_deepest_1 : decode cX10_deepest 1 = .ok (.istore_n 2, 1) := by decide +kernel
theorem dX10_deepest_2 : decode cX10_deepest 2 = .ok (.ldc 129, 2) := by decide +kernel
theorem dX10_deepest_4 : decode cX10_deepest 4 = .ok (.istore_n 3, 1) := by decide +kernel
theorem dX10_deepest_5 : decode cX10_deepest 5 = .ok (.iconst 0, 1) := by decide +kernel
theorem dX10_deepest_6 : decode cX10_deepest 6 = .ok (.istore 4, 2) := by decide +kernel
theorem dX10_deepest_8 : decode cX10_deepest 8 = .ok (.iload 4, 2) := by decide +kernel
theorem dX10_deepest_10 : decode cX10_deepest 10 = .ok (.aload_n 0, 1) := by decide +kernel
theorem dX10_deepest_11 : decode cX10_deepest 11 = .ok (.getfield 142, 3) := by decide +kernel
theorem dX10_deepest_14 : decode cX10_deepest 14 = .ok (.if_icmp .ge 56, 3) := by decide +kernel
theorem dX10_deepest_17 : decode cX10_deepest 17 = .ok (.aload_n 0, 1) := by decide +kernel
theorem dX10_deepest_18 : decode cX10_deepest 18 = .ok (.getfield 26, 3) := by decide +kernel
theorem dX10_deepest_21 : decode cX10_deepest 21 = .ok (.aload_n 0, 1) := by decide +kernel
theorem dX10_deepest_22 : decode cX10_deepest 22 = .ok (.getfield 44, 3) := by decide +kernel
theorem dX10_deepest_25 : decode cX10_deepest 25 = .ok (.iload 4, 2) := by decide +kernel
theorem dX10_deepest_27 : decode cX10_deepest 27 = .ok (.iaload, 1) := by decide +kernel
theorem dX10_deepest_28 : decode cX10_deepest 28 = .ok (.iaload, 1) := by decide +kernel
theorem dX10_deepest_29 : decode cX10_deepest 29 = .ok (.istore 5, 2) := by decide +kernel
theorem dX10_deepest_31 : decode cX10_deepest 31 = .ok (.aload_n 0, 1) := by decide +kernel
theorem dX10_deepest_32 : decode cX10_deepest 32 = .ok (.iload 5, 2) := by decide +kernel
theorem dX10_deepest_34 : decode cX10_deepest 34 = .ok (.iload 5, 2) := by decide +kernel
theorem dX10_deepest_36 : decode cX10_deepest 36 = .ok (.iconst 1, 1) := by decide +kernel
theorem dX10_deepest_37 : decode cX10_deepest 37 = .ok (.iadd, 1) := by decide +kernel
theorem dX10_deepest_38 : decode cX10_deepest 38 = .ok (.iconst (-1), 1) := by decide +kernel
theorem dX10_deepest_39 : decode cX10_deepest 39 = .ok (.invokevirtual 221, 3) := by decide +kernel
theorem dX10_deepest_42 : decode cX10_deepest 42 = .ok (.istore 6, 2) := by decide +kernel
theorem dX10_deepest_44 : decode cX10_deepest 44 = .ok (.iload 6, 2) := by decide +kernel
theorem dX10_deepest_46 : decode cX10_deepest 46 = .ok (.iload_n 2, 1) := by decide +kernel
theorem dX10_deepest_47 : decode cX10_deepest 47 = .ok (.if_icmp .le 8, 3) := by decide +kernel
theorem dX10_deepest_50 : decode cX10_deepest 50 = .ok (.iload 5, 2) := by decide +kernel
theorem dX10_deepest_52 : decode cX10_deepest 52 = .ok (.goto 4, 3) := by decide +kernel
theorem dX10_deepest_55 : decode cX10_deepest 55 = .ok (.iload_n 3, 1) := by decide +kernel
theorem dX10_deepest_56 : decode cX10_deepest 56 = .ok (.istore_n 3, 1) := by decide +kernel
theorem dX10_deepest_57 : decode cX10_deepest 57 = .ok (.iload 6, 2) := by decide +kernel
theorem dX10_deepest_59 : decode cX10_deepest 59 = .ok (.iload_n 2, 1) := by decide +kernel
theorem dX10_deepest_60 : decode cX10_deepest 60 = .ok (.invokestatic 198, 3) := by decide +kernel
theorem dX10_deepest_63 : decode cX10_deepest 63 = .ok (.istore_n 2, 1) := by decide +kernel
theorem dX10_deepest_64 : decode cX10_deepest 64 = .ok (.iinc 4 1, 3) := by decide +kernel
theorem dX10_deepest_67 : decode cX10_deepest 67 = .ok (.goto (-59), 3) := by decide +kernel
theorem dX10_deepest_70 : decode cX10_deepest 70 = .ok (.iload_n 1, 1) := by decide +kernel
theorem dX10_deepest_71 : decode cX10_deepest 71 = .ok (.ifCond .ne 7, 3) := by decide +kernel
theorem dX10_deepest_74 : decode cX10_deepest 74 = .ok (.iload_n 2, 1) := by decide +kernel
theorem dX10_deepest_75 : decode cX10_deepest 75 = .ok (.goto 4, 3) := by decide +kernel
theorem dX10_deepest_78 : decode cX10_deepest 78 = .ok (.iload_n 3, 1) := by decide +kernel
theorem dX10_deepest_79 : decode cX10_deepest 79 = .ok (.ireturn, 1) := by decide +kernel
theorem dX10_deep_0 : decode cX10_deep 0 = .ok (.aload_n 0, 1) := by decide +kernel
theorem dX10_deep_1 : decode cX10_deep 1 = .ok (.invokevirtual 188, 3) := by decide +kernel
theorem dX10_deep_4 : decode cX10_deep 4 = .ok (.aload_n 0, 1) := by decide +kernel
theorem dX10_deep_5 : decode cX10_deep 5 = .ok (.iconst 0, 1) := by decide +kernel
theorem dX10_deep_6 : decode cX10_deep 6 = .ok (.invokevirtual 253, 3) := by decide +kernel
theorem dX10_deep_9 : decode cX10_deep 9 = .ok (.ireturn, 1) := by decide +kernel
theorem dX10_point_0 : decode cX10_point 0 = .ok (.aload_n 0, 1) := by decide +kernel
theorem dX10_point_1 : decode cX10_point 1 = .ok (.invokevirtual 188, 3) := by decide +kernel
theorem dX10_point_4 : decode cX10_point 4 = .ok (.aload_n 0, 1) := by decide +kernel
theorem dX10_point_5 : decode cX10_point 5 = .ok (.iconst 1, 1) := by decide +kernel
theorem dX10_point_6 : decode cX10_point 6 = .ok (.invokevirtual 253, 3) := by decide +kernel
theorem dX10_point_9 : decode cX10_point 9 = .ok (.ireturn, 1) := by decide +kernel
theorem dX10_meetsRank_0 : decode cX10_meetsRank 0 = .ok (.aload_n 0, 1) := by decide +kernel
theorem dX10_meetsRank_1 : decode cX10_meetsRank 1 = .ok (.aload_n 0, 1) := by decide +kernel
theorem dX10_meetsRank_2 : decode cX10_meetsRank 2 = .ok (.getfield 44, 3) := by decide +kernel
theorem dX10_meetsRank_5 : decode cX10_meetsRank 5 = .ok (.iload_n 1, 1) := by decide +kernel
theorem dX10_meetsRank_6 : decode cX10_meetsRank 6 = .ok (.iaload, 1) := by decide +kernel
theorem dX10_meetsRank_7 : decode cX10_meetsRank 7 = .ok (.aload_n 0, 1) := by decide +kernel
theorem dX10_meetsRank_8 : decode cX10_meetsRank 8 = .ok (.getfield 26, 3) := by decide +kernel
theorem dX10_meetsRank_11 : decode cX10_meetsRank 11 = .ok (.aload_n 0, 1) := by decide +kernel
theorem dX10_meetsRank_12 : decode cX10_meetsRank 12 = .ok (.getfield 44, 3) := by decide +kernel
theorem dX10_meetsRank_15 : decode cX10_meetsRank 15 = .ok (.iload_n 2, 1) := by decide +kernel
theorem dX10_meetsRank_16 : decode cX10_meetsRank 16 = .ok (.iaload, 1) := by decide +kernel
theorem dX10_meetsRank_17 : decode cX10_meetsRank 17 = .ok (.iaload, 1) := by decide +kernel
theorem dX10_meetsRank_18 : decode cX10_meetsRank 18 = .ok (.aload_n 0, 1) := by decide +kernel
theorem dX10_meetsRank_19 : decode cX10_meetsRank 19 = .ok (.getfield 29, 3) := by decide +kernel
theorem dX10_meetsRank_22 : decode cX10_meetsRank 22 = .ok (.aload_n 0, 1) := by decide +kernel
theorem dX10_meetsRank_23 : decode cX10_meetsRank 23 = .ok (.getfield 44, 3) := by decide +kernel
theorem dX10_meetsRank_26 : decode cX10_meetsRank 26 = .ok (.iload_n 2, 1) := by decide +kernel
theorem dX10_meetsRank_27 : decode cX10_meetsRank 27 = .ok (.iaload, 1) := by decide +kernel
theorem dX10_meetsRank_28 : decode cX10_meetsRank 28 = .ok (.iaload, 1) := by decide +kernel
theorem dX10_meetsRank_29 : decode cX10_meetsRank 29 = .ok (.invokevirtual 215, 3) := by decide +kernel
theorem dX10_meetsRank_32 : decode cX10_meetsRank 32 = .ok (.ireturn, 1) := by decide +kernel
theorem dX10_isUsed_0 : decode cX10_isUsed 0 = .ok (.iconst 0, 1) := by decide +kernel
theorem dX10_isUsed_1 : decode cX10_isUsed 1 = .ok (.istore_n 3, 1) := by decide +kernel
theorem dX10_isUsed_2 : decode cX10_isUsed 2 = .ok (.iconst 0, 1) := by decide +kernel
theorem dX10_isUsed_3 : decode cX10_isUsed 3 = .ok (.istore 4, 2) := by decide +kernel
theorem dX10_isUsed_5 : decode cX10_isUsed 5 = .ok (.iload 4, 2) := by decide +kernel
theorem dX10_isUsed_7 : decode cX10_isUsed 7 = .ok (.iload_n 1, 1) := by decide +kernel
theorem dX10_isUsed_8 : decode cX10_isUsed 8 = .ok (.if_icmp .ge 40, 3) := by decide +kernel
theorem dX10_isUsed_11 : decode cX10_isUsed 11 = .ok (.iload_n 3, 1) := by decide +kernel
theorem dX10_isUsed_12 : decode cX10_isUsed 12 = .ok (.ifCond .ne 24, 3) := by decide +kernel
theorem dX10_isUsed_15 : decode cX10_isUsed 15 = .ok (.aload_n 0, 1) := by decide +kernel
theorem dX10_isUsed_16 : decode cX10_isUsed 16 = .ok (.getfield 89, 3) := by decide +kernel
theorem dX10_isUsed_19 : decode cX10_isUsed 19 = .ok (.iload 4, 2) := by decide +kernel
theorem dX10_isUsed_21 : decode cX10_isUsed 21 = .ok (.iaload, 1) := by decide +kernel
theorem dX10_isUsed_22 : decode cX10_isUsed 22 = .ok (.iload_n 2, 1) := by decide +kernel
theorem dX10_isUsed_23 : decode cX10_isUsed 23 = .ok (.if_icmp .ne 17, 3) := by decide +kernel
theorem dX10_isUsed_26 : decode cX10_isUsed 26 = .ok (.aload_n 0, 1) := by decide +kernel
theorem dX10_isUsed_27 : decode cX10_isUsed 27 = .ok (.iload 4, 2) := by decide +kernel
theorem dX10_isUsed_29 : decode cX10_isUsed 29 = .ok (.iload_n 1, 1) := by decide +kernel
theorem dX10_isUsed_30 : decode cX10_isUsed 30 = .ok (.invokevirtual 256, 3) := by decide +kernel
theorem dX10_isUsed_33 : decode cX10_isUsed 33 = .ok (.ifCond .eq 7, 3) := by decide +kernel
theorem dX10_isUsed_36 : decode cX10_isUsed 36 = .ok (.iconst 1, 1) := by decide +kernel
theorem dX10_isUsed_37 : decode cX10_isUsed 37 = .ok (.goto 4, 3) := by decide +kernel
theorem dX10_isUsed_40 : decode cX10_isUsed 40 = .ok (.iconst 0, 1) := by decide +kernel
theorem dX10_isUsed_41 : decode cX10_isUsed 41 = .ok (.istore_n 3, 1) := by decide +kernel
theorem dX10_isUsed_42 : decode cX10_isUsed 42 = .ok (.iinc 4 1, 3) := by decide +kernel
theorem dX10_isUsed_45 : decode cX10_isUsed 45 = .ok (.goto (-40), 3) := by decide +kernel
theorem dX10_isUsed_48 : decode cX10_isUsed 48 = .ok (.iload_n 3, 1) := by decide +kernel
theorem dX10_isUsed_49 : decode cX10_isUsed 49 = .ok (.ireturn, 1) := by decide +kernel
theorem dX10_gives_0 : decode cX10_gives 0 = .ok (.iconst 0, 1) := by decide +kernel
theorem dX10_gives_1 : decode cX10_gives 1 = .ok (.istore_n 1, 1) := by decide +kernel
theorem dX10_gives_2 : decode cX10_gives 2 = .ok (.iconst 0, 1) := by decide +kernel
theorem dX10_gives_3 : decode cX10_gives 3 = .ok (.istore_n 2, 1) := by decide +kernel
theorem dX10_gives_4 : decode cX10_gives 4 = .ok (.iload_n 2, 1) := by decide +kernel
theorem dX10_gives_5 : decode cX10_gives 5 = .ok (.aload_n 0, 1) := by decide +kernel
theorem dX10_gives_6 : decode cX10_gives 6 = .ok (.getfield 142, 3) := by decide +kernel
theorem dX10_gives_9 : decode cX10_gives 9 = .ok (.if_icmp .ge 56, 3) := by decide +kernel
theorem dX10_gives_12 : decode cX10_gives 12 = .ok (.aload_n 0, 1) := by decide +kernel
theorem dX10_gives_13 : decode cX10_gives 13 = .ok (.getfield 89, 3) := by decide +kernel
theorem dX10_gives_16 : decode cX10_gives 16 = .ok (.iload_n 2, 1) := by decide +kernel
theorem dX10_gives_17 : decode cX10_gives 17 = .ok (.iconst 0, 1) := by decide +kernel
theorem dX10_gives_18 : decode cX10_gives 18 = .ok (.iastore, 1) := by decide +kernel
theorem dX10_gives_19 : decode cX10_gives 19 = .ok (.aload_n 0, 1) := by decide +kernel
theorem dX10_gives_20 : decode cX10_gives 20 = .ok (.iload_n 2, 1) := by decide +kernel
theorem dX10_gives_21 : decode cX10_gives 21 = .ok (.aload_n 0, 1) := by decide +kernel
theorem dX10_gives_22 : decode cX10_gives 22 = .ok (.getfield 89, 3) := by decide +kernel
theorem dX10_gives_25 : decode cX10_gives 25 = .ok (.iload_n 2, 1) := by decide +kernel
theorem dX10_gives_26 : decode cX10_gives 26 = .ok (.iaload, 1) := by decide +kernel
theorem dX10_gives_27 : decode cX10_gives 27 = .ok (.invokevirtual 259, 3) := by decide +kernel
theorem dX10_gives_30 : decode cX10_gives 30 = .ok (.ifCond .eq 16, 3) := by decide +kernel
theorem dX10_gives_33 : decode cX10_gives 33 = .ok (.aload_n 0, 1) := by decide +kernel
theorem dX10_gives_34 : decode cX10_gives 34 = .ok (.getfield 89, 3) := by decide +kernel
theorem dX10_gives_37 : decode cX10_gives 37 = .ok (.iload_n 2, 1) := by decide +kernel
theorem dX10_gives_38 : decode cX10_gives 38 = .ok (.dup2, 1) := by decide +kernel
theorem dX10_gives_39 : decode cX10_gives 39 = .ok (.iaload, 1) := by decide +kernel
theorem dX10_gives_40 : decode cX10_gives 40 = .ok (.iconst 1, 1) := by decide +kernel
theorem dX10_gives_41 : decode cX10_gives 41 = .ok (.iadd, 1) := by decide +kernel
theorem dX10_gives_42 : decode cX10_gives 42 = .ok (.iastore, 1) := by decide +kernel
theorem dX10_gives_43 : decode cX10_gives 43 = .ok (.goto (-24), 3) := by decide +kernel
theorem dX10_gives_46 : decode cX10_gives 46 = .ok (.aload_n 0, 1) := by decide +kernel
theorem dX10_gives_47 : decode cX10_gives 47 = .ok (.getfield 89, 3) := by decide +kernel
theorem dX10_gives_50 : decode cX10_gives 50 = .ok (.iload_n 2, 1) := by decide +kernel
theorem dX10_gives_51 : decode cX10_gives 51 = .ok (.iaload, 1) := by decide +kernel
theorem dX10_gives_52 : decode cX10_gives 52 = .ok (.iconst 1, 1) := by decide +kernel
theorem dX10_gives_53 : decode cX10_gives 53 = .ok (.iadd, 1) := by decide +kernel
theorem dX10_gives_54 : decode cX10_gives 54 = .ok (.iload_n 1, 1) := by decide +kernel
theorem dX10_gives_55 : decode cX10_gives 55 = .ok (.invokestatic 198, 3) := by decide +kernel
theorem dX10_gives_58 : decode cX10_gives 58 = .ok (.istore_n 1, 1) := by decide +kernel
theorem dX10_gives_59 : decode cX10_gives 59 = .ok (.iinc 2 1, 3) := by decide +kernel
theorem dX10_gives_62 : decode cX10_gives 62 = .ok (.goto (-58), 3) := by decide +kernel
theorem dX10_gives_65 : decode cX10_gives 65 = .ok (.iload_n 1, 1) := by decide +kernel
theorem dX10_gives_66 : decode cX10_gives 66 = .ok (.ireturn, 1) := by decide +kernel
theorem dX10_roomBy_0 : decode cX10_roomBy 0 = .ok (.aload_n 0, 1) := by decide +kernel
theorem dX10_roomBy_1 : decode cX10_roomBy 1 = .ok (.invokevirtual 262, 3) := by decide +kernel
theorem dX10_roomBy_4 : decode cX10_roomBy 4 = .ok (.istore_n 2, 1) := by decide +kernel
theorem dX10_roomBy_5 : decode cX10_roomBy 5 = .ok (.iload_n 1, 1) := by decide +kernel
theorem dX10_roomBy_6 : decode cX10_roomBy 6 = .ok (.iconst (-1), 1) := by decide +kernel
theorem dX10_roomBy_7 : decode cX10_roomBy 7 = .ok (.if_icmp .ne 7, 3) := by decide +kernel
theorem dX10_roomBy_10 : decode cX10_roomBy 10 = .ok (.iload_n 2, 1) := by decide +kernel
theorem dX10_roomBy_11 : decode cX10_roomBy 11 = .ok (.goto 28, 3) := by decide +kernel
theorem dX10_roomBy_14 : decode cX10_roomBy 14 = .ok (.aload_n 0, 1) := by decide +kernel
theorem dX10_roomBy_15 : decode cX10_roomBy 15 = .ok (.getfield 22, 3) := by decide +kernel
theorem dX10_roomBy_18 : decode cX10_roomBy 18 = .ok (.iload_n 1, 1) := by decide +kernel
theorem dX10_roomBy_19 : decode cX10_roomBy 19 = .ok (.baload, 1) := by decide +kernel
theorem dX10_roomBy_20 : decode cX10_roomBy 20 = .ok (.ifCond .eq 17, 3) := by decide +kernel
theorem dX10_roomBy_23 : decode cX10_roomBy 23 = .ok (.aload_n 0, 1) := by decide +kernel
theorem dX10_roomBy_24 : decode cX10_roomBy 24 = .ok (.getfield 89, 3) := by decide +kernel
theorem dX10_roomBy_27 : decode cX10_roomBy 27 = .ok (.aload_n 0, 1) := by decide +kernel
theorem dX10_roomBy_28 : decode cX10_roomBy 28 = .ok (.getfield 47, 3) := by decide +kernel
theorem dX10_roomBy_31 : decode cX10_roomBy 31 = .ok (.iload_n 1, 1) := by decide +kernel
theorem dX10_roomBy_32 : decode cX10_roomBy 32 = .ok (.iaload, 1) := by decide +kernel
theorem dX10_roomBy_33 : decode cX10_roomBy 33 = .ok (.iaload, 1) := by decide +kernel
theorem dX10_roomBy_34 : decode cX10_roomBy 34 = .ok (.goto 5, 3) := by decide +kernel
theorem dX10_roomBy_37 : decode cX10_roomBy 37 = .ok (.bipush (-3), 2) := by decide +kernel
theorem dX10_roomBy_39 : decode cX10_roomBy 39 = .ok (.ireturn, 1) := by decide +kernel
theorem dX10_room_0 : decode cX10_room 0 = .ok (.aload_n 0, 1) := by decide +kernel
theorem dX10_room_1 : decode cX10_room 1 = .ok (.invokevirtual 188, 3) := by decide +kernel
theorem dX10_room_4 : decode cX10_room 4 = .ok (.iload_n 1, 1) := by decide +kernel
theorem dX10_room_5 : decode cX10_room 5 = .ok (.i2l, 1) := by decide +kernel
theorem dX10_room_6 : decode cX10_room 6 = .ok (.ldc2_w 219, 3) := by decide +kernel
theorem dX10_room_9 : decode cX10_room 9 = .ok (.ldc2_w 130, 3) := by decide +kernel
theorem dX10_room_12 : decode cX10_room 12 = .ok (.invokestatic 101, 3) := by decide +kernel
theorem dX10_room_15 : decode cX10_room 15 = .ok (.ifCond .eq 11, 3) := by decide +kernel
theorem dX10_room_18 : decode cX10_room 18 = .ok (.aload_n 0, 1) := by decide +kernel
theorem dX10_room_19 : decode cX10_room 19 = .ok (.iload_n 1, 1) := by decide +kernel
theorem dX10_room_20 : decode cX10_room 20 = .ok (.invokevirtual 265, 3) := by decide +kernel
theorem dX10_room_23 : decode cX10_room 23 = .ok (.goto 5, 3) := by decide +kernel
theorem dX10_room_26 : decode cX10_room 26 = .ok (.bipush (-2), 2) := by decide +kernel
theorem dX10_room_28 : decode cX10_room 28 = .ok (.ireturn, 1) := by decide +kernel
theorem dX10_keeps_0 : decode cX10_keeps 0 = .ok (.iconst 0, 1) := by decide +kernel
theorem dX10_keeps_1 : decode cX10_keeps 1 = .ok (.istore_n 1, 1) := by decide +kernel
theorem dX10_keeps_2 : decode cX10_keeps 2 = .ok (.iload_n 1, 1) := by decide +kernel
theorem dX10_keeps_3 : decode cX10_keeps 3 = .ok (.aload_n 0, 1) := by decide +kernel
theorem dX10_keeps_4 : decode cX10_keeps 4 = .ok (.getfield 142, 3) := by decide +kernel
theorem dX10_keeps_7 : decode cX10_keeps 7 = .ok (.if_icmp .ge 74, 3) := by decide +kernel
theorem dX10_keeps_10 : decode cX10_keeps 10 = .ok (.iload_n 1, 1) := by decide +kernel
theorem dX10_keeps_11 : decode cX10_keeps 11 = .ok (.istore_n 2, 1) := by decide +kernel
theorem dX10_keeps_12 : decode cX10_keeps 12 = .ok (.iload_n 2, 1) := by decide +kernel
theorem dX10_keeps_13 : decode cX10_keeps 13 = .ok (.ifCond .le 55, 3) := by decide +kernel
theorem dX10_keeps_16 : decode cX10_keeps 16 = .ok (.aload_n 0, 1) := by decide +kernel
theorem dX10_keeps_17 : decode cX10_keeps 17 = .ok (.getfield 29, 3) := by decide +kernel
theorem dX10_keeps_20 : decode cX10_keeps 20 = .ok (.aload_n 0, 1) := by decide +kernel
theorem dX10_keeps_21 : decode cX10_keeps 21 = .ok (.getfield 44, 3) := by decide +kernel
theorem dX10_keeps_24 : decode cX10_keeps 24 = .ok (.iload_n 1, 1) := by decide +kernel
theorem dX10_keeps_25 : decode cX10_keeps 25 = .ok (.iaload, 1) := by decide +kernel
theorem dX10_keeps_26 : decode cX10_keeps 26 = .ok (.iaload, 1) := by decide +kernel
theorem dX10_keeps_27 : decode cX10_keeps 27 = .ok (.aload_n 0, 1) := by decide +kernel
theorem dX10_keeps_28 : decode cX10_keeps 28 = .ok (.getfield 29, 3) := by decide +kernel
theorem dX10_keeps_31 : decode cX10_keeps 31 = .ok (.aload_n 0, 1) := by decide +kernel
theorem dX10_keeps_32 : decode cX10_keeps 32 = .ok (.getfield 44, 3) := by decide +kernel
theorem dX10_keeps_35 : decode cX10_keeps 35 = .ok (.aload_n 0, 1) := by decide +kernel
theorem dX10_keeps_36 : decode cX10_keeps 36 = .ok (.getfield 92, 3) := by decide +kernel
theorem dX10_keeps_39 : decode cX10_keeps 39 = .ok (.iload_n 2, 1) := by decide +kernel
theorem dX10_keeps_40 : decode cX10_keeps 40 = .ok (.iconst 1, 1) := by decide +kernel
theorem dX10_keeps_41 : decode cX10_keeps 41 = .ok (.isub, 1) := by decide +kernel
theorem dX10_keeps_42 : decode cX10_keeps 42 = .ok (.iaload, 1) := by decide +kernel
theorem dX10_keeps_43 : decode cX10_keeps 43 = .ok (.iaload, 1) := by decide +kernel
theorem dX10_keeps_44 : decode cX10_keeps 44 = .ok (.iaload, 1) := by decide +kernel
theorem dX10_keeps_45 : decode cX10_keeps 45 = .ok (.if_icmp .ge 23, 3) := by decide +kernel
theorem dX10_keeps_48 : decode cX10_keeps 48 = .ok (.aload_n 0, 1) := by decide +kernel
theorem dX10_keeps_49 : decode cX10_keeps 49 = .ok (.getfield 92, 3) := by decide +kernel
theorem dX10_keeps_52 : decode cX10_keeps 52 = .ok (.iload_n 2, 1) := by decide +kernel
theorem dX10_keeps_53 : decode cX10_keeps 53 = .ok (.aload_n 0, 1) := by decide +kernel
theorem dX10_keeps_54 : decode cX10_keeps 54 = .ok (.getfield 92, 3) := by decide +kernel
theorem dX10_keeps_57 : decode cX10_keeps 57 = .ok (.iload_n 2, 1) := by decide +kernel
theorem dX10_keeps_58 : decode cX10_keeps 58 = .ok (.iconst 1, 1) := by decide +kernel
theorem dX10_keeps_59 : decode cX10_keeps 59 = .ok (.isub, 1) := by decide +kernel
theorem dX10_keeps_60 : decode cX10_keeps 60 = .ok (.iaload, 1) := by decide +kernel
theorem dX10_keeps_61 : decode cX10_keeps 61 = .ok (.iastore, 1) := by decide +kernel
theorem dX10_keeps_62 : decode cX10_keeps 62 = .ok (.iinc 2 (-1), 3) := by decide +kernel
theorem dX10_keeps_65 : decode cX10_keeps 65 = .ok (.goto (-53), 3) := by decide +kernel
theorem dX10_keeps_68 : decode cX10_keeps 68 = .ok (.aload_n 0, 1) := by decide +kernel
theorem dX10_keeps_69 : decode cX10_keeps 69 = .ok (.getfield 92, 3) := by decide +kernel
theorem dX10_keeps_72 : decode cX10_keeps 72 = .ok (.iload_n 2, 1) := by decide +kernel
theorem dX10_keeps_73 : decode cX10_keeps 73 = .ok (.iload_n 1, 1) := by decide +kernel
theorem dX10_keeps_74 : decode cX10_keeps 74 = .ok (.iastore, 1) := by decide +kernel
theorem dX10_keeps_75 : decode cX10_keeps 75 = .ok (.iinc 1 1, 3) := by decide +kernel
theorem dX10_keeps_78 : decode cX10_keeps 78 = .ok (.goto (-76), 3) := by decide +kernel
theorem dX10_keeps_81 : decode cX10_keeps 81 = .ok (.iconst 0, 1) := by decide +kernel
theorem dX10_keeps_82 : decode cX10_keeps 82 = .ok (.istore_n 1, 1) := by decide +kernel
theorem dX10_keeps_83 : decode cX10_keeps 83 = .ok (.iconst 0, 1) := by decide +kernel
theorem dX10_keeps_84 : decode cX10_keeps 84 = .ok (.istore_n 2, 1) := by decide +kernel
theorem dX10_keeps_85 : decode cX10_keeps 85 = .ok (.iload_n 2, 1) := by decide +kernel
theorem dX10_keeps_86 : decode cX10_keeps 86 = .ok (.aload_n 0, 1) := by decide +kernel
theorem dX10_keeps_87 : decode cX10_keeps 87 = .ok (.getfield 142, 3) := by decide +kernel
theorem dX10_keeps_90 : decode cX10_keeps 90 = .ok (.if_icmp .ge 75, 3) := by decide +kernel
theorem dX10_keeps_93 : decode cX10_keeps 93 = .ok (.iconst 1, 1) := by decide +kernel
theorem dX10_keeps_94 : decode cX10_keeps 94 = .ok (.istore_n 3, 1) := by decide +kernel
theorem dX10_keeps_95 : decode cX10_keeps 95 = .ok (.iconst 0, 1) := by decide +kernel
theorem dX10_keeps_96 : decode cX10_keeps 96 = .ok (.istore 4, 2) := by decide +kernel
theorem dX10_keeps_98 : decode cX10_keeps 98 = .ok (.iload 4, 2) := by decide +kernel
theorem dX10_keeps_100 : decode cX10_keeps 100 = .ok (.iload_n 1, 1) := by decide +kernel
theorem dX10_keeps_101 : decode cX10_keeps 101 = .ok (.if_icmp .ge 39, 3) := by decide +kernel
theorem dX10_keeps_104 : decode cX10_keeps 104 = .ok (.iload_n 3, 1) := by decide +kernel
theorem dX10_keeps_105 : decode cX10_keeps 105 = .ok (.ifCond .eq 27, 3) := by decide +kernel
theorem dX10_keeps_108 : decode cX10_keeps 108 = .ok (.aload_n 0, 1) := by decide +kernel
theorem dX10_keeps_109 : decode cX10_keeps 109 = .ok (.aload_n 0, 1) := by decide +kernel
theorem dX10_keeps_110 : decode cX10_keeps 110 = .ok (.getfield 95, 3) := by decide +kernel
theorem dX10_keeps_113 : decode cX10_keeps 113 = .ok (.iload 4, 2) := by decide +kernel
theorem dX10_keeps_115 : decode cX10_keeps 115 = .ok (.iaload, 1) := by decide +kernel
theorem dX10_keeps_116 : decode cX10_keeps 116 = .ok (.aload_n 0, 1) := by decide +kernel
theorem dX10_keeps_117 : decode cX10_keeps 117 = .ok (.getfield 92, 3) := by decide +kernel
theorem dX10_keeps_120 : decode cX10_keeps 120 = .ok (.iload_n 2, 1) := by decide +kernel
theorem dX10_keeps_121 : decode cX10_keeps 121 = .ok (.iaload, 1) := by decide +kernel
theorem dX10_keeps_122 : decode cX10_keeps 122 = .ok (.invokevirtual 256, 3) := by decide +kernel
theorem dX10_keeps_125 : decode cX10_keeps 125 = .ok (.ifCond .ne 7, 3) := by decide +kernel
theorem dX10_keeps_128 : decode cX10_keeps 128 = .ok (.iconst 1, 1) := by decide +kernel
theorem dX10_keeps_129 : decode cX10_keeps 129 = .ok (.goto 4, 3) := by decide +kernel
theorem dX10_keeps_132 : decode cX10_keeps 132 = .ok (.iconst 0, 1) := by decide +kernel
theorem dX10_keeps_133 : decode cX10_keeps 133 = .ok (.istore_n 3, 1) := by decide +kernel
theorem dX10_keeps_134 : decode cX10_keeps 134 = .ok (.iinc 4 1, 3) := by decide +kernel
theorem dX10_keeps_137 : decode cX10_keeps 137 = .ok (.goto (-39), 3) := by decide +kernel
theorem dX10_keeps_140 : decode cX10_keeps 140 = .ok (.iload_n 3, 1) := by decide +kernel
theorem dX10_keeps_141 : decode cX10_keeps 141 = .ok (.ifCond .eq 18, 3) := by decide +kernel
theorem dX10_keeps_144 : decode cX10_keeps 144 = .ok (.aload_n 0, 1) := by decide +kernel
theorem dX10_keeps_145 : decode cX10_keeps 145 = .ok (.getfield 95, 3) := by decide +kernel
theorem dX10_keeps_148 : decode cX10_keeps 148 = .ok (.iload_n 1, 1) := by decide +kernel
theorem dX10_keeps_149 : decode cX10_keeps 149 = .ok (.aload_n 0, 1) := by decide +kernel
theorem dX10_keeps_150 : decode cX10_keeps 150 = .ok (.getfield 92, 3) := by decide +kernel
theorem dX10_keeps_153 : decode cX10_keeps 153 = .ok (.iload_n 2, 1) := by decide +kernel
theorem dX10_keeps_154 : decode cX10_keeps 154 = .ok (.iaload, 1) := by decide +kernel
theorem dX10_keeps_155 : decode cX10_keeps 155 = .ok (.iastore, 1) := by decide +kernel
theorem dX10_keeps_156 : decode cX10_keeps 156 = .ok (.iinc 1 1, 3) := by decide +kernel
theorem dX10_keeps_159 : decode cX10_keeps 159 = .ok (.iinc 2 1, 3) := by decide +kernel
theorem dX10_keeps_162 : decode cX10_keeps 162 = .ok (.goto (-77), 3) := by decide +kernel
theorem dX10_keeps_165 : decode cX10_keeps 165 = .ok (.iload_n 1, 1) := by decide +kernel
theorem dX10_keeps_166 : decode cX10_keeps 166 = .ok (.ireturn, 1) := by decide +kernel
theorem dX10_keepBy_0 : decode cX10_keepBy 0 = .ok (.aload_n 0, 1) := by decide +kernel
theorem dX10_keepBy_1 : decode cX10_keepBy 1 = .ok (.invokevirtual 268, 3) := by decide +kernel
theorem dX10_keepBy_4 : decode cX10_keepBy 4 = .ok (.istore_n 2, 1) := by decide +kernel
theorem dX10_keepBy_5 : decode cX10_keepBy 5 = .ok (.iload_n 1, 1) := by decide +kernel
theorem dX10_keepBy_6 : decode cX10_keepBy 6 = .ok (.iconst (-1), 1) := by decide +kernel
theorem dX10_keepBy_7 : decode cX10_keepBy 7 = .ok (.if_icmp .ne 7, 3) := by decide +kernel
theorem dX10_keepBy_10 : decode cX10_keepBy 10 = .ok (.iload_n 2, 1) := by decide +kernel
theorem dX10_keepBy_11 : decode cX10_keepBy 11 = .ok (.goto 23, 3) := by decide +kernel
theorem dX10_keepBy_14 : decode cX10_keepBy 14 = .ok (.iload_n 1, 1) := by decide +kernel
theorem dX10_keepBy_15 : decode cX10_keepBy 15 = .ok (.iload_n 2, 1) := by decide +kernel
theorem dX10_keepBy_16 : decode cX10_keepBy 16 = .ok (.if_icmp .ge 17, 3) := by decide +kernel
theorem dX10_keepBy_19 : decode cX10_keepBy 19 = .ok (.aload_n 0, 1) := by decide +kernel
theorem dX10_keepBy_20 : decode cX10_keepBy 20 = .ok (.getfield 44, 3) := by decide +kernel
theorem dX10_keepBy_23 : decode cX10_keepBy 23 = .ok (.aload_n 0, 1) := by decide +kernel
theorem dX10_keepBy_24 : decode cX10_keepBy 24 = .ok (.getfield 95, 3) := by decide +kernel
theorem dX10_keepBy_27 : decode cX10_keepBy 27 = .ok (.iload_n 1, 1) := by decide +kernel
theorem dX10_keepBy_28 : decode cX10_keepBy 28 = .ok (.iaload, 1) := by decide +kernel
theorem dX10_keepBy_29 : decode cX10_keepBy 29 = .ok (.iaload, 1) := by decide +kernel
theorem dX10_keepBy_30 : decode cX10_keepBy 30 = .ok (.goto 4, 3) := by decide +kernel
theorem dX10_keepBy_33 : decode cX10_keepBy 33 = .ok (.iconst (-1), 1) := by decide +kernel
theorem dX10_keepBy_34 : decode cX10_keepBy 34 = .ok (.ireturn, 1) := by decide +kernel
theorem dX10_keep_0 : decode cX10_keep 0 = .ok (.aload_n 0, 1) := by decide +kernel
theorem dX10_keep_1 : decode cX10_keep 1 = .ok (.invokevirtual 188, 3) := by decide +kernel
theorem dX10_keep_4 : decode cX10_keep 4 = .ok (.iload_n 1, 1) := by decide +kernel
theorem dX10_keep_5 : decode cX10_keep 5 = .ok (.i2l, 1) := by decide +kernel
theorem dX10_keep_6 : decode cX10_keep 6 = .ok (.ldc2_w 219, 3) := by decide +kernel
theorem dX10_keep_9 : decode cX10_keep 9 = .ok (.ldc2_w 130, 3) := by decide +kernel
theorem dX10_keep_12 : decode cX10_keep 12 = .ok (.invokestatic 101, 3) := by decide +kernel
theorem dX10_keep_15 : decode cX10_keep 15 = .ok (.ifCond .eq 11, 3) := by decide +kernel
theorem dX10_keep_18 : decode cX10_keep 18 = .ok (.aload_n 0, 1) := by decide +kernel
theorem dX10_keep_19 : decode cX10_keep 19 = .ok (.iload_n 1, 1) := by decide +kernel
theorem dX10_keep_20 : decode cX10_keep 20 = .ok (.invokevirtual 271, 3) := by decide +kernel
theorem dX10_keep_23 : decode cX10_keep 23 = .ok (.goto 5, 3) := by decide +kernel
theorem dX10_keep_26 : decode cX10_keep 26 = .ok (.bipush (-2), 2) := by decide +kernel
theorem dX10_keep_28 : decode cX10_keep 28 = .ok (.ireturn, 1) := by decide +kernel
theorem dX10_manyClashes_0 : decode cX10_manyClashes 0 = .ok (.iconst 0, 1) := by decide +kernel
theorem dX10_manyClashes_1 : decode cX10_manyClashes 1 = .ok (.istore_n 1, 1) := by decide +kernel
theorem dX10_manyClashes_2 : decode cX10_manyClashes 2 = .ok (.iconst 0, 1) := by decide +kernel
theorem dX10_manyClashes_3 : decode cX10_manyClashes 3 = .ok (.istore_n 2, 1) := by decide +kernel
theorem dX10_manyClashes_4 : decode cX10_manyClashes 4 = .ok (.iload_n 2, 1) := by decide +kernel
theorem dX10_manyClashes_5 : decode cX10_manyClashes 5 = .ok (.aload_n 0, 1) := by decide +kernel
theorem dX10_manyClashes_6 : decode cX10_manyClashes 6 = .ok (.getfield 142, 3) := by decide +kernel
theorem dX10_manyClashes_9 : decode cX10_manyClashes 9 = .ok (.if_icmp .ge 44, 3) := by decide +kernel
theorem dX10_manyClashes_12 : decode cX10_manyClashes 12 = .ok (.iload_n 2, 1) := by decide +kernel
theorem dX10_manyClashes_13 : decode cX10_manyClashes 13 = .ok (.iconst 1, 1) := by decide +kernel
theorem dX10_manyClashes_14 : decode cX10_manyClashes 14 = .ok (.iadd, 1) := by decide +kernel
theorem dX10_manyClashes_15 : decode cX10_manyClashes 15 = .ok (.istore_n 3, 1) := by decide +kernel
theorem dX10_manyClashes_16 : decode cX10_manyClashes 16 = .ok (.iload_n 3, 1) := by decide +kernel
theorem dX10_manyClashes_17 : decode cX10_manyClashes 17 = .ok (.aload_n 0, 1) := by decide +kernel
theorem dX10_manyClashes_18 : decode cX10_manyClashes 18 = .ok (.getfield 142, 3) := by decide +kernel
theorem dX10_manyClashes_21 : decode cX10_manyClashes 21 = .ok (.if_icmp .ge 26, 3) := by decide +kernel
theorem dX10_manyClashes_24 : decode cX10_manyClashes 24 = .ok (.iload_n 1, 1) := by decide +kernel
theorem dX10_manyClashes_25 : decode cX10_manyClashes 25 = .ok (.aload_n 0, 1) := by decide +kernel
theorem dX10_manyClashes_26 : decode cX10_manyClashes 26 = .ok (.iload_n 2, 1) := by decide +kernel
theorem dX10_manyClashes_27 : decode cX10_manyClashes 27 = .ok (.iload_n 3, 1) := by decide +kernel
theorem dX10_manyClashes_28 : decode cX10_manyClashes 28 = .ok (.invokevirtual 256, 3) := by decide +kernel
theorem dX10_manyClashes_31 : decode cX10_manyClashes 31 = .ok (.ifCond .eq 7, 3) := by decide +kernel
theorem dX10_manyClashes_34 : decode cX10_manyClashes 34 = .ok (.iconst 1, 1) := by decide +kernel
theorem dX10_manyClashes_35 : decode cX10_manyClashes 35 = .ok (.goto 4, 3) := by decide +kernel
theorem dX10_manyClashes_38 : decode cX10_manyClashes 38 = .ok (.iconst 0, 1) := by decide +kernel
theorem dX10_manyClashes_39 : decode cX10_manyClashes 39 = .ok (.iadd, 1) := by decide +kernel
theorem dX10_manyClashes_40 : decode cX10_manyClashes 40 = .ok (.istore_n 1, 1) := by decide +kernel
theorem dX10_manyClashes_41 : decode cX10_manyClashes 41 = .ok (.iinc 3 1, 3) := by decide +kernel
theorem dX10_manyClashes_44 : decode cX10_manyClashes 44 = .ok (.goto (-28), 3) := by decide +kernel
theorem dX10_manyClashes_47 : decode cX10_manyClashes 47 = .ok (.iinc 2 1, 3) := by decide +kernel
theorem dX10_manyClashes_50 : decode cX10_manyClashes 50 = .ok (.goto (-46), 3) := by decide +kernel
theorem dX10_manyClashes_53 : decode cX10_manyClashes 53 = .ok (.iload_n 1, 1) := by decide +kernel
theorem dX10_manyClashes_54 : decode cX10_manyClashes 54 = .ok (.ireturn, 1) := by decide +kernel
theorem dX10_clashes_0 : decode cX10_clashes 0 = .ok (.aload_n 0, 1) := by decide +kernel
theorem dX10_clashes_1 : decode cX10_clashes 1 = .ok (.invokevirtual 188, 3) := by decide +kernel
theorem dX10_clashes_4 : decode cX10_clashes 4 = .ok (.aload_n 0, 1) := by decide +kernel
theorem dX10_clashes_5 : decode cX10_clashes 5 = .ok (.invokevirtual 274, 3) := by decide +kernel
theorem dX10_clashes_8 : decode cX10_clashes 8 = .ok (.ireturn, 1) := by decide +kernel
theorem dX10_clashOf_0 : decode cX10_clashOf 0 = .ok (.aload_n 0, 1) := by decide +kernel
theorem dX10_clashOf_1 : decode cX10_clashOf 1 = .ok (.getfield 44, 3) := by decide +kernel
theorem dX10_clashOf_4 : decode cX10_clashOf 4 = .ok (.iload_n 1, 1) := by decide +kernel
theorem dX10_clashOf_5 : decode cX10_clashOf 5 = .ok (.iaload, 1) := by decide +kernel
theorem dX10_clashOf_6 : decode cX10_clashOf 6 = .ok (.istore 4, 2) := by decide +kernel
theorem dX10_clashOf_8 : decode cX10_clashOf 8 = .ok (.aload_n 0, 1) := by decide +kernel
theorem dX10_clashOf_9 : decode cX10_clashOf 9 = .ok (.getfield 44, 3) := by decide +kernel
theorem dX10_clashOf_12 : decode cX10_clashOf 12 = .ok (.iload_n 2, 1) := by decide +kernel
theorem dX10_clashOf_13 : decode cX10_clashOf 13 = .ok (.iaload, 1) := by decide +kernel
theorem dX10_clashOf_14 : decode cX10_clashOf 14 = .ok (.istore 5, 2) := by decide +kernel
theorem dX10_clashOf_16 : decode cX10_clashOf 16 = .ok (.iload_n 3, 1) := by decide +kernel
theorem dX10_clashOf_17 : decode cX10_clashOf 17 = .ok (.ifCond .ne 8, 3) := by decide +kernel
theorem dX10_clashOf_20 : decode cX10_clashOf 20 = .ok (.iload 4, 2) := by decide +kernel
theorem dX10_clashOf_22 : decode cX10_clashOf 22 = .ok (.goto 48, 3) := by decide +kernel
theorem dX10_clashOf_25 : decode cX10_clashOf 25 = .ok (.iload_n 3, 1) := by decide +kernel
theorem dX10_clashOf_26 : decode cX10_clashOf 26 = .ok (.iconst 1, 1) := by decide +kernel
theorem dX10_clashOf_27 : decode cX10_clashOf 27 = .ok (.if_icmp .ne 8, 3) := by decide +kernel
theorem dX10_clashOf_30 : decode cX10_clashOf 30 = .ok (.iload 5, 2) := by decide +kernel
theorem dX10_clashOf_32 : decode cX10_clashOf 32 = .ok (.goto 38, 3) := by decide +kernel
theorem dX10_clashOf_35 : decode cX10_clashOf 35 = .ok (.aload_n 0, 1) := by decide +kernel
theorem dX10_clashOf_36 : decode cX10_clashOf 36 = .ok (.getfield 29, 3) := by decide +kernel
theorem dX10_clashOf_39 : decode cX10_clashOf 39 = .ok (.iload 4, 2) := by decide +kernel
theorem dX10_clashOf_41 : decode cX10_clashOf 41 = .ok (.iaload, 1) := by decide +kernel
theorem dX10_clashOf_42 : decode cX10_clashOf 42 = .ok (.aload_n 0, 1) := by decide +kernel
theorem dX10_clashOf_43 : decode cX10_clashOf 43 = .ok (.getfield 29, 3) := by decide +kernel
theorem dX10_clashOf_46 : decode cX10_clashOf 46 = .ok (.iload 5, 2) := by decide +kernel
theorem dX10_clashOf_48 : decode cX10_clashOf 48 = .ok (.iaload, 1) := by decide +kernel
theorem dX10_clashOf_49 : decode cX10_clashOf 49 = .ok (.invokestatic 277, 3) := by decide +kernel
theorem dX10_clashOf_52 : decode cX10_clashOf 52 = .ok (.aload_n 0, 1) := by decide +kernel
theorem dX10_clashOf_53 : decode cX10_clashOf 53 = .ok (.getfield 26, 3) := by decide +kernel
theorem dX10_clashOf_56 : decode cX10_clashOf 56 = .ok (.iload 4, 2) := by decide +kernel
theorem dX10_clashOf_58 : decode cX10_clashOf 58 = .ok (.iaload, 1) := by decide +kernel
theorem dX10_clashOf_59 : decode cX10_clashOf 59 = .ok (.aload_n 0, 1) := by decide +kernel
theorem dX10_clashOf_60 : decode cX10_clashOf 60 = .ok (.getfield 26, 3) := by decide +kernel
theorem dX10_clashOf_63 : decode cX10_clashOf 63 = .ok (.iload 5, 2) := by decide +kernel
theorem dX10_clashOf_65 : decode cX10_clashOf 65 = .ok (.iaload, 1) := by decide +kernel
theorem dX10_clashOf_66 : decode cX10_clashOf 66 = .ok (.invokestatic 198, 3) := by decide +kernel
theorem dX10_clashOf_69 : decode cX10_clashOf 69 = .ok (.isub, 1) := by decide +kernel
theorem dX10_clashOf_70 : decode cX10_clashOf 70 = .ok (.ireturn, 1) := by decide +kernel
theorem dX10_clashBy_0 : decode cX10_clashBy 0 = .ok (.iconst 0, 1) := by decide +kernel
theorem dX10_clashBy_1 : decode cX10_clashBy 1 = .ok (.istore_n 3, 1) := by decide +kernel
theorem dX10_clashBy_2 : decode cX10_clashBy 2 = .ok (.iconst (-1), 1) := by decide +kernel
theorem dX10_clashBy_3 : decode cX10_clashBy 3 = .ok (.istore 4, 2) := by decide +kernel
theorem dX10_clashBy_5 : decode cX10_clashBy 5 = .ok (.iconst 0, 1) := by decide +kernel
theorem dX10_clashBy_6 : decode cX10_clashBy 6 = .ok (.istore 5, 2) := by decide +kernel
theorem dX10_clashBy_8 : decode cX10_clashBy 8 = .ok (.iload 5, 2) := by decide +kernel
theorem dX10_clashBy_10 : decode cX10_clashBy 10 = .ok (.aload_n 0, 1) := by decide +kernel
theorem dX10_clashBy_11 : decode cX10_clashBy 11 = .ok (.getfield 142, 3) := by decide +kernel
theorem dX10_clashBy_14 : decode cX10_clashBy 14 = .ok (.if_icmp .ge 65, 3) := by decide +kernel
theorem dX10_clashBy_17 : decode cX10_clashBy 17 = .ok (.iload 5, 2) := by decide +kernel
theorem dX10_clashBy_19 : decode cX10_clashBy 19 = .ok (.iconst 1, 1) := by decide +kernel
theorem dX10_clashBy_20 : decode cX10_clashBy 20 = .ok (.iadd, 1) := by decide +kernel
theorem dX10_clashBy_21 : decode cX10_clashBy 21 = .ok (.istore 6, 2) := by decide +kernel
theorem dX10_clashBy_23 : decode cX10_clashBy 23 = .ok (.iload 6, 2) := by decide +kernel
theorem dX10_clashBy_25 : decode cX10_clashBy 25 = .ok (.aload_n 0, 1) := by decide +kernel
theorem dX10_clashBy_26 : decode cX10_clashBy 26 = .ok (.getfield 142, 3) := by decide +kernel
theorem dX10_clashBy_29 : decode cX10_clashBy 29 = .ok (.if_icmp .ge 44, 3) := by decide +kernel
theorem dX10_clashBy_32 : decode cX10_clashBy 32 = .ok (.aload_n 0, 1) := by decide +kernel
theorem dX10_clashBy_33 : decode cX10_clashBy 33 = .ok (.iload 5, 2) := by decide +kernel
theorem dX10_clashBy_35 : decode cX10_clashBy 35 = .ok (.iload 6, 2) := by decide +kernel
theorem dX10_clashBy_37 : decode cX10_clashBy 37 = .ok (.invokevirtual 256, 3) := by decide +kernel
theorem dX10_clashBy_40 : decode cX10_clashBy 40 = .ok (.ifCond .eq 27, 3) := by decide +kernel
theorem dX10_clashBy_43 : decode cX10_clashBy 43 = .ok (.iload_n 3, 1) := by decide +kernel
theorem dX10_clashBy_44 : decode cX10_clashBy 44 = .ok (.iload_n 1, 1) := by decide +kernel
theorem dX10_clashBy_45 : decode cX10_clashBy 45 = .ok (.if_icmp .ne 15, 3) := by decide +kernel
theorem dX10_clashBy_48 : decode cX10_clashBy 48 = .ok (.aload_n 0, 1) := by decide +kernel
theorem dX10_clashBy_49 : decode cX10_clashBy 49 = .ok (.iload 5, 2) := by decide +kernel
theorem dX10_clashBy_51 : decode cX10_clashBy 51 = .ok (.iload 6, 2) := by decide +kernel
theorem dX10_clashBy_53 : decode cX10_clashBy 53 = .ok (.iload_n 2, 1) := by decide +kernel
theorem dX10_clashBy_54 : decode cX10_clashBy 54 = .ok (.invokevirtual 280, 3) := by decide +kernel
theorem dX10_clashBy_57 : decode cX10_clashBy 57 = .ok (.goto 5, 3) := by decide +kernel
theorem dX10_clashBy_60 : decode cX10_clashBy 60 = .ok (.iload 4, 2) := by decide +kernel
theorem dX10_clashBy_62 : decode cX10_clashBy 62 = .ok (.istore 4, 2) := by decide +kernel
theorem dX10_clashBy_64 : decode cX10_clashBy 64 = .ok (.iinc 3 1, 3) := by decide +kernel
theorem dX10_clashBy_67 : decode cX10_clashBy 67 = .ok (.iinc 6 1, 3) := by decide +kernel
theorem dX10_clashBy_70 : decode cX10_clashBy 70 = .ok (.goto (-47), 3) := by decide +kernel
theorem dX10_clashBy_73 : decode cX10_clashBy 73 = .ok (.iinc 5 1, 3) := by decide +kernel
theorem dX10_clashBy_76 : decode cX10_clashBy 76 = .ok (.goto (-68), 3) := by decide +kernel
theorem dX10_clashBy_79 : decode cX10_clashBy 79 = .ok (.iload 4, 2) := by decide +kernel
theorem dX10_clashBy_81 : decode cX10_clashBy 81 = .ok (.ireturn, 1) := by decide +kernel
theorem dX10_clash_0 : decode cX10_clash 0 = .ok (.aload_n 0, 1) := by decide +kernel
theorem dX10_clash_1 : decode cX10_clash 1 = .ok (.invokevirtual 188, 3) := by decide +kernel
theorem dX10_clash_4 : decode cX10_clash 4 = .ok (.iload_n 1, 1) := by decide +kernel
theorem dX10_clash_5 : decode cX10_clash 5 = .ok (.i2l, 1) := by decide +kernel
theorem dX10_clash_6 : decode cX10_clash 6 = .ok (.lconst 0, 1) := by decide +kernel
theorem dX10_clash_7 : decode cX10_clash 7 = .ok (.ldc2_w 283, 3) := by decide +kernel
theorem dX10_clash_10 : decode cX10_clash 10 = .ok (.invokestatic 101, 3) := by decide +kernel
theorem dX10_clash_13 : decode cX10_clash 13 = .ok (.ifCond .eq 24, 3) := by decide +kernel
theorem dX10_clash_16 : decode cX10_clash 16 = .ok (.iload_n 2, 1) := by decide +kernel
theorem dX10_clash_17 : decode cX10_clash 17 = .ok (.i2l, 1) := by decide +kernel
theorem dX10_clash_18 : decode cX10_clash 18 = .ok (.lconst 0, 1) := by decide +kernel
theorem dX10_clash_19 : decode cX10_clash 19 = .ok (.ldc2_w 115, 3) := by decide +kernel
theorem dX10_clash_22 : decode cX10_clash 22 = .ok (.invokestatic 101, 3) := by decide +kernel
theorem dX10_clash_25 : decode cX10_clash 25 = .ok (.ifCond .eq 12, 3) := by decide +kernel
theorem dX10_clash_28 : decode cX10_clash 28 = .ok (.aload_n 0, 1) := by decide +kernel
theorem dX10_clash_29 : decode cX10_clash 29 = .ok (.iload_n 1, 1) := by decide +kernel
theorem dX10_clash_30 : decode cX10_clash 30 = .ok (.iload_n 2, 1) := by decide +kernel
theorem dX10_clash_31 : decode cX10_clash 31 = .ok (.invokevirtual 285, 3) := by decide +kernel
theorem dX10_clash_34 : decode cX10_clash 34 = .ok (.goto 5, 3) := by decide +kernel
theorem dX10_clash_37 : decode cX10_clash 37 = .ok (.bipush (-2), 2) := by decide +kernel
theorem dX10_clash_39 : decode cX10_clash 39 = .ok (.ireturn, 1) := by decide +kernel
theorem dX10_aloneNow_0 : decode cX10_aloneNow 0 = .ok (.lconst 0, 1) := by decide +kernel
theorem dX10_aloneNow_1 : decode cX10_aloneNow 1 = .ok (.lstore_n 1, 1) := by decide +kernel
theorem dX10_aloneNow_2 : decode cX10_aloneNow 2 = .ok (.iconst 0, 1) := by decide +kernel
theorem dX10_aloneNow_3 : decode cX10_aloneNow 3 = .ok (.istore_n 3, 1) := by decide +kernel
theorem dX10_aloneNow_4 : decode cX10_aloneNow 4 = .ok (.iload_n 3, 1) := by decide +kernel
theorem dX10_aloneNow_5 : decode cX10_aloneNow 5 = .ok (.aload_n 0, 1) := by decide +kernel
theorem dX10_aloneNow_6 : decode cX10_aloneNow 6 = .ok (.getfield 142, 3) := by decide +kernel
theorem dX10_aloneNow_9 : decode cX10_aloneNow 9 = .ok (.if_icmp .ge 51, 3) := by decide +kernel
theorem dX10_aloneNow_12 : decode cX10_aloneNow 12 = .ok (.aload_n 0, 1) := by decide +kernel
theorem dX10_aloneNow_13 : decode cX10_aloneNow 13 = .ok (.getfield 44, 3) := by decide +kernel
theorem dX10_aloneNow_16 : decode cX10_aloneNow 16 = .ok (.iload_n 3, 1) := by decide +kernel
theorem dX10_aloneNow_17 : decode cX10_aloneNow 17 = .ok (.iaload, 1) := by decide +kernel
theorem dX10_aloneNow_18 : decode cX10_aloneNow 18 = .ok (.istore 4, 2) := by decide +kernel
theorem dX10_aloneNow_20 : decode cX10_aloneNow 20 = .ok (.lload_n 1, 1) := by decide +kernel
theorem dX10_aloneNow_21 : decode cX10_aloneNow 21 = .ok (.aload_n 0, 1) := by decide +kernel
theorem dX10_aloneNow_22 : decode cX10_aloneNow 22 = .ok (.aload_n 0, 1) := by decide +kernel
theorem dX10_aloneNow_23 : decode cX10_aloneNow 23 = .ok (.getfield 26, 3) := by decide +kernel
theorem dX10_aloneNow_26 : decode cX10_aloneNow 26 = .ok (.iload 4, 2) := by decide +kernel
theorem dX10_aloneNow_28 : decode cX10_aloneNow 28 = .ok (.iaload, 1) := by decide +kernel
theorem dX10_aloneNow_29 : decode cX10_aloneNow 29 = .ok (.aload_n 0, 1) := by decide +kernel
theorem dX10_aloneNow_30 : decode cX10_aloneNow 30 = .ok (.getfield 29, 3) := by decide +kernel
theorem dX10_aloneNow_33 : decode cX10_aloneNow 33 = .ok (.iload 4, 2) := by decide +kernel
theorem dX10_aloneNow_35 : decode cX10_aloneNow 35 = .ok (.iaload, 1) := by decide +kernel
theorem dX10_aloneNow_36 : decode cX10_aloneNow 36 = .ok (.iconst (-1), 1) := by decide +kernel
theorem dX10_aloneNow_37 : decode cX10_aloneNow 37 = .ok (.invokevirtual 221, 3) := by decide +kernel
theorem dX10_aloneNow_40 : decode cX10_aloneNow 40 = .ok (.iconst 1, 1) := by decide +kernel
theorem dX10_aloneNow_41 : decode cX10_aloneNow 41 = .ok (.if_icmp .ne 10, 3) := by decide +kernel
theorem dX10_aloneNow_44 : decode cX10_aloneNow 44 = .ok (.lconst 1, 1) := by decide +kernel
theorem dX10_aloneNow_45 : decode cX10_aloneNow 45 = .ok (.iload 4, 2) := by decide +kernel
theorem dX10_aloneNow_47 : decode cX10_aloneNow 47 = .ok (.lshl, 1) := by decide +kernel
theorem dX10_aloneNow_48 : decode cX10_aloneNow 48 = .ok (.goto 4, 3) := by decide +kernel
theorem dX10_aloneNow_51 : decode cX10_aloneNow 51 = .ok (.lconst 0, 1) := by decide +kernel
theorem dX10_aloneNow_52 : decode cX10_aloneNow 52 = .ok (.lor, 1) := by decide +kernel
theorem dX10_aloneNow_53 : decode cX10_aloneNow 53 = .ok (.lstore_n 1, 1) := by decide +kernel
theorem dX10_aloneNow_54 : decode cX10_aloneNow 54 = .ok (.iinc 3 1, 3) := by decide +kernel
theorem dX10_aloneNow_57 : decode cX10_aloneNow 57 = .ok (.goto (-53), 3) := by decide +kernel
theorem dX10_aloneNow_60 : decode cX10_aloneNow 60 = .ok (.lload_n 1, 1) := by decide +kernel
theorem dX10_aloneNow_61 : decode cX10_aloneNow 61 = .ok (.lreturn, 1) := by decide +kernel
theorem dX10_alone_0 : decode cX10_alone 0 = .ok (.aload_n 0, 1) := by decide +kernel
theorem dX10_alone_1 : decode cX10_alone 1 = .ok (.invokevirtual 188, 3) := by decide +kernel
theorem dX10_alone_4 : decode cX10_alone 4 = .ok (.aload_n 0, 1) := by decide +kernel
theorem dX10_alone_5 : decode cX10_alone 5 = .ok (.invokevirtual 288, 3) := by decide +kernel
theorem dX10_alone_8 : decode cX10_alone 8 = .ok (.lreturn, 1) := by decide +kernel
theorem dX10_gathers_0 : decode cX10_gathers 0 = .ok (.iconst 0, 1) := by decide +kernel
theorem dX10_gathers_1 : decode cX10_gathers 1 = .ok (.istore_n 1, 1) := by decide +kernel
theorem dX10_gathers_2 : decode cX10_gathers 2 = .ok (.ldc 235, 2) := by decide +kernel
theorem dX10_gathers_4 : decode cX10_gathers 4 = .ok (.istore_n 2, 1) := by decide +kernel
theorem dX10_gathers_5 : decode cX10_gathers 5 = .ok (.iconst 0, 1) := by decide +kernel
theorem dX10_gathers_6 : decode cX10_gathers 6 = .ok (.istore_n 3, 1) := by decide +kernel
theorem dX10_gathers_7 : decode cX10_gathers 7 = .ok (.iconst 0, 1) := by decide +kernel
theorem dX10_gathers_8 : decode cX10_gathers 8 = .ok (.istore 4, 2) := by decide +kernel
theorem dX10_gathers_10 : decode cX10_gathers 10 = .ok (.iload 4, 2) := by decide +kernel
theorem dX10_gathers_12 : decode cX10_gathers 12 = .ok (.aload_n 0, 1) := by decide +kernel
theorem dX10_gathers_13 : decode cX10_gathers 13 = .ok (.getfield 142, 3) := by decide +kernel
theorem dX10_gathers_16 : decode cX10_gathers 16 = .ok (.if_icmp .ge 107, 3) := by decide +kernel
theorem dX10_gathers_19 : decode cX10_gathers 19 = .ok (.aload_n 0, 1) := by decide +kernel
theorem dX10_gathers_20 : decode cX10_gathers 20 = .ok (.getfield 44, 3) := by decide +kernel
theorem dX10_gathers_23 : decode cX10_gathers 23 = .ok (.iload 4, 2) := by decide +kernel
theorem dX10_gathers_25 : decode cX10_gathers 25 = .ok (.iaload, 1) := by decide +kernel
theorem dX10_gathers_26 : decode cX10_gathers 26 = .ok (.istore 5, 2) := by decide +kernel
theorem dX10_gathers_28 : decode cX10_gathers 28 = .ok (.iload 4, 2) := by decide +kernel
theorem dX10_gathers_30 : decode cX10_gathers 30 = .ok (.ifCond .eq 14, 3) := by decide +kernel
theorem dX10_gathers_33 : decode cX10_gathers 33 = .ok (.aload_n 0, 1) := by decide +kernel
theorem dX10_gathers_34 : decode cX10_gathers 34 = .ok (.getfield 26, 3) := by decide +kernel
theorem dX10_gathers_37 : decode cX10_gathers 37 = .ok (.iload 5, 2) := by decide +kernel
theorem dX10_gathers_39 : decode cX10_gathers 39 = .ok (.iaload, 1) := by decide +kernel
theorem dX10_gathers_40 : decode cX10_gathers 40 = .ok (.iload_n 2, 1) := by decide +kernel
theorem dX10_gathers_41 : decode cX10_gathers 41 = .ok (.if_icmp .lt 26, 3) := by decide +kernel
theorem dX10_gathers_44 : decode cX10_gathers 44 = .ok (.iinc 1 1, 3) := by decide +kernel
theorem dX10_gathers_47 : decode cX10_gathers 47 = .ok (.iload 4, 2) := by decide +kernel
theorem dX10_gathers_49 : decode cX10_gathers 49 = .ok (.istore_n 3, 1) := by decide +kernel
theorem dX10_gathers_50 : decode cX10_gathers 50 = .ok (.aload_n 0, 1) := by decide +kernel
theorem dX10_gathers_51 : decode cX10_gathers 51 = .ok (.getfield 29, 3) := by decide +kernel
theorem dX10_gathers_54 : decode cX10_gathers 54 = .ok (.iload 5, 2) := by decide +kernel
theorem dX10_gathers_56 : decode cX10_gathers 56 = .ok (.iaload, 1) := by decide +kernel
theorem dX10_gathers_57 : decode cX10_gathers 57 = .ok (.istore_n 2, 1) := by decide +kernel
theorem dX10_gathers_58 : decode cX10_gathers 58 = .ok (.aload_n 0, 1) := by decide +kernel
theorem dX10_gathers_59 : decode cX10_gathers 59 = .ok (.getfield 98, 3) := by decide +kernel
theorem dX10_gathers_62 : decode cX10_gathers 62 = .ok (.iload 4, 2) := by decide +kernel
theorem dX10_gathers_64 : decode cX10_gathers 64 = .ok (.iload 5, 2) := by decide +kernel
theorem dX10_gathers_66 : decode cX10_gathers 66 = .ok (.iastore, 1) := by decide +kernel
theorem dX10_gathers_67 : decode cX10_gathers 67 = .ok (.aload_n 0, 1) := by decide +kernel
theorem dX10_gathers_68 : decode cX10_gathers 68 = .ok (.getfield 29, 3) := by decide +kernel
theorem dX10_gathers_71 : decode cX10_gathers 71 = .ok (.iload 5, 2) := by decide +kernel
theorem dX10_gathers_73 : decode cX10_gathers 73 = .ok (.iaload, 1) := by decide +kernel
theorem dX10_gathers_74 : decode cX10_gathers 74 = .ok (.iload_n 2, 1) := by decide +kernel
theorem dX10_gathers_75 : decode cX10_gathers 75 = .ok (.invokestatic 198, 3) := by decide +kernel
theorem dX10_gathers_78 : decode cX10_gathers 78 = .ok (.istore_n 2, 1) := by decide +kernel
theorem dX10_gathers_79 : decode cX10_gathers 79 = .ok (.aload_n 0, 1) := by decide +kernel
theorem dX10_gathers_80 : decode cX10_gathers 80 = .ok (.getfield 98, 3) := by decide +kernel
theorem dX10_gathers_83 : decode cX10_gathers 83 = .ok (.iload_n 3, 1) := by decide +kernel
theorem dX10_gathers_84 : decode cX10_gathers 84 = .ok (.iaload, 1) := by decide +kernel
theorem dX10_gathers_85 : decode cX10_gathers 85 = .ok (.iload 5, 2) := by decide +kernel
theorem dX10_gathers_87 : decode cX10_gathers 87 = .ok (.invokestatic 277, 3) := by decide +kernel
theorem dX10_gathers_90 : decode cX10_gathers 90 = .ok (.istore 6, 2) := by decide +kernel
theorem dX10_gathers_92 : decode cX10_gathers 92 = .ok (.iload_n 3, 1) := by decide +kernel
theorem dX10_gathers_93 : decode cX10_gathers 93 = .ok (.istore 7, 2) := by decide +kernel
theorem dX10_gathers_95 : decode cX10_gathers 95 = .ok (.iload 7, 2) := by decide +kernel
theorem dX10_gathers_97 : decode cX10_gathers 97 = .ok (.iload 4, 2) := by decide +kernel
theorem dX10_gathers_99 : decode cX10_gathers 99 = .ok (.if_icmp .gt 18, 3) := by decide +kernel
theorem dX10_gathers_102 : decode cX10_gathers 102 = .ok (.aload_n 0, 1) := by decide +kernel
theorem dX10_gathers_103 : decode cX10_gathers 103 = .ok (.getfield 98, 3) := by decide +kernel
theorem dX10_gathers_106 : decode cX10_gathers 106 = .ok (.iload 7, 2) := by decide +kernel
theorem dX10_gathers_108 : decode cX10_gathers 108 = .ok (.iload 6, 2) := by decide +kernel
theorem dX10_gathers_110 : decode cX10_gathers 110 = .ok (.iastore, 1) := by decide +kernel
theorem dX10_gathers_111 : decode cX10_gathers 111 = .ok (.iinc 7 1, 3) := by decide +kernel
theorem dX10_gathers_114 : decode cX10_gathers 114 = .ok (.goto (-19), 3) := by decide +kernel
theorem dX10_gathers_117 : decode cX10_gathers 117 = .ok (.iinc 4 1, 3) := by decide +kernel
theorem dX10_gathers_120 : decode cX10_gathers 120 = .ok (.goto (-110), 3) := by decide +kernel
theorem dX10_gathers_123 : decode cX10_gathers 123 = .ok (.iload_n 1, 1) := by decide +kernel
theorem dX10_gathers_124 : decode cX10_gathers 124 = .ok (.ireturn, 1) := by decide +kernel
theorem dX10_groupOf_0 : decode cX10_groupOf 0 = .ok (.aload_n 0, 1) := by decide +kernel
theorem dX10_groupOf_1 : decode cX10_groupOf 1 = .ok (.getfield 98, 3) := by decide +kernel
theorem dX10_groupOf_4 : decode cX10_groupOf 4 = .ok (.aload_n 0, 1) := by decide +kernel
theorem dX10_groupOf_5 : decode cX10_groupOf 5 = .ok (.getfield 47, 3) := by decide +kernel
theorem dX10_groupOf_8 : decode cX10_groupOf 8 = .ok (.iload_n 1, 1) := by decide +kernel
theorem dX10_groupOf_9 : decode cX10_groupOf 9 = .ok (.iaload, 1) := by decide +kernel
theorem dX10_groupOf_10 : decode cX10_groupOf 10 = .ok (.iaload, 1) := by decide +kernel
theorem dX10_groupOf_11 : decode cX10_groupOf 11 = .ok (.istore_n 3, 1) := by decide +kernel
theorem dX10_groupOf_12 : decode cX10_groupOf 12 = .ok (.iconst 0, 1) := by decide +kernel
theorem dX10_groupOf_13 : decode cX10_groupOf 13 = .ok (.istore 4, 2) := by decide +kernel
theorem dX10_groupOf_15 : decode cX10_groupOf 15 = .ok (.iconst 0, 1) := by decide +kernel
theorem dX10_groupOf_16 : decode cX10_groupOf 16 = .ok (.istore 5, 2) := by decide +kernel
theorem dX10_groupOf_18 : decode cX10_groupOf 18 = .ok (.iload 5, 2) := by decide +kernel
theorem dX10_groupOf_20 : decode cX10_groupOf 20 = .ok (.aload_n 0, 1) := by decide +kernel
theorem dX10_groupOf_21 : decode cX10_groupOf 21 = .ok (.getfield 142, 3) := by decide +kernel
theorem dX10_groupOf_24 : decode cX10_groupOf 24 = .ok (.if_icmp .ge 30, 3) := by decide +kernel
theorem dX10_groupOf_27 : decode cX10_groupOf 27 = .ok (.iload 4, 2) := by decide +kernel
theorem dX10_groupOf_29 : decode cX10_groupOf 29 = .ok (.aload_n 0, 1) := by decide +kernel
theorem dX10_groupOf_30 : decode cX10_groupOf 30 = .ok (.getfield 98, 3) := by decide +kernel
theorem dX10_groupOf_33 : decode cX10_groupOf 33 = .ok (.iload 5, 2) := by decide +kernel
theorem dX10_groupOf_35 : decode cX10_groupOf 35 = .ok (.iaload, 1) := by decide +kernel
theorem dX10_groupOf_36 : decode cX10_groupOf 36 = .ok (.iload_n 3, 1) := by decide +kernel
theorem dX10_groupOf_37 : decode cX10_groupOf 37 = .ok (.if_icmp .ne 7, 3) := by decide +kernel
theorem dX10_groupOf_40 : decode cX10_groupOf 40 = .ok (.iconst 1, 1) := by decide +kernel
theorem dX10_groupOf_41 : decode cX10_groupOf 41 = .ok (.goto 4, 3) := by decide +kernel
theorem dX10_groupOf_44 : decode cX10_groupOf 44 = .ok (.iconst 0, 1) := by decide +kernel
theorem dX10_groupOf_45 : decode cX10_groupOf 45 = .ok (.iadd, 1) := by decide +kernel
theorem dX10_groupOf_46 : decode cX10_groupOf 46 = .ok (.istore 4, 2) := by decide +kernel
theorem dX10_groupOf_48 : decode cX10_groupOf 48 = .ok (.iinc 5 1, 3) := by decide +kernel
theorem dX10_groupOf_51 : decode cX10_groupOf 51 = .ok (.goto (-33), 3) := by decide +kernel
theorem dX10_groupOf_54 : decode cX10_groupOf 54 = .ok (.iload_n 2, 1) := by decide +kernel
theorem dX10_groupOf_55 : decode cX10_groupOf 55 = .ok (.ifCond .ne 7, 3) := by decide +kernel
theorem dX10_groupOf_58 : decode cX10_groupOf 58 = .ok (.iload_n 3, 1) := by decide +kernel
theorem dX10_groupOf_59 : decode cX10_groupOf 59 = .ok (.goto 5, 3) := by decide +kernel
theorem dX10_groupOf_62 : decode cX10_groupOf 62 = .ok (.iload 4, 2) := by decide +kernel
theorem dX10_groupOf_64 : decode cX10_groupOf 64 = .ok (.ireturn, 1) := by decide +kernel
theorem dX10_groupBy_0 : decode cX10_groupBy 0 = .ok (.aload_n 0, 1) := by decide +kernel
theorem dX10_groupBy_1 : decode cX10_groupBy 1 = .ok (.invokevirtual 292, 3) := by decide +kernel
theorem dX10_groupBy_4 : decode cX10_groupBy 4 = .ok (.istore_n 3, 1) := by decide +kernel
theorem dX10_groupBy_5 : decode cX10_groupBy 5 = .ok (.iload_n 1, 1) := by decide +kernel
theorem dX10_groupBy_6 : decode cX10_groupBy 6 = .ok (.iconst (-1), 1) := by decide +kernel
theorem dX10_groupBy_7 : decode cX10_groupBy 7 = .ok (.if_icmp .ne 7, 3) := by decide +kernel
theorem dX10_groupBy_10 : decode cX10_groupBy 10 = .ok (.iload_n 3, 1) := by decide +kernel
theorem dX10_groupBy_11 : decode cX10_groupBy 11 = .ok (.goto 23, 3) := by decide +kernel
theorem dX10_groupBy_14 : decode cX10_groupBy 14 = .ok (.aload_n 0, 1) := by decide +kernel
theorem dX10_groupBy_15 : decode cX10_groupBy 15 = .ok (.getfield 22, 3) := by decide +kernel
theorem dX10_groupBy_18 : decode cX10_groupBy 18 = .ok (.iload_n 1, 1) := by decide +kernel
theorem dX10_groupBy_19 : decode cX10_groupBy 19 = .ok (.baload, 1) := by decide +kernel
theorem dX10_groupBy_20 : decode cX10_groupBy 20 = .ok (.ifCond .eq 12, 3) := by decide +kernel
theorem dX10_groupBy_23 : decode cX10_groupBy 23 = .ok (.aload_n 0, 1) := by decide +kernel
theorem dX10_groupBy_24 : decode cX10_groupBy 24 = .ok (.iload_n 1, 1) := by decide +kernel
theorem dX10_groupBy_25 : decode cX10_groupBy 25 = .ok (.iload_n 2, 1) := by decide +kernel
theorem dX10_groupBy_26 : decode cX10_groupBy 26 = .ok (.invokevirtual 295, 3) := by decide +kernel
theorem dX10_groupBy_29 : decode cX10_groupBy 29 = .ok (.goto 5, 3) := by decide +kernel
theorem dX10_groupBy_32 : decode cX10_groupBy 32 = .ok (.bipush (-3), 2) := by decide +kernel
theorem dX10_groupBy_34 : decode cX10_groupBy 34 = .ok (.ireturn, 1) := by decide +kernel
theorem dX10_group_0 : decode cX10_group 0 = .ok (.aload_n 0, 1) := by decide +kernel
theorem dX10_group_1 : decode cX10_group 1 = .ok (.invokevirtual 188, 3) := by decide +kernel
theorem dX10_group_4 : decode cX10_group 4 = .ok (.iload_n 1, 1) := by decide +kernel
theorem dX10_group_5 : decode cX10_group 5 = .ok (.i2l, 1) := by decide +kernel
theorem dX10_group_6 : decode cX10_group 6 = .ok (.ldc2_w 219, 3) := by decide +kernel
theorem dX10_group_9 : decode cX10_group 9 = .ok (.ldc2_w 130, 3) := by decide +kernel
theorem dX10_group_12 : decode cX10_group 12 = .ok (.invokestatic 101, 3) := by decide +kernel
theorem dX10_group_15 : decode cX10_group 15 = .ok (.ifCond .eq 19, 3) := by decide +kernel
theorem dX10_group_18 : decode cX10_group 18 = .ok (.iload_n 2, 1) := by decide +kernel
theorem dX10_group_19 : decode cX10_group 19 = .ok (.invokestatic 174, 3) := by decide +kernel
theorem dX10_group_22 : decode cX10_group 22 = .ok (.ifCond .eq 12, 3) := by decide +kernel
theorem dX10_group_25 : decode cX10_group 25 = .ok (.aload_n 0, 1) := by decide +kernel
theorem dX10_group_26 : decode cX10_group 26 = .ok (.iload_n 1, 1) := by decide +kernel
theorem dX10_group_27 : decode cX10_group 27 = .ok (.iload_n 2, 1) := by decide +kernel
theorem dX10_group_28 : decode cX10_group 28 = .ok (.invokevirtual 298, 3) := by decide +kernel
theorem dX10_group_31 : decode cX10_group 31 = .ok (.goto 5, 3) := by decide +kernel
theorem dX10_group_34 : decode cX10_group 34 = .ok (.bipush (-2), 2) := by decide +kernel
theorem dX10_group_36 : decode cX10_group 36 = .ok (.ireturn, 1) := by decide +kernel
theorem dX10_write_0 : decode cX10_write 0 = .ok (.iload_n 1, 1) := by decide +kernel
theorem dX10_write_1 : decode cX10_write 1 = .ok (.iload_n 2, 1) := by decide +kernel
theorem dX10_write_2 : decode cX10_write 2 = .ok (.invokestatic 148, 3) := by decide +kernel
theorem dX10_write_5 : decode cX10_write 5 = .ok (.ifCond .eq 10, 3) := by decide +kernel
theorem dX10_write_8 : decode cX10_write 8 = .ok (.iload_n 3, 1) := by decide +kernel
theorem dX10_write_9 : decode cX10_write 9 = .ok (.invokestatic 111, 3) := by decide +kernel
theorem dX10_write_12 : decode cX10_write 12 = .ok (.ifCond .ne 6, 3) := by decide +kernel
theorem dX10_write_15 : decode cX10_write 15 = .ok (.bipush (-2), 2) := by decide +kernel
theorem dX10_write_17 : decode cX10_write 17 = .ok (.ireturn, 1) := by decide +kernel
theorem dX10_write_18 : decode cX10_write 18 = .ok (.aload_n 0, 1) := by decide +kernel
theorem dX10_write_19 : decode cX10_write 19 = .ok (.getfield 7, 3) := by decide +kernel
theorem dX10_write_22 : decode cX10_write 22 = .ok (.iload_n 3, 1) := by decide +kernel
theorem dX10_write_23 : decode cX10_write 23 = .ok (.iaload, 1) := by decide +kernel
theorem dX10_write_24 : decode cX10_write 24 = .ok (.ifCond .ge 9, 3) := by decide +kernel
theorem dX10_write_27 : decode cX10_write 27 = .ok (.aload_n 0, 1) := by decide +kernel
theorem dX10_write_28 : decode cX10_write 28 = .ok (.iconst 1, 1) := by decide +kernel
theorem dX10_write_29 : decode cX10_write 29 = .ok (.invokevirtual 117, 3) := by decide +kernel
theorem dX10_write_32 : decode cX10_write 32 = .ok (.ireturn, 1) := by decide +kernel
theorem dX10_write_33 : decode cX10_write 33 = .ok (.aload_n 0, 1) := by decide +kernel
theorem dX10_write_34 : decode cX10_write 34 = .ok (.invokevirtual 188, 3) := by decide +kernel
theorem dX10_write_37 : decode cX10_write 37 = .ok (.aload_n 0, 1) := by decide +kernel
theorem dX10_write_38 : decode cX10_write 38 = .ok (.getfield 13, 3) := by decide +kernel
theorem dX10_write_41 : decode cX10_write 41 = .ok (.iload_n 3, 1) := by decide +kernel
theorem dX10_write_42 : decode cX10_write 42 = .ok (.iaload, 1) := by decide +kernel
theorem dX10_write_43 : decode cX10_write 43 = .ok (.aload_n 0, 1) := by decide +kernel
theorem dX10_write_44 : decode cX10_write 44 = .ok (.iload_n 1, 1) := by decide +kernel
theorem dX10_write_45 : decode cX10_write 45 = .ok (.iload_n 2, 1) := by decide +kernel
theorem dX10_write_46 : decode cX10_write 46 = .ok (.iconst (-1), 1) := by decide +kernel
theorem dX10_write_47 : decode cX10_write 47 = .ok (.invokevirtual 221, 3) := by decide +kernel
theorem dX10_write_50 : decode cX10_write 50 = .ok (.invokestatic 277, 3) := by decide +kernel
theorem dX10_write_53 : decode cX10_write 53 = .ok (.istore 4, 2) := by decide +kernel
theorem dX10_write_55 : decode cX10_write 55 = .ok (.iconst 0, 1) := by decide +kernel
theorem dX10_write_56 : decode cX10_write 56 = .ok (.istore 5, 2) := by decide +kernel
theorem dX10_write_58 : decode cX10_write 58 = .ok (.iload 5, 2) := by decide +kernel
theorem dX10_write_60 : decode cX10_write 60 = .ok (.iload 4, 2) := by decide +kernel
theorem dX10_write_62 : decode cX10_write 62 = .ok (.if_icmp .ge 38, 3) := by decide +kernel
theorem dX10_write_65 : decode cX10_write 65 = .ok (.aload_n 0, 1) := by decide +kernel
theorem dX10_write_66 : decode cX10_write 66 = .ok (.getfield 16, 3) := by decide +kernel
theorem dX10_write_69 : decode cX10_write 69 = .ok (.bipush 60, 2) := by decide +kernel
theorem dX10_write_71 : decode cX10_write 71 = .ok (.iload_n 3, 1) := by decide +kernel
theorem dX10_write_72 : decode cX10_write 72 = .ok (.imul, 1) := by decide +kernel
theorem dX10_write_73 : decode cX10_write 73 = .ok (.iload 5, 2) := by decide +kernel
theorem dX10_write_75 : decode cX10_write 75 = .ok (.iadd, 1) := by decide +kernel
theorem dX10_write_76 : decode cX10_write 76 = .ok (.aload_n 0, 1) := by decide +kernel
theorem dX10_write_77 : decode cX10_write 77 = .ok (.getfield 7, 3) := by decide +kernel
theorem dX10_write_80 : decode cX10_write 80 = .ok (.iload_n 3, 1) := by decide +kernel
theorem dX10_write_81 : decode cX10_write 81 = .ok (.iaload, 1) := by decide +kernel
theorem dX10_write_82 : decode cX10_write 82 = .ok (.aload_n 0, 1) := by decide +kernel
theorem dX10_write_83 : decode cX10_write 83 = .ok (.iload_n 1, 1) := by decide +kernel
theorem dX10_write_84 : decode cX10_write 84 = .ok (.iload_n 2, 1) := by decide +kernel
theorem dX10_write_85 : decode cX10_write 85 = .ok (.iload 5, 2) := by decide +kernel
theorem dX10_write_87 : decode cX10_write 87 = .ok (.invokevirtual 221, 3) := by decide +kernel
theorem dX10_write_90 : decode cX10_write 90 = .ok (.invokestatic 125, 3) := by decide +kernel
theorem dX10_write_93 : decode cX10_write 93 = .ok (.iastore, 1) := by decide +kernel
theorem dX10_write_94 : decode cX10_write 94 = .ok (.iinc 5 1, 3) := by decide +kernel
theorem dX10_write_97 : decode cX10_write 97 = .ok (.goto (-39), 3) := by decide +kernel
theorem dX10_write_100 : decode cX10_write 100 = .ok (.iload 4, 2) := by decide +kernel
theorem dX10_write_102 : decode cX10_write 102 = .ok (.ireturn, 1) := by decide +kernel
theorem dX10_count_0 : decode cX10_count 0 = .ok (.aload_n 0, 1) := by decide +kernel
theorem dX10_count_1 : decode cX10_count 1 = .ok (.invokevirtual 204, 3) := by decide +kernel
theorem dX10_count_4 : decode cX10_count 4 = .ok (.iload_n 1, 1) := by decide +kernel
theorem dX10_count_5 : decode cX10_count 5 = .ok (.tableswitch 119 0 8 #[51, 56, 61, 84, 90, 96, 102, 109, 114], 51) := by decide +kernel
theorem dX10_count_56 : decode cX10_count 56 = .ok (.aload_n 0, 1) := by decide +kernel
theorem dX10_count_57 : decode cX10_count 57 = .ok (.getfield 142, 3) := by decide +kernel
theorem dX10_count_60 : decode cX10_count 60 = .ok (.ireturn, 1) := by decide +kernel
theorem dX10_count_61 : decode cX10_count 61 = .ok (.aload_n 0, 1) := by decide +kernel
theorem dX10_count_62 : decode cX10_count 62 = .ok (.getfield 139, 3) := by decide +kernel
theorem dX10_count_65 : decode cX10_count 65 = .ok (.ireturn, 1) := by decide +kernel
theorem dX10_count_66 : decode cX10_count 66 = .ok (.aload_n 0, 1) := by decide +kernel
theorem dX10_count_67 : decode cX10_count 67 = .ok (.getfield 142, 3) := by decide +kernel
theorem dX10_count_70 : decode cX10_count 70 = .ok (.ifCond .ne 7, 3) := by decide +kernel
theorem dX10_count_73 : decode cX10_count 73 = .ok (.iconst 0, 1) := by decide +kernel
theorem dX10_count_74 : decode cX10_count 74 = .ok (.goto 14, 3) := by decide +kernel
theorem dX10_count_77 : decode cX10_count 77 = .ok (.aload_n 0, 1) := by decide +kernel
theorem dX10_count_78 : decode cX10_count 78 = .ok (.getfield 68, 3) := by decide +kernel
theorem dX10_count_81 : decode cX10_count 81 = .ok (.aload_n 0, 1) := by decide +kernel
theorem dX10_count_82 : decode cX10_count 82 = .ok (.getfield 50, 3) := by decide +kernel
theorem dX10_count_85 : decode cX10_count 85 = .ok (.iconst 0, 1) := by decide +kernel
theorem dX10_count_86 : decode cX10_count 86 = .ok (.iaload, 1) := by decide +kernel
theorem dX10_count_87 : decode cX10_count 87 = .ok (.iaload, 1) := by decide +kernel
theorem dX10_count_88 : decode cX10_count 88 = .ok (.ireturn, 1) := by decide +kernel
theorem dX10_count_89 : decode cX10_count 89 = .ok (.aload_n 0, 1) := by decide +kernel
theorem dX10_count_90 : decode cX10_count 90 = .ok (.iconst 0, 1) := by decide +kernel
theorem dX10_count_91 : decode cX10_count 91 = .ok (.invokevirtual 253, 3) := by decide +kernel
theorem dX10_count_94 : decode cX10_count 94 = .ok (.ireturn, 1) := by decide +kernel
theorem dX10_count_95 : decode cX10_count 95 = .ok (.aload_n 0, 1) := by decide +kernel
theorem dX10_count_96 : decode cX10_count 96 = .ok (.iconst (-1), 1) := by decide +kernel
theorem dX10_count_97 : decode cX10_count 97 = .ok (.invokevirtual 265, 3) := by decide +kernel
theorem dX10_count_100 : decode cX10_count 100 = .ok (.ireturn, 1) := by decide +kernel
theorem dX10_count_101 : decode cX10_count 101 = .ok (.aload_n 0, 1) := by decide +kernel
theorem dX10_count_102 : decode cX10_count 102 = .ok (.iconst (-1), 1) := by decide +kernel
theorem dX10_count_103 : decode cX10_count 103 = .ok (.invokevirtual 271, 3) := by decide +kernel
theorem dX10_count_106 : decode cX10_count 106 = .ok (.ireturn, 1) := by decide +kernel
theorem dX10_count_107 : decode cX10_count 107 = .ok (.aload_n 0, 1) := by decide +kernel
theorem dX10_count_108 : decode cX10_count 108 = .ok (.iconst (-1), 1) := by decide +kernel
theorem dX10_count_109 : decode cX10_count 109 = .ok (.iconst 0, 1) := by decide +kernel
theorem dX10_count_110 : decode cX10_count 110 = .ok (.invokevirtual 298, 3) := by decide +kernel
theorem dX10_count_113 : decode cX10_count 113 = .ok (.ireturn, 1) := by decide +kernel
theorem dX10_count_114 : decode cX10_count 114 = .ok (.aload_n 0, 1) := by decide +kernel
theorem dX10_count_115 : decode cX10_count 115 = .ok (.invokevirtual 274, 3) := by decide +kernel
theorem dX10_count_118 : decode cX10_count 118 = .ok (.ireturn, 1) := by decide +kernel
theorem dX10_count_119 : decode cX10_count 119 = .ok (.aload_n 0, 1) := by decide +kernel
theorem dX10_count_120 : decode cX10_count 120 = .ok (.getfield 105, 3) := by decide +kernel
theorem dX10_count_123 : decode cX10_count 123 = .ok (.ireturn, 1) := by decide +kernel
theorem dX10_count_124 : decode cX10_count 124 = .ok (.bipush (-2), 2) := by decide +kernel
theorem dX10_count_126 : decode cX10_count 126 = .ok (.ireturn, 1) := by decide +kernel
theorem dX10_tellsKey_0 : decode cX10_tellsKey 0 = .ok (.ldc2_w 301, 3) := by decide +kernel
theorem dX10_tellsKey_3 : decode cX10_tellsKey 3 = .ok (.lload_n 1, 1) := by decide +kernel
theorem dX10_tellsKey_4 : decode cX10_tellsKey 4 = .ok (.lmul, 1) := by decide +kernel
theorem dX10_tellsKey_5 : decode cX10_tellsKey 5 = .ok (.aload_n 0, 1) := by decide +kernel
theorem dX10_tellsKey_6 : decode cX10_tellsKey 6 = .ok (.iload_n 3, 1) := by decide +kernel
theorem dX10_tellsKey_7 : decode cX10_tellsKey 7 = .ok (.iconst 0, 1) := by decide +kernel
theorem dX10_tellsKey_8 : decode cX10_tellsKey 8 = .ok (.invokevirtual 303, 3) := by decide +kernel
theorem dX10_tellsKey_11 : decode cX10_tellsKey 11 = .ok (.i2l, 1) := by decide +kernel
theorem dX10_tellsKey_12 : decode cX10_tellsKey 12 = .ok (.ladd, 1) := by decide +kernel
theorem dX10_tellsKey_13 : decode cX10_tellsKey 13 = .ok (.lstore 4, 2) := by decide +kernel
theorem dX10_tellsKey_15 : decode cX10_tellsKey 15 = .ok (.ldc2_w 301, 3) := by decide +kernel
theorem dX10_tellsKey_18 : decode cX10_tellsKey 18 = .ok (.lload 4, 2) := by decide +kernel
theorem dX10_tellsKey_20 : decode cX10_tellsKey 20 = .ok (.lmul, 1) := by decide +kernel
theorem dX10_tellsKey_21 : decode cX10_tellsKey 21 = .ok (.aload_n 0, 1) := by decide +kernel
theorem dX10_tellsKey_22 : decode cX10_tellsKey 22 = .ok (.iload_n 3, 1) := by decide +kernel
theorem dX10_tellsKey_23 : decode cX10_tellsKey 23 = .ok (.iconst 1, 1) := by decide +kernel
theorem dX10_tellsKey_24 : decode cX10_tellsKey 24 = .ok (.invokevirtual 303, 3) := by decide +kernel
theorem dX10_tellsKey_27 : decode cX10_tellsKey 27 = .ok (.i2l, 1) := by decide +kernel
theorem dX10_tellsKey_28 : decode cX10_tellsKey 28 = .ok (.ladd, 1) := by decide +kernel
theorem dX10_tellsKey_29 : decode cX10_tellsKey 29 = .ok (.lstore 4, 2) := by decide +kernel
theorem dX10_tellsKey_31 : decode cX10_tellsKey 31 = .ok (.ldc2_w 301, 3) := by decide +kernel
theorem dX10_tellsKey_34 : decode cX10_tellsKey 34 = .ok (.lload 4, 2) := by decide +kernel
theorem dX10_tellsKey_36 : decode cX10_tellsKey 36 = .ok (.lmul, 1) := by decide +kernel
theorem dX10_tellsKey_37 : decode cX10_tellsKey 37 = .ok (.aload_n 0, 1) := by decide +kernel
theorem dX10_tellsKey_38 : decode cX10_tellsKey 38 = .ok (.iload_n 3, 1) := by decide +kernel
theorem dX10_tellsKey_39 : decode cX10_tellsKey 39 = .ok (.invokevirtual 306, 3) := by decide +kernel
theorem dX10_tellsKey_42 : decode cX10_tellsKey 42 = .ok (.i2l, 1) := by decide +kernel
theorem dX10_tellsKey_43 : decode cX10_tellsKey 43 = .ok (.ladd, 1) := by decide +kernel
theorem dX10_tellsKey_44 : decode cX10_tellsKey 44 = .ok (.lstore 4, 2) := by decide +kernel
theorem dX10_tellsKey_46 : decode cX10_tellsKey 46 = .ok (.iconst 0, 1) := by decide +kernel
theorem dX10_tellsKey_47 : decode cX10_tellsKey 47 = .ok (.istore 6, 2) := by decide +kernel
theorem dX10_tellsKey_49 : decode cX10_tellsKey 49 = .ok (.iload 6, 2) := by decide +kernel
theorem dX10_tellsKey_51 : decode cX10_tellsKey 51 = .ok (.bipush 6, 2) := by decide +kernel
theorem dX10_tellsKey_53 : decode cX10_tellsKey 53 = .ok (.if_icmp .ge 26, 3) := by decide +kernel
theorem dX10_tellsKey_56 : decode cX10_tellsKey 56 = .ok (.ldc2_w 301, 3) := by decide +kernel
theorem dX10_tellsKey_59 : decode cX10_tellsKey 59 = .ok (.lload 4, 2) := by decide +kernel
theorem dX10_tellsKey_61 : decode cX10_tellsKey 61 = .ok (.lmul, 1) := by decide +kernel
theorem dX10_tellsKey_62 : decode cX10_tellsKey 62 = .ok (.aload_n 0, 1) := by decide +kernel
theorem dX10_tellsKey_63 : decode cX10_tellsKey 63 = .ok (.iload_n 3, 1) := by decide +kernel
theorem dX10_tellsKey_64 : decode cX10_tellsKey 64 = .ok (.iload 6, 2) := by decide +kernel
theorem dX10_tellsKey_66 : decode cX10_tellsKey 66 = .ok (.invokevirtual 309, 3) := by decide +kernel
theorem dX10_tellsKey_69 : decode cX10_tellsKey 69 = .ok (.i2l, 1) := by decide +kernel
theorem dX10_tellsKey_70 : decode cX10_tellsKey 70 = .ok (.ladd, 1) := by decide +kernel
theorem dX10_tellsKey_71 : decode cX10_tellsKey 71 = .ok (.lstore 4, 2) := by decide +kernel
theorem dX10_tellsKey_73 : decode cX10_tellsKey 73 = .ok (.iinc 6 1, 3) := by decide +kernel
theorem dX10_tellsKey_76 : decode cX10_tellsKey 76 = .ok (.goto (-27), 3) := by decide +kernel
theorem dX10_tellsKey_79 : decode cX10_tellsKey 79 = .ok (.ldc2_w 301, 3) := by decide +kernel
theorem dX10_tellsKey_82 : decode cX10_tellsKey 82 = .ok (.lload 4, 2) := by decide +kernel
theorem dX10_tellsKey_84 : decode cX10_tellsKey 84 = .ok (.lmul, 1) := by decide +kernel
theorem dX10_tellsKey_85 : decode cX10_tellsKey 85 = .ok (.aload_n 0, 1) := by decide +kernel
theorem dX10_tellsKey_86 : decode cX10_tellsKey 86 = .ok (.iload_n 3, 1) := by decide +kernel
theorem dX10_tellsKey_87 : decode cX10_tellsKey 87 = .ok (.invokevirtual 312, 3) := by decide +kernel
theorem dX10_tellsKey_90 : decode cX10_tellsKey 90 = .ok (.i2l, 1) := by decide +kernel
theorem dX10_tellsKey_91 : decode cX10_tellsKey 91 = .ok (.ladd, 1) := by decide +kernel
theorem dX10_tellsKey_92 : decode cX10_tellsKey 92 = .ok (.lstore 4, 2) := by decide +kernel
theorem dX10_tellsKey_94 : decode cX10_tellsKey 94 = .ok (.ldc2_w 301, 3) := by decide +kernel
theorem dX10_tellsKey_97 : decode cX10_tellsKey 97 = .ok (.lload 4, 2) := by decide +kernel
theorem dX10_tellsKey_99 : decode cX10_tellsKey 99 = .ok (.lmul, 1) := by decide +kernel
theorem dX10_tellsKey_100 : decode cX10_tellsKey 100 = .ok (.aload_n 0, 1) := by decide +kernel
theorem dX10_tellsKey_101 : decode cX10_tellsKey 101 = .ok (.iload_n 3, 1) := by decide +kernel
theorem dX10_tellsKey_102 : decode cX10_tellsKey 102 = .ok (.invokevirtual 265, 3) := by decide +kernel
theorem dX10_tellsKey_105 : decode cX10_tellsKey 105 = .ok (.i2l, 1) := by decide +kernel
theorem dX10_tellsKey_106 : decode cX10_tellsKey 106 = .ok (.ladd, 1) := by decide +kernel
theorem dX10_tellsKey_107 : decode cX10_tellsKey 107 = .ok (.lstore 4, 2) := by decide +kernel
theorem dX10_tellsKey_109 : decode cX10_tellsKey 109 = .ok (.ldc2_w 301, 3) := by decide +kernel
theorem dX10_tellsKey_112 : decode cX10_tellsKey 112 = .ok (.lload 4, 2) := by decide +kernel
theorem dX10_tellsKey_114 : decode cX10_tellsKey 114 = .ok (.lmul, 1) := by decide +kernel
theorem dX10_tellsKey_115 : decode cX10_tellsKey 115 = .ok (.aload_n 0, 1) := by decide +kernel
theorem dX10_tellsKey_116 : decode cX10_tellsKey 116 = .ok (.iload_n 3, 1) := by decide +kernel
theorem dX10_tellsKey_117 : decode cX10_tellsKey 117 = .ok (.iconst 0, 1) := by decide +kernel
theorem dX10_tellsKey_118 : decode cX10_tellsKey 118 = .ok (.invokevirtual 298, 3) := by decide +kernel
theorem dX10_tellsKey_121 : decode cX10_tellsKey 121 = .ok (.i2l, 1) := by decide +kernel
theorem dX10_tellsKey_122 : decode cX10_tellsKey 122 = .ok (.ladd, 1) := by decide +kernel
theorem dX10_tellsKey_123 : decode cX10_tellsKey 123 = .ok (.lstore 4, 2) := by decide +kernel
theorem dX10_tellsKey_125 : decode cX10_tellsKey 125 = .ok (.ldc2_w 301, 3) := by decide +kernel
theorem dX10_tellsKey_128 : decode cX10_tellsKey 128 = .ok (.lload 4, 2) := by decide +kernel
theorem dX10_tellsKey_130 : decode cX10_tellsKey 130 = .ok (.lmul, 1) := by decide +kernel
theorem dX10_tellsKey_131 : decode cX10_tellsKey 131 = .ok (.aload_n 0, 1) := by decide +kernel
theorem dX10_tellsKey_132 : decode cX10_tellsKey 132 = .ok (.iload_n 3, 1) := by decide +kernel
theorem dX10_tellsKey_133 : decode cX10_tellsKey 133 = .ok (.iconst 1, 1) := by decide +kernel
theorem dX10_tellsKey_134 : decode cX10_tellsKey 134 = .ok (.invokevirtual 298, 3) := by decide +kernel
theorem dX10_tellsKey_137 : decode cX10_tellsKey 137 = .ok (.i2l, 1) := by decide +kernel
theorem dX10_tellsKey_138 : decode cX10_tellsKey 138 = .ok (.ladd, 1) := by decide +kernel
theorem dX10_tellsKey_139 : decode cX10_tellsKey 139 = .ok (.lreturn, 1) := by decide +kernel
theorem dX10_tellsPoint_0 : decode cX10_tellsPoint 0 = .ok (.ldc2_w 301, 3) := by decide +kernel
theorem dX10_tellsPoint_3 : decode cX10_tellsPoint 3 = .ok (.lload_n 1, 1) := by decide +kernel
theorem dX10_tellsPoint_4 : decode cX10_tellsPoint 4 = .ok (.lmul, 1) := by decide +kernel
theorem dX10_tellsPoint_5 : decode cX10_tellsPoint 5 = .ok (.aload_n 0, 1) := by decide +kernel
theorem dX10_tellsPoint_6 : decode cX10_tellsPoint 6 = .ok (.iload_n 3, 1) := by decide +kernel
theorem dX10_tellsPoint_7 : decode cX10_tellsPoint 7 = .ok (.iconst (-1), 1) := by decide +kernel
theorem dX10_tellsPoint_8 : decode cX10_tellsPoint 8 = .ok (.invokevirtual 315, 3) := by decide +kernel
theorem dX10_tellsPoint_11 : decode cX10_tellsPoint 11 = .ok (.i2l, 1) := by decide +kernel
theorem dX10_tellsPoint_12 : decode cX10_tellsPoint 12 = .ok (.ladd, 1) := by decide +kernel
theorem dX10_tellsPoint_13 : decode cX10_tellsPoint 13 = .ok (.lstore 4, 2) := by decide +kernel
theorem dX10_tellsPoint_15 : decode cX10_tellsPoint 15 = .ok (.ldc2_w 301, 3) := by decide +kernel
theorem dX10_tellsPoint_18 : decode cX10_tellsPoint 18 = .ok (.lload 4, 2) := by decide +kernel
theorem dX10_tellsPoint_20 : decode cX10_tellsPoint 20 = .ok (.lmul, 1) := by decide +kernel
theorem dX10_tellsPoint_21 : decode cX10_tellsPoint 21 = .ok (.aload_n 0, 1) := by decide +kernel
theorem dX10_tellsPoint_22 : decode cX10_tellsPoint 22 = .ok (.iload_n 3, 1) := by decide +kernel
theorem dX10_tellsPoint_23 : decode cX10_tellsPoint 23 = .ok (.iconst 1, 1) := by decide +kernel
theorem dX10_tellsPoint_24 : decode cX10_tellsPoint 24 = .ok (.invokevirtual 315, 3) := by decide +kernel
theorem dX10_tellsPoint_27 : decode cX10_tellsPoint 27 = .ok (.i2l, 1) := by decide +kernel
theorem dX10_tellsPoint_28 : decode cX10_tellsPoint 28 = .ok (.ladd, 1) := by decide +kernel
theorem dX10_tellsPoint_29 : decode cX10_tellsPoint 29 = .ok (.lstore 4, 2) := by decide +kernel
theorem dX10_tellsPoint_31 : decode cX10_tellsPoint 31 = .ok (.iconst 0, 1) := by decide +kernel
theorem dX10_tellsPoint_32 : decode cX10_tellsPoint 32 = .ok (.istore 6, 2) := by decide +kernel
theorem dX10_tellsPoint_34 : decode cX10_tellsPoint 34 = .ok (.iload 6, 2) := by decide +kernel
theorem dX10_tellsPoint_36 : decode cX10_tellsPoint 36 = .ok (.iconst 3, 1) := by decide +kernel
theorem dX10_tellsPoint_37 : decode cX10_tellsPoint 37 = .ok (.if_icmp .ge 28, 3) := by decide +kernel
theorem dX10_tellsPoint_40 : decode cX10_tellsPoint 40 = .ok (.ldc2_w 301, 3) := by decide +kernel
theorem dX10_tellsPoint_43 : decode cX10_tellsPoint 43 = .ok (.lload 4, 2) := by decide +kernel
theorem dX10_tellsPoint_45 : decode cX10_tellsPoint 45 = .ok (.lmul, 1) := by decide +kernel
theorem dX10_tellsPoint_46 : decode cX10_tellsPoint 46 = .ok (.aload_n 0, 1) := by decide +kernel
theorem dX10_tellsPoint_47 : decode cX10_tellsPoint 47 = .ok (.iload_n 3, 1) := by decide +kernel
theorem dX10_tellsPoint_48 : decode cX10_tellsPoint 48 = .ok (.bipush 7, 2) := by decide +kernel
theorem dX10_tellsPoint_50 : decode cX10_tellsPoint 50 = .ok (.iload 6, 2) := by decide +kernel
theorem dX10_tellsPoint_52 : decode cX10_tellsPoint 52 = .ok (.invokevirtual 250, 3) := by decide +kernel
theorem dX10_tellsPoint_55 : decode cX10_tellsPoint 55 = .ok (.i2l, 1) := by decide +kernel
theorem dX10_tellsPoint_56 : decode cX10_tellsPoint 56 = .ok (.ladd, 1) := by decide +kernel
theorem dX10_tellsPoint_57 : decode cX10_tellsPoint 57 = .ok (.lstore 4, 2) := by decide +kernel
theorem dX10_tellsPoint_59 : decode cX10_tellsPoint 59 = .ok (.iinc 6 1, 3) := by decide +kernel
theorem dX10_tellsPoint_62 : decode cX10_tellsPoint 62 = .ok (.goto (-28), 3) := by decide +kernel
theorem dX10_tellsPoint_65 : decode cX10_tellsPoint 65 = .ok (.lload 4, 2) := by decide +kernel
theorem dX10_tellsPoint_67 : decode cX10_tellsPoint 67 = .ok (.lreturn, 1) := by decide +kernel
theorem dX10_tellsStretch_0 : decode cX10_tellsStretch 0 = .ok (.ldc2_w 301, 3) := by decide +kernel
theorem dX10_tellsStretch_3 : decode cX10_tellsStretch 3 = .ok (.lload_n 1, 1) := by decide +kernel
theorem dX10_tellsStretch_4 : decode cX10_tellsStretch 4 = .ok (.lmul, 1) := by decide +kernel
theorem dX10_tellsStretch_5 : decode cX10_tellsStretch 5 = .ok (.aload_n 0, 1) := by decide +kernel
theorem dX10_tellsStretch_6 : decode cX10_tellsStretch 6 = .ok (.iload_n 3, 1) := by decide +kernel
theorem dX10_tellsStretch_7 : decode cX10_tellsStretch 7 = .ok (.iload 4, 2) := by decide +kernel
theorem dX10_tellsStretch_9 : decode cX10_tellsStretch 9 = .ok (.invokevirtual 212, 3) := by decide +kernel
theorem dX10_tellsStretch_12 : decode cX10_tellsStretch 12 = .ok (.i2l, 1) := by decide +kernel
theorem dX10_tellsStretch_13 : decode cX10_tellsStretch 13 = .ok (.ladd, 1) := by decide +kernel
theorem dX10_tellsStretch_14 : decode cX10_tellsStretch 14 = .ok (.lstore 5, 2) := by decide +kernel
theorem dX10_tellsStretch_16 : decode cX10_tellsStretch 16 = .ok (.ldc2_w 301, 3) := by decide +kernel
theorem dX10_tellsStretch_19 : decode cX10_tellsStretch 19 = .ok (.lload 5, 2) := by decide +kernel
theorem dX10_tellsStretch_21 : decode cX10_tellsStretch 21 = .ok (.lmul, 1) := by decide +kernel
theorem dX10_tellsStretch_22 : decode cX10_tellsStretch 22 = .ok (.aload_n 0, 1) := by decide +kernel
theorem dX10_tellsStretch_23 : decode cX10_tellsStretch 23 = .ok (.iload_n 3, 1) := by decide +kernel
theorem dX10_tellsStretch_24 : decode cX10_tellsStretch 24 = .ok (.iload 4, 2) := by decide +kernel
theorem dX10_tellsStretch_26 : decode cX10_tellsStretch 26 = .ok (.iconst (-1), 1) := by decide +kernel
theorem dX10_tellsStretch_27 : decode cX10_tellsStretch 27 = .ok (.invokevirtual 221, 3) := by decide +kernel
theorem dX10_tellsStretch_30 : decode cX10_tellsStretch 30 = .ok (.i2l, 1) := by decide +kernel
theorem dX10_tellsStretch_31 : decode cX10_tellsStretch 31 = .ok (.ladd, 1) := by decide +kernel
theorem dX10_tellsStretch_32 : decode cX10_tellsStretch 32 = .ok (.lstore 5, 2) := by decide +kernel
theorem dX10_tellsStretch_34 : decode cX10_tellsStretch 34 = .ok (.ldc2_w 301, 3) := by decide +kernel
theorem dX10_tellsStretch_37 : decode cX10_tellsStretch 37 = .ok (.lload 5, 2) := by decide +kernel
theorem dX10_tellsStretch_39 : decode cX10_tellsStretch 39 = .ok (.lmul, 1) := by decide +kernel
theorem dX10_tellsStretch_40 : decode cX10_tellsStretch 40 = .ok (.aload_n 0, 1) := by decide +kernel
theorem dX10_tellsStretch_41 : decode cX10_tellsStretch 41 = .ok (.iload_n 3, 1) := by decide +kernel
theorem dX10_tellsStretch_42 : decode cX10_tellsStretch 42 = .ok (.iload 4, 2) := by decide +kernel
theorem dX10_tellsStretch_44 : decode cX10_tellsStretch 44 = .ok (.iconst 0, 1) := by decide +kernel
theorem dX10_tellsStretch_45 : decode cX10_tellsStretch 45 = .ok (.invokevirtual 221, 3) := by decide +kernel
theorem dX10_tellsStretch_48 : decode cX10_tellsStretch 48 = .ok (.i2l, 1) := by decide +kernel
theorem dX10_tellsStretch_49 : decode cX10_tellsStretch 49 = .ok (.ladd, 1) := by decide +kernel
theorem dX10_tellsStretch_50 : decode cX10_tellsStretch 50 = .ok (.lstore 5, 2) := by decide +kernel
theorem dX10_tellsStretch_52 : decode cX10_tellsStretch 52 = .ok (.ldc2_w 301, 3) := by decide +kernel
theorem dX10_tellsStretch_55 : decode cX10_tellsStretch 55 = .ok (.lload 5, 2) := by decide +kernel
theorem dX10_tellsStretch_57 : decode cX10_tellsStretch 57 = .ok (.lmul, 1) := by decide +kernel
theorem dX10_tellsStretch_58 : decode cX10_tellsStretch 58 = .ok (.aload_n 0, 1) := by decide +kernel
theorem dX10_tellsStretch_59 : decode cX10_tellsStretch 59 = .ok (.iload_n 3, 1) := by decide +kernel
theorem dX10_tellsStretch_60 : decode cX10_tellsStretch 60 = .ok (.iload 4, 2) := by decide +kernel
theorem dX10_tellsStretch_62 : decode cX10_tellsStretch 62 = .ok (.invokevirtual 227, 3) := by decide +kernel
theorem dX10_tellsStretch_65 : decode cX10_tellsStretch 65 = .ok (.i2l, 1) := by decide +kernel
theorem dX10_tellsStretch_66 : decode cX10_tellsStretch 66 = .ok (.ladd, 1) := by decide +kernel
theorem dX10_tellsStretch_67 : decode cX10_tellsStretch 67 = .ok (.lstore 5, 2) := by decide +kernel
theorem dX10_tellsStretch_69 : decode cX10_tellsStretch 69 = .ok (.ldc2_w 301, 3) := by decide +kernel
theorem dX10_tellsStretch_72 : decode cX10_tellsStretch 72 = .ok (.lload 5, 2) := by decide +kernel
theorem dX10_tellsStretch_74 : decode cX10_tellsStretch 74 = .ok (.lmul, 1) := by decide +kernel
theorem dX10_tellsStretch_75 : decode cX10_tellsStretch 75 = .ok (.aload_n 0, 1) := by decide +kernel
end
section
theorem dX10_tellsStretch_76 : decode cX10_tellsStretch 76 = .ok (.iload_n 3, 1) := by decide +kernel
theorem dX10_tellsStretch_77 : decode cX10_tellsStretch 77 = .ok (.iload 4, 2) := by decide +kernel
theorem dX10_tellsStretch_79 : decode cX10_tellsStretch 79 = .ok (.invokevirtual 224, 3) := by decide +kernel
theorem dX10_tellsStretch_82 : decode cX10_tellsStretch 82 = .ok (.i2l, 1) := by decide +kernel
theorem dX10_tellsStretch_83 : decode cX10_tellsStretch 83 = .ok (.ladd, 1) := by decide +kernel
theorem dX10_tellsStretch_84 : decode cX10_tellsStretch 84 = .ok (.lstore 5, 2) := by decide +kernel
theorem dX10_tellsStretch_86 : decode cX10_tellsStretch 86 = .ok (.iconst 0, 1) := by decide +kernel
theorem dX10_tellsStretch_87 : decode cX10_tellsStretch 87 = .ok (.istore 7, 2) := by decide +kernel
theorem dX10_tellsStretch_89 : decode cX10_tellsStretch 89 = .ok (.iload 7, 2) := by decide +kernel
theorem dX10_tellsStretch_91 : decode cX10_tellsStretch 91 = .ok (.iconst 2, 1) := by decide +kernel
theorem dX10_tellsStretch_92 : decode cX10_tellsStretch 92 = .ok (.if_icmp .ge 49, 3) := by decide +kernel
theorem dX10_tellsStretch_95 : decode cX10_tellsStretch 95 = .ok (.ldc2_w 301, 3) := by decide +kernel
theorem dX10_tellsStretch_98 : decode cX10_tellsStretch 98 = .ok (.lload 5, 2) := by decide +kernel
theorem dX10_tellsStretch_100 : decode cX10_tellsStretch 100 = .ok (.lmul, 1) := by decide +kernel
theorem dX10_tellsStretch_101 : decode cX10_tellsStretch 101 = .ok (.aload_n 0, 1) := by decide +kernel
theorem dX10_tellsStretch_102 : decode cX10_tellsStretch 102 = .ok (.iload_n 3, 1) := by decide +kernel
theorem dX10_tellsStretch_103 : decode cX10_tellsStretch 103 = .ok (.iload 4, 2) := by decide +kernel
theorem dX10_tellsStretch_105 : decode cX10_tellsStretch 105 = .ok (.iload 7, 2) := by decide +kernel
theorem dX10_tellsStretch_107 : decode cX10_tellsStretch 107 = .ok (.iconst 0, 1) := by decide +kernel
theorem dX10_tellsStretch_108 : decode cX10_tellsStretch 108 = .ok (.invokevirtual 232, 3) := by decide +kernel
theorem dX10_tellsStretch_111 : decode cX10_tellsStretch 111 = .ok (.i2l, 1) := by decide +kernel
theorem dX10_tellsStretch_112 : decode cX10_tellsStretch 112 = .ok (.ladd, 1) := by decide +kernel
theorem dX10_tellsStretch_113 : decode cX10_tellsStretch 113 = .ok (.lstore 5, 2) := by decide +kernel
theorem dX10_tellsStretch_115 : decode cX10_tellsStretch 115 = .ok (.ldc2_w 301, 3) := by decide +kernel
theorem dX10_tellsStretch_118 : decode cX10_tellsStretch 118 = .ok (.lload 5, 2) := by decide +kernel
theorem dX10_tellsStretch_120 : decode cX10_tellsStretch 120 = .ok (.lmul, 1) := by decide +kernel
theorem dX10_tellsStretch_121 : decode cX10_tellsStretch 121 = .ok (.aload_n 0, 1) := by decide +kernel
theorem dX10_tellsStretch_122 : decode cX10_tellsStretch 122 = .ok (.iload_n 3, 1) := by decide +kernel
theorem dX10_tellsStretch_123 : decode cX10_tellsStretch 123 = .ok (.iload 4, 2) := by decide +kernel
theorem dX10_tellsStretch_125 : decode cX10_tellsStretch 125 = .ok (.iload 7, 2) := by decide +kernel
theorem dX10_tellsStretch_127 : decode cX10_tellsStretch 127 = .ok (.iconst 1, 1) := by decide +kernel
theorem dX10_tellsStretch_128 : decode cX10_tellsStretch 128 = .ok (.invokevirtual 232, 3) := by decide +kernel
theorem dX10_tellsStretch_131 : decode cX10_tellsStretch 131 = .ok (.i2l, 1) := by decide +kernel
theorem dX10_tellsStretch_132 : decode cX10_tellsStretch 132 = .ok (.ladd, 1) := by decide +kernel
theorem dX10_tellsStretch_133 : decode cX10_tellsStretch 133 = .ok (.lstore 5, 2) := by decide +kernel
theorem dX10_tellsStretch_135 : decode cX10_tellsStretch 135 = .ok (.iinc 7 1, 3) := by decide +kernel
theorem dX10_tellsStretch_138 : decode cX10_tellsStretch 138 = .ok (.goto (-49), 3) := by decide +kernel
theorem dX10_tellsStretch_141 : decode cX10_tellsStretch 141 = .ok (.lload 5, 2) := by decide +kernel
theorem dX10_tellsStretch_143 : decode cX10_tellsStretch 143 = .ok (.lreturn, 1) := by decide +kernel
theorem dX10_digest_0 : decode cX10_digest 0 = .ok (.ldc2_w 318, 3) := by decide +kernel
theorem dX10_digest_3 : decode cX10_digest 3 = .ok (.lstore_n 1, 1) := by decide +kernel
theorem dX10_digest_4 : decode cX10_digest 4 = .ok (.iconst 0, 1) := by decide +kernel
theorem dX10_digest_5 : decode cX10_digest 5 = .ok (.istore_n 3, 1) := by decide +kernel
theorem dX10_digest_6 : decode cX10_digest 6 = .ok (.iload_n 3, 1) := by decide +kernel
theorem dX10_digest_7 : decode cX10_digest 7 = .ok (.bipush 8, 2) := by decide +kernel
theorem dX10_digest_9 : decode cX10_digest 9 = .ok (.if_icmp .ge 22, 3) := by decide +kernel
theorem dX10_digest_12 : decode cX10_digest 12 = .ok (.ldc2_w 301, 3) := by decide +kernel
theorem dX10_digest_15 : decode cX10_digest 15 = .ok (.lload_n 1, 1) := by decide +kernel
theorem dX10_digest_16 : decode cX10_digest 16 = .ok (.lmul, 1) := by decide +kernel
theorem dX10_digest_17 : decode cX10_digest 17 = .ok (.aload_n 0, 1) := by decide +kernel
theorem dX10_digest_18 : decode cX10_digest 18 = .ok (.iload_n 3, 1) := by decide +kernel
theorem dX10_digest_19 : decode cX10_digest 19 = .ok (.invokevirtual 320, 3) := by decide +kernel
theorem dX10_digest_22 : decode cX10_digest 22 = .ok (.i2l, 1) := by decide +kernel
theorem dX10_digest_23 : decode cX10_digest 23 = .ok (.ladd, 1) := by decide +kernel
theorem dX10_digest_24 : decode cX10_digest 24 = .ok (.lstore_n 1, 1) := by decide +kernel
theorem dX10_digest_25 : decode cX10_digest 25 = .ok (.iinc 3 1, 3) := by decide +kernel
theorem dX10_digest_28 : decode cX10_digest 28 = .ok (.goto (-22), 3) := by decide +kernel
theorem dX10_digest_31 : decode cX10_digest 31 = .ok (.ldc2_w 301, 3) := by decide +kernel
theorem dX10_digest_34 : decode cX10_digest 34 = .ok (.lload_n 1, 1) := by decide +kernel
theorem dX10_digest_35 : decode cX10_digest 35 = .ok (.lmul, 1) := by decide +kernel
theorem dX10_digest_36 : decode cX10_digest 36 = .ok (.aload_n 0, 1) := by decide +kernel
theorem dX10_digest_37 : decode cX10_digest 37 = .ok (.invokevirtual 323, 3) := by decide +kernel
theorem dX10_digest_40 : decode cX10_digest 40 = .ok (.i2l, 1) := by decide +kernel
theorem dX10_digest_41 : decode cX10_digest 41 = .ok (.ladd, 1) := by decide +kernel
theorem dX10_digest_42 : decode cX10_digest 42 = .ok (.lstore_n 1, 1) := by decide +kernel
theorem dX10_digest_43 : decode cX10_digest 43 = .ok (.ldc2_w 301, 3) := by decide +kernel
theorem dX10_digest_46 : decode cX10_digest 46 = .ok (.lload_n 1, 1) := by decide +kernel
theorem dX10_digest_47 : decode cX10_digest 47 = .ok (.lmul, 1) := by decide +kernel
theorem dX10_digest_48 : decode cX10_digest 48 = .ok (.aload_n 0, 1) := by decide +kernel
theorem dX10_digest_49 : decode cX10_digest 49 = .ok (.iconst 1, 1) := by decide +kernel
theorem dX10_digest_50 : decode cX10_digest 50 = .ok (.invokevirtual 253, 3) := by decide +kernel
theorem dX10_digest_53 : decode cX10_digest 53 = .ok (.i2l, 1) := by decide +kernel
theorem dX10_digest_54 : decode cX10_digest 54 = .ok (.ladd, 1) := by decide +kernel
theorem dX10_digest_55 : decode cX10_digest 55 = .ok (.lstore_n 1, 1) := by decide +kernel
theorem dX10_digest_56 : decode cX10_digest 56 = .ok (.ldc2_w 301, 3) := by decide +kernel
theorem dX10_digest_59 : decode cX10_digest 59 = .ok (.lload_n 1, 1) := by decide +kernel
theorem dX10_digest_60 : decode cX10_digest 60 = .ok (.lmul, 1) := by decide +kernel
theorem dX10_digest_61 : decode cX10_digest 61 = .ok (.aload_n 0, 1) := by decide +kernel
theorem dX10_digest_62 : decode cX10_digest 62 = .ok (.invokevirtual 288, 3) := by decide +kernel
theorem dX10_digest_65 : decode cX10_digest 65 = .ok (.ladd, 1) := by decide +kernel
theorem dX10_digest_66 : decode cX10_digest 66 = .ok (.lstore_n 1, 1) := by decide +kernel
theorem dX10_digest_67 : decode cX10_digest 67 = .ok (.iconst 0, 1) := by decide +kernel
theorem dX10_digest_68 : decode cX10_digest 68 = .ok (.istore_n 3, 1) := by decide +kernel
theorem dX10_digest_69 : decode cX10_digest 69 = .ok (.iload_n 3, 1) := by decide +kernel
theorem dX10_digest_70 : decode cX10_digest 70 = .ok (.bipush 48, 2) := by decide +kernel
theorem dX10_digest_72 : decode cX10_digest 72 = .ok (.if_icmp .ge 16, 3) := by decide +kernel
theorem dX10_digest_75 : decode cX10_digest 75 = .ok (.aload_n 0, 1) := by decide +kernel
theorem dX10_digest_76 : decode cX10_digest 76 = .ok (.lload_n 1, 1) := by decide +kernel
theorem dX10_digest_77 : decode cX10_digest 77 = .ok (.iload_n 3, 1) := by decide +kernel
theorem dX10_digest_78 : decode cX10_digest 78 = .ok (.invokevirtual 326, 3) := by decide +kernel
theorem dX10_digest_81 : decode cX10_digest 81 = .ok (.lstore_n 1, 1) := by decide +kernel
theorem dX10_digest_82 : decode cX10_digest 82 = .ok (.iinc 3 1, 3) := by decide +kernel
theorem dX10_digest_85 : decode cX10_digest 85 = .ok (.goto (-16), 3) := by decide +kernel
theorem dX10_digest_88 : decode cX10_digest 88 = .ok (.iconst 0, 1) := by decide +kernel
theorem dX10_digest_89 : decode cX10_digest 89 = .ok (.istore_n 3, 1) := by decide +kernel
theorem dX10_digest_90 : decode cX10_digest 90 = .ok (.iload_n 3, 1) := by decide +kernel
theorem dX10_digest_91 : decode cX10_digest 91 = .ok (.bipush 48, 2) := by decide +kernel
theorem dX10_digest_93 : decode cX10_digest 93 = .ok (.if_icmp .ge 35, 3) := by decide +kernel
theorem dX10_digest_96 : decode cX10_digest 96 = .ok (.ldc2_w 301, 3) := by decide +kernel
theorem dX10_digest_99 : decode cX10_digest 99 = .ok (.lload_n 1, 1) := by decide +kernel
theorem dX10_digest_100 : decode cX10_digest 100 = .ok (.lmul, 1) := by decide +kernel
theorem dX10_digest_101 : decode cX10_digest 101 = .ok (.aload_n 0, 1) := by decide +kernel
theorem dX10_digest_102 : decode cX10_digest 102 = .ok (.iload_n 3, 1) := by decide +kernel
theorem dX10_digest_103 : decode cX10_digest 103 = .ok (.invokevirtual 201, 3) := by decide +kernel
theorem dX10_digest_106 : decode cX10_digest 106 = .ok (.i2l, 1) := by decide +kernel
theorem dX10_digest_107 : decode cX10_digest 107 = .ok (.ladd, 1) := by decide +kernel
theorem dX10_digest_108 : decode cX10_digest 108 = .ok (.lstore_n 1, 1) := by decide +kernel
theorem dX10_digest_109 : decode cX10_digest 109 = .ok (.ldc2_w 301, 3) := by decide +kernel
theorem dX10_digest_112 : decode cX10_digest 112 = .ok (.lload_n 1, 1) := by decide +kernel
theorem dX10_digest_113 : decode cX10_digest 113 = .ok (.lmul, 1) := by decide +kernel
theorem dX10_digest_114 : decode cX10_digest 114 = .ok (.aload_n 0, 1) := by decide +kernel
theorem dX10_digest_115 : decode cX10_digest 115 = .ok (.iload_n 3, 1) := by decide +kernel
theorem dX10_digest_116 : decode cX10_digest 116 = .ok (.invokevirtual 271, 3) := by decide +kernel
theorem dX10_digest_119 : decode cX10_digest 119 = .ok (.i2l, 1) := by decide +kernel
theorem dX10_digest_120 : decode cX10_digest 120 = .ok (.ladd, 1) := by decide +kernel
theorem dX10_digest_121 : decode cX10_digest 121 = .ok (.lstore_n 1, 1) := by decide +kernel
theorem dX10_digest_122 : decode cX10_digest 122 = .ok (.iinc 3 1, 3) := by decide +kernel
theorem dX10_digest_125 : decode cX10_digest 125 = .ok (.goto (-35), 3) := by decide +kernel
theorem dX10_digest_128 : decode cX10_digest 128 = .ok (.iconst 0, 1) := by decide +kernel
theorem dX10_digest_129 : decode cX10_digest 129 = .ok (.istore_n 3, 1) := by decide +kernel
theorem dX10_digest_130 : decode cX10_digest 130 = .ok (.iload_n 3, 1) := by decide +kernel
theorem dX10_digest_131 : decode cX10_digest 131 = .ok (.bipush 31, 2) := by decide +kernel
theorem dX10_digest_133 : decode cX10_digest 133 = .ok (.if_icmp .ge 39, 3) := by decide +kernel
theorem dX10_digest_136 : decode cX10_digest 136 = .ok (.iconst 0, 1) := by decide +kernel
theorem dX10_digest_137 : decode cX10_digest 137 = .ok (.istore 4, 2) := by decide +kernel
theorem dX10_digest_139 : decode cX10_digest 139 = .ok (.iload 4, 2) := by decide +kernel
theorem dX10_digest_141 : decode cX10_digest 141 = .ok (.iconst 3, 1) := by decide +kernel
theorem dX10_digest_142 : decode cX10_digest 142 = .ok (.if_icmp .ge 24, 3) := by decide +kernel
theorem dX10_digest_145 : decode cX10_digest 145 = .ok (.ldc2_w 301, 3) := by decide +kernel
theorem dX10_digest_148 : decode cX10_digest 148 = .ok (.lload_n 1, 1) := by decide +kernel
theorem dX10_digest_149 : decode cX10_digest 149 = .ok (.lmul, 1) := by decide +kernel
theorem dX10_digest_150 : decode cX10_digest 150 = .ok (.aload_n 0, 1) := by decide +kernel
theorem dX10_digest_151 : decode cX10_digest 151 = .ok (.iload_n 3, 1) := by decide +kernel
theorem dX10_digest_152 : decode cX10_digest 152 = .ok (.iload 4, 2) := by decide +kernel
theorem dX10_digest_154 : decode cX10_digest 154 = .ok (.invokevirtual 285, 3) := by decide +kernel
theorem dX10_digest_157 : decode cX10_digest 157 = .ok (.i2l, 1) := by decide +kernel
theorem dX10_digest_158 : decode cX10_digest 158 = .ok (.ladd, 1) := by decide +kernel
theorem dX10_digest_159 : decode cX10_digest 159 = .ok (.lstore_n 1, 1) := by decide +kernel
theorem dX10_digest_160 : decode cX10_digest 160 = .ok (.iinc 4 1, 3) := by decide +kernel
theorem dX10_digest_163 : decode cX10_digest 163 = .ok (.goto (-24), 3) := by decide +kernel
theorem dX10_digest_166 : decode cX10_digest 166 = .ok (.iinc 3 1, 3) := by decide +kernel
theorem dX10_digest_169 : decode cX10_digest 169 = .ok (.goto (-39), 3) := by decide +kernel
theorem dX10_digest_172 : decode cX10_digest 172 = .ok (.bipush (-50), 2) := by decide +kernel
theorem dX10_digest_174 : decode cX10_digest 174 = .ok (.istore_n 3, 1) := by decide +kernel
theorem dX10_digest_175 : decode cX10_digest 175 = .ok (.iload_n 3, 1) := by decide +kernel
theorem dX10_digest_176 : decode cX10_digest 176 = .ok (.sipush 150, 3) := by decide +kernel
theorem dX10_digest_179 : decode cX10_digest 179 = .ok (.if_icmp .gt 16, 3) := by decide +kernel
theorem dX10_digest_182 : decode cX10_digest 182 = .ok (.aload_n 0, 1) := by decide +kernel
theorem dX10_digest_183 : decode cX10_digest 183 = .ok (.lload_n 1, 1) := by decide +kernel
theorem dX10_digest_184 : decode cX10_digest 184 = .ok (.iload_n 3, 1) := by decide +kernel
theorem dX10_digest_185 : decode cX10_digest 185 = .ok (.invokevirtual 330, 3) := by decide +kernel
theorem dX10_digest_188 : decode cX10_digest 188 = .ok (.lstore_n 1, 1) := by decide +kernel
theorem dX10_digest_189 : decode cX10_digest 189 = .ok (.iinc 3 20, 3) := by decide +kernel
theorem dX10_digest_192 : decode cX10_digest 192 = .ok (.goto (-17), 3) := by decide +kernel
theorem dX10_digest_195 : decode cX10_digest 195 = .ok (.bipush (-60), 2) := by decide +kernel
theorem dX10_digest_197 : decode cX10_digest 197 = .ok (.istore_n 3, 1) := by decide +kernel
theorem dX10_digest_198 : decode cX10_digest 198 = .ok (.iload_n 3, 1) := by decide +kernel
theorem dX10_digest_199 : decode cX10_digest 199 = .ok (.bipush 60, 2) := by decide +kernel
theorem dX10_digest_201 : decode cX10_digest 201 = .ok (.if_icmp .gt 20, 3) := by decide +kernel
theorem dX10_digest_204 : decode cX10_digest 204 = .ok (.aload_n 0, 1) := by decide +kernel
theorem dX10_digest_205 : decode cX10_digest 205 = .ok (.lload_n 1, 1) := by decide +kernel
theorem dX10_digest_206 : decode cX10_digest 206 = .ok (.iload_n 3, 1) := by decide +kernel
theorem dX10_digest_207 : decode cX10_digest 207 = .ok (.iload_n 3, 1) := by decide +kernel
theorem dX10_digest_208 : decode cX10_digest 208 = .ok (.bipush 90, 2) := by decide +kernel
theorem dX10_digest_210 : decode cX10_digest 210 = .ok (.iadd, 1) := by decide +kernel
theorem dX10_digest_211 : decode cX10_digest 211 = .ok (.invokevirtual 333, 3) := by decide +kernel
theorem dX10_digest_214 : decode cX10_digest 214 = .ok (.lstore_n 1, 1) := by decide +kernel
theorem dX10_digest_215 : decode cX10_digest 215 = .ok (.iinc 3 40, 3) := by decide +kernel
theorem dX10_digest_218 : decode cX10_digest 218 = .ok (.goto (-20), 3) := by decide +kernel
theorem dX10_digest_221 : decode cX10_digest 221 = .ok (.lload_n 1, 1) := by decide +kernel
theorem dX10_digest_222 : decode cX10_digest 222 = .ok (.lreturn, 1) := by decide +kernel
theorem dL_law_0 : decode cL_law 0 = .ok (.new 7, 3) := by decide +kernel
theorem dL_law_3 : decode cL_law 3 = .ok (.dup, 1) := by decide +kernel
theorem dL_law_4 : decode cL_law 4 = .ok (.invokespecial 9, 3) := by decide +kernel
theorem dL_law_7 : decode cL_law 7 = .ok (.astore_n 1, 1) := by decide +kernel
theorem dL_law_8 : decode cL_law 8 = .ok (.new 10, 3) := by decide +kernel
theorem dL_law_11 : decode cL_law 11 = .ok (.dup, 1) := by decide +kernel
theorem dL_law_12 : decode cL_law 12 = .ok (.invokespecial 12, 3) := by decide +kernel
theorem dL_law_15 : decode cL_law 15 = .ok (.astore_n 2, 1) := by decide +kernel
theorem dL_law_16 : decode cL_law 16 = .ok (.iconst 0, 1) := by decide +kernel
theorem dL_law_17 : decode cL_law 17 = .ok (.istore_n 3, 1) := by decide +kernel
theorem dL_law_18 : decode cL_law 18 = .ok (.iload_n 3, 1) := by decide +kernel
theorem dL_law_19 : decode cL_law 19 = .ok (.aload_n 0, 1) := by decide +kernel
theorem dL_law_20 : decode cL_law 20 = .ok (.arraylength, 1) := by decide +kernel
theorem dL_law_21 : decode cL_law 21 = .ok (.bipush 6, 2) := by decide +kernel
theorem dL_law_23 : decode cL_law 23 = .ok (.isub, 1) := by decide +kernel
theorem dL_law_24 : decode cL_law 24 = .ok (.if_icmp .gt 1190, 3) := by decide +kernel
theorem dL_law_27 : decode cL_law 27 = .ok (.aload_n 0, 1) := by decide +kernel
theorem dL_law_28 : decode cL_law 28 = .ok (.iload_n 3, 1) := by decide +kernel
theorem dL_law_29 : decode cL_law 29 = .ok (.iaload, 1) := by decide +kernel
theorem dL_law_30 : decode cL_law 30 = .ok (.bipush 63, 2) := by decide +kernel
theorem dL_law_32 : decode cL_law 32 = .ok (.iand, 1) := by decide +kernel
theorem dL_law_33 : decode cL_law 33 = .ok (.tableswitch 1175 0 33 #[151, 194, 217, 250, 263, 286, 319, 342, 365, 378, 411, 434, 467, 510, 543, 576, 609, 662, 705, 718, 731, 754, 777, 790, 823, 837, 870, 913, 936, 989, 1032, 1095, 1138, 1161], 151) := by decide +kernel
theorem dL_law_184 : decode cL_law 184 = .ok (.aload_n 1, 1) := by decide +kernel
theorem dL_law_185 : decode cL_law 185 = .ok (.aload_n 0, 1) := by decide +kernel
theorem dL_law_186 : decode cL_law 186 = .ok (.iload_n 3, 1) := by decide +kernel
theorem dL_law_187 : decode cL_law 187 = .ok (.iconst 1, 1) := by decide +kernel
theorem dL_law_188 : decode cL_law 188 = .ok (.iadd, 1) := by decide +kernel
theorem dL_law_189 : decode cL_law 189 = .ok (.iaload, 1) := by decide +kernel
theorem dL_law_190 : decode cL_law 190 = .ok (.aload_n 0, 1) := by decide +kernel
theorem dL_law_191 : decode cL_law 191 = .ok (.iload_n 3, 1) := by decide +kernel
theorem dL_law_192 : decode cL_law 192 = .ok (.iconst 2, 1) := by decide +kernel
theorem dL_law_193 : decode cL_law 193 = .ok (.iadd, 1) := by decide +kernel
theorem dL_law_194 : decode cL_law 194 = .ok (.iaload, 1) := by decide +kernel
theorem dL_law_195 : decode cL_law 195 = .ok (.aload_n 0, 1) := by decide +kernel
theorem dL_law_196 : decode cL_law 196 = .ok (.iload_n 3, 1) := by decide +kernel
theorem dL_law_197 : decode cL_law 197 = .ok (.iconst 3, 1) := by decide +kernel
theorem dL_law_198 : decode cL_law 198 = .ok (.iadd, 1) := by decide +kernel
theorem dL_law_199 : decode cL_law 199 = .ok (.iaload, 1) := by decide +kernel
theorem dL_law_200 : decode cL_law 200 = .ok (.invokevirtual 13, 3) := by decide +kernel
theorem dL_law_203 : decode cL_law 203 = .ok (.aload_n 2, 1) := by decide +kernel
theorem dL_law_204 : decode cL_law 204 = .ok (.aload_n 0, 1) := by decide +kernel
theorem dL_law_205 : decode cL_law 205 = .ok (.iload_n 3, 1) := by decide +kernel
theorem dL_law_206 : decode cL_law 206 = .ok (.iconst 1, 1) := by decide +kernel
theorem dL_law_207 : decode cL_law 207 = .ok (.iadd, 1) := by decide +kernel
theorem dL_law_208 : decode cL_law 208 = .ok (.iaload, 1) := by decide +kernel
theorem dL_law_209 : decode cL_law 209 = .ok (.aload_n 0, 1) := by decide +kernel
theorem dL_law_210 : decode cL_law 210 = .ok (.iload_n 3, 1) := by decide +kernel
theorem dL_law_211 : decode cL_law 211 = .ok (.iconst 2, 1) := by decide +kernel
theorem dL_law_212 : decode cL_law 212 = .ok (.iadd, 1) := by decide +kernel
theorem dL_law_213 : decode cL_law 213 = .ok (.iaload, 1) := by decide +kernel
theorem dL_law_214 : decode cL_law 214 = .ok (.aload_n 0, 1) := by decide +kernel
theorem dL_law_215 : decode cL_law 215 = .ok (.iload_n 3, 1) := by decide +kernel
theorem dL_law_216 : decode cL_law 216 = .ok (.iconst 3, 1) := by decide +kernel
theorem dL_law_217 : decode cL_law 217 = .ok (.iadd, 1) := by decide +kernel
theorem dL_law_218 : decode cL_law 218 = .ok (.iaload, 1) := by decide +kernel
theorem dL_law_219 : decode cL_law 219 = .ok (.invokevirtual 17, 3) := by decide +kernel
theorem dL_law_222 : decode cL_law 222 = .ok (.if_icmp .eq 986, 3) := by decide +kernel
theorem dL_law_225 : decode cL_law 225 = .ok (.iconst 0, 1) := by decide +kernel
theorem dL_law_226 : decode cL_law 226 = .ok (.ireturn, 1) := by decide +kernel
theorem dL_law_227 : decode cL_law 227 = .ok (.aload_n 1, 1) := by decide +kernel
theorem dL_law_228 : decode cL_law 228 = .ok (.aload_n 0, 1) := by decide +kernel
theorem dL_law_229 : decode cL_law 229 = .ok (.iload_n 3, 1) := by decide +kernel
theorem dL_law_230 : decode cL_law 230 = .ok (.iconst 1, 1) := by decide +kernel
theorem dL_law_231 : decode cL_law 231 = .ok (.iadd, 1) := by decide +kernel
theorem dL_law_232 : decode cL_law 232 = .ok (.iaload, 1) := by decide +kernel
theorem dL_law_233 : decode cL_law 233 = .ok (.invokevirtual 18, 3) := by decide +kernel
theorem dL_law_236 : decode cL_law 236 = .ok (.aload_n 2, 1) := by decide +kernel
theorem dL_law_237 : decode cL_law 237 = .ok (.aload_n 0, 1) := by decide +kernel
theorem dL_law_238 : decode cL_law 238 = .ok (.iload_n 3, 1) := by decide +kernel
theorem dL_law_239 : decode cL_law 239 = .ok (.iconst 1, 1) := by decide +kernel
theorem dL_law_240 : decode cL_law 240 = .ok (.iadd, 1) := by decide +kernel
theorem dL_law_241 : decode cL_law 241 = .ok (.iaload, 1) := by decide +kernel
theorem dL_law_242 : decode cL_law 242 = .ok (.invokevirtual 22, 3) := by decide +kernel
theorem dL_law_245 : decode cL_law 245 = .ok (.if_icmp .eq 963, 3) := by decide +kernel
theorem dL_law_248 : decode cL_law 248 = .ok (.iconst 0, 1) := by decide +kernel
theorem dL_law_249 : decode cL_law 249 = .ok (.ireturn, 1) := by decide +kernel
theorem dL_law_250 : decode cL_law 250 = .ok (.aload_n 1, 1) := by decide +kernel
theorem dL_law_251 : decode cL_law 251 = .ok (.aload_n 0, 1) := by decide +kernel
theorem dL_law_252 : decode cL_law 252 = .ok (.iload_n 3, 1) := by decide +kernel
theorem dL_law_253 : decode cL_law 253 = .ok (.iconst 1, 1) := by decide +kernel
theorem dL_law_254 : decode cL_law 254 = .ok (.iadd, 1) := by decide +kernel
theorem dL_law_255 : decode cL_law 255 = .ok (.iaload, 1) := by decide +kernel
theorem dL_law_256 : decode cL_law 256 = .ok (.aload_n 0, 1) := by decide +kernel
theorem dL_law_257 : decode cL_law 257 = .ok (.iload_n 3, 1) := by decide +kernel
theorem dL_law_258 : decode cL_law 258 = .ok (.iconst 2, 1) := by decide +kernel
theorem dL_law_259 : decode cL_law 259 = .ok (.iadd, 1) := by decide +kernel
theorem dL_law_260 : decode cL_law 260 = .ok (.iaload, 1) := by decide +kernel
theorem dL_law_261 : decode cL_law 261 = .ok (.invokevirtual 23, 3) := by decide +kernel
theorem dL_law_264 : decode cL_law 264 = .ok (.aload_n 2, 1) := by decide +kernel
theorem dL_law_265 : decode cL_law 265 = .ok (.aload_n 0, 1) := by decide +kernel
theorem dL_law_266 : decode cL_law 266 = .ok (.iload_n 3, 1) := by decide +kernel
theorem dL_law_267 : decode cL_law 267 = .ok (.iconst 1, 1) := by decide +kernel
theorem dL_law_268 : decode cL_law 268 = .ok (.iadd, 1) := by decide +kernel
theorem dL_law_269 : decode cL_law 269 = .ok (.iaload, 1) := by decide +kernel
theorem dL_law_270 : decode cL_law 270 = .ok (.aload_n 0, 1) := by decide +kernel
theorem dL_law_271 : decode cL_law 271 = .ok (.iload_n 3, 1) := by decide +kernel
theorem dL_law_272 : decode cL_law 272 = .ok (.iconst 2, 1) := by decide +kernel
theorem dL_law_273 : decode cL_law 273 = .ok (.iadd, 1) := by decide +kernel
theorem dL_law_274 : decode cL_law 274 = .ok (.iaload, 1) := by decide +kernel
theorem dL_law_275 : decode cL_law 275 = .ok (.invokevirtual 27, 3) := by decide +kernel
theorem dL_law_278 : decode cL_law 278 = .ok (.if_icmp .eq 930, 3) := by decide +kernel
theorem dL_law_281 : decode cL_law 281 = .ok (.iconst 0, 1) := by decide +kernel
theorem dL_law_282 : decode cL_law 282 = .ok (.ireturn, 1) := by decide +kernel
theorem dL_law_283 : decode cL_law 283 = .ok (.aload_n 1, 1) := by decide +kernel
theorem dL_law_284 : decode cL_law 284 = .ok (.invokevirtual 28, 3) := by decide +kernel
theorem dL_law_287 : decode cL_law 287 = .ok (.aload_n 2, 1) := by decide +kernel
theorem dL_law_288 : decode cL_law 288 = .ok (.invokevirtual 32, 3) := by decide +kernel
theorem dL_law_291 : decode cL_law 291 = .ok (.if_icmp .eq 917, 3) := by decide +kernel
theorem dL_law_294 : decode cL_law 294 = .ok (.iconst 0, 1) := by decide +kernel
theorem dL_law_295 : decode cL_law 295 = .ok (.ireturn, 1) := by decide +kernel
theorem dL_law_296 : decode cL_law 296 = .ok (.aload_n 1, 1) := by decide +kernel
theorem dL_law_297 : decode cL_law 297 = .ok (.aload_n 0, 1) := by decide +kernel
theorem dL_law_298 : decode cL_law 298 = .ok (.iload_n 3, 1) := by decide +kernel
theorem dL_law_299 : decode cL_law 299 = .ok (.iconst 1, 1) := by decide +kernel
theorem dL_law_300 : decode cL_law 300 = .ok (.iadd, 1) := by decide +kernel
theorem dL_law_301 : decode cL_law 301 = .ok (.iaload, 1) := by decide +kernel
theorem dL_law_302 : decode cL_law 302 = .ok (.invokevirtual 33, 3) := by decide +kernel
theorem dL_law_305 : decode cL_law 305 = .ok (.aload_n 2, 1) := by decide +kernel
theorem dL_law_306 : decode cL_law 306 = .ok (.aload_n 0, 1) := by decide +kernel
theorem dL_law_307 : decode cL_law 307 = .ok (.iload_n 3, 1) := by decide +kernel
theorem dL_law_308 : decode cL_law 308 = .ok (.iconst 1, 1) := by decide +kernel
theorem dL_law_309 : decode cL_law 309 = .ok (.iadd, 1) := by decide +kernel
theorem dL_law_310 : decode cL_law 310 = .ok (.iaload, 1) := by decide +kernel
theorem dL_law_311 : decode cL_law 311 = .ok (.invokevirtual 36, 3) := by decide +kernel
theorem dL_law_314 : decode cL_law 314 = .ok (.if_icmp .eq 894, 3) := by decide +kernel
theorem dL_law_317 : decode cL_law 317 = .ok (.iconst 0, 1) := by decide +kernel
theorem dL_law_318 : decode cL_law 318 = .ok (.ireturn, 1) := by decide +kernel
theorem dL_law_319 : decode cL_law 319 = .ok (.aload_n 1, 1) := by decide +kernel
theorem dL_law_320 : decode cL_law 320 = .ok (.aload_n 0, 1) := by decide +kernel
theorem dL_law_321 : decode cL_law 321 = .ok (.iload_n 3, 1) := by decide +kernel
theorem dL_law_322 : decode cL_law 322 = .ok (.iconst 1, 1) := by decide +kernel
theorem dL_law_323 : decode cL_law 323 = .ok (.iadd, 1) := by decide +kernel
theorem dL_law_324 : decode cL_law 324 = .ok (.iaload, 1) := by decide +kernel
theorem dL_law_325 : decode cL_law 325 = .ok (.aload_n 0, 1) := by decide +kernel
theorem dL_law_326 : decode cL_law 326 = .ok (.iload_n 3, 1) := by decide +kernel
theorem dL_law_327 : decode cL_law 327 = .ok (.iconst 2, 1) := by decide +kernel
theorem dL_law_328 : decode cL_law 328 = .ok (.iadd, 1) := by decide +kernel
theorem dL_law_329 : decode cL_law 329 = .ok (.iaload, 1) := by decide +kernel
theorem dL_law_330 : decode cL_law 330 = .ok (.invokevirtual 37, 3) := by decide +kernel
theorem dL_law_333 : decode cL_law 333 = .ok (.aload_n 2, 1) := by decide +kernel
theorem dL_law_334 : decode cL_law 334 = .ok (.aload_n 0, 1) := by decide +kernel
theorem dL_law_335 : decode cL_law 335 = .ok (.iload_n 3, 1) := by decide +kernel
theorem dL_law_336 : decode cL_law 336 = .ok (.iconst 1, 1) := by decide +kernel
theorem dL_law_337 : decode cL_law 337 = .ok (.iadd, 1) := by decide +kernel
theorem dL_law_338 : decode cL_law 338 = .ok (.iaload, 1) := by decide +kernel
theorem dL_law_339 : decode cL_law 339 = .ok (.aload_n 0, 1) := by decide +kernel
theorem dL_law_340 : decode cL_law 340 = .ok (.iload_n 3, 1) := by decide +kernel
theorem dL_law_341 : decode cL_law 341 = .ok (.iconst 2, 1) := by decide +kernel
theorem dL_law_342 : decode cL_law 342 = .ok (.iadd, 1) := by decide +kernel
theorem dL_law_343 : decode cL_law 343 = .ok (.iaload, 1) := by decide +kernel
theorem dL_law_344 : decode cL_law 344 = .ok (.invokevirtual 40, 3) := by decide +kernel
theorem dL_law_347 : decode cL_law 347 = .ok (.if_icmp .eq 861, 3) := by decide +kernel
theorem dL_law_350 : decode cL_law 350 = .ok (.iconst 0, 1) := by decide +kernel
theorem dL_law_351 : decode cL_law 351 = .ok (.ireturn, 1) := by decide +kernel
theorem dL_law_352 : decode cL_law 352 = .ok (.aload_n 1, 1) := by decide +kernel
theorem dL_law_353 : decode cL_law 353 = .ok (.aload_n 0, 1) := by decide +kernel
theorem dL_law_354 : decode cL_law 354 = .ok (.iload_n 3, 1) := by decide +kernel
theorem dL_law_355 : decode cL_law 355 = .ok (.iconst 1, 1) := by decide +kernel
theorem dL_law_356 : decode cL_law 356 = .ok (.iadd, 1) := by decide +kernel
theorem dL_law_357 : decode cL_law 357 = .ok (.iaload, 1) := by decide +kernel
theorem dL_law_358 : decode cL_law 358 = .ok (.invokevirtual 41, 3) := by decide +kernel
theorem dL_law_361 : decode cL_law 361 = .ok (.aload_n 2, 1) := by decide +kernel
theorem dL_law_362 : decode cL_law 362 = .ok (.aload_n 0, 1) := by decide +kernel
theorem dL_law_363 : decode cL_law 363 = .ok (.iload_n 3, 1) := by decide +kernel
theorem dL_law_364 : decode cL_law 364 = .ok (.iconst 1, 1) := by decide +kernel
theorem dL_law_365 : decode cL_law 365 = .ok (.iadd, 1) := by decide +kernel
theorem dL_law_366 : decode cL_law 366 = .ok (.iaload, 1) := by decide +kernel
theorem dL_law_367 : decode cL_law 367 = .ok (.invokevirtual 44, 3) := by decide +kernel
theorem dL_law_370 : decode cL_law 370 = .ok (.if_icmp .eq 838, 3) := by decide +kernel
theorem dL_law_373 : decode cL_law 373 = .ok (.iconst 0, 1) := by decide +kernel
theorem dL_law_374 : decode cL_law 374 = .ok (.ireturn, 1) := by decide +kernel
theorem dL_law_375 : decode cL_law 375 = .ok (.aload_n 1, 1) := by decide +kernel
theorem dL_law_376 : decode cL_law 376 = .ok (.aload_n 0, 1) := by decide +kernel
theorem dL_law_377 : decode cL_law 377 = .ok (.iload_n 3, 1) := by decide +kernel
theorem dL_law_378 : decode cL_law 378 = .ok (.iconst 1, 1) := by decide +kernel
theorem dL_law_379 : decode cL_law 379 = .ok (.iadd, 1) := by decide +kernel
theorem dL_law_380 : decode cL_law 380 = .ok (.iaload, 1) := by decide +kernel
theorem dL_law_381 : decode cL_law 381 = .ok (.invokevirtual 45, 3) := by decide +kernel
theorem dL_law_384 : decode cL_law 384 = .ok (.aload_n 2, 1) := by decide +kernel
theorem dL_law_385 : decode cL_law 385 = .ok (.aload_n 0, 1) := by decide +kernel
theorem dL_law_386 : decode cL_law 386 = .ok (.iload_n 3, 1) := by decide +kernel
theorem dL_law_387 : decode cL_law 387 = .ok (.iconst 1, 1) := by decide +kernel
theorem dL_law_388 : decode cL_law 388 = .ok (.iadd, 1) := by decide +kernel
theorem dL_law_389 : decode cL_law 389 = .ok (.iaload, 1) := by decide +kernel
theorem dL_law_390 : decode cL_law 390 = .ok (.invokevirtual 48, 3) := by decide +kernel
theorem dL_law_393 : decode cL_law 393 = .ok (.if_icmp .eq 815, 3) := by decide +kernel
theorem dL_law_396 : decode cL_law 396 = .ok (.iconst 0, 1) := by decide +kernel
theorem dL_law_397 : decode cL_law 397 = .ok (.ireturn, 1) := by decide +kernel
theorem dL_law_398 : decode cL_law 398 = .ok (.aload_n 1, 1) := by decide +kernel
theorem dL_law_399 : decode cL_law 399 = .ok (.invokevirtual 49, 3) := by decide +kernel
theorem dL_law_402 : decode cL_law 402 = .ok (.aload_n 2, 1) := by decide +kernel
theorem dL_law_403 : decode cL_law 403 = .ok (.invokevirtual 52, 3) := by decide +kernel
theorem dL_law_406 : decode cL_law 406 = .ok (.if_icmp .eq 802, 3) := by decide +kernel
theorem dL_law_409 : decode cL_law 409 = .ok (.iconst 0, 1) := by decide +kernel
theorem dL_law_410 : decode cL_law 410 = .ok (.ireturn, 1) := by decide +kernel
theorem dL_law_411 : decode cL_law 411 = .ok (.aload_n 1, 1) := by decide +kernel
theorem dL_law_412 : decode cL_law 412 = .ok (.aload_n 0, 1) := by decide +kernel
theorem dL_law_413 : decode cL_law 413 = .ok (.iload_n 3, 1) := by decide +kernel
theorem dL_law_414 : decode cL_law 414 = .ok (.iconst 1, 1) := by decide +kernel
theorem dL_law_415 : decode cL_law 415 = .ok (.iadd, 1) := by decide +kernel
theorem dL_law_416 : decode cL_law 416 = .ok (.iaload, 1) := by decide +kernel
theorem dL_law_417 : decode cL_law 417 = .ok (.aload_n 0, 1) := by decide +kernel
theorem dL_law_418 : decode cL_law 418 = .ok (.iload_n 3, 1) := by decide +kernel
theorem dL_law_419 : decode cL_law 419 = .ok (.iconst 2, 1) := by decide +kernel
theorem dL_law_420 : decode cL_law 420 = .ok (.iadd, 1) := by decide +kernel
theorem dL_law_421 : decode cL_law 421 = .ok (.iaload, 1) := by decide +kernel
theorem dL_law_422 : decode cL_law 422 = .ok (.invokevirtual 53, 3) := by decide +kernel
theorem dL_law_425 : decode cL_law 425 = .ok (.aload_n 2, 1) := by decide +kernel
theorem dL_law_426 : decode cL_law 426 = .ok (.aload_n 0, 1) := by decide +kernel
theorem dL_law_427 : decode cL_law 427 = .ok (.iload_n 3, 1) := by decide +kernel
theorem dL_law_428 : decode cL_law 428 = .ok (.iconst 1, 1) := by decide +kernel
theorem dL_law_429 : decode cL_law 429 = .ok (.iadd, 1) := by decide +kernel
theorem dL_law_430 : decode cL_law 430 = .ok (.iaload, 1) := by decide +kernel
theorem dL_law_431 : decode cL_law 431 = .ok (.aload_n 0, 1) := by decide +kernel
theorem dL_law_432 : decode cL_law 432 = .ok (.iload_n 3, 1) := by decide +kernel
theorem dL_law_433 : decode cL_law 433 = .ok (.iconst 2, 1) := by decide +kernel
theorem dL_law_434 : decode cL_law 434 = .ok (.iadd, 1) := by decide +kernel
theorem dL_law_435 : decode cL_law 435 = .ok (.iaload, 1) := by decide +kernel
theorem dL_law_436 : decode cL_law 436 = .ok (.invokevirtual 56, 3) := by decide +kernel
theorem dL_law_439 : decode cL_law 439 = .ok (.if_icmp .eq 769, 3) := by decide +kernel
theorem dL_law_442 : decode cL_law 442 = .ok (.iconst 0, 1) := by decide +kernel
theorem dL_law_443 : decode cL_law 443 = .ok (.ireturn, 1) := by decide +kernel
theorem dL_law_444 : decode cL_law 444 = .ok (.aload_n 1, 1) := by decide +kernel
theorem dL_law_445 : decode cL_law 445 = .ok (.aload_n 0, 1) := by decide +kernel
theorem dL_law_446 : decode cL_law 446 = .ok (.iload_n 3, 1) := by decide +kernel
theorem dL_law_447 : decode cL_law 447 = .ok (.iconst 1, 1) := by decide +kernel
theorem dL_law_448 : decode cL_law 448 = .ok (.iadd, 1) := by decide +kernel
theorem dL_law_449 : decode cL_law 449 = .ok (.iaload, 1) := by decide +kernel
theorem dL_law_450 : decode cL_law 450 = .ok (.invokevirtual 57, 3) := by decide +kernel
theorem dL_law_453 : decode cL_law 453 = .ok (.aload_n 2, 1) := by decide +kernel
theorem dL_law_454 : decode cL_law 454 = .ok (.aload_n 0, 1) := by decide +kernel
theorem dL_law_455 : decode cL_law 455 = .ok (.iload_n 3, 1) := by decide +kernel
theorem dL_law_456 : decode cL_law 456 = .ok (.iconst 1, 1) := by decide +kernel
theorem dL_law_457 : decode cL_law 457 = .ok (.iadd, 1) := by decide +kernel
theorem dL_law_458 : decode cL_law 458 = .ok (.iaload, 1) := by decide +kernel
theorem dL_law_459 : decode cL_law 459 = .ok (.invokevirtual 60, 3) := by decide +kernel
theorem dL_law_462 : decode cL_law 462 = .ok (.if_icmp .eq 746, 3) := by decide +kernel
theorem dL_law_465 : decode cL_law 465 = .ok (.iconst 0, 1) := by decide +kernel
theorem dL_law_466 : decode cL_law 466 = .ok (.ireturn, 1) := by decide +kernel
theorem dL_law_467 : decode cL_law 467 = .ok (.aload_n 1, 1) := by decide +kernel
theorem dL_law_468 : decode cL_law 468 = .ok (.aload_n 0, 1) := by decide +kernel
theorem dL_law_469 : decode cL_law 469 = .ok (.iload_n 3, 1) := by decide +kernel
theorem dL_law_470 : decode cL_law 470 = .ok (.iconst 1, 1) := by decide +kernel
theorem dL_law_471 : decode cL_law 471 = .ok (.iadd, 1) := by decide +kernel
theorem dL_law_472 : decode cL_law 472 = .ok (.iaload, 1) := by decide +kernel
theorem dL_law_473 : decode cL_law 473 = .ok (.aload_n 0, 1) := by decide +kernel
theorem dL_law_474 : decode cL_law 474 = .ok (.iload_n 3, 1) := by decide +kernel
theorem dL_law_475 : decode cL_law 475 = .ok (.iconst 2, 1) := by decide +kernel
theorem dL_law_476 : decode cL_law 476 = .ok (.iadd, 1) := by decide +kernel
theorem dL_law_477 : decode cL_law 477 = .ok (.iaload, 1) := by decide +kernel
theorem dL_law_478 : decode cL_law 478 = .ok (.invokevirtual 61, 3) := by decide +kernel
theorem dL_law_481 : decode cL_law 481 = .ok (.aload_n 2, 1) := by decide +kernel
theorem dL_law_482 : decode cL_law 482 = .ok (.aload_n 0, 1) := by decide +kernel
theorem dL_law_483 : decode cL_law 483 = .ok (.iload_n 3, 1) := by decide +kernel
theorem dL_law_484 : decode cL_law 484 = .ok (.iconst 1, 1) := by decide +kernel
theorem dL_law_485 : decode cL_law 485 = .ok (.iadd, 1) := by decide +kernel
theorem dL_law_486 : decode cL_law 486 = .ok (.iaload, 1) := by decide +kernel
theorem dL_law_487 : decode cL_law 487 = .ok (.aload_n 0, 1) := by decide +kernel
theorem dL_law_488 : decode cL_law 488 = .ok (.iload_n 3, 1) := by decide +kernel
theorem dL_law_489 : decode cL_law 489 = .ok (.iconst 2, 1) := by decide +kernel
theorem dL_law_490 : decode cL_law 490 = .ok (.iadd, 1) := by decide +kernel
theorem dL_law_491 : decode cL_law 491 = .ok (.iaload, 1) := by decide +kernel
theorem dL_law_492 : decode cL_law 492 = .ok (.invokevirtual 64, 3) := by decide +kernel
theorem dL_law_495 : decode cL_law 495 = .ok (.if_icmp .eq 713, 3) := by decide +kernel
theorem dL_law_498 : decode cL_law 498 = .ok (.iconst 0, 1) := by decide +kernel
theorem dL_law_499 : decode cL_law 499 = .ok (.ireturn, 1) := by decide +kernel
theorem dL_law_500 : decode cL_law 500 = .ok (.aload_n 1, 1) := by decide +kernel
theorem dL_law_501 : decode cL_law 501 = .ok (.aload_n 0, 1) := by decide +kernel
theorem dL_law_502 : decode cL_law 502 = .ok (.iload_n 3, 1) := by decide +kernel
theorem dL_law_503 : decode cL_law 503 = .ok (.iconst 1, 1) := by decide +kernel
theorem dL_law_504 : decode cL_law 504 = .ok (.iadd, 1) := by decide +kernel
theorem dL_law_505 : decode cL_law 505 = .ok (.iaload, 1) := by decide +kernel
theorem dL_law_506 : decode cL_law 506 = .ok (.aload_n 0, 1) := by decide +kernel
theorem dL_law_507 : decode cL_law 507 = .ok (.iload_n 3, 1) := by decide +kernel
theorem dL_law_508 : decode cL_law 508 = .ok (.iconst 2, 1) := by decide +kernel
theorem dL_law_509 : decode cL_law 509 = .ok (.iadd, 1) := by decide +kernel
theorem dL_law_510 : decode cL_law 510 = .ok (.iaload, 1) := by decide +kernel
theorem dL_law_511 : decode cL_law 511 = .ok (.aload_n 0, 1) := by decide +kernel
theorem dL_law_512 : decode cL_law 512 = .ok (.iload_n 3, 1) := by decide +kernel
theorem dL_law_513 : decode cL_law 513 = .ok (.iconst 3, 1) := by decide +kernel
theorem dL_law_514 : decode cL_law 514 = .ok (.iadd, 1) := by decide +kernel
theorem dL_law_515 : decode cL_law 515 = .ok (.iaload, 1) := by decide +kernel
theorem dL_law_516 : decode cL_law 516 = .ok (.invokevirtual 65, 3) := by decide +kernel
theorem dL_law_519 : decode cL_law 519 = .ok (.aload_n 2, 1) := by decide +kernel
theorem dL_law_520 : decode cL_law 520 = .ok (.aload_n 0, 1) := by decide +kernel
theorem dL_law_521 : decode cL_law 521 = .ok (.iload_n 3, 1) := by decide +kernel
theorem dL_law_522 : decode cL_law 522 = .ok (.iconst 1, 1) := by decide +kernel
theorem dL_law_523 : decode cL_law 523 = .ok (.iadd, 1) := by decide +kernel
theorem dL_law_524 : decode cL_law 524 = .ok (.iaload, 1) := by decide +kernel
theorem dL_law_525 : decode cL_law 525 = .ok (.aload_n 0, 1) := by decide +kernel
theorem dL_law_526 : decode cL_law 526 = .ok (.iload_n 3, 1) := by decide +kernel
theorem dL_law_527 : decode cL_law 527 = .ok (.iconst 2, 1) := by decide +kernel
theorem dL_law_528 : decode cL_law 528 = .ok (.iadd, 1) := by decide +kernel
theorem dL_law_529 : decode cL_law 529 = .ok (.iaload, 1) := by decide +kernel
theorem dL_law_530 : decode cL_law 530 = .ok (.aload_n 0, 1) := by decide +kernel
theorem dL_law_531 : decode cL_law 531 = .ok (.iload_n 3, 1) := by decide +kernel
theorem dL_law_532 : decode cL_law 532 = .ok (.iconst 3, 1) := by decide +kernel
theorem dL_law_533 : decode cL_law 533 = .ok (.iadd, 1) := by decide +kernel
theorem dL_law_534 : decode cL_law 534 = .ok (.iaload, 1) := by decide +kernel
theorem dL_law_535 : decode cL_law 535 = .ok (.invokevirtual 68, 3) := by decide +kernel
theorem dL_law_538 : decode cL_law 538 = .ok (.if_icmp .eq 670, 3) := by decide +kernel
theorem dL_law_541 : decode cL_law 541 = .ok (.iconst 0, 1) := by decide +kernel
theorem dL_law_542 : decode cL_law 542 = .ok (.ireturn, 1) := by decide +kernel
theorem dL_law_543 : decode cL_law 543 = .ok (.aload_n 1, 1) := by decide +kernel
theorem dL_law_544 : decode cL_law 544 = .ok (.aload_n 0, 1) := by decide +kernel
theorem dL_law_545 : decode cL_law 545 = .ok (.iload_n 3, 1) := by decide +kernel
theorem dL_law_546 : decode cL_law 546 = .ok (.iconst 1, 1) := by decide +kernel
theorem dL_law_547 : decode cL_law 547 = .ok (.iadd, 1) := by decide +kernel
theorem dL_law_548 : decode cL_law 548 = .ok (.iaload, 1) := by decide +kernel
theorem dL_law_549 : decode cL_law 549 = .ok (.aload_n 0, 1) := by decide +kernel
theorem dL_law_550 : decode cL_law 550 = .ok (.iload_n 3, 1) := by decide +kernel
theorem dL_law_551 : decode cL_law 551 = .ok (.iconst 2, 1) := by decide +kernel
theorem dL_law_552 : decode cL_law 552 = .ok (.iadd, 1) := by decide +kernel
theorem dL_law_553 : decode cL_law 553 = .ok (.iaload, 1) := by decide +kernel
theorem dL_law_554 : decode cL_law 554 = .ok (.invokevirtual 69, 3) := by decide +kernel
theorem dL_law_557 : decode cL_law 557 = .ok (.aload_n 2, 1) := by decide +kernel
theorem dL_law_558 : decode cL_law 558 = .ok (.aload_n 0, 1) := by decide +kernel
theorem dL_law_559 : decode cL_law 559 = .ok (.iload_n 3, 1) := by decide +kernel
theorem dL_law_560 : decode cL_law 560 = .ok (.iconst 1, 1) := by decide +kernel
theorem dL_law_561 : decode cL_law 561 = .ok (.iadd, 1) := by decide +kernel
theorem dL_law_562 : decode cL_law 562 = .ok (.iaload, 1) := by decide +kernel
theorem dL_law_563 : decode cL_law 563 = .ok (.aload_n 0, 1) := by decide +kernel
theorem dL_law_564 : decode cL_law 564 = .ok (.iload_n 3, 1) := by decide +kernel
theorem dL_law_565 : decode cL_law 565 = .ok (.iconst 2, 1) := by decide +kernel
theorem dL_law_566 : decode cL_law 566 = .ok (.iadd, 1) := by decide +kernel
theorem dL_law_567 : decode cL_law 567 = .ok (.iaload, 1) := by decide +kernel
theorem dL_law_568 : decode cL_law 568 = .ok (.invokevirtual 72, 3) := by decide +kernel
theorem dL_law_571 : decode cL_law 571 = .ok (.if_icmp .eq 637, 3) := by decide +kernel
theorem dL_law_574 : decode cL_law 574 = .ok (.iconst 0, 1) := by decide +kernel
theorem dL_law_575 : decode cL_law 575 = .ok (.ireturn, 1) := by decide +kernel
theorem dL_law_576 : decode cL_law 576 = .ok (.aload_n 1, 1) := by decide +kernel
theorem dL_law_577 : decode cL_law 577 = .ok (.aload_n 0, 1) := by decide +kernel
theorem dL_law_578 : decode cL_law 578 = .ok (.iload_n 3, 1) := by decide +kernel
theorem dL_law_579 : decode cL_law 579 = .ok (.iconst 1, 1) := by decide +kernel
theorem dL_law_580 : decode cL_law 580 = .ok (.iadd, 1) := by decide +kernel
theorem dL_law_581 : decode cL_law 581 = .ok (.iaload, 1) := by decide +kernel
theorem dL_law_582 : decode cL_law 582 = .ok (.aload_n 0, 1) := by decide +kernel
theorem dL_law_583 : decode cL_law 583 = .ok (.iload_n 3, 1) := by decide +kernel
theorem dL_law_584 : decode cL_law 584 = .ok (.iconst 2, 1) := by decide +kernel
theorem dL_law_585 : decode cL_law 585 = .ok (.iadd, 1) := by decide +kernel
theorem dL_law_586 : decode cL_law 586 = .ok (.iaload, 1) := by decide +kernel
theorem dL_law_587 : decode cL_law 587 = .ok (.invokevirtual 73, 3) := by decide +kernel
theorem dL_law_590 : decode cL_law 590 = .ok (.aload_n 2, 1) := by decide +kernel
theorem dL_law_591 : decode cL_law 591 = .ok (.aload_n 0, 1) := by decide +kernel
theorem dL_law_592 : decode cL_law 592 = .ok (.iload_n 3, 1) := by decide +kernel
theorem dL_law_593 : decode cL_law 593 = .ok (.iconst 1, 1) := by decide +kernel
theorem dL_law_594 : decode cL_law 594 = .ok (.iadd, 1) := by decide +kernel
theorem dL_law_595 : decode cL_law 595 = .ok (.iaload, 1) := by decide +kernel
theorem dL_law_596 : decode cL_law 596 = .ok (.aload_n 0, 1) := by decide +kernel
theorem dL_law_597 : decode cL_law 597 = .ok (.iload_n 3, 1) := by decide +kernel
theorem dL_law_598 : decode cL_law 598 = .ok (.iconst 2, 1) := by decide +kernel
theorem dL_law_599 : decode cL_law 599 = .ok (.iadd, 1) := by decide +kernel
theorem dL_law_600 : decode cL_law 600 = .ok (.iaload, 1) := by decide +kernel
theorem dL_law_601 : decode cL_law 601 = .ok (.invokevirtual 76, 3) := by decide +kernel
theorem dL_law_604 : decode cL_law 604 = .ok (.if_icmp .eq 604, 3) := by decide +kernel
theorem dL_law_607 : decode cL_law 607 = .ok (.iconst 0, 1) := by decide +kernel
theorem dL_law_608 : decode cL_law 608 = .ok (.ireturn, 1) := by decide +kernel
theorem dL_law_609 : decode cL_law 609 = .ok (.aload_n 1, 1) := by decide +kernel
theorem dL_law_610 : decode cL_law 610 = .ok (.aload_n 0, 1) := by decide +kernel
theorem dL_law_611 : decode cL_law 611 = .ok (.iload_n 3, 1) := by decide +kernel
theorem dL_law_612 : decode cL_law 612 = .ok (.iconst 1, 1) := by decide +kernel
theorem dL_law_613 : decode cL_law 613 = .ok (.iadd, 1) := by decide +kernel
theorem dL_law_614 : decode cL_law 614 = .ok (.iaload, 1) := by decide +kernel
theorem dL_law_615 : decode cL_law 615 = .ok (.aload_n 0, 1) := by decide +kernel
theorem dL_law_616 : decode cL_law 616 = .ok (.iload_n 3, 1) := by decide +kernel
theorem dL_law_617 : decode cL_law 617 = .ok (.iconst 2, 1) := by decide +kernel
theorem dL_law_618 : decode cL_law 618 = .ok (.iadd, 1) := by decide +kernel
theorem dL_law_619 : decode cL_law 619 = .ok (.iaload, 1) := by decide +kernel
theorem dL_law_620 : decode cL_law 620 = .ok (.invokevirtual 77, 3) := by decide +kernel
theorem dL_law_623 : decode cL_law 623 = .ok (.aload_n 2, 1) := by decide +kernel
theorem dL_law_624 : decode cL_law 624 = .ok (.aload_n 0, 1) := by decide +kernel
theorem dL_law_625 : decode cL_law 625 = .ok (.iload_n 3, 1) := by decide +kernel
theorem dL_law_626 : decode cL_law 626 = .ok (.iconst 1, 1) := by decide +kernel
theorem dL_law_627 : decode cL_law 627 = .ok (.iadd, 1) := by decide +kernel
theorem dL_law_628 : decode cL_law 628 = .ok (.iaload, 1) := by decide +kernel
theorem dL_law_629 : decode cL_law 629 = .ok (.aload_n 0, 1) := by decide +kernel
theorem dL_law_630 : decode cL_law 630 = .ok (.iload_n 3, 1) := by decide +kernel
theorem dL_law_631 : decode cL_law 631 = .ok (.iconst 2, 1) := by decide +kernel
theorem dL_law_632 : decode cL_law 632 = .ok (.iadd, 1) := by decide +kernel
theorem dL_law_633 : decode cL_law 633 = .ok (.iaload, 1) := by decide +kernel
theorem dL_law_634 : decode cL_law 634 = .ok (.invokevirtual 80, 3) := by decide +kernel
theorem dL_law_637 : decode cL_law 637 = .ok (.if_icmp .eq 571, 3) := by decide +kernel
theorem dL_law_640 : decode cL_law 640 = .ok (.iconst 0, 1) := by decide +kernel
theorem dL_law_641 : decode cL_law 641 = .ok (.ireturn, 1) := by decide +kernel
theorem dL_law_642 : decode cL_law 642 = .ok (.aload_n 1, 1) := by decide +kernel
theorem dL_law_643 : decode cL_law 643 = .ok (.aload_n 0, 1) := by decide +kernel
theorem dL_law_644 : decode cL_law 644 = .ok (.iload_n 3, 1) := by decide +kernel
theorem dL_law_645 : decode cL_law 645 = .ok (.iconst 1, 1) := by decide +kernel
theorem dL_law_646 : decode cL_law 646 = .ok (.iadd, 1) := by decide +kernel
theorem dL_law_647 : decode cL_law 647 = .ok (.iaload, 1) := by decide +kernel
theorem dL_law_648 : decode cL_law 648 = .ok (.aload_n 0, 1) := by decide +kernel
theorem dL_law_649 : decode cL_law 649 = .ok (.iload_n 3, 1) := by decide +kernel
theorem dL_law_650 : decode cL_law 650 = .ok (.iconst 2, 1) := by decide +kernel
theorem dL_law_651 : decode cL_law 651 = .ok (.iadd, 1) := by decide +kernel
theorem dL_law_652 : decode cL_law 652 = .ok (.iaload, 1) := by decide +kernel
theorem dL_law_653 : decode cL_law 653 = .ok (.aload_n 0, 1) := by decide +kernel
theorem dL_law_654 : decode cL_law 654 = .ok (.iload_n 3, 1) := by decide +kernel
theorem dL_law_655 : decode cL_law 655 = .ok (.iconst 3, 1) := by decide +kernel
theorem dL_law_656 : decode cL_law 656 = .ok (.iadd, 1) := by decide +kernel
theorem dL_law_657 : decode cL_law 657 = .ok (.iaload, 1) := by decide +kernel
theorem dL_law_658 : decode cL_law 658 = .ok (.aload_n 0, 1) := by decide +kernel
theorem dL_law_659 : decode cL_law 659 = .ok (.iload_n 3, 1) := by decide +kernel
theorem dL_law_660 : decode cL_law 660 = .ok (.iconst 4, 1) := by decide +kernel
theorem dL_law_661 : decode cL_law 661 = .ok (.iadd, 1) := by decide +kernel
theorem dL_law_662 : decode cL_law 662 = .ok (.iaload, 1) := by decide +kernel
theorem dL_law_663 : decode cL_law 663 = .ok (.invokevirtual 81, 3) := by decide +kernel
theorem dL_law_666 : decode cL_law 666 = .ok (.aload_n 2, 1) := by decide +kernel
theorem dL_law_667 : decode cL_law 667 = .ok (.aload_n 0, 1) := by decide +kernel
theorem dL_law_668 : decode cL_law 668 = .ok (.iload_n 3, 1) := by decide +kernel
theorem dL_law_669 : decode cL_law 669 = .ok (.iconst 1, 1) := by decide +kernel
theorem dL_law_670 : decode cL_law 670 = .ok (.iadd, 1) := by decide +kernel
theorem dL_law_671 : decode cL_law 671 = .ok (.iaload, 1) := by decide +kernel
theorem dL_law_672 : decode cL_law 672 = .ok (.aload_n 0, 1) := by decide +kernel
theorem dL_law_673 : decode cL_law 673 = .ok (.iload_n 3, 1) := by decide +kernel
theorem dL_law_674 : decode cL_law 674 = .ok (.iconst 2, 1) := by decide +kernel
theorem dL_law_675 : decode cL_law 675 = .ok (.iadd, 1) := by decide +kernel
theorem dL_law_676 : decode cL_law 676 = .ok (.iaload, 1) := by decide +kernel
theorem dL_law_677 : decode cL_law 677 = .ok (.aload_n 0, 1) := by decide +kernel
theorem dL_law_678 : decode cL_law 678 = .ok (.iload_n 3, 1) := by decide +kernel
theorem dL_law_679 : decode cL_law 679 = .ok (.iconst 3, 1) := by decide +kernel
theorem dL_law_680 : decode cL_law 680 = .ok (.iadd, 1) := by decide +kernel
theorem dL_law_681 : decode cL_law 681 = .ok (.iaload, 1) := by decide +kernel
theorem dL_law_682 : decode cL_law 682 = .ok (.aload_n 0, 1) := by decide +kernel
theorem dL_law_683 : decode cL_law 683 = .ok (.iload_n 3, 1) := by decide +kernel
theorem dL_law_684 : decode cL_law 684 = .ok (.iconst 4, 1) := by decide +kernel
theorem dL_law_685 : decode cL_law 685 = .ok (.iadd, 1) := by decide +kernel
theorem dL_law_686 : decode cL_law 686 = .ok (.iaload, 1) := by decide +kernel
theorem dL_law_687 : decode cL_law 687 = .ok (.invokevirtual 85, 3) := by decide +kernel
theorem dL_law_690 : decode cL_law 690 = .ok (.if_icmp .eq 518, 3) := by decide +kernel
theorem dL_law_693 : decode cL_law 693 = .ok (.iconst 0, 1) := by decide +kernel
theorem dL_law_694 : decode cL_law 694 = .ok (.ireturn, 1) := by decide +kernel
theorem dL_law_695 : decode cL_law 695 = .ok (.aload_n 1, 1) := by decide +kernel
theorem dL_law_696 : decode cL_law 696 = .ok (.aload_n 0, 1) := by decide +kernel
theorem dL_law_697 : decode cL_law 697 = .ok (.iload_n 3, 1) := by decide +kernel
theorem dL_law_698 : decode cL_law 698 = .ok (.iconst 1, 1) := by decide +kernel
theorem dL_law_699 : decode cL_law 699 = .ok (.iadd, 1) := by decide +kernel
theorem dL_law_700 : decode cL_law 700 = .ok (.iaload, 1) := by decide +kernel
theorem dL_law_701 : decode cL_law 701 = .ok (.aload_n 0, 1) := by decide +kernel
theorem dL_law_702 : decode cL_law 702 = .ok (.iload_n 3, 1) := by decide +kernel
theorem dL_law_703 : decode cL_law 703 = .ok (.iconst 2, 1) := by decide +kernel
theorem dL_law_704 : decode cL_law 704 = .ok (.iadd, 1) := by decide +kernel
theorem dL_law_705 : decode cL_law 705 = .ok (.iaload, 1) := by decide +kernel
theorem dL_law_706 : decode cL_law 706 = .ok (.aload_n 0, 1) := by decide +kernel
theorem dL_law_707 : decode cL_law 707 = .ok (.iload_n 3, 1) := by decide +kernel
theorem dL_law_708 : decode cL_law 708 = .ok (.iconst 3, 1) := by decide +kernel
theorem dL_law_709 : decode cL_law 709 = .ok (.iadd, 1) := by decide +kernel
theorem dL_law_710 : decode cL_law 710 = .ok (.iaload, 1) := by decide +kernel
theorem dL_law_711 : decode cL_law 711 = .ok (.invokevirtual 86, 3) := by decide +kernel
theorem dL_law_714 : decode cL_law 714 = .ok (.aload_n 2, 1) := by decide +kernel
theorem dL_law_715 : decode cL_law 715 = .ok (.aload_n 0, 1) := by decide +kernel
theorem dL_law_716 : decode cL_law 716 = .ok (.iload_n 3, 1) := by decide +kernel
theorem dL_law_717 : decode cL_law 717 = .ok (.iconst 1, 1) := by decide +kernel
theorem dL_law_718 : decode cL_law 718 = .ok (.iadd, 1) := by decide +kernel
theorem dL_law_719 : decode cL_law 719 = .ok (.iaload, 1) := by decide +kernel
theorem dL_law_720 : decode cL_law 720 = .ok (.aload_n 0, 1) := by decide +kernel
theorem dL_law_721 : decode cL_law 721 = .ok (.iload_n 3, 1) := by decide +kernel
theorem dL_law_722 : decode cL_law 722 = .ok (.iconst 2, 1) := by decide +kernel
theorem dL_law_723 : decode cL_law 723 = .ok (.iadd, 1) := by decide +kernel
theorem dL_law_724 : decode cL_law 724 = .ok (.iaload, 1) := by decide +kernel
theorem dL_law_725 : decode cL_law 725 = .ok (.aload_n 0, 1) := by decide +kernel
theorem dL_law_726 : decode cL_law 726 = .ok (.iload_n 3, 1) := by decide +kernel
theorem dL_law_727 : decode cL_law 727 = .ok (.iconst 3, 1) := by decide +kernel
theorem dL_law_728 : decode cL_law 728 = .ok (.iadd, 1) := by decide +kernel
theorem dL_law_729 : decode cL_law 729 = .ok (.iaload, 1) := by decide +kernel
theorem dL_law_730 : decode cL_law 730 = .ok (.invokevirtual 89, 3) := by decide +kernel
theorem dL_law_733 : decode cL_law 733 = .ok (.if_icmp .eq 475, 3) := by decide +kernel
theorem dL_law_736 : decode cL_law 736 = .ok (.iconst 0, 1) := by decide +kernel
theorem dL_law_737 : decode cL_law 737 = .ok (.ireturn, 1) := by decide +kernel
theorem dL_law_738 : decode cL_law 738 = .ok (.aload_n 1, 1) := by decide +kernel
theorem dL_law_739 : decode cL_law 739 = .ok (.invokevirtual 90, 3) := by decide +kernel
theorem dL_law_742 : decode cL_law 742 = .ok (.aload_n 2, 1) := by decide +kernel
theorem dL_law_743 : decode cL_law 743 = .ok (.invokevirtual 93, 3) := by decide +kernel
theorem dL_law_746 : decode cL_law 746 = .ok (.if_icmp .eq 462, 3) := by decide +kernel
theorem dL_law_749 : decode cL_law 749 = .ok (.iconst 0, 1) := by decide +kernel
theorem dL_law_750 : decode cL_law 750 = .ok (.ireturn, 1) := by decide +kernel
theorem dL_law_751 : decode cL_law 751 = .ok (.aload_n 1, 1) := by decide +kernel
theorem dL_law_752 : decode cL_law 752 = .ok (.invokevirtual 94, 3) := by decide +kernel
theorem dL_law_755 : decode cL_law 755 = .ok (.aload_n 2, 1) := by decide +kernel
theorem dL_law_756 : decode cL_law 756 = .ok (.invokevirtual 97, 3) := by decide +kernel
theorem dL_law_759 : decode cL_law 759 = .ok (.if_icmp .eq 449, 3) := by decide +kernel
theorem dL_law_762 : decode cL_law 762 = .ok (.iconst 0, 1) := by decide +kernel
theorem dL_law_763 : decode cL_law 763 = .ok (.ireturn, 1) := by decide +kernel
theorem dL_law_764 : decode cL_law 764 = .ok (.aload_n 1, 1) := by decide +kernel
theorem dL_law_765 : decode cL_law 765 = .ok (.aload_n 0, 1) := by decide +kernel
theorem dL_law_766 : decode cL_law 766 = .ok (.iload_n 3, 1) := by decide +kernel
theorem dL_law_767 : decode cL_law 767 = .ok (.iconst 1, 1) := by decide +kernel
theorem dL_law_768 : decode cL_law 768 = .ok (.iadd, 1) := by decide +kernel
theorem dL_law_769 : decode cL_law 769 = .ok (.iaload, 1) := by decide +kernel
theorem dL_law_770 : decode cL_law 770 = .ok (.invokevirtual 98, 3) := by decide +kernel
theorem dL_law_773 : decode cL_law 773 = .ok (.aload_n 2, 1) := by decide +kernel
theorem dL_law_774 : decode cL_law 774 = .ok (.aload_n 0, 1) := by decide +kernel
theorem dL_law_775 : decode cL_law 775 = .ok (.iload_n 3, 1) := by decide +kernel
theorem dL_law_776 : decode cL_law 776 = .ok (.iconst 1, 1) := by decide +kernel
theorem dL_law_777 : decode cL_law 777 = .ok (.iadd, 1) := by decide +kernel
theorem dL_law_778 : decode cL_law 778 = .ok (.iaload, 1) := by decide +kernel
theorem dL_law_779 : decode cL_law 779 = .ok (.invokevirtual 101, 3) := by decide +kernel
theorem dL_law_782 : decode cL_law 782 = .ok (.if_icmp .eq 426, 3) := by decide +kernel
theorem dL_law_785 : decode cL_law 785 = .ok (.iconst 0, 1) := by decide +kernel
theorem dL_law_786 : decode cL_law 786 = .ok (.ireturn, 1) := by decide +kernel
theorem dL_law_787 : decode cL_law 787 = .ok (.aload_n 1, 1) := by decide +kernel
theorem dL_law_788 : decode cL_law 788 = .ok (.aload_n 0, 1) := by decide +kernel
theorem dL_law_789 : decode cL_law 789 = .ok (.iload_n 3, 1) := by decide +kernel
theorem dL_law_790 : decode cL_law 790 = .ok (.iconst 1, 1) := by decide +kernel
theorem dL_law_791 : decode cL_law 791 = .ok (.iadd, 1) := by decide +kernel
theorem dL_law_792 : decode cL_law 792 = .ok (.iaload, 1) := by decide +kernel
theorem dL_law_793 : decode cL_law 793 = .ok (.invokevirtual 102, 3) := by decide +kernel
theorem dL_law_796 : decode cL_law 796 = .ok (.aload_n 2, 1) := by decide +kernel
theorem dL_law_797 : decode cL_law 797 = .ok (.aload_n 0, 1) := by decide +kernel
theorem dL_law_798 : decode cL_law 798 = .ok (.iload_n 3, 1) := by decide +kernel
theorem dL_law_799 : decode cL_law 799 = .ok (.iconst 1, 1) := by decide +kernel
theorem dL_law_800 : decode cL_law 800 = .ok (.iadd, 1) := by decide +kernel
theorem dL_law_801 : decode cL_law 801 = .ok (.iaload, 1) := by decide +kernel
theorem dL_law_802 : decode cL_law 802 = .ok (.invokevirtual 105, 3) := by decide +kernel
theorem dL_law_805 : decode cL_law 805 = .ok (.if_icmp .eq 403, 3) := by decide +kernel
theorem dL_law_808 : decode cL_law 808 = .ok (.iconst 0, 1) := by decide +kernel
theorem dL_law_809 : decode cL_law 809 = .ok (.ireturn, 1) := by decide +kernel
theorem dL_law_810 : decode cL_law 810 = .ok (.aload_n 1, 1) := by decide +kernel
theorem dL_law_811 : decode cL_law 811 = .ok (.invokevirtual 106, 3) := by decide +kernel
theorem dL_law_814 : decode cL_law 814 = .ok (.aload_n 2, 1) := by decide +kernel
theorem dL_law_815 : decode cL_law 815 = .ok (.invokevirtual 109, 3) := by decide +kernel
theorem dL_law_818 : decode cL_law 818 = .ok (.if_icmp .eq 390, 3) := by decide +kernel
theorem dL_law_821 : decode cL_law 821 = .ok (.iconst 0, 1) := by decide +kernel
theorem dL_law_822 : decode cL_law 822 = .ok (.ireturn, 1) := by decide +kernel
theorem dL_law_823 : decode cL_law 823 = .ok (.aload_n 1, 1) := by decide +kernel
theorem dL_law_824 : decode cL_law 824 = .ok (.aload_n 0, 1) := by decide +kernel
theorem dL_law_825 : decode cL_law 825 = .ok (.iload_n 3, 1) := by decide +kernel
theorem dL_law_826 : decode cL_law 826 = .ok (.iconst 1, 1) := by decide +kernel
theorem dL_law_827 : decode cL_law 827 = .ok (.iadd, 1) := by decide +kernel
theorem dL_law_828 : decode cL_law 828 = .ok (.iaload, 1) := by decide +kernel
theorem dL_law_829 : decode cL_law 829 = .ok (.aload_n 0, 1) := by decide +kernel
theorem dL_law_830 : decode cL_law 830 = .ok (.iload_n 3, 1) := by decide +kernel
theorem dL_law_831 : decode cL_law 831 = .ok (.iconst 2, 1) := by decide +kernel
theorem dL_law_832 : decode cL_law 832 = .ok (.iadd, 1) := by decide +kernel
theorem dL_law_833 : decode cL_law 833 = .ok (.iaload, 1) := by decide +kernel
theorem dL_law_834 : decode cL_law 834 = .ok (.invokevirtual 110, 3) := by decide +kernel
theorem dL_law_837 : decode cL_law 837 = .ok (.aload_n 2, 1) := by decide +kernel
theorem dL_law_838 : decode cL_law 838 = .ok (.aload_n 0, 1) := by decide +kernel
theorem dL_law_839 : decode cL_law 839 = .ok (.iload_n 3, 1) := by decide +kernel
theorem dL_law_840 : decode cL_law 840 = .ok (.iconst 1, 1) := by decide +kernel
theorem dL_law_841 : decode cL_law 841 = .ok (.iadd, 1) := by decide +kernel
theorem dL_law_842 : decode cL_law 842 = .ok (.iaload, 1) := by decide +kernel
theorem dL_law_843 : decode cL_law 843 = .ok (.aload_n 0, 1) := by decide +kernel
theorem dL_law_844 : decode cL_law 844 = .ok (.iload_n 3, 1) := by decide +kernel
theorem dL_law_845 : decode cL_law 845 = .ok (.iconst 2, 1) := by decide +kernel
theorem dL_law_846 : decode cL_law 846 = .ok (.iadd, 1) := by decide +kernel
theorem dL_law_847 : decode cL_law 847 = .ok (.iaload, 1) := by decide +kernel
theorem dL_law_848 : decode cL_law 848 = .ok (.invokevirtual 113, 3) := by decide +kernel
theorem dL_law_851 : decode cL_law 851 = .ok (.if_icmp .eq 357, 3) := by decide +kernel
theorem dL_law_854 : decode cL_law 854 = .ok (.iconst 0, 1) := by decide +kernel
theorem dL_law_855 : decode cL_law 855 = .ok (.ireturn, 1) := by decide +kernel
theorem dL_law_856 : decode cL_law 856 = .ok (.aload_n 1, 1) := by decide +kernel
theorem dL_law_857 : decode cL_law 857 = .ok (.invokevirtual 114, 3) := by decide +kernel
theorem dL_law_860 : decode cL_law 860 = .ok (.aload_n 2, 1) := by decide +kernel
theorem dL_law_861 : decode cL_law 861 = .ok (.invokevirtual 118, 3) := by decide +kernel
theorem dL_law_864 : decode cL_law 864 = .ok (.lcmp, 1) := by decide +kernel
theorem dL_law_865 : decode cL_law 865 = .ok (.ifCond .eq 343, 3) := by decide +kernel
theorem dL_law_868 : decode cL_law 868 = .ok (.iconst 0, 1) := by decide +kernel
theorem dL_law_869 : decode cL_law 869 = .ok (.ireturn, 1) := by decide +kernel
theorem dL_law_870 : decode cL_law 870 = .ok (.aload_n 1, 1) := by decide +kernel
theorem dL_law_871 : decode cL_law 871 = .ok (.aload_n 0, 1) := by decide +kernel
theorem dL_law_872 : decode cL_law 872 = .ok (.iload_n 3, 1) := by decide +kernel
theorem dL_law_873 : decode cL_law 873 = .ok (.iconst 1, 1) := by decide +kernel
theorem dL_law_874 : decode cL_law 874 = .ok (.iadd, 1) := by decide +kernel
theorem dL_law_875 : decode cL_law 875 = .ok (.iaload, 1) := by decide +kernel
theorem dL_law_876 : decode cL_law 876 = .ok (.aload_n 0, 1) := by decide +kernel
theorem dL_law_877 : decode cL_law 877 = .ok (.iload_n 3, 1) := by decide +kernel
theorem dL_law_878 : decode cL_law 878 = .ok (.iconst 2, 1) := by decide +kernel
theorem dL_law_879 : decode cL_law 879 = .ok (.iadd, 1) := by decide +kernel
theorem dL_law_880 : decode cL_law 880 = .ok (.iaload, 1) := by decide +kernel
theorem dL_law_881 : decode cL_law 881 = .ok (.invokevirtual 119, 3) := by decide +kernel
theorem dL_law_884 : decode cL_law 884 = .ok (.aload_n 2, 1) := by decide +kernel
theorem dL_law_885 : decode cL_law 885 = .ok (.aload_n 0, 1) := by decide +kernel
theorem dL_law_886 : decode cL_law 886 = .ok (.iload_n 3, 1) := by decide +kernel
theorem dL_law_887 : decode cL_law 887 = .ok (.iconst 1, 1) := by decide +kernel
theorem dL_law_888 : decode cL_law 888 = .ok (.iadd, 1) := by decide +kernel
theorem dL_law_889 : decode cL_law 889 = .ok (.iaload, 1) := by decide +kernel
theorem dL_law_890 : decode cL_law 890 = .ok (.aload_n 0, 1) := by decide +kernel
theorem dL_law_891 : decode cL_law 891 = .ok (.iload_n 3, 1) := by decide +kernel
theorem dL_law_892 : decode cL_law 892 = .ok (.iconst 2, 1) := by decide +kernel
theorem dL_law_893 : decode cL_law 893 = .ok (.iadd, 1) := by decide +kernel
theorem dL_law_894 : decode cL_law 894 = .ok (.iaload, 1) := by decide +kernel
theorem dL_law_895 : decode cL_law 895 = .ok (.invokevirtual 122, 3) := by decide +kernel
theorem dL_law_898 : decode cL_law 898 = .ok (.if_icmp .eq 310, 3) := by decide +kernel
theorem dL_law_901 : decode cL_law 901 = .ok (.iconst 0, 1) := by decide +kernel
theorem dL_law_902 : decode cL_law 902 = .ok (.ireturn, 1) := by decide +kernel
theorem dL_law_903 : decode cL_law 903 = .ok (.aload_n 1, 1) := by decide +kernel
theorem dL_law_904 : decode cL_law 904 = .ok (.aload_n 0, 1) := by decide +kernel
theorem dL_law_905 : decode cL_law 905 = .ok (.iload_n 3, 1) := by decide +kernel
theorem dL_law_906 : decode cL_law 906 = .ok (.iconst 1, 1) := by decide +kernel
theorem dL_law_907 : decode cL_law 907 = .ok (.iadd, 1) := by decide +kernel
theorem dL_law_908 : decode cL_law 908 = .ok (.iaload, 1) := by decide +kernel
theorem dL_law_909 : decode cL_law 909 = .ok (.aload_n 0, 1) := by decide +kernel
theorem dL_law_910 : decode cL_law 910 = .ok (.iload_n 3, 1) := by decide +kernel
theorem dL_law_911 : decode cL_law 911 = .ok (.iconst 2, 1) := by decide +kernel
theorem dL_law_912 : decode cL_law 912 = .ok (.iadd, 1) := by decide +kernel
theorem dL_law_913 : decode cL_law 913 = .ok (.iaload, 1) := by decide +kernel
theorem dL_law_914 : decode cL_law 914 = .ok (.aload_n 0, 1) := by decide +kernel
theorem dL_law_915 : decode cL_law 915 = .ok (.iload_n 3, 1) := by decide +kernel
theorem dL_law_916 : decode cL_law 916 = .ok (.iconst 3, 1) := by decide +kernel
theorem dL_law_917 : decode cL_law 917 = .ok (.iadd, 1) := by decide +kernel
theorem dL_law_918 : decode cL_law 918 = .ok (.iaload, 1) := by decide +kernel
theorem dL_law_919 : decode cL_law 919 = .ok (.invokevirtual 123, 3) := by decide +kernel
theorem dL_law_922 : decode cL_law 922 = .ok (.aload_n 2, 1) := by decide +kernel
theorem dL_law_923 : decode cL_law 923 = .ok (.aload_n 0, 1) := by decide +kernel
theorem dL_law_924 : decode cL_law 924 = .ok (.iload_n 3, 1) := by decide +kernel
theorem dL_law_925 : decode cL_law 925 = .ok (.iconst 1, 1) := by decide +kernel
theorem dL_law_926 : decode cL_law 926 = .ok (.iadd, 1) := by decide +kernel
theorem dL_law_927 : decode cL_law 927 = .ok (.iaload, 1) := by decide +kernel
theorem dL_law_928 : decode cL_law 928 = .ok (.aload_n 0, 1) := by decide +kernel
theorem dL_law_929 : decode cL_law 929 = .ok (.iload_n 3, 1) := by decide +kernel
theorem dL_law_930 : decode cL_law 930 = .ok (.iconst 2, 1) := by decide +kernel
theorem dL_law_931 : decode cL_law 931 = .ok (.iadd, 1) := by decide +kernel
theorem dL_law_932 : decode cL_law 932 = .ok (.iaload, 1) := by decide +kernel
theorem dL_law_933 : decode cL_law 933 = .ok (.aload_n 0, 1) := by decide +kernel
theorem dL_law_934 : decode cL_law 934 = .ok (.iload_n 3, 1) := by decide +kernel
theorem dL_law_935 : decode cL_law 935 = .ok (.iconst 3, 1) := by decide +kernel
theorem dL_law_936 : decode cL_law 936 = .ok (.iadd, 1) := by decide +kernel
theorem dL_law_937 : decode cL_law 937 = .ok (.iaload, 1) := by decide +kernel
theorem dL_law_938 : decode cL_law 938 = .ok (.invokevirtual 126, 3) := by decide +kernel
theorem dL_law_941 : decode cL_law 941 = .ok (.if_icmp .eq 267, 3) := by decide +kernel
theorem dL_law_944 : decode cL_law 944 = .ok (.iconst 0, 1) := by decide +kernel
theorem dL_law_945 : decode cL_law 945 = .ok (.ireturn, 1) := by decide +kernel
theorem dL_law_946 : decode cL_law 946 = .ok (.aload_n 1, 1) := by decide +kernel
theorem dL_law_947 : decode cL_law 947 = .ok (.aload_n 0, 1) := by decide +kernel
theorem dL_law_948 : decode cL_law 948 = .ok (.iload_n 3, 1) := by decide +kernel
theorem dL_law_949 : decode cL_law 949 = .ok (.iconst 1, 1) := by decide +kernel
theorem dL_law_950 : decode cL_law 950 = .ok (.iadd, 1) := by decide +kernel
theorem dL_law_951 : decode cL_law 951 = .ok (.iaload, 1) := by decide +kernel
theorem dL_law_952 : decode cL_law 952 = .ok (.invokevirtual 127, 3) := by decide +kernel
theorem dL_law_955 : decode cL_law 955 = .ok (.aload_n 2, 1) := by decide +kernel
theorem dL_law_956 : decode cL_law 956 = .ok (.aload_n 0, 1) := by decide +kernel
theorem dL_law_957 : decode cL_law 957 = .ok (.iload_n 3, 1) := by decide +kernel
theorem dL_law_958 : decode cL_law 958 = .ok (.iconst 1, 1) := by decide +kernel
theorem dL_law_959 : decode cL_law 959 = .ok (.iadd, 1) := by decide +kernel
theorem dL_law_960 : decode cL_law 960 = .ok (.iaload, 1) := by decide +kernel
theorem dL_law_961 : decode cL_law 961 = .ok (.invokevirtual 130, 3) := by decide +kernel
theorem dL_law_964 : decode cL_law 964 = .ok (.if_icmp .eq 244, 3) := by decide +kernel
theorem dL_law_967 : decode cL_law 967 = .ok (.iconst 0, 1) := by decide +kernel
theorem dL_law_968 : decode cL_law 968 = .ok (.ireturn, 1) := by decide +kernel
theorem dL_law_969 : decode cL_law 969 = .ok (.aload_n 1, 1) := by decide +kernel
theorem dL_law_970 : decode cL_law 970 = .ok (.aload_n 0, 1) := by decide +kernel
theorem dL_law_971 : decode cL_law 971 = .ok (.iload_n 3, 1) := by decide +kernel
theorem dL_law_972 : decode cL_law 972 = .ok (.iconst 1, 1) := by decide +kernel
theorem dL_law_973 : decode cL_law 973 = .ok (.iadd, 1) := by decide +kernel
theorem dL_law_974 : decode cL_law 974 = .ok (.iaload, 1) := by decide +kernel
theorem dL_law_975 : decode cL_law 975 = .ok (.aload_n 0, 1) := by decide +kernel
theorem dL_law_976 : decode cL_law 976 = .ok (.iload_n 3, 1) := by decide +kernel
theorem dL_law_977 : decode cL_law 977 = .ok (.iconst 2, 1) := by decide +kernel
theorem dL_law_978 : decode cL_law 978 = .ok (.iadd, 1) := by decide +kernel
theorem dL_law_979 : decode cL_law 979 = .ok (.iaload, 1) := by decide +kernel
theorem dL_law_980 : decode cL_law 980 = .ok (.aload_n 0, 1) := by decide +kernel
theorem dL_law_981 : decode cL_law 981 = .ok (.iload_n 3, 1) := by decide +kernel
theorem dL_law_982 : decode cL_law 982 = .ok (.iconst 3, 1) := by decide +kernel
theorem dL_law_983 : decode cL_law 983 = .ok (.iadd, 1) := by decide +kernel
theorem dL_law_984 : decode cL_law 984 = .ok (.iaload, 1) := by decide +kernel
theorem dL_law_985 : decode cL_law 985 = .ok (.aload_n 0, 1) := by decide +kernel
theorem dL_law_986 : decode cL_law 986 = .ok (.iload_n 3, 1) := by decide +kernel
theorem dL_law_987 : decode cL_law 987 = .ok (.iconst 4, 1) := by decide +kernel
theorem dL_law_988 : decode cL_law 988 = .ok (.iadd, 1) := by decide +kernel
theorem dL_law_989 : decode cL_law 989 = .ok (.iaload, 1) := by decide +kernel
theorem dL_law_990 : decode cL_law 990 = .ok (.invokevirtual 131, 3) := by decide +kernel
theorem dL_law_993 : decode cL_law 993 = .ok (.aload_n 2, 1) := by decide +kernel
theorem dL_law_994 : decode cL_law 994 = .ok (.aload_n 0, 1) := by decide +kernel
theorem dL_law_995 : decode cL_law 995 = .ok (.iload_n 3, 1) := by decide +kernel
theorem dL_law_996 : decode cL_law 996 = .ok (.iconst 1, 1) := by decide +kernel
theorem dL_law_997 : decode cL_law 997 = .ok (.iadd, 1) := by decide +kernel
theorem dL_law_998 : decode cL_law 998 = .ok (.iaload, 1) := by decide +kernel
theorem dL_law_999 : decode cL_law 999 = .ok (.aload_n 0, 1) := by decide +kernel
theorem dL_law_1000 : decode cL_law 1000 = .ok (.iload_n 3, 1) := by decide +kernel
theorem dL_law_1001 : decode cL_law 1001 = .ok (.iconst 2, 1) := by decide +kernel
theorem dL_law_1002 : decode cL_law 1002 = .ok (.iadd, 1) := by decide +kernel
theorem dL_law_1003 : decode cL_law 1003 = .ok (.iaload, 1) := by decide +kernel
theorem dL_law_1004 : decode cL_law 1004 = .ok (.aload_n 0, 1) := by decide +kernel
theorem dL_law_1005 : decode cL_law 1005 = .ok (.iload_n 3, 1) := by decide +kernel
theorem dL_law_1006 : decode cL_law 1006 = .ok (.iconst 3, 1) := by decide +kernel
theorem dL_law_1007 : decode cL_law 1007 = .ok (.iadd, 1) := by decide +kernel
theorem dL_law_1008 : decode cL_law 1008 = .ok (.iaload, 1) := by decide +kernel
theorem dL_law_1009 : decode cL_law 1009 = .ok (.aload_n 0, 1) := by decide +kernel
theorem dL_law_1010 : decode cL_law 1010 = .ok (.iload_n 3, 1) := by decide +kernel
theorem dL_law_1011 : decode cL_law 1011 = .ok (.iconst 4, 1) := by decide +kernel
theorem dL_law_1012 : decode cL_law 1012 = .ok (.iadd, 1) := by decide +kernel
theorem dL_law_1013 : decode cL_law 1013 = .ok (.iaload, 1) := by decide +kernel
theorem dL_law_1014 : decode cL_law 1014 = .ok (.invokevirtual 134, 3) := by decide +kernel
theorem dL_law_1017 : decode cL_law 1017 = .ok (.if_icmp .eq 191, 3) := by decide +kernel
theorem dL_law_1020 : decode cL_law 1020 = .ok (.iconst 0, 1) := by decide +kernel
theorem dL_law_1021 : decode cL_law 1021 = .ok (.ireturn, 1) := by decide +kernel
theorem dL_law_1022 : decode cL_law 1022 = .ok (.aload_n 1, 1) := by decide +kernel
theorem dL_law_1023 : decode cL_law 1023 = .ok (.aload_n 0, 1) := by decide +kernel
theorem dL_law_1024 : decode cL_law 1024 = .ok (.iload_n 3, 1) := by decide +kernel
theorem dL_law_1025 : decode cL_law 1025 = .ok (.iconst 1, 1) := by decide +kernel
theorem dL_law_1026 : decode cL_law 1026 = .ok (.iadd, 1) := by decide +kernel
theorem dL_law_1027 : decode cL_law 1027 = .ok (.iaload, 1) := by decide +kernel
theorem dL_law_1028 : decode cL_law 1028 = .ok (.aload_n 0, 1) := by decide +kernel
theorem dL_law_1029 : decode cL_law 1029 = .ok (.iload_n 3, 1) := by decide +kernel
theorem dL_law_1030 : decode cL_law 1030 = .ok (.iconst 2, 1) := by decide +kernel
theorem dL_law_1031 : decode cL_law 1031 = .ok (.iadd, 1) := by decide +kernel
theorem dL_law_1032 : decode cL_law 1032 = .ok (.iaload, 1) := by decide +kernel
theorem dL_law_1033 : decode cL_law 1033 = .ok (.aload_n 0, 1) := by decide +kernel
theorem dL_law_1034 : decode cL_law 1034 = .ok (.iload_n 3, 1) := by decide +kernel
theorem dL_law_1035 : decode cL_law 1035 = .ok (.iconst 3, 1) := by decide +kernel
theorem dL_law_1036 : decode cL_law 1036 = .ok (.iadd, 1) := by decide +kernel
theorem dL_law_1037 : decode cL_law 1037 = .ok (.iaload, 1) := by decide +kernel
theorem dL_law_1038 : decode cL_law 1038 = .ok (.invokevirtual 135, 3) := by decide +kernel
theorem dL_law_1041 : decode cL_law 1041 = .ok (.aload_n 2, 1) := by decide +kernel
theorem dL_law_1042 : decode cL_law 1042 = .ok (.aload_n 0, 1) := by decide +kernel
theorem dL_law_1043 : decode cL_law 1043 = .ok (.iload_n 3, 1) := by decide +kernel
theorem dL_law_1044 : decode cL_law 1044 = .ok (.iconst 1, 1) := by decide +kernel
theorem dL_law_1045 : decode cL_law 1045 = .ok (.iadd, 1) := by decide +kernel
theorem dL_law_1046 : decode cL_law 1046 = .ok (.iaload, 1) := by decide +kernel
theorem dL_law_1047 : decode cL_law 1047 = .ok (.aload_n 0, 1) := by decide +kernel
theorem dL_law_1048 : decode cL_law 1048 = .ok (.iload_n 3, 1) := by decide +kernel
theorem dL_law_1049 : decode cL_law 1049 = .ok (.iconst 2, 1) := by decide +kernel
theorem dL_law_1050 : decode cL_law 1050 = .ok (.iadd, 1) := by decide +kernel
theorem dL_law_1051 : decode cL_law 1051 = .ok (.iaload, 1) := by decide +kernel
theorem dL_law_1052 : decode cL_law 1052 = .ok (.aload_n 0, 1) := by decide +kernel
theorem dL_law_1053 : decode cL_law 1053 = .ok (.iload_n 3, 1) := by decide +kernel
theorem dL_law_1054 : decode cL_law 1054 = .ok (.iconst 3, 1) := by decide +kernel
theorem dL_law_1055 : decode cL_law 1055 = .ok (.iadd, 1) := by decide +kernel
theorem dL_law_1056 : decode cL_law 1056 = .ok (.iaload, 1) := by decide +kernel
theorem dL_law_1057 : decode cL_law 1057 = .ok (.invokevirtual 138, 3) := by decide +kernel
theorem dL_law_1060 : decode cL_law 1060 = .ok (.if_icmp .eq 148, 3) := by decide +kernel
theorem dL_law_1063 : decode cL_law 1063 = .ok (.iconst 0, 1) := by decide +kernel
theorem dL_law_1064 : decode cL_law 1064 = .ok (.ireturn, 1) := by decide +kernel
theorem dL_law_1065 : decode cL_law 1065 = .ok (.aload_n 1, 1) := by decide +kernel
theorem dL_law_1066 : decode cL_law 1066 = .ok (.aload_n 0, 1) := by decide +kernel
theorem dL_law_1067 : decode cL_law 1067 = .ok (.iload_n 3, 1) := by decide +kernel
theorem dL_law_1068 : decode cL_law 1068 = .ok (.iconst 1, 1) := by decide +kernel
theorem dL_law_1069 : decode cL_law 1069 = .ok (.iadd, 1) := by decide +kernel
theorem dL_law_1070 : decode cL_law 1070 = .ok (.iaload, 1) := by decide +kernel
theorem dL_law_1071 : decode cL_law 1071 = .ok (.aload_n 0, 1) := by decide +kernel
theorem dL_law_1072 : decode cL_law 1072 = .ok (.iload_n 3, 1) := by decide +kernel
theorem dL_law_1073 : decode cL_law 1073 = .ok (.iconst 2, 1) := by decide +kernel
theorem dL_law_1074 : decode cL_law 1074 = .ok (.iadd, 1) := by decide +kernel
theorem dL_law_1075 : decode cL_law 1075 = .ok (.iaload, 1) := by decide +kernel
theorem dL_law_1076 : decode cL_law 1076 = .ok (.aload_n 0, 1) := by decide +kernel
theorem dL_law_1077 : decode cL_law 1077 = .ok (.iload_n 3, 1) := by decide +kernel
theorem dL_law_1078 : decode cL_law 1078 = .ok (.iconst 3, 1) := by decide +kernel
theorem dL_law_1079 : decode cL_law 1079 = .ok (.iadd, 1) := by decide +kernel
theorem dL_law_1080 : decode cL_law 1080 = .ok (.iaload, 1) := by decide +kernel
theorem dL_law_1081 : decode cL_law 1081 = .ok (.aload_n 0, 1) := by decide +kernel
theorem dL_law_1082 : decode cL_law 1082 = .ok (.iload_n 3, 1) := by decide +kernel
theorem dL_law_1083 : decode cL_law 1083 = .ok (.iconst 4, 1) := by decide +kernel
theorem dL_law_1084 : decode cL_law 1084 = .ok (.iadd, 1) := by decide +kernel
theorem dL_law_1085 : decode cL_law 1085 = .ok (.iaload, 1) := by decide +kernel
theorem dL_law_1086 : decode cL_law 1086 = .ok (.aload_n 0, 1) := by decide +kernel
theorem dL_law_1087 : decode cL_law 1087 = .ok (.iload_n 3, 1) := by decide +kernel
theorem dL_law_1088 : decode cL_law 1088 = .ok (.iconst 5, 1) := by decide +kernel
theorem dL_law_1089 : decode cL_law 1089 = .ok (.iadd, 1) := by decide +kernel
theorem dL_law_1090 : decode cL_law 1090 = .ok (.iaload, 1) := by decide +kernel
theorem dL_law_1091 : decode cL_law 1091 = .ok (.invokevirtual 139, 3) := by decide +kernel
theorem dL_law_1094 : decode cL_law 1094 = .ok (.aload_n 2, 1) := by decide +kernel
theorem dL_law_1095 : decode cL_law 1095 = .ok (.aload_n 0, 1) := by decide +kernel
theorem dL_law_1096 : decode cL_law 1096 = .ok (.iload_n 3, 1) := by decide +kernel
theorem dL_law_1097 : decode cL_law 1097 = .ok (.iconst 1, 1) := by decide +kernel
theorem dL_law_1098 : decode cL_law 1098 = .ok (.iadd, 1) := by decide +kernel
theorem dL_law_1099 : decode cL_law 1099 = .ok (.iaload, 1) := by decide +kernel
theorem dL_law_1100 : decode cL_law 1100 = .ok (.aload_n 0, 1) := by decide +kernel
theorem dL_law_1101 : decode cL_law 1101 = .ok (.iload_n 3, 1) := by decide +kernel
theorem dL_law_1102 : decode cL_law 1102 = .ok (.iconst 2, 1) := by decide +kernel
theorem dL_law_1103 : decode cL_law 1103 = .ok (.iadd, 1) := by decide +kernel
theorem dL_law_1104 : decode cL_law 1104 = .ok (.iaload, 1) := by decide +kernel
theorem dL_law_1105 : decode cL_law 1105 = .ok (.aload_n 0, 1) := by decide +kernel
theorem dL_law_1106 : decode cL_law 1106 = .ok (.iload_n 3, 1) := by decide +kernel
theorem dL_law_1107 : decode cL_law 1107 = .ok (.iconst 3, 1) := by decide +kernel
theorem dL_law_1108 : decode cL_law 1108 = .ok (.iadd, 1) := by decide +kernel
theorem dL_law_1109 : decode cL_law 1109 = .ok (.iaload, 1) := by decide +kernel
theorem dL_law_1110 : decode cL_law 1110 = .ok (.aload_n 0, 1) := by decide +kernel
theorem dL_law_1111 : decode cL_law 1111 = .ok (.iload_n 3, 1) := by decide +kernel
theorem dL_law_1112 : decode cL_law 1112 = .ok (.iconst 4, 1) := by decide +kernel
theorem dL_law_1113 : decode cL_law 1113 = .ok (.iadd, 1) := by decide +kernel
theorem dL_law_1114 : decode cL_law 1114 = .ok (.iaload, 1) := by decide +kernel
theorem dL_law_1115 : decode cL_law 1115 = .ok (.aload_n 0, 1) := by decide +kernel
theorem dL_law_1116 : decode cL_law 1116 = .ok (.iload_n 3, 1) := by decide +kernel
theorem dL_law_1117 : decode cL_law 1117 = .ok (.iconst 5, 1) := by decide +kernel
theorem dL_law_1118 : decode cL_law 1118 = .ok (.iadd, 1) := by decide +kernel
theorem dL_law_1119 : decode cL_law 1119 = .ok (.iaload, 1) := by decide +kernel
theorem dL_law_1120 : decode cL_law 1120 = .ok (.invokevirtual 143, 3) := by decide +kernel
theorem dL_law_1123 : decode cL_law 1123 = .ok (.if_icmp .eq 85, 3) := by decide +kernel
theorem dL_law_1126 : decode cL_law 1126 = .ok (.iconst 0, 1) := by decide +kernel
theorem dL_law_1127 : decode cL_law 1127 = .ok (.ireturn, 1) := by decide +kernel
theorem dL_law_1128 : decode cL_law 1128 = .ok (.aload_n 1, 1) := by decide +kernel
theorem dL_law_1129 : decode cL_law 1129 = .ok (.aload_n 0, 1) := by decide +kernel
theorem dL_law_1130 : decode cL_law 1130 = .ok (.iload_n 3, 1) := by decide +kernel
theorem dL_law_1131 : decode cL_law 1131 = .ok (.iconst 1, 1) := by decide +kernel
theorem dL_law_1132 : decode cL_law 1132 = .ok (.iadd, 1) := by decide +kernel
theorem dL_law_1133 : decode cL_law 1133 = .ok (.iaload, 1) := by decide +kernel
theorem dL_law_1134 : decode cL_law 1134 = .ok (.aload_n 0, 1) := by decide +kernel
theorem dL_law_1135 : decode cL_law 1135 = .ok (.iload_n 3, 1) := by decide +kernel
theorem dL_law_1136 : decode cL_law 1136 = .ok (.iconst 2, 1) := by decide +kernel
theorem dL_law_1137 : decode cL_law 1137 = .ok (.iadd, 1) := by decide +kernel
theorem dL_law_1138 : decode cL_law 1138 = .ok (.iaload, 1) := by decide +kernel
theorem dL_law_1139 : decode cL_law 1139 = .ok (.aload_n 0, 1) := by decide +kernel
theorem dL_law_1140 : decode cL_law 1140 = .ok (.iload_n 3, 1) := by decide +kernel
theorem dL_law_1141 : decode cL_law 1141 = .ok (.iconst 3, 1) := by decide +kernel
theorem dL_law_1142 : decode cL_law 1142 = .ok (.iadd, 1) := by decide +kernel
theorem dL_law_1143 : decode cL_law 1143 = .ok (.iaload, 1) := by decide +kernel
theorem dL_law_1144 : decode cL_law 1144 = .ok (.invokevirtual 144, 3) := by decide +kernel
theorem dL_law_1147 : decode cL_law 1147 = .ok (.aload_n 2, 1) := by decide +kernel
theorem dL_law_1148 : decode cL_law 1148 = .ok (.aload_n 0, 1) := by decide +kernel
theorem dL_law_1149 : decode cL_law 1149 = .ok (.iload_n 3, 1) := by decide +kernel
theorem dL_law_1150 : decode cL_law 1150 = .ok (.iconst 1, 1) := by decide +kernel
theorem dL_law_1151 : decode cL_law 1151 = .ok (.iadd, 1) := by decide +kernel
theorem dL_law_1152 : decode cL_law 1152 = .ok (.iaload, 1) := by decide +kernel
theorem dL_law_1153 : decode cL_law 1153 = .ok (.aload_n 0, 1) := by decide +kernel
theorem dL_law_1154 : decode cL_law 1154 = .ok (.iload_n 3, 1) := by decide +kernel
theorem dL_law_1155 : decode cL_law 1155 = .ok (.iconst 2, 1) := by decide +kernel
theorem dL_law_1156 : decode cL_law 1156 = .ok (.iadd, 1) := by decide +kernel
theorem dL_law_1157 : decode cL_law 1157 = .ok (.iaload, 1) := by decide +kernel
theorem dL_law_1158 : decode cL_law 1158 = .ok (.aload_n 0, 1) := by decide +kernel
theorem dL_law_1159 : decode cL_law 1159 = .ok (.iload_n 3, 1) := by decide +kernel
theorem dL_law_1160 : decode cL_law 1160 = .ok (.iconst 3, 1) := by decide +kernel
theorem dL_law_1161 : decode cL_law 1161 = .ok (.iadd, 1) := by decide +kernel
theorem dL_law_1162 : decode cL_law 1162 = .ok (.iaload, 1) := by decide +kernel
theorem dL_law_1163 : decode cL_law 1163 = .ok (.invokevirtual 147, 3) := by decide +kernel
theorem dL_law_1166 : decode cL_law 1166 = .ok (.if_icmp .eq 42, 3) := by decide +kernel
theorem dL_law_1169 : decode cL_law 1169 = .ok (.iconst 0, 1) := by decide +kernel
theorem dL_law_1170 : decode cL_law 1170 = .ok (.ireturn, 1) := by decide +kernel
theorem dL_law_1171 : decode cL_law 1171 = .ok (.aload_n 1, 1) := by decide +kernel
theorem dL_law_1172 : decode cL_law 1172 = .ok (.aload_n 0, 1) := by decide +kernel
theorem dL_law_1173 : decode cL_law 1173 = .ok (.iload_n 3, 1) := by decide +kernel
theorem dL_law_1174 : decode cL_law 1174 = .ok (.iconst 1, 1) := by decide +kernel
theorem dL_law_1175 : decode cL_law 1175 = .ok (.iadd, 1) := by decide +kernel
theorem dL_law_1176 : decode cL_law 1176 = .ok (.iaload, 1) := by decide +kernel
theorem dL_law_1177 : decode cL_law 1177 = .ok (.invokevirtual 148, 3) := by decide +kernel
theorem dL_law_1180 : decode cL_law 1180 = .ok (.aload_n 2, 1) := by decide +kernel
theorem dL_law_1181 : decode cL_law 1181 = .ok (.aload_n 0, 1) := by decide +kernel
theorem dL_law_1182 : decode cL_law 1182 = .ok (.iload_n 3, 1) := by decide +kernel
theorem dL_law_1183 : decode cL_law 1183 = .ok (.iconst 1, 1) := by decide +kernel
theorem dL_law_1184 : decode cL_law 1184 = .ok (.iadd, 1) := by decide +kernel
theorem dL_law_1185 : decode cL_law 1185 = .ok (.iaload, 1) := by decide +kernel
theorem dL_law_1186 : decode cL_law 1186 = .ok (.invokevirtual 151, 3) := by decide +kernel
theorem dL_law_1189 : decode cL_law 1189 = .ok (.if_icmp .eq 19, 3) := by decide +kernel
theorem dL_law_1192 : decode cL_law 1192 = .ok (.iconst 0, 1) := by decide +kernel
theorem dL_law_1193 : decode cL_law 1193 = .ok (.ireturn, 1) := by decide +kernel
theorem dL_law_1194 : decode cL_law 1194 = .ok (.aload_n 1, 1) := by decide +kernel
theorem dL_law_1195 : decode cL_law 1195 = .ok (.invokevirtual 152, 3) := by decide +kernel
theorem dL_law_1198 : decode cL_law 1198 = .ok (.aload_n 2, 1) := by decide +kernel
theorem dL_law_1199 : decode cL_law 1199 = .ok (.invokevirtual 155, 3) := by decide +kernel
theorem dL_law_1202 : decode cL_law 1202 = .ok (.lcmp, 1) := by decide +kernel
theorem dL_law_1203 : decode cL_law 1203 = .ok (.ifCond .eq 5, 3) := by decide +kernel
theorem dL_law_1206 : decode cL_law 1206 = .ok (.iconst 0, 1) := by decide +kernel
theorem dL_law_1207 : decode cL_law 1207 = .ok (.ireturn, 1) := by decide +kernel
theorem dL_law_1208 : decode cL_law 1208 = .ok (.iinc 3 6, 3) := by decide +kernel
theorem dL_law_1211 : decode cL_law 1211 = .ok (.goto (-1193), 3) := by decide +kernel
theorem dL_law_1214 : decode cL_law 1214 = .ok (.iconst 1, 1) := by decide +kernel
theorem dL_law_1215 : decode cL_law 1215 = .ok (.ireturn, 1) := by decide +kernel
end
section
/-! the abstract walk: a frame with listed locals over an abstract heap (numbers by cell and place) -/
abbrev hp_T : Type := (Nat → Nat → Int32) × Int64
def hwA (h : hp_T) (k : Nat) (f : Nat → Int32) : hp_T := (fun z => if z = k then f else h.1 z, h.2)
def hw (h : hp_T) (k i : Nat) (x : Int32) : hp_T := hwA h k (upd (h.1 k) i x)
def hwL (h : hp_T) (x : Int64) : hp_T := (h.1, x)
def ix (i : Int32) (n : Nat) : Bool := !(decide (i < 0) || decide (n ≤ i.toNatClampNeg))
theorem ix_vp {i : Int32} {n : Nat} (h : ix i n = true) : vp_in i n := by
  intro hc
  rcases hc with hc | hc <;> simp [ix, hc] at h
def bz (x : Int32) : Bool := decide (x = 0) || decide (x = 1)
def mx (x y : Int32) : Int32 := if x < y then y else x
def mn (x y : Int32) : Int32 := if y < x then y else x
def o_let {α β : Type} (a : α) (K : α → β) : β := K a
def o_call {α ρ : Type} (x : Option (α × hp_T)) (K : α → hp_T → Option ρ) : Option ρ := match x with
  | some (r, h) => K r h
  | none => none
def o_cv {ρ : Type} (x : Option hp_T) (K : hp_T → Option ρ) : Option ρ := match x with
  | some h => K h
  | none => none
theorem o_if {α : Type} {c : Bool} {x : Option α} {z : α} (E : (if c = true then x else none) = some z) : c = true ∧ x = some z := by
  cases c with
  | true => exact ⟨rfl, by simpa using E⟩
  | false => simp at E
theorem o_letE {α β : Type} {a : α} {K : α → β} {z : β} (E : o_let a K = z) : ∃ x, x = a ∧ K x = z := ⟨a, rfl, E⟩
theorem o_callE {α ρ : Type} {x : Option (α × hp_T)} {K : α → hp_T → Option ρ} {z : ρ} (E : o_call x K = some z) : ∃ r h, x = some (r, h) ∧ K r h = some z := by
  cases x with
  | none => cases E
  | some u => exact ⟨u.1, u.2, rfl, E⟩
theorem o_cvE {ρ : Type} {x : Option hp_T} {K : hp_T → Option ρ} {z : ρ} (E : o_cv x K = some z) : ∃ h, x = some h ∧ K h = some z := by
  cases x with
  | none => cases E
  | some u => exact ⟨u, rfl, E⟩
theorem o_pos {α : Type} {c : Prop} [Decidable c] {x y z : α} (hc : c) (E : (if c then x else y) = z) : x = z := by rwa [if_pos hc] at E
theorem o_neg {α : Type} {c : Prop} [Decidable c] {x y z : α} (hc : ¬ c) (E : (if c then x else y) = z) : y = z := by rwa [if_neg hc] at E
/-! locals by place -/
def lo_l : Nat → List (Option Value) → List (Nat × Value)
  | _, [] => []
  | i, none :: r => lo_l (i + 1) r
  | i, some v :: r => (i, v) :: lo_l (i + 1) r
theorem lo_mem : ∀ (lv : List (Option Value)) (i j : Nat) (v : Value), lv[j]? = some (some v) → (i + j, v) ∈ lo_l i lv
  | [], _, _, _, h => by simp at h
  | none :: r, i, 0, v, h => by simp at h
  | some w :: r, i, 0, v, h => by
    simp at h
    subst h
    exact List.mem_cons_self
  | none :: r, i, j + 1, v, h => by
    have := lo_mem r (i + 1) j v (by simpa using h)
    rw [show i + (j + 1) = i + 1 + j by omega]
    exact this
  | some w :: r, i, j + 1, v, h => by
    have := lo_mem r (i + 1) j v (by simpa using h)
    rw [show i + (j + 1) = i + 1 + j by omega]
    exact List.mem_cons_of_mem _ this
theorem lo_mem2 : ∀ (lv : List (Option Value)) (i k : Nat) (v : Value), (k, v) ∈ lo_l i lv → ∃ j, k = i + j ∧ lv[j]? = some (some v)
  | [], _, _, _, h => by cases h
  | none :: r, i, k, v, h => by
    obtain ⟨j, h1, h2⟩ := lo_mem2 r (i + 1) k v h
    exact ⟨j + 1, by omega, by simpa using h2⟩
  | some w :: r, i, k, v, h => by
    rcases List.mem_cons.mp h with h | h
    · cases h
      exact ⟨0, rfl, rfl⟩
    · obtain ⟨j, h1, h2⟩ := lo_mem2 r (i + 1) k v h
      exact ⟨j + 1, by omega, by simpa using h2⟩
def lo_has (ls : Array Slot) (n : Nat) (lv : List (Option Value)) : Prop := lv_has ls n (lo_l 0 lv)
theorem lo_at {ls : Array Slot} {n : Nat} {lv : List (Option Value)} (h : lo_has ls n lv) {j : Nat} {v : Value} (hj : lv[j]? = some (some v)) : ls[j]? = some (.val v) := by
  have := h.2.2 (0 + j, v) (lo_mem lv 0 j v hj)
  simpa using this
theorem lo_of {ls : Array Slot} {n : Nat} {lv : List (Option Value)} {l : List (Nat × Value)} (h : lv_has ls n l) (hs : ∀ j v, lv[j]? = some (some v) → (j, v) ∈ l) : lo_has ls n lv := by
  refine ⟨h.1, h.2.1, fun q hq => ?_⟩
  obtain ⟨k, v⟩ := q
  obtain ⟨j, h1, h2⟩ := lo_mem2 lv 0 k v hq
  have : k = j := by omega
  subst this
  exact h.2.2 _ (hs k v h2)
def lo_cut (lv : List (Option Value)) (j : Nat) : List (Option Value) := match lv[j]? with
  | some (some w) => if w.category = 2 then lv.set j none else lv
  | _ => lv
def lo_st (lv : List (Option Value)) (i : Nat) (v : Value) : List (Option Value) := match i with
  | 0 => lv.set 0 (some v)
  | j + 1 => (lo_cut lv j).set (j + 1) (some v)
theorem lo_cut_at {lv : List (Option Value)} {j k : Nat} {w : Value} (h : (lo_cut lv j)[k]? = some (some w)) : lv[k]? = some (some w) ∧ ¬ (k = j ∧ w.category = 2) := by
  unfold lo_cut at h
  split at h
  · rename_i u hu
    by_cases hc : u.category = 2
    · rw [if_pos hc] at h
      by_cases hk : j = k
      · subst hk
        rw [List.getElem?_set] at h
        simp at h
      · rw [List.getElem?_set_ne hk] at h
        exact ⟨h, fun hh => hk hh.1.symm⟩
    · rw [if_neg hc] at h
      refine ⟨h, fun hh => ?_⟩
      obtain ⟨rfl, hh⟩ := hh
      rw [hu] at h
      cases h
      exact hc hh
  · rename_i hn
    refine ⟨h, fun hh => ?_⟩
    obtain ⟨rfl, -⟩ := hh
    exact hn w h
theorem lo_st_at {lv : List (Option Value)} {i k : Nat} {v w : Value} (h : (lo_st lv i v)[k]? = some (some w)) : (k = i ∧ w = v) ∨ (k ≠ i ∧ lv[k]? = some (some w) ∧ ¬ (k + 1 = i ∧ w.category = 2)) := by
  cases i with
  | zero =>
    by_cases hk : k = 0
    · subst hk
      simp only [lo_st, List.getElem?_set] at h
      by_cases hl : 0 < lv.length
      · simp [hl] at h
        exact Or.inl ⟨rfl, h.symm⟩
      · simp [hl] at h
    · simp only [lo_st] at h
      rw [List.getElem?_set_ne (fun q => hk q.symm)] at h
      exact Or.inr ⟨hk, h, by omega⟩
  | succ j =>
    by_cases hk : k = j + 1
    · subst hk
      simp only [lo_st, List.getElem?_set] at h
      by_cases hl : j + 1 < (lo_cut lv j).length
      · simp [hl] at h
        exact Or.inl ⟨rfl, h.symm⟩
      · simp [hl] at h
    · simp only [lo_st] at h
      rw [List.getElem?_set_ne (fun q => hk q.symm)] at h
      obtain ⟨h1, h2⟩ := lo_cut_at h
      exact Or.inr ⟨hk, h1, fun hh => h2 ⟨by omega, hh.2⟩⟩
theorem lo_store1 {ls : Array Slot} {n i : Nat} {v : Value} {lv : List (Option Value)} (h : lv_has ls n ((i, v) :: (lo_l 0 lv).filter (fun q => !(q.1 == i) && !(q.1 + 1 == i && q.2.category == 2)))) : lo_has ls n (lo_st lv i v) := by
  refine lo_of h fun j w hj => ?_
  rcases lo_st_at hj with ⟨rfl, rfl⟩ | ⟨h1, h2, h3⟩
  · exact List.mem_cons_self
  · refine List.mem_cons_of_mem _ (List.mem_filter.mpr ⟨by simpa using lo_mem lv 0 j w h2, ?_⟩)
    simp only [Bool.and_eq_true, Bool.not_eq_true', beq_eq_false_iff_ne, ne_eq, Bool.and_eq_false_iff]
    refine ⟨h1, ?_⟩
    by_cases hq : j + 1 = i
    · exact Or.inr fun hc => h3 ⟨hq, hc⟩
    · exact Or.inl hq
theorem lo_store2 {ls : Array Slot} {n i : Nat} {v : Value} {lv : List (Option Value)} (h : lv_has ls n ((i, v) :: (lo_l 0 lv).filter (fun q => !(q.1 == i) && (!(q.1 == i + 1) && !(q.1 + 1 == i && q.2.category == 2))))) : lo_has ls n ((lo_st lv i v).set (i + 1) none) := by
  refine lo_of h fun j w hj => ?_
  have hn : ¬ j = i + 1 := by
    intro hh
    subst hh
    rw [List.getElem?_set] at hj
    simp at hj
  rw [List.getElem?_set_ne (fun q => hn q.symm)] at hj
  rcases lo_st_at hj with ⟨rfl, rfl⟩ | ⟨h1, h2, h3⟩
  · exact List.mem_cons_self
  · refine List.mem_cons_of_mem _ (List.mem_filter.mpr ⟨by simpa using lo_mem lv 0 j w h2, ?_⟩)
    simp only [Bool.and_eq_true, Bool.not_eq_true', beq_eq_false_iff_ne, ne_eq, Bool.and_eq_false_iff]
    refine ⟨h1, hn, ?_⟩
    by_cases hq : j + 1 = i
    · exact Or.inr fun hc => h3 ⟨hq, hc⟩
    · exact Or.inl hq
/-! the context of a walk, and the walk -/
abbrev g_T : Type := Program × Launch × Env × Room × State × MethodId × Array Value × List Frame × Method × Code × (State → Prop) × (Nat → Prop) × (hp_T → va_W) × va_G × List (ClassId × FieldType) × Nat
def aG (Γ : g_T) (own : String) (cc : ByteArray) (fr lo : Nat) : Prop := match Γ with
  | (p, _, _, R, s, m, args, _, _, c, _, A, _, D, tys, nL) => p.tables.exec = Jvm.exec ∧ c.code = cc ∧ c.maxLocals = nL ∧ s.vm.findClass own = some m.cls ∧ (∀ w ∈ gd_tbl, w.before args s = true) ∧ va_K D vwCl tys s ∧ (∀ q : Nat, s.heap.size ≤ q → A q) ∧ fr ≤ R.frames ∧ lo ≤ R.locals
def aA (Γ : g_T) (pc : Nat) (lv : List (Option Value)) (st : List Value) (h : hp_T) : Prop := match Γ with
  | (p, l, e, R, s, m, args, below, meth, c, Q, A, wsf, D, _, nL) => ∀ (H : Heap) (locs : List Loc) (ls : Array Slot), va_P D vwCl (wsf h) H → va_D A (wsf h) → va_S A s.heap H locs → lo_has ls nL lv → W p l e R s m args below meth c H locs 0 0 Q (F0 m pc ls st)
end
section
def aN (Γ : g_T) (k : Nat) : Prop := match Γ with
  | (_, _, _, _, _, _, _, _, _, _, _, _, _, _, _, nL) => k < nL
def lo_mask : List Bool → List (Option Value) → List (Option Value)
  | true :: m, v :: r => v :: lo_mask m r
  | false :: m, _ :: r => none :: lo_mask m r
  | _, _ => []
theorem lo_mask_at : ∀ (m : List Bool) (b : List (Option Value)) (j : Nat) (v : Value), (lo_mask m b)[j]? = some (some v) → b[j]? = some (some v)
  | [], _, j, v, h => by simp [lo_mask] at h
  | true :: m, [], j, v, h => by simp [lo_mask] at h
  | false :: m, [], j, v, h => by simp [lo_mask] at h
  | true :: m, b :: r, 0, v, h => by simpa [lo_mask] using h
  | false :: m, b :: r, 0, v, h => by simp [lo_mask] at h
  | true :: m, b :: r, j + 1, v, h => by
    have := lo_mask_at m r j v (by simpa [lo_mask] using h)
    simpa using this
  | false :: m, b :: r, j + 1, v, h => by
    have := lo_mask_at m r j v (by simpa [lo_mask] using h)
    simpa using this
theorem lo_less {ls : Array Slot} {n : Nat} {b : List (Option Value)} (m : List Bool) (hl : lo_has ls n b) : lo_has ls n (lo_mask m b) := lo_of hl fun j v hj => by
  have := lo_mem b 0 j v (lo_mask_at m b j v hj)
  simpa using this
/-! rows of the abstract walk -/
theorem aI_iconst {Γ : g_T} {own : String} {cc : ByteArray} {fr lo pc : Nat} {lv : List (Option Value)} {st : List Value} {h : hp_T} {n : Int}{v : Int32} (X : aG Γ own cc fr lo) (d : decode cc pc = .ok (.iconst n, 1)) (hv : Int32.ofInt n = v) (K : aA Γ (pc + 1) lv (.int v :: st) h) : aA Γ pc lv st h := by
  obtain ⟨p, l, e, R, s, m, args, below, meth, c, Q, A, wsf, D, tys, nL⟩ := Γ
  obtain ⟨hx, hb, hml, hown, hts, hK, hA, hfr, hlo⟩ := X
  intro H locs ls hP hD hS hl
  exact lv_iconst hx hb d hv (K H locs ls hP hD hS hl)
theorem aI_bipush {Γ : g_T} {own : String} {cc : ByteArray} {fr lo pc : Nat} {lv : List (Option Value)} {st : List Value} {h : hp_T} {n : Int}{v : Int32} (X : aG Γ own cc fr lo) (d : decode cc pc = .ok (.bipush n, 2)) (hv : (Int8.ofInt n).toInt32 = v) (K : aA Γ (pc + 2) lv (.int v :: st) h) : aA Γ pc lv st h := by
  obtain ⟨p, l, e, R, s, m, args, below, meth, c, Q, A, wsf, D, tys, nL⟩ := Γ
  obtain ⟨hx, hb, hml, hown, hts, hK, hA, hfr, hlo⟩ := X
  intro H locs ls hP hD hS hl
  exact lv_bipush hx hb d hv (K H locs ls hP hD hS hl)
theorem aI_sipush {Γ : g_T} {own : String} {cc : ByteArray} {fr lo pc : Nat} {lv : List (Option Value)} {st : List Value} {h : hp_T} {n : Int}{v : Int32} (X : aG Γ own cc fr lo) (d : decode cc pc = .ok (.sipush n, 3)) (hv : (Int16.ofInt n).toInt32 = v) (K : aA Γ (pc + 3) lv (.int v :: st) h) : aA Γ pc lv st h := by
  obtain ⟨p, l, e, R, s, m, args, below, meth, c, Q, A, wsf, D, tys, nL⟩ := Γ
  obtain ⟨hx, hb, hml, hown, hts, hK, hA, hfr, hlo⟩ := X
  intro H locs ls hP hD hS hl
  exact lv_sipush hx hb d hv (K H locs ls hP hD hS hl)
theorem aI_lconst {Γ : g_T} {own : String} {cc : ByteArray} {fr lo pc : Nat} {lv : List (Option Value)} {st : List Value} {h : hp_T} {n : Fin 2}{v : Int64} (X : aG Γ own cc fr lo) (d : decode cc pc = .ok (.lconst n, 1)) (hv : Int64.ofNat (n : Nat) = v) (K : aA Γ (pc + 1) lv (.long v :: st) h) : aA Γ pc lv st h := by
  obtain ⟨p, l, e, R, s, m, args, below, meth, c, Q, A, wsf, D, tys, nL⟩ := Γ
  obtain ⟨hx, hb, hml, hown, hts, hK, hA, hfr, hlo⟩ := X
  intro H locs ls hP hD hS hl
  exact lv_lconst hx hb d hv (K H locs ls hP hD hS hl)
theorem aI_ldc {Γ : g_T} {own : String} {cc : ByteArray} {fr lo pc : Nat} {lv : List (Option Value)} {st : List Value} {h : hp_T} {index : Nat}{v : Int32} (X : aG Γ own cc fr lo) (d : decode cc pc = .ok (.ldc index, 2)) (hc : Cond.constant own index v ∈ gd_tbl) (K : aA Γ (pc + 2) lv (.int v :: st) h) : aA Γ pc lv st h := by
  obtain ⟨p, l, e, R, s, m, args, below, meth, c, Q, A, wsf, D, tys, nL⟩ := Γ
  obtain ⟨hx, hb, hml, hown, hts, hK, hA, hfr, hlo⟩ := X
  intro H locs ls hP hD hS hl
  exact lv_ldc hx hb hown (hts _ hc) d (K H locs ls hP hD hS hl)
theorem aI_ldcw {Γ : g_T} {own : String} {cc : ByteArray} {fr lo pc : Nat} {lv : List (Option Value)} {st : List Value} {h : hp_T} {index : Nat}{v : Int32} (X : aG Γ own cc fr lo) (d : decode cc pc = .ok (.ldc_w index, 3)) (hc : Cond.constant own index v ∈ gd_tbl) (K : aA Γ (pc + 3) lv (.int v :: st) h) : aA Γ pc lv st h := by
  obtain ⟨p, l, e, R, s, m, args, below, meth, c, Q, A, wsf, D, tys, nL⟩ := Γ
  obtain ⟨hx, hb, hml, hown, hts, hK, hA, hfr, hlo⟩ := X
  intro H locs ls hP hD hS hl
  exact lv_ldcw hx hb hown (hts _ hc) d (K H locs ls hP hD hS hl)
theorem aI_ldc2 {Γ : g_T} {own : String} {cc : ByteArray} {fr lo pc : Nat} {lv : List (Option Value)} {st : List Value} {h : hp_T} {index : Nat}{v : Int64} (X : aG Γ own cc fr lo) (d : decode cc pc = .ok (.ldc2_w index, 3)) (hc : Cond.constantLong own index v ∈ gd_tbl) (K : aA Γ (pc + 3) lv (.long v :: st) h) : aA Γ pc lv st h := by
  obtain ⟨p, l, e, R, s, m, args, below, meth, c, Q, A, wsf, D, tys, nL⟩ := Γ
  obtain ⟨hx, hb, hml, hown, hts, hK, hA, hfr, hlo⟩ := X
  intro H locs ls hP hD hS hl
  exact lv_ldc2 hx hb hown (hts _ hc) d (K H locs ls hP hD hS hl)
theorem aI_iload_n {Γ : g_T} {own : String} {cc : ByteArray} {fr lo pc : Nat} {lv : List (Option Value)} {st : List Value} {h : hp_T} {k : Fin 4}{x : Int32} (X : aG Γ own cc fr lo) (d : decode cc pc = .ok (.iload_n k, 1)) (hv : lv[(k : Nat)]? = some (some (.int x))) (K : aA Γ (pc + 1) lv (.int x :: st) h) : aA Γ pc lv st h := by
  obtain ⟨p, l, e, R, s, m, args, below, meth, c, Q, A, wsf, D, tys, nL⟩ := Γ
  obtain ⟨hx, hb, hml, hown, hts, hK, hA, hfr, hlo⟩ := X
  intro H locs ls hP hD hS hl
  exact lv_iload_n hx hb d rfl (lo_at hl hv) (K H locs ls hP hD hS hl)
theorem aI_iload {Γ : g_T} {own : String} {cc : ByteArray} {fr lo pc : Nat} {lv : List (Option Value)} {st : List Value} {h : hp_T} {k : Nat}{x : Int32} (X : aG Γ own cc fr lo) (d : decode cc pc = .ok (.iload k, 2)) (hv : lv[k]? = some (some (.int x))) (K : aA Γ (pc + 2) lv (.int x :: st) h) : aA Γ pc lv st h := by
  obtain ⟨p, l, e, R, s, m, args, below, meth, c, Q, A, wsf, D, tys, nL⟩ := Γ
  obtain ⟨hx, hb, hml, hown, hts, hK, hA, hfr, hlo⟩ := X
  intro H locs ls hP hD hS hl
  exact lv_iload hx hb d (lo_at hl hv) (K H locs ls hP hD hS hl)
theorem aI_istore_n {Γ : g_T} {own : String} {cc : ByteArray} {fr lo pc : Nat} {lv : List (Option Value)} {st : List Value} {h : hp_T} {k : Fin 4} {x : Int32} {lv2 : List (Option Value)} (X : aG Γ own cc fr lo) (d : decode cc pc = .ok (.istore_n k, 1)) (hN : aN Γ ((k : Nat))) (he : (lo_st lv (k : Nat) (.int x)) = lv2) (K : aA Γ (pc + 1) lv2 st h) : aA Γ pc lv (.int x :: st) h := by
  obtain ⟨p, l, e, R, s, m, args, below, meth, c, Q, A, wsf, D, tys, nL⟩ := Γ
  obtain ⟨hx, hb, hml, hown, hts, hK, hA, hfr, hlo⟩ := X
  intro H locs ls hP hD hS hl
  subst he
  exact lv_istore_n hx hb d rfl hl hN rfl (fun ls2 hl2 => K H locs ls2 hP hD hS (lo_store1 hl2))
theorem aI_istore {Γ : g_T} {own : String} {cc : ByteArray} {fr lo pc : Nat} {lv : List (Option Value)} {st : List Value} {h : hp_T} {k : Nat} {x : Int32} {lv2 : List (Option Value)} (X : aG Γ own cc fr lo) (d : decode cc pc = .ok (.istore k, 2)) (hN : aN Γ (k)) (he : (lo_st lv k (.int x)) = lv2) (K : aA Γ (pc + 2) lv2 st h) : aA Γ pc lv (.int x :: st) h := by
  obtain ⟨p, l, e, R, s, m, args, below, meth, c, Q, A, wsf, D, tys, nL⟩ := Γ
  obtain ⟨hx, hb, hml, hown, hts, hK, hA, hfr, hlo⟩ := X
  intro H locs ls hP hD hS hl
  subst he
  exact lv_istore hx hb d hl hN rfl (fun ls2 hl2 => K H locs ls2 hP hD hS (lo_store1 hl2))
theorem aI_lload_n {Γ : g_T} {own : String} {cc : ByteArray} {fr lo pc : Nat} {lv : List (Option Value)} {st : List Value} {h : hp_T} {k : Fin 4}{x : Int64} (X : aG Γ own cc fr lo) (d : decode cc pc = .ok (.lload_n k, 1)) (hv : lv[(k : Nat)]? = some (some (.long x))) (K : aA Γ (pc + 1) lv (.long x :: st) h) : aA Γ pc lv st h := by
  obtain ⟨p, l, e, R, s, m, args, below, meth, c, Q, A, wsf, D, tys, nL⟩ := Γ
  obtain ⟨hx, hb, hml, hown, hts, hK, hA, hfr, hlo⟩ := X
  intro H locs ls hP hD hS hl
  exact lv_lload_n hx hb d rfl (lo_at hl hv) (K H locs ls hP hD hS hl)
theorem aI_lload {Γ : g_T} {own : String} {cc : ByteArray} {fr lo pc : Nat} {lv : List (Option Value)} {st : List Value} {h : hp_T} {k : Nat}{x : Int64} (X : aG Γ own cc fr lo) (d : decode cc pc = .ok (.lload k, 2)) (hv : lv[k]? = some (some (.long x))) (K : aA Γ (pc + 2) lv (.long x :: st) h) : aA Γ pc lv st h := by
  obtain ⟨p, l, e, R, s, m, args, below, meth, c, Q, A, wsf, D, tys, nL⟩ := Γ
  obtain ⟨hx, hb, hml, hown, hts, hK, hA, hfr, hlo⟩ := X
  intro H locs ls hP hD hS hl
  exact lv_lload hx hb d (lo_at hl hv) (K H locs ls hP hD hS hl)
theorem aI_lstore_n {Γ : g_T} {own : String} {cc : ByteArray} {fr lo pc : Nat} {lv : List (Option Value)} {st : List Value} {h : hp_T} {k : Fin 4} {x : Int64} {lv2 : List (Option Value)} (X : aG Γ own cc fr lo) (d : decode cc pc = .ok (.lstore_n k, 1)) (hN : aN Γ ((k : Nat) + 1)) (he : ((lo_st lv (k : Nat) (.long x)).set ((k : Nat) + 1) none) = lv2) (K : aA Γ (pc + 1) lv2 st h) : aA Γ pc lv (.long x :: st) h := by
  obtain ⟨p, l, e, R, s, m, args, below, meth, c, Q, A, wsf, D, tys, nL⟩ := Γ
  obtain ⟨hx, hb, hml, hown, hts, hK, hA, hfr, hlo⟩ := X
  intro H locs ls hP hD hS hl
  subst he
  exact lv_lstore_n hx hb d rfl hl hN rfl (fun ls2 hl2 => K H locs ls2 hP hD hS (lo_store2 hl2))
theorem aI_lstore {Γ : g_T} {own : String} {cc : ByteArray} {fr lo pc : Nat} {lv : List (Option Value)} {st : List Value} {h : hp_T} {k : Nat} {x : Int64} {lv2 : List (Option Value)} (X : aG Γ own cc fr lo) (d : decode cc pc = .ok (.lstore k, 2)) (hN : aN Γ (k + 1)) (he : ((lo_st lv k (.long x)).set (k + 1) none) = lv2) (K : aA Γ (pc + 2) lv2 st h) : aA Γ pc lv (.long x :: st) h := by
  obtain ⟨p, l, e, R, s, m, args, below, meth, c, Q, A, wsf, D, tys, nL⟩ := Γ
  obtain ⟨hx, hb, hml, hown, hts, hK, hA, hfr, hlo⟩ := X
  intro H locs ls hP hD hS hl
  subst he
  exact lv_lstore hx hb d hl hN rfl (fun ls2 hl2 => K H locs ls2 hP hD hS (lo_store2 hl2))
theorem aI_aload_n {Γ : g_T} {own : String} {cc : ByteArray} {fr lo pc : Nat} {lv : List (Option Value)} {st : List Value} {h : hp_T} {k : Fin 4}{x : Nat} (X : aG Γ own cc fr lo) (d : decode cc pc = .ok (.aload_n k, 1)) (hv : lv[(k : Nat)]? = some (some (.ref x))) (K : aA Γ (pc + 1) lv (.ref x :: st) h) : aA Γ pc lv st h := by
  obtain ⟨p, l, e, R, s, m, args, below, meth, c, Q, A, wsf, D, tys, nL⟩ := Γ
  obtain ⟨hx, hb, hml, hown, hts, hK, hA, hfr, hlo⟩ := X
  intro H locs ls hP hD hS hl
  exact lv_aload_n hx hb d rfl (lo_at hl hv) (K H locs ls hP hD hS hl)
theorem aI_aload {Γ : g_T} {own : String} {cc : ByteArray} {fr lo pc : Nat} {lv : List (Option Value)} {st : List Value} {h : hp_T} {k : Nat}{x : Nat} (X : aG Γ own cc fr lo) (d : decode cc pc = .ok (.aload k, 2)) (hv : lv[k]? = some (some (.ref x))) (K : aA Γ (pc + 2) lv (.ref x :: st) h) : aA Γ pc lv st h := by
  obtain ⟨p, l, e, R, s, m, args, below, meth, c, Q, A, wsf, D, tys, nL⟩ := Γ
  obtain ⟨hx, hb, hml, hown, hts, hK, hA, hfr, hlo⟩ := X
  intro H locs ls hP hD hS hl
  exact lv_aload hx hb d (lo_at hl hv) (K H locs ls hP hD hS hl)
theorem aI_astore_n {Γ : g_T} {own : String} {cc : ByteArray} {fr lo pc : Nat} {lv : List (Option Value)} {st : List Value} {h : hp_T} {k : Fin 4} {x : Nat} {lv2 : List (Option Value)} (X : aG Γ own cc fr lo) (d : decode cc pc = .ok (.astore_n k, 1)) (hN : aN Γ ((k : Nat))) (he : (lo_st lv (k : Nat) (.ref x)) = lv2) (K : aA Γ (pc + 1) lv2 st h) : aA Γ pc lv (.ref x :: st) h := by
  obtain ⟨p, l, e, R, s, m, args, below, meth, c, Q, A, wsf, D, tys, nL⟩ := Γ
  obtain ⟨hx, hb, hml, hown, hts, hK, hA, hfr, hlo⟩ := X
  intro H locs ls hP hD hS hl
  subst he
  exact lv_astore_n hx hb d rfl hl hN rfl (fun ls2 hl2 => K H locs ls2 hP hD hS (lo_store1 hl2))
theorem aI_astore {Γ : g_T} {own : String} {cc : ByteArray} {fr lo pc : Nat} {lv : List (Option Value)} {st : List Value} {h : hp_T} {k : Nat} {x : Nat} {lv2 : List (Option Value)} (X : aG Γ own cc fr lo) (d : decode cc pc = .ok (.astore k, 2)) (hN : aN Γ (k)) (he : (lo_st lv k (.ref x)) = lv2) (K : aA Γ (pc + 2) lv2 st h) : aA Γ pc lv (.ref x :: st) h := by
  obtain ⟨p, l, e, R, s, m, args, below, meth, c, Q, A, wsf, D, tys, nL⟩ := Γ
  obtain ⟨hx, hb, hml, hown, hts, hK, hA, hfr, hlo⟩ := X
  intro H locs ls hP hD hS hl
  subst he
  exact lv_astore hx hb d hl hN rfl (fun ls2 hl2 => K H locs ls2 hP hD hS (lo_store1 hl2))
theorem aI_iinc {Γ : g_T} {own : String} {cc : ByteArray} {fr lo pc : Nat} {lv : List (Option Value)} {st : List Value} {h : hp_T} {k : Nat} {n : Int} {x v : Int32} {lv2 : List (Option Value)} (X : aG Γ own cc fr lo) (d : decode cc pc = .ok (.iinc k n, 3)) (hN : aN Γ k) (hv : lv[k]? = some (some (.int x))) (hn : Int32.ofInt n = v) (he : lo_st lv k (.int (x + v)) = lv2) (K : aA Γ (pc + 3) lv2 st h) : aA Γ pc lv st h := by
  obtain ⟨p, l, e, R, s, m, args, below, meth, c, Q, A, wsf, D, tys, nL⟩ := Γ
  obtain ⟨hx, hb, hml, hown, hts, hK, hA, hfr, hlo⟩ := X
  intro H locs ls hP hD hS hl
  subst he
  obtain ⟨z, hz⟩ := List.getElem?_of_mem (lo_mem lv 0 k _ hv)
  exact lv_iinc (k := z) hx hb d hl (by simpa using hz) (by rw [hn]) hN rfl (fun ls2 hl2 => K H locs ls2 hP hD hS (lo_store1 hl2))
theorem aI_iadd {Γ : g_T} {own : String} {cc : ByteArray} {fr lo pc : Nat} {lv : List (Option Value)} {st : List Value} {h : hp_T} {x y : Int32} (X : aG Γ own cc fr lo) (d : decode cc pc = .ok (.iadd, 1))  (K : aA Γ (pc + 1) lv (.int (x + y) :: st) h) : aA Γ pc lv (.int y :: .int x :: st) h := by
  obtain ⟨p, l, e, R, s, m, args, below, meth, c, Q, A, wsf, D, tys, nL⟩ := Γ
  obtain ⟨hx, hb, hml, hown, hts, hK, hA, hfr, hlo⟩ := X
  intro H locs ls hP hD hS hl
  exact lv_iadd hx hb d (K H locs ls hP hD hS hl)
theorem aI_isub {Γ : g_T} {own : String} {cc : ByteArray} {fr lo pc : Nat} {lv : List (Option Value)} {st : List Value} {h : hp_T} {x y : Int32} (X : aG Γ own cc fr lo) (d : decode cc pc = .ok (.isub, 1))  (K : aA Γ (pc + 1) lv (.int (x - y) :: st) h) : aA Γ pc lv (.int y :: .int x :: st) h := by
  obtain ⟨p, l, e, R, s, m, args, below, meth, c, Q, A, wsf, D, tys, nL⟩ := Γ
  obtain ⟨hx, hb, hml, hown, hts, hK, hA, hfr, hlo⟩ := X
  intro H locs ls hP hD hS hl
  exact lv_isub hx hb d (K H locs ls hP hD hS hl)
theorem aI_imul {Γ : g_T} {own : String} {cc : ByteArray} {fr lo pc : Nat} {lv : List (Option Value)} {st : List Value} {h : hp_T} {x y : Int32} (X : aG Γ own cc fr lo) (d : decode cc pc = .ok (.imul, 1))  (K : aA Γ (pc + 1) lv (.int (x * y) :: st) h) : aA Γ pc lv (.int y :: .int x :: st) h := by
  obtain ⟨p, l, e, R, s, m, args, below, meth, c, Q, A, wsf, D, tys, nL⟩ := Γ
  obtain ⟨hx, hb, hml, hown, hts, hK, hA, hfr, hlo⟩ := X
  intro H locs ls hP hD hS hl
  exact lv_imul hx hb d (K H locs ls hP hD hS hl)
theorem aI_iand {Γ : g_T} {own : String} {cc : ByteArray} {fr lo pc : Nat} {lv : List (Option Value)} {st : List Value} {h : hp_T} {x y : Int32} (X : aG Γ own cc fr lo) (d : decode cc pc = .ok (.iand, 1))  (K : aA Γ (pc + 1) lv (.int (x &&& y) :: st) h) : aA Γ pc lv (.int y :: .int x :: st) h := by
  obtain ⟨p, l, e, R, s, m, args, below, meth, c, Q, A, wsf, D, tys, nL⟩ := Γ
  obtain ⟨hx, hb, hml, hown, hts, hK, hA, hfr, hlo⟩ := X
  intro H locs ls hP hD hS hl
  exact lv_iand hx hb d (K H locs ls hP hD hS hl)
theorem aI_ladd {Γ : g_T} {own : String} {cc : ByteArray} {fr lo pc : Nat} {lv : List (Option Value)} {st : List Value} {h : hp_T} {x y : Int64} (X : aG Γ own cc fr lo) (d : decode cc pc = .ok (.ladd, 1))  (K : aA Γ (pc + 1) lv (.long (x + y) :: st) h) : aA Γ pc lv (.long y :: .long x :: st) h := by
  obtain ⟨p, l, e, R, s, m, args, below, meth, c, Q, A, wsf, D, tys, nL⟩ := Γ
  obtain ⟨hx, hb, hml, hown, hts, hK, hA, hfr, hlo⟩ := X
  intro H locs ls hP hD hS hl
  exact lv_ladd hx hb d (K H locs ls hP hD hS hl)
theorem aI_lmul {Γ : g_T} {own : String} {cc : ByteArray} {fr lo pc : Nat} {lv : List (Option Value)} {st : List Value} {h : hp_T} {x y : Int64} (X : aG Γ own cc fr lo) (d : decode cc pc = .ok (.lmul, 1))  (K : aA Γ (pc + 1) lv (.long (x * y) :: st) h) : aA Γ pc lv (.long y :: .long x :: st) h := by
  obtain ⟨p, l, e, R, s, m, args, below, meth, c, Q, A, wsf, D, tys, nL⟩ := Γ
  obtain ⟨hx, hb, hml, hown, hts, hK, hA, hfr, hlo⟩ := X
  intro H locs ls hP hD hS hl
  exact lv_lmul hx hb d (K H locs ls hP hD hS hl)
theorem aI_lor {Γ : g_T} {own : String} {cc : ByteArray} {fr lo pc : Nat} {lv : List (Option Value)} {st : List Value} {h : hp_T} {x y : Int64} (X : aG Γ own cc fr lo) (d : decode cc pc = .ok (.lor, 1))  (K : aA Γ (pc + 1) lv (.long (x ||| y) :: st) h) : aA Γ pc lv (.long y :: .long x :: st) h := by
  obtain ⟨p, l, e, R, s, m, args, below, meth, c, Q, A, wsf, D, tys, nL⟩ := Γ
  obtain ⟨hx, hb, hml, hown, hts, hK, hA, hfr, hlo⟩ := X
  intro H locs ls hP hD hS hl
  exact lv_lor hx hb d (K H locs ls hP hD hS hl)
theorem aI_irem {Γ : g_T} {own : String} {cc : ByteArray} {fr lo pc : Nat} {lv : List (Option Value)} {st : List Value} {h : hp_T} {x y : Int32} (X : aG Γ own cc fr lo) (d : decode cc pc = .ok (.irem, 1)) (hne : ¬ y = 0) (K : aA Γ (pc + 1) lv (.int (x - x / y * y) :: st) h) : aA Γ pc lv (.int y :: .int x :: st) h := by
  obtain ⟨p, l, e, R, s, m, args, below, meth, c, Q, A, wsf, D, tys, nL⟩ := Γ
  obtain ⟨hx, hb, hml, hown, hts, hK, hA, hfr, hlo⟩ := X
  intro H locs ls hP hD hS hl
  exact lv_irem hx hb d hne (K H locs ls hP hD hS hl)
theorem aI_lcmp {Γ : g_T} {own : String} {cc : ByteArray} {fr lo pc : Nat} {lv : List (Option Value)} {st : List Value} {h : hp_T} {x y : Int64} (X : aG Γ own cc fr lo) (d : decode cc pc = .ok (.lcmp, 1))  (K : aA Γ (pc + 1) lv (.int (lg_cmp x y) :: st) h) : aA Γ pc lv (.long y :: .long x :: st) h := by
  obtain ⟨p, l, e, R, s, m, args, below, meth, c, Q, A, wsf, D, tys, nL⟩ := Γ
  obtain ⟨hx, hb, hml, hown, hts, hK, hA, hfr, hlo⟩ := X
  intro H locs ls hP hD hS hl
  exact W.lcmp hx hb d (K H locs ls hP hD hS hl)
theorem aI_lshl {Γ : g_T} {own : String} {cc : ByteArray} {fr lo pc : Nat} {lv : List (Option Value)} {st : List Value} {h : hp_T} {x : Int64}{y : Int32} (X : aG Γ own cc fr lo) (d : decode cc pc = .ok (.lshl, 1))  (K : aA Γ (pc + 1) lv (.long (x <<< (y.toInt64 &&& 63)) :: st) h) : aA Γ pc lv (.int y :: .long x :: st) h := by
  obtain ⟨p, l, e, R, s, m, args, below, meth, c, Q, A, wsf, D, tys, nL⟩ := Γ
  obtain ⟨hx, hb, hml, hown, hts, hK, hA, hfr, hlo⟩ := X
  intro H locs ls hP hD hS hl
  exact lv_lshl hx hb d rfl (K H locs ls hP hD hS hl)
theorem aI_i2l {Γ : g_T} {own : String} {cc : ByteArray} {fr lo pc : Nat} {lv : List (Option Value)} {st : List Value} {h : hp_T} {x : Int32} (X : aG Γ own cc fr lo) (d : decode cc pc = .ok (.i2l, 1))  (K : aA Γ (pc + 1) lv (.long x.toInt64 :: st) h) : aA Γ pc lv (.int x :: st) h := by
  obtain ⟨p, l, e, R, s, m, args, below, meth, c, Q, A, wsf, D, tys, nL⟩ := Γ
  obtain ⟨hx, hb, hml, hown, hts, hK, hA, hfr, hlo⟩ := X
  intro H locs ls hP hD hS hl
  exact lv_i2l hx hb d rfl (K H locs ls hP hD hS hl)
theorem aI_l2i {Γ : g_T} {own : String} {cc : ByteArray} {fr lo pc : Nat} {lv : List (Option Value)} {st : List Value} {h : hp_T} {x : Int64} (X : aG Γ own cc fr lo) (d : decode cc pc = .ok (.l2i, 1))  (K : aA Γ (pc + 1) lv (.int x.toInt32 :: st) h) : aA Γ pc lv (.long x :: st) h := by
  obtain ⟨p, l, e, R, s, m, args, below, meth, c, Q, A, wsf, D, tys, nL⟩ := Γ
  obtain ⟨hx, hb, hml, hown, hts, hK, hA, hfr, hlo⟩ := X
  intro H locs ls hP hD hS hl
  exact lv_l2i hx hb d rfl (K H locs ls hP hD hS hl)
theorem aI_i2b {Γ : g_T} {own : String} {cc : ByteArray} {fr lo pc : Nat} {lv : List (Option Value)} {st : List Value} {h : hp_T} {x : Int32} (X : aG Γ own cc fr lo) (d : decode cc pc = .ok (.i2b, 1))  (K : aA Γ (pc + 1) lv (.int x.toInt8.toInt32 :: st) h) : aA Γ pc lv (.int x :: st) h := by
  obtain ⟨p, l, e, R, s, m, args, below, meth, c, Q, A, wsf, D, tys, nL⟩ := Γ
  obtain ⟨hx, hb, hml, hown, hts, hK, hA, hfr, hlo⟩ := X
  intro H locs ls hP hD hS hl
  exact lv_i2b hx hb d rfl (K H locs ls hP hD hS hl)
theorem aI_i2s {Γ : g_T} {own : String} {cc : ByteArray} {fr lo pc : Nat} {lv : List (Option Value)} {st : List Value} {h : hp_T} {x : Int32} (X : aG Γ own cc fr lo) (d : decode cc pc = .ok (.i2s, 1))  (K : aA Γ (pc + 1) lv (.int x.toInt16.toInt32 :: st) h) : aA Γ pc lv (.int x :: st) h := by
  obtain ⟨p, l, e, R, s, m, args, below, meth, c, Q, A, wsf, D, tys, nL⟩ := Γ
  obtain ⟨hx, hb, hml, hown, hts, hK, hA, hfr, hlo⟩ := X
  intro H locs ls hP hD hS hl
  exact lv_i2s hx hb d rfl (K H locs ls hP hD hS hl)
theorem aI_dup {Γ : g_T} {own : String} {cc : ByteArray} {fr lo pc : Nat} {lv : List (Option Value)} {st : List Value} {h : hp_T} {v : Value} (X : aG Γ own cc fr lo) (d : decode cc pc = .ok (.dup, 1)) (hv : v.category = 1) (K : aA Γ (pc + 1) lv (v :: v :: st) h) : aA Γ pc lv (v :: st) h := by
  obtain ⟨p, l, e, R, s, m, args, below, meth, c, Q, A, wsf, D, tys, nL⟩ := Γ
  obtain ⟨hx, hb, hml, hown, hts, hK, hA, hfr, hlo⟩ := X
  intro H locs ls hP hD hS hl
  exact lv_dup hx hb d hv (K H locs ls hP hD hS hl)
theorem aI_dup2 {Γ : g_T} {own : String} {cc : ByteArray} {fr lo pc : Nat} {lv : List (Option Value)} {st : List Value} {h : hp_T} {v w : Value} (X : aG Γ own cc fr lo) (d : decode cc pc = .ok (.dup2, 1)) (hv : v.category = 1) (hw : w.category = 1) (K : aA Γ (pc + 1) lv (v :: w :: v :: w :: st) h) : aA Γ pc lv (v :: w :: st) h := by
  obtain ⟨p, l, e, R, s, m, args, below, meth, c, Q, A, wsf, D, tys, nL⟩ := Γ
  obtain ⟨hx, hb, hml, hown, hts, hK, hA, hfr, hlo⟩ := X
  intro H locs ls hP hD hS hl
  exact lv_dup2_11 hx hb d hv hw (K H locs ls hP hD hS hl)
theorem aI_goto {Γ : g_T} {own : String} {cc : ByteArray} {fr lo pc : Nat} {lv : List (Option Value)} {st : List Value} {h : hp_T} {off : Int}{tgt : Nat} (X : aG Γ own cc fr lo) (d : decode cc pc = .ok (.goto off, 3)) (ht : (pc : Int) + off = (tgt : Int)) (K : aA Γ tgt lv st h) : aA Γ pc lv st h := by
  obtain ⟨p, l, e, R, s, m, args, below, meth, c, Q, A, wsf, D, tys, nL⟩ := Γ
  obtain ⟨hx, hb, hml, hown, hts, hK, hA, hfr, hlo⟩ := X
  intro H locs ls hP hD hS hl
  exact lv_goto hx hb d ht (K H locs ls hP hD hS hl)
theorem aI_icmp_eq {Γ : g_T} {own : String} {cc : ByteArray} {fr lo pc : Nat} {lv : List (Option Value)} {st : List Value} {h : hp_T} {x y : Int32} {off : Int} {tgt : Nat} (X : aG Γ own cc fr lo) (d : decode cc pc = .ok (.if_icmp .eq off, 3)) (ht : (pc : Int) + off = (tgt : Int)) (kt : x = y → aA Γ tgt lv st h) (kf : ¬ x = y → aA Γ (pc + 3) lv st h) : aA Γ pc lv (.int y :: .int x :: st) h := by
  obtain ⟨p, l, e, R, s, m, args, below, meth, c, Q, A, wsf, D, tys, nL⟩ := Γ
  obtain ⟨hx, hb, hml, hown, hts, hK, hA, hfr, hlo⟩ := X
  intro H locs ls hP hD hS hl
  exact lv_icmp_eq hx hb d ht (fun q => kt q H locs ls hP hD hS hl) (fun q => kf q H locs ls hP hD hS hl)
theorem aI_if_eq {Γ : g_T} {own : String} {cc : ByteArray} {fr lo pc : Nat} {lv : List (Option Value)} {st : List Value} {h : hp_T} {x : Int32} {off : Int} {tgt : Nat} (X : aG Γ own cc fr lo) (d : decode cc pc = .ok (.ifCond .eq off, 3)) (ht : (pc : Int) + off = (tgt : Int)) (kt : x = 0 → aA Γ tgt lv st h) (kf : ¬ x = 0 → aA Γ (pc + 3) lv st h) : aA Γ pc lv (.int x :: st) h := by
  obtain ⟨p, l, e, R, s, m, args, below, meth, c, Q, A, wsf, D, tys, nL⟩ := Γ
  obtain ⟨hx, hb, hml, hown, hts, hK, hA, hfr, hlo⟩ := X
  intro H locs ls hP hD hS hl
  exact lv_if_eq hx hb d ht (fun q => kt q H locs ls hP hD hS hl) (fun q => kf q H locs ls hP hD hS hl)
theorem aI_icmp_ne {Γ : g_T} {own : String} {cc : ByteArray} {fr lo pc : Nat} {lv : List (Option Value)} {st : List Value} {h : hp_T} {x y : Int32} {off : Int} {tgt : Nat} (X : aG Γ own cc fr lo) (d : decode cc pc = .ok (.if_icmp .ne off, 3)) (ht : (pc : Int) + off = (tgt : Int)) (kt : ¬ x = y → aA Γ tgt lv st h) (kf : x = y → aA Γ (pc + 3) lv st h) : aA Γ pc lv (.int y :: .int x :: st) h := by
  obtain ⟨p, l, e, R, s, m, args, below, meth, c, Q, A, wsf, D, tys, nL⟩ := Γ
  obtain ⟨hx, hb, hml, hown, hts, hK, hA, hfr, hlo⟩ := X
  intro H locs ls hP hD hS hl
  exact lv_icmp_ne hx hb d ht (fun q => kt q H locs ls hP hD hS hl) (fun q => kf q H locs ls hP hD hS hl)
theorem aI_if_ne {Γ : g_T} {own : String} {cc : ByteArray} {fr lo pc : Nat} {lv : List (Option Value)} {st : List Value} {h : hp_T} {x : Int32} {off : Int} {tgt : Nat} (X : aG Γ own cc fr lo) (d : decode cc pc = .ok (.ifCond .ne off, 3)) (ht : (pc : Int) + off = (tgt : Int)) (kt : ¬ x = 0 → aA Γ tgt lv st h) (kf : x = 0 → aA Γ (pc + 3) lv st h) : aA Γ pc lv (.int x :: st) h := by
  obtain ⟨p, l, e, R, s, m, args, below, meth, c, Q, A, wsf, D, tys, nL⟩ := Γ
  obtain ⟨hx, hb, hml, hown, hts, hK, hA, hfr, hlo⟩ := X
  intro H locs ls hP hD hS hl
  exact lv_if_ne hx hb d ht (fun q => kt q H locs ls hP hD hS hl) (fun q => kf q H locs ls hP hD hS hl)
theorem aI_icmp_lt {Γ : g_T} {own : String} {cc : ByteArray} {fr lo pc : Nat} {lv : List (Option Value)} {st : List Value} {h : hp_T} {x y : Int32} {off : Int} {tgt : Nat} (X : aG Γ own cc fr lo) (d : decode cc pc = .ok (.if_icmp .lt off, 3)) (ht : (pc : Int) + off = (tgt : Int)) (kt : x < y → aA Γ tgt lv st h) (kf : ¬ x < y → aA Γ (pc + 3) lv st h) : aA Γ pc lv (.int y :: .int x :: st) h := by
  obtain ⟨p, l, e, R, s, m, args, below, meth, c, Q, A, wsf, D, tys, nL⟩ := Γ
  obtain ⟨hx, hb, hml, hown, hts, hK, hA, hfr, hlo⟩ := X
  intro H locs ls hP hD hS hl
  exact lv_icmp_lt hx hb d ht (fun q => kt q H locs ls hP hD hS hl) (fun q => kf q H locs ls hP hD hS hl)
theorem aI_if_lt {Γ : g_T} {own : String} {cc : ByteArray} {fr lo pc : Nat} {lv : List (Option Value)} {st : List Value} {h : hp_T} {x : Int32} {off : Int} {tgt : Nat} (X : aG Γ own cc fr lo) (d : decode cc pc = .ok (.ifCond .lt off, 3)) (ht : (pc : Int) + off = (tgt : Int)) (kt : x < 0 → aA Γ tgt lv st h) (kf : ¬ x < 0 → aA Γ (pc + 3) lv st h) : aA Γ pc lv (.int x :: st) h := by
  obtain ⟨p, l, e, R, s, m, args, below, meth, c, Q, A, wsf, D, tys, nL⟩ := Γ
  obtain ⟨hx, hb, hml, hown, hts, hK, hA, hfr, hlo⟩ := X
  intro H locs ls hP hD hS hl
  exact lv_if_lt hx hb d ht (fun q => kt q H locs ls hP hD hS hl) (fun q => kf q H locs ls hP hD hS hl)
theorem aI_icmp_ge {Γ : g_T} {own : String} {cc : ByteArray} {fr lo pc : Nat} {lv : List (Option Value)} {st : List Value} {h : hp_T} {x y : Int32} {off : Int} {tgt : Nat} (X : aG Γ own cc fr lo) (d : decode cc pc = .ok (.if_icmp .ge off, 3)) (ht : (pc : Int) + off = (tgt : Int)) (kt : y ≤ x → aA Γ tgt lv st h) (kf : ¬ y ≤ x → aA Γ (pc + 3) lv st h) : aA Γ pc lv (.int y :: .int x :: st) h := by
  obtain ⟨p, l, e, R, s, m, args, below, meth, c, Q, A, wsf, D, tys, nL⟩ := Γ
  obtain ⟨hx, hb, hml, hown, hts, hK, hA, hfr, hlo⟩ := X
  intro H locs ls hP hD hS hl
  exact lv_icmp_ge hx hb d ht (fun q => kt q H locs ls hP hD hS hl) (fun q => kf q H locs ls hP hD hS hl)
theorem aI_if_ge {Γ : g_T} {own : String} {cc : ByteArray} {fr lo pc : Nat} {lv : List (Option Value)} {st : List Value} {h : hp_T} {x : Int32} {off : Int} {tgt : Nat} (X : aG Γ own cc fr lo) (d : decode cc pc = .ok (.ifCond .ge off, 3)) (ht : (pc : Int) + off = (tgt : Int)) (kt : 0 ≤ x → aA Γ tgt lv st h) (kf : ¬ 0 ≤ x → aA Γ (pc + 3) lv st h) : aA Γ pc lv (.int x :: st) h := by
  obtain ⟨p, l, e, R, s, m, args, below, meth, c, Q, A, wsf, D, tys, nL⟩ := Γ
  obtain ⟨hx, hb, hml, hown, hts, hK, hA, hfr, hlo⟩ := X
  intro H locs ls hP hD hS hl
  exact lv_if_ge hx hb d ht (fun q => kt q H locs ls hP hD hS hl) (fun q => kf q H locs ls hP hD hS hl)
theorem aI_icmp_gt {Γ : g_T} {own : String} {cc : ByteArray} {fr lo pc : Nat} {lv : List (Option Value)} {st : List Value} {h : hp_T} {x y : Int32} {off : Int} {tgt : Nat} (X : aG Γ own cc fr lo) (d : decode cc pc = .ok (.if_icmp .gt off, 3)) (ht : (pc : Int) + off = (tgt : Int)) (kt : y < x → aA Γ tgt lv st h) (kf : ¬ y < x → aA Γ (pc + 3) lv st h) : aA Γ pc lv (.int y :: .int x :: st) h := by
  obtain ⟨p, l, e, R, s, m, args, below, meth, c, Q, A, wsf, D, tys, nL⟩ := Γ
  obtain ⟨hx, hb, hml, hown, hts, hK, hA, hfr, hlo⟩ := X
  intro H locs ls hP hD hS hl
  exact lv_icmp_gt hx hb d ht (fun q => kt q H locs ls hP hD hS hl) (fun q => kf q H locs ls hP hD hS hl)
theorem aI_if_gt {Γ : g_T} {own : String} {cc : ByteArray} {fr lo pc : Nat} {lv : List (Option Value)} {st : List Value} {h : hp_T} {x : Int32} {off : Int} {tgt : Nat} (X : aG Γ own cc fr lo) (d : decode cc pc = .ok (.ifCond .gt off, 3)) (ht : (pc : Int) + off = (tgt : Int)) (kt : 0 < x → aA Γ tgt lv st h) (kf : ¬ 0 < x → aA Γ (pc + 3) lv st h) : aA Γ pc lv (.int x :: st) h := by
  obtain ⟨p, l, e, R, s, m, args, below, meth, c, Q, A, wsf, D, tys, nL⟩ := Γ
  obtain ⟨hx, hb, hml, hown, hts, hK, hA, hfr, hlo⟩ := X
  intro H locs ls hP hD hS hl
  exact lv_if_gt hx hb d ht (fun q => kt q H locs ls hP hD hS hl) (fun q => kf q H locs ls hP hD hS hl)
theorem aI_icmp_le {Γ : g_T} {own : String} {cc : ByteArray} {fr lo pc : Nat} {lv : List (Option Value)} {st : List Value} {h : hp_T} {x y : Int32} {off : Int} {tgt : Nat} (X : aG Γ own cc fr lo) (d : decode cc pc = .ok (.if_icmp .le off, 3)) (ht : (pc : Int) + off = (tgt : Int)) (kt : x ≤ y → aA Γ tgt lv st h) (kf : ¬ x ≤ y → aA Γ (pc + 3) lv st h) : aA Γ pc lv (.int y :: .int x :: st) h := by
  obtain ⟨p, l, e, R, s, m, args, below, meth, c, Q, A, wsf, D, tys, nL⟩ := Γ
  obtain ⟨hx, hb, hml, hown, hts, hK, hA, hfr, hlo⟩ := X
  intro H locs ls hP hD hS hl
  exact lv_icmp_le hx hb d ht (fun q => kt q H locs ls hP hD hS hl) (fun q => kf q H locs ls hP hD hS hl)
theorem aI_if_le {Γ : g_T} {own : String} {cc : ByteArray} {fr lo pc : Nat} {lv : List (Option Value)} {st : List Value} {h : hp_T} {x : Int32} {off : Int} {tgt : Nat} (X : aG Γ own cc fr lo) (d : decode cc pc = .ok (.ifCond .le off, 3)) (ht : (pc : Int) + off = (tgt : Int)) (kt : x ≤ 0 → aA Γ tgt lv st h) (kf : ¬ x ≤ 0 → aA Γ (pc + 3) lv st h) : aA Γ pc lv (.int x :: st) h := by
  obtain ⟨p, l, e, R, s, m, args, below, meth, c, Q, A, wsf, D, tys, nL⟩ := Γ
  obtain ⟨hx, hb, hml, hown, hts, hK, hA, hfr, hlo⟩ := X
  intro H locs ls hP hD hS hl
  exact lv_if_le hx hb d ht (fun q => kt q H locs ls hP hD hS hl) (fun q => kf q H locs ls hP hD hS hl)
theorem aI_tableIn {Γ : g_T} {own : String} {cc : ByteArray} {fr lo pc : Nat} {lv : List (Option Value)} {st : List Value} {h : hp_T} {dflt lo1 hi1 : Int} {offs : Array Int} {len : Nat} {x : Int32} (v : Int32) {off : Int} {tgt : Nat} (X : aG Γ own cc fr lo) (d : decode cc pc = .ok (.tableswitch dflt lo1 hi1 offs, len)) (hx0 : x = v) (h1 : ¬ v.toInt < lo1) (h2 : ¬ hi1 < v.toInt) (ho : offs[(v.toInt - lo1).toNat]? = some off) (ht : (pc : Int) + off = (tgt : Int)) (K : aA Γ tgt lv st h) : aA Γ pc lv (.int x :: st) h := by
  obtain ⟨p, l, e, R, s, m, args, below, meth, c, Q, A, wsf, D, tys, nL⟩ := Γ
  obtain ⟨hx, hb, hml, hown, hts, hK, hA, hfr, hlo⟩ := X
  intro H locs ls hP hD hS hl
  subst hx0
  exact lv_tableIn hx hb d h1 h2 ho ht (K H locs ls hP hD hS hl)
theorem aI_tableOut {Γ : g_T} {own : String} {cc : ByteArray} {fr lo pc : Nat} {lv : List (Option Value)} {st : List Value} {h : hp_T} {dflt lo1 hi1 : Int} {offs : Array Int} {len : Nat} {x : Int32} {tgt : Nat} (X : aG Γ own cc fr lo) (d : decode cc pc = .ok (.tableswitch dflt lo1 hi1 offs, len)) (h1 : x.toInt < lo1 ∨ hi1 < x.toInt) (ht : (pc : Int) + dflt = (tgt : Int)) (K : aA Γ tgt lv st h) : aA Γ pc lv (.int x :: st) h := by
  obtain ⟨p, l, e, R, s, m, args, below, meth, c, Q, A, wsf, D, tys, nL⟩ := Γ
  obtain ⟨hx, hb, hml, hown, hts, hK, hA, hfr, hlo⟩ := X
  intro H locs ls hP hD hS hl
  exact lv_tableOut hx hb d h1 ht (K H locs ls hP hD hS hl)
theorem aI_lookup {Γ : g_T} {own : String} {cc : ByteArray} {fr lo pc : Nat} {lv : List (Option Value)} {st : List Value} {h : hp_T} {dflt : Int} {ps : Array (Int × Int)} {len : Nat} {x : Int32} {off : Int} {tgt : Nat} (X : aG Γ own cc fr lo) (d : decode cc pc = .ok (.lookupswitch dflt ps, len)) (hp : (ps.toList.zip (ps.toList.drop 1)).all (fun (a, next) => a.1 < next.1) = true) (ho : Op.lookupswitch.offset ps.toList dflt x.toInt = off) (ht : (pc : Int) + off = (tgt : Int)) (K : aA Γ tgt lv st h) : aA Γ pc lv (.int x :: st) h := by
  obtain ⟨p, l, e, R, s, m, args, below, meth, c, Q, A, wsf, D, tys, nL⟩ := Γ
  obtain ⟨hx, hb, hml, hown, hts, hK, hA, hfr, hlo⟩ := X
  intro H locs ls hP hD hS hl
  exact lv_lookup hx hb d hp ho ht (K H locs ls hP hD hS hl)
theorem aI_max {Γ : g_T} {own : String} {cc : ByteArray} {fr lo pc : Nat} {lv : List (Option Value)} {st : List Value} {h : hp_T} {index : Nat} {x y : Int32} (X : aG Γ own cc fr lo) (hlink : Cond.methodLink own index Lib.Math.max.name ∈ gd_tbl) (hstat : Cond.static Lib.Math.max.name ∈ gd_tbl) (hini : Cond.initialized "java/lang/Math" ∈ gd_tbl) (hcode : Cond.code Lib.Math.max.name Lib.Math.max.code 2 (some .int) ∈ gd_tbl) (h1 : 1 ≤ fr) (h2 : (st.map fun v => v.category).sum + 13 ≤ lo) (d : decode cc pc = .ok (.invokestatic index, 3)) (K : aA Γ (pc + 3) lv (.int (mx x y) :: st) h) : aA Γ pc lv (.int y :: .int x :: st) h := by
  obtain ⟨p, l, e, R, s, m, args, below, meth, c, Q, A, wsf, D, tys, nL⟩ := Γ
  obtain ⟨hx, hb, hml, hown, hts, hK, hA, hfr, hlo⟩ := X
  intro H locs ls hP hD hS hl
  exact va_mmax hx hb (hml.trans hl.1.symm) hown (hts _ hlink) (hts _ hstat) (hts _ hini) (hts _ hcode) (Nat.le_trans h1 hfr) (Nat.le_trans h2 hlo) (Nat.zero_le _) (Nat.zero_le _) d (K H locs ls hP hD hS hl)
theorem aI_min {Γ : g_T} {own : String} {cc : ByteArray} {fr lo pc : Nat} {lv : List (Option Value)} {st : List Value} {h : hp_T} {index : Nat} {x y : Int32} (X : aG Γ own cc fr lo) (hlink : Cond.methodLink own index Lib.Math.min.name ∈ gd_tbl) (hstat : Cond.static Lib.Math.min.name ∈ gd_tbl) (hini : Cond.initialized "java/lang/Math" ∈ gd_tbl) (hcode : Cond.code Lib.Math.min.name Lib.Math.min.code 2 (some .int) ∈ gd_tbl) (h1 : 1 ≤ fr) (h2 : (st.map fun v => v.category).sum + 13 ≤ lo) (d : decode cc pc = .ok (.invokestatic index, 3)) (K : aA Γ (pc + 3) lv (.int (mn x y) :: st) h) : aA Γ pc lv (.int y :: .int x :: st) h := by
  obtain ⟨p, l, e, R, s, m, args, below, meth, c, Q, A, wsf, D, tys, nL⟩ := Γ
  obtain ⟨hx, hb, hml, hown, hts, hK, hA, hfr, hlo⟩ := X
  intro H locs ls hP hD hS hl
  exact va_mmin hx hb (hml.trans hl.1.symm) hown (hts _ hlink) (hts _ hstat) (hts _ hini) (hts _ hcode) (Nat.le_trans h1 hfr) (Nat.le_trans h2 hlo) (Nat.zero_le _) (Nat.zero_le _) d (K H locs ls hP hD hS hl)
theorem aI_eqi {Γ : g_T} {pc : Nat} {lv : List (Option Value)} {st : List Value} {h : hp_T} {x y : Int32} (e : x = y) (K : aA Γ pc lv (.int x :: st) h) : aA Γ pc lv (.int y :: st) h := e ▸ K
theorem aI_eql {Γ : g_T} {pc : Nat} {lv : List (Option Value)} {st : List Value} {h : hp_T} {x y : Int64} (e : x = y) (K : aA Γ pc lv (.long x :: st) h) : aA Γ pc lv (.long y :: st) h := e ▸ K
theorem aI_eqh {Γ : g_T} {pc : Nat} {lv : List (Option Value)} {st : List Value} {h h2 : hp_T} (e : h2 = h) (K : aA Γ pc lv st h2) : aA Γ pc lv st h := e ▸ K
theorem aI_iret {Γ : g_T} {pc : Nat} {lv : List (Option Value)} {h h2 : hp_T} {x r : Int32} (E : some (x, h) = some (r, h2)) (K : aA Γ pc lv [.int r] h2) : aA Γ pc lv [.int x] h := by
  cases E
  exact K
theorem aI_zret {Γ : g_T} {pc : Nat} {lv : List (Option Value)} {h h2 : hp_T} {x r : Int32} (g : bz x = true) (E : some (x, h) = some (r, h2)) (K : bz r = true → aA Γ pc lv [.int r] h2) : aA Γ pc lv [.int x] h := by
  cases E
  exact K g
theorem aI_lret {Γ : g_T} {pc : Nat} {lv : List (Option Value)} {h h2 : hp_T} {x r : Int64} (E : some (x, h) = some (r, h2)) (K : aA Γ pc lv [.long r] h2) : aA Γ pc lv [.long x] h := by
  cases E
  exact K
theorem aI_vret {Γ : g_T} {pc : Nat} {lv : List (Option Value)} {h h2 : hp_T} (E : some h = some h2) (K : aA Γ pc lv [] h2) : aA Γ pc lv [] h := by
  cases E
  exact K
theorem ix_lt {i : Int32} {n : Nat} (h : ix i n = true) : i.toNatClampNeg < n := Nat.not_le.mp fun q => ix_vp h (Or.inr q)
theorem i32_ne {x c : Int32} (n : Int) (hn : c.toInt = n) (h : ¬ x = c) : x.toInt ≠ n := fun e => h (Int32.toInt_inj.mp (e.trans hn.symm))
/-- fewer locals are told -/
theorem aI_lv {Γ : g_T} {pc : Nat} {lv : List (Option Value)} {st : List Value} {h : hp_T} {lv2 : List (Option Value)} (mk : List Bool) (hs : lo_mask mk lv = lv2) (K : aA Γ pc lv2 st h) : aA Γ pc lv st h := by
  obtain ⟨p, l, e, R, s, m, args, below, meth, c, Q, A, wsf, D, tys, nL⟩ := Γ
  intro H locs ls hP hD hS hl
  subst hs
  exact K H locs ls hP hD hS (lo_less mk hl)
end
section
/-! the worlds: 0 the class, 1 the reference -/
def cellC (q : Nat → Nat) (cA : Nat → ClassId) (k : Nat) (f : Nat → Int32) (L : Int64) : va_E := match k with
  | 0 => .inr (9, [.ref (q 1), .ref (q 7), .ref (q 12), .ref (q 22), .ref (q 25), .ref (q 28), .ref (q 31), .ref (q 33), .ref (q 37), .int (f 9), .int (f 10)])
  | 1 => .inr (7, [.ref (q 2), .ref (q 3), .ref (q 4), .ref (q 5), .ref (q 6), .int (f 5)])
  | 2 => .inl (cA 2, 48, .inl f)
  | 3 => .inl (cA 3, 48, .inl f)
  | 4 => .inl (cA 4, 48, .inl f)
  | 5 => .inl (cA 5, 48, .inl f)
  | 6 => .inl (cA 6, 48, .inl f)
  | 7 => .inr (0, [.ref (q 8), .ref (q 9), .ref (q 10), .ref (q 11), .int (f 4), .int (f 5)])
  | 8 => .inl (cA 8, 64, .inl f)
  | 9 => .inl (cA 9, 64, .inl f)
  | 10 => .inl (cA 10, 64, .inl f)
  | 11 => .inl (cA 11, 64, .inl f)
  | 12 => .inr (8, [.ref (q 13), .ref (q 14), .ref (q 15), .ref (q 16), .ref (q 17), .ref (q 18), .ref (q 19), .ref (q 20), .ref (q 21), .int (f 9)])
  | 13 => .inl (cA 13, 48, .inl f)
  | 14 => .inl (cA 14, 48, .inl f)
  | 15 => .inl (cA 15, 48, .inl f)
  | 16 => .inl (cA 16, 48, .inl f)
  | 17 => .inl (cA 17, 48, .inl f)
  | 18 => .inl (cA 18, 48, .inl f)
  | 19 => .inl (cA 19, 48, .inl f)
  | 20 => .inl (cA 20, 48, .inl f)
  | 21 => .inl (cA 21, 48, .inl f)
  | 22 => .inr (1, [.ref (q 23), .ref (q 24), .int (f 2)])
  | 23 => .inl (cA 23, 49, .inl f)
  | 24 => .inl (cA 24, 49, .inl f)
  | 25 => .inr (5, [.ref (q 26), .ref (q 27), .int (f 2), .int (f 3), .int (f 4)])
  | 26 => .inl (cA 26, 48, .inl f)
  | 27 => .inl (cA 27, 48, .inl f)
  | 28 => .inr (3, [.ref (q 29), .ref (q 30), .int (f 2)])
  | 29 => .inl (cA 29, 48, .inl f)
  | 30 => .inl (cA 30, 48, .inl f)
  | 31 => .inr (4, [.ref (q 32), .int (f 1)])
  | 32 => .inl (cA 32, 48, .inl f)
  | 33 => .inr (2, [.ref (q 34), .ref (q 35), .ref (q 36), .int (f 3), .long L])
  | 34 => .inl (cA 34, 48, .inl f)
  | 35 => .inl (cA 35, 48, .inl f)
  | 36 => .inl (cA 36, 48, .inl f)
  | 37 => .inl (cA 37, 4, .inr (.inr (.inr (.inr (fun j => some (q (38 + j)))))))
  | 38 => .inr (6, [.ref (q 42), .int (f 1), .int (f 2), .int (f 3)])
  | 39 => .inr (6, [.ref (q 43), .int (f 1), .int (f 2), .int (f 3)])
  | 40 => .inr (6, [.ref (q 44), .int (f 1), .int (f 2), .int (f 3)])
  | 41 => .inr (6, [.ref (q 45), .int (f 1), .int (f 2), .int (f 3)])
  | 42 => .inl (cA 42, 60, .inl f)
  | 43 => .inl (cA 43, 60, .inl f)
  | 44 => .inl (cA 44, 60, .inl f)
  | _ => .inl (cA 45, 60, .inl f)
def cellM (q : Nat → Nat) (cA : Nat → ClassId) (k : Nat) (f : Nat → Int32) (L : Int64) : va_E := match k with
  | 0 => .inr (10, [.ref (q 1), .ref (q 2), .ref (q 3), .ref (q 4), .int (f 4), .ref (q 5), .ref (q 6), .ref (q 7), .int (f 8), .int (f 9), .ref (q 8), .ref (q 9), .ref (q 10), .ref (q 11), .ref (q 12), .ref (q 13), .ref (q 14), .ref (q 15), .ref (q 16), .ref (q 17), .ref (q 18), .ref (q 19), .ref (q 20), .ref (q 21), .ref (q 22), .ref (q 23), .ref (q 24), .ref (q 25), .ref (q 26), .ref (q 27), .ref (q 28), .ref (q 29), .ref (q 30)])
  | 1 => .inl (cA 1, 4, .inl f)
  | 2 => .inl (cA 2, 4, .inl f)
  | 3 => .inl (cA 3, 240, .inl f)
  | 4 => .inl (cA 4, 60, .inl f)
  | 5 => .inl (cA 5, 48, .inl f)
  | 6 => .inl (cA 6, 48, .inl f)
  | 7 => .inl (cA 7, 48, .inl f)
  | 8 => .inl (cA 8, 64, .inl f)
  | 9 => .inl (cA 9, 64, .inl f)
  | 10 => .inl (cA 10, 64, .inl f)
  | 11 => .inl (cA 11, 64, .inl f)
  | 12 => .inl (cA 12, 48, .inl f)
  | 13 => .inl (cA 13, 48, .inl f)
  | 14 => .inl (cA 14, 48, .inl f)
  | 15 => .inl (cA 15, 48, .inl f)
  | 16 => .inl (cA 16, 48, .inl f)
  | 17 => .inl (cA 17, 48, .inl f)
  | 18 => .inl (cA 18, 48, .inl f)
  | 19 => .inl (cA 19, 48, .inl f)
  | 20 => .inl (cA 20, 48, .inl f)
  | 21 => .inl (cA 21, 48, .inl f)
  | 22 => .inl (cA 22, 48, .inl f)
  | 23 => .inl (cA 23, 48, .inl f)
  | 24 => .inl (cA 24, 48, .inl f)
  | 25 => .inl (cA 25, 49, .inl f)
  | 26 => .inl (cA 26, 49, .inl f)
  | 27 => .inl (cA 27, 48, .inl f)
  | 28 => .inl (cA 28, 48, .inl f)
  | 29 => .inl (cA 29, 48, .inl f)
  | _ => .inl (cA 30, 48, .inl f)
def cellW (w : Nat) : (Nat → Nat) → (Nat → ClassId) → Nat → (Nat → Int32) → Int64 → va_E := match w with
  | 0 => cellC
  | _ => cellM
def nW (w : Nat) : Nat := match w with
  | 0 => 46
  | _ => 31
def tysW (w : Nat) (cA : Nat → ClassId) : List (ClassId × FieldType) := match w with
  | 0 => [(cA 2, .int), (cA 3, .int), (cA 4, .boolean), (cA 5, .int), (cA 6, .int), (cA 8, .int), (cA 9, .boolean), (cA 10, .int), (cA 11, .int), (cA 13, .int), (cA 14, .int), (cA 15, .int), (cA 16, .int), (cA 17, .int), (cA 18, .int), (cA 19, .int), (cA 20, .int), (cA 21, .boolean), (cA 23, .int), (cA 24, .int), (cA 26, .int), (cA 27, .int), (cA 29, .int), (cA 30, .int), (cA 32, .int), (cA 34, .int), (cA 35, .int), (cA 36, .int), (cA 37, .object "SpanBook$Sheet"), (cA 42, .int), (cA 43, .int), (cA 44, .int), (cA 45, .int)]
  | _ => [(cA 1, .int), (cA 2, .int), (cA 3, .int), (cA 4, .int), (cA 5, .boolean), (cA 6, .int), (cA 7, .int), (cA 8, .int), (cA 9, .int), (cA 10, .int), (cA 11, .int), (cA 12, .int), (cA 13, .int), (cA 14, .int), (cA 15, .int), (cA 16, .int), (cA 17, .int), (cA 18, .int), (cA 19, .int), (cA 20, .int), (cA 21, .int), (cA 22, .int), (cA 23, .int), (cA 24, .int), (cA 25, .int), (cA 26, .int), (cA 27, .int), (cA 28, .int), (cA 29, .int), (cA 30, .int)]
def wsW (w : Nat) (q : Nat → Nat) (cA : Nat → ClassId) (h : hp_T) : va_W := (List.range (nW w)).map (fun k => (q k, cellW w q cA k (h.1 k) h.2))
theorem ws_get {w : Nat} {q : Nat → Nat} {cA : Nat → ClassId} {h : hp_T} {k : Nat} (hk : k < nW w) : (wsW w q cA h)[k]? = some (q k, cellW w q cA k (h.1 k) h.2) := by
  simp [wsW, hk]
theorem ws_len {w : Nat} {q : Nat → Nat} {cA : Nat → ClassId} {h : hp_T} : (wsW w q cA h).length = nW w := by simp [wsW]
theorem ws_set {w : Nat} {q : Nat → Nat} {cA : Nat → ClassId} {h : hp_T} {k : Nat} (f : Nat → Int32) (hk : k < nW w) : (wsW w q cA h).set k (q k, cellW w q cA k f h.2) = wsW w q cA (hwA h k f) := by
  refine List.ext_getElem? fun j => ?_
  by_cases hj : k = j
  · subst hj
    rw [List.getElem?_set_self (by rw [ws_len]; exact hk), ws_get hk]
    simp [hwA]
  · rw [List.getElem?_set_ne hj]
    by_cases hl : j < nW w
    · rw [ws_get hl, ws_get hl]
      simp [hwA, Ne.symm hj]
    · rw [List.getElem?_eq_none (by rw [ws_len]; omega), List.getElem?_eq_none (by rw [ws_len]; omega)]
/-- a walk in a world -/
def aC (w : Nat) (Γ : g_T) (q : Nat → Nat) (own : String) (cc : ByteArray) (fr lo : Nat) : Prop := aG Γ own cc fr lo ∧ match Γ with
  | (_, _, _, _, _, _, _, _, _, _, _, _, wsf, _, tys, _) => ∃ cA : Nat → ClassId, wsf = wsW w q cA ∧ tys = tysW w cA
theorem aK_iald {w : Nat} {Γ : g_T} {q : Nat → Nat} {own : String} {cc : ByteArray} {fr lo pc : Nat} {lv : List (Option Value)} {st : List Value} {h : hp_T} (k n t0 : Nat) (hk : k < nW w) (hc : ∀ q cA f L, cellW w q cA k f L = .inl (cA k, n, .inl f)) (ht : ∀ cA, (tysW w cA)[t0]? = some (cA k, .int)) {i : Int32} (X : aC w Γ q own cc fr lo) (hi : ix i n = true) (d : decode cc pc = .ok (.iaload, 1)) (K : aA Γ (pc + 1) lv (.int (h.1 k i.toNatClampNeg) :: st) h) : aA Γ pc lv (.int i :: .ref (q k) :: st) h := by
  obtain ⟨p, l, e, R, s, m, args, below, meth, c, Q, A, wsf, D, tys, nL⟩ := Γ
  obtain ⟨⟨hx, hb, hml, hown, hts, hK, hA, hfr, hlo⟩, cA, hw, hty⟩ := X
  subst hw; subst hty
  intro H locs ls hP hD hS hl
  exact va_iald hx hb hK hP k t0 ((ws_get hk).trans (by rw [hc])) (ht cA) (ix_vp hi) d (K H locs ls hP hD hS hl)
theorem aK_zald {w : Nat} {Γ : g_T} {q : Nat → Nat} {own : String} {cc : ByteArray} {fr lo pc : Nat} {lv : List (Option Value)} {st : List Value} {h : hp_T} (k n t0 : Nat) (hk : k < nW w) (hc : ∀ q cA f L, cellW w q cA k f L = .inl (cA k, n, .inl f)) (ht : ∀ cA, (tysW w cA)[t0]? = some (cA k, .boolean)) {i : Int32} (X : aC w Γ q own cc fr lo) (hi : ix i n = true) (d : decode cc pc = .ok (.baload, 1)) (K : aA Γ (pc + 1) lv (.int (h.1 k i.toNatClampNeg) :: st) h) : aA Γ pc lv (.int i :: .ref (q k) :: st) h := by
  obtain ⟨p, l, e, R, s, m, args, below, meth, c, Q, A, wsf, D, tys, nL⟩ := Γ
  obtain ⟨⟨hx, hb, hml, hown, hts, hK, hA, hfr, hlo⟩, cA, hw, hty⟩ := X
  subst hw; subst hty
  intro H locs ls hP hD hS hl
  exact va_zald hx hb hK hP k t0 ((ws_get hk).trans (by rw [hc])) (ht cA) (ix_vp hi) d (K H locs ls hP hD hS hl)
theorem aK_iast {w : Nat} {Γ : g_T} {q : Nat → Nat} {own : String} {cc : ByteArray} {fr lo pc : Nat} {lv : List (Option Value)} {st : List Value} {h : hp_T} (k n t0 : Nat) (hk : k < nW w) (hc : ∀ q cA f L, cellW w q cA k f L = .inl (cA k, n, .inl f)) (ht : ∀ cA, (tysW w cA)[t0]? = some (cA k, .int)) {i x : Int32} (X : aC w Γ q own cc fr lo) (hi : ix i n = true) (d : decode cc pc = .ok (.iastore, 1)) (K : aA Γ (pc + 1) lv st (hw h k i.toNatClampNeg x)) : aA Γ pc lv (.int x :: .int i :: .ref (q k) :: st) h := by
  obtain ⟨p, l, e, R, s, m, args, below, meth, c, Q, A, wsf, D, tys, nL⟩ := Γ
  obtain ⟨⟨hx, hb, hml, hown, hts, hK, hA, hfr, hlo⟩, cA, hw, hty⟩ := X
  subst hw; subst hty
  intro H locs ls hP hD hS hl
  refine va_iast hx hb hK hP hD hS k t0 ((ws_get hk).trans (by rw [hc])) (ht cA) (ix_vp hi) d (fun H1 locs1 hP1 hD1 hS1 => ?_)
  have e1 := ws_set (w := w) (q := q) (cA := cA) (h := h) (k := k) (upd (h.1 k) i.toNatClampNeg x) hk
  rw [hc] at e1
  rw [e1] at hP1 hD1
  exact K H1 locs1 ls hP1 hD1 hS1 hl
theorem bz_nar {x : Int32} (h : bz x = true) : vp_nar .boolean x = x := by
  simp [bz] at h
  rcases h with rfl | rfl <;> decide +kernel
theorem bz_narrow {x : Int32} (h : bz x = true) : narrow .boolean (.int x) = .int x ∧ fits .boolean (.int x) = true := by
  simp [bz] at h
  rcases h with rfl | rfl <;> decide +kernel
theorem aK_zast {w : Nat} {Γ : g_T} {q : Nat → Nat} {own : String} {cc : ByteArray} {fr lo pc : Nat} {lv : List (Option Value)} {st : List Value} {h : hp_T} (k n t0 : Nat) (hk : k < nW w) (hc : ∀ q cA f L, cellW w q cA k f L = .inl (cA k, n, .inl f)) (ht : ∀ cA, (tysW w cA)[t0]? = some (cA k, .boolean)) {i x : Int32} (X : aC w Γ q own cc fr lo) (hi : ix i n = true) (hz : bz x = true) (d : decode cc pc = .ok (.bastore, 1)) (K : aA Γ (pc + 1) lv st (hw h k i.toNatClampNeg x)) : aA Γ pc lv (.int x :: .int i :: .ref (q k) :: st) h := by
  obtain ⟨p, l, e, R, s, m, args, below, meth, c, Q, A, wsf, D, tys, nL⟩ := Γ
  obtain ⟨⟨hx, hb, hml, hown, hts, hK, hA, hfr, hlo⟩, cA, hw, hty⟩ := X
  subst hw; subst hty
  intro H locs ls hP hD hS hl
  refine va_zast hx hb hK hP hD hS k t0 ((ws_get hk).trans (by rw [hc])) (ht cA) (ix_vp hi) d (fun H1 locs1 hP1 hD1 hS1 => ?_)
  have e1 := ws_set (w := w) (q := q) (cA := cA) (h := h) (k := k) (upd (h.1 k) i.toNatClampNeg x) hk
  rw [hc] at e1
  rw [bz_nar hz, e1] at hP1 hD1
  exact K H1 locs1 ls hP1 hD1 hS1 hl
/-- System.arraycopy of ints -/
def cpok (sp dp n : Int32) (n0 n1 : Nat) : Bool := decide (¬ sp < 0) && (decide (¬ dp < 0) && (decide (¬ n < 0) && (decide (sp.toNatClampNeg + n.toNatClampNeg ≤ n0) && decide (dp.toNatClampNeg + n.toNatClampNeg ≤ n1))))
theorem aK_copy {w : Nat} {Γ : g_T} {q : Nat → Nat} {own : String} {cc : ByteArray} {fr lo pc : Nat} {lv : List (Option Value)} {st : List Value} {h : hp_T} (k0 k1 n0 n1 t0 t1 : Nat) (hk0 : k0 < nW w) (hk1 : k1 < nW w) (hc0 : ∀ q cA f L, cellW w q cA k0 f L = .inl (cA k0, n0, .inl f)) (hc1 : ∀ q cA f L, cellW w q cA k1 f L = .inl (cA k1, n1, .inl f)) (ht0 : ∀ cA, (tysW w cA)[t0]? = some (cA k0, .int)) (ht1 : ∀ cA, (tysW w cA)[t1]? = some (cA k1, .int)) {sp dp n : Int32} {index : Nat} (X : aC w Γ q own cc fr lo) (hi : cpok sp dp n n0 n1 = true)
    (hlink : Cond.methodLink own index arraycopyName ∈ gd_tbl) (hnat : Cond.native arraycopyName ∈ gd_tbl) (hstat : Cond.static arraycopyName ∈ gd_tbl) (hini : Cond.initialized "java/lang/System" ∈ gd_tbl) (h1 : 1 ≤ fr) (h2 : (st.map fun v => v.category).sum + (nativeFrameWords "java/lang/System" "arraycopy" 5 + 11) ≤ lo)
    (d : decode cc pc = .ok (.invokestatic index, 3)) (K : aA Γ (pc + 3) lv st (hwA h k1 (va_cpy (h.1 k0) (h.1 k1) sp.toNatClampNeg dp.toNatClampNeg n.toNatClampNeg))) : aA Γ pc lv (.int n :: .int dp :: .ref (q k1) :: .int sp :: .ref (q k0) :: st) h := by
  obtain ⟨p, l, e, R, s, m, args, below, meth, c, Q, A, wsf, D, tys, nL⟩ := Γ
  obtain ⟨⟨hx, hb, hml, hown, hts, hK, hA, hfr, hlo⟩, cA, hw, hty⟩ := X
  subst hw; subst hty
  intro H locs ls hP hD hS hl
  simp only [cpok, Bool.and_eq_true, decide_eq_true_eq] at hi
  obtain ⟨g1, g2, g3, g4, g5⟩ := hi
  refine va_copyi hx hb (hml.trans hl.1.symm) hown (hts _ hlink) (hts _ hnat) (hts _ hstat) (hts _ hini) hK hP hD hS k0 k1 t0 t1 ((ws_get hk0).trans (by rw [hc0])) ((ws_get hk1).trans (by rw [hc1])) (ht0 cA) (ht1 cA) rfl g1 g2 g3 g4 g5 (fun _ _ => rfl) (Nat.le_trans h1 hfr) (Nat.le_trans h2 hlo) d (fun H1 locs1 hP1 hD1 hS1 => ?_)
  have e1 := ws_set (w := w) (q := q) (cA := cA) (h := h) (k := k1) (va_cpy (h.1 k0) (h.1 k1) sp.toNatClampNeg dp.toNatClampNeg n.toNatClampNeg) hk1
  rw [hc1] at e1
  rw [e1] at hP1 hD1
  exact K H1 locs1 ls hP1 hD1 hS1 hl
/-- fields -/
theorem aK_get {w : Nat} {Γ : g_T} {q : Nat → Nat} {own : String} {cc : ByteArray} {fr lo pc : Nat} {lv : List (Option Value)} {st : List Value} {h : hp_T} (k ci j : Nat) {C : String} {T : u_T} {N : Nat} (fsf : (Nat → Nat) → (Nat → Int32) → Int64 → List Value) (hk : k < nW w) (hc : ∀ q cA f L, cellW w q cA k f L = .inr (ci, fsf q f L)) (hcl : vwCl[ci]? = some (C, T, N)) (hin : ∀ w ∈ u_ws C T N, w ∈ gd_tbl) (hj : j < N) {index : Nat} (hlk : Cond.fieldLink own index (T j).1 (T j).2.1 (T j).2.2.1 ∈ gd_tbl) {v : Value} (hv : (fsf q (h.1 k) h.2)[j]? = some v) (X : aC w Γ q own cc fr lo) (d : decode cc pc = .ok (.getfield index, 3)) (K : aA Γ (pc + 3) lv (v :: st) h) : aA Γ pc lv (.ref (q k) :: st) h := by
  obtain ⟨p, l, e, R, s, m, args, below, meth, c, Q, A, wsf, D, tys, nL⟩ := Γ
  obtain ⟨⟨hx, hb, hml, hown, hts, hK, hA, hfr, hlo⟩, cA, hw, hty⟩ := X
  subst hw; subst hty
  intro H locs ls hP hD hS hl
  exact va_get hx hb hts hin hown hK hP k ((ws_get hk).trans (by rw [hc])) hcl j hj (hts _ hlk) (fun _ h9 => h9) hv d (K H locs ls hP hD hS hl)
theorem aK_put {w : Nat} {Γ : g_T} {q : Nat → Nat} {own : String} {cc : ByteArray} {fr lo pc : Nat} {lv : List (Option Value)} {st : List Value} {h : hp_T} (k ci j : Nat) {C : String} {T : u_T} {N : Nat} (fsf : (Nat → Nat) → (Nat → Int32) → Int64 → List Value) (hk : k < nW w) (hc : ∀ q cA f L, cellW w q cA k f L = .inr (ci, fsf q f L)) (hcl : vwCl[ci]? = some (C, T, N)) (hin : ∀ w ∈ u_ws C T N, w ∈ gd_tbl) (ty0 : Nat → FieldType) (hty : ∀ k, k < N → parseFieldDescriptor (T k).2.2.1 = some (ty0 k)) (hnm : ∀ a, a < N → ∀ b, b < N → a ≠ b → (T a).2.1 ≠ (T b).2.1) (hj : j < N) {index : Nat} (hlk : Cond.fieldLink own index (T j).1 (T j).2.1 (T j).2.2.1 ∈ gd_tbl) (hfin : (T j).2.2.2 = false) {ty : FieldType} (hd : parseFieldDescriptor (T j).2.2.1 = some ty) {x : Int32} (hn : narrow ty (.int x) = .int x ∧ fits ty (.int x) = true) (hl0 : ∀ q f L, j < (fsf q f L).length) (hset : ∀ q f L x, (fsf q f L).set j (.int x) = fsf q (upd f j x) L) (X : aC w Γ q own cc fr lo) (d : decode cc pc = .ok (.putfield index, 3)) (K : aA Γ (pc + 3) lv st (hw h k j x)) : aA Γ pc lv (.int x :: .ref (q k) :: st) h := by
  obtain ⟨p, l, e, R, s, m, args, below, meth, c, Q, A, wsf, D, tys, nL⟩ := Γ
  obtain ⟨⟨hx, hb, hml, hown, hts, hK, hA, hfr, hlo⟩, cA, hw, hty⟩ := X
  subst hw; subst hty
  intro H locs ls hP hD hS hl
  refine va_put hx hb hts hin ty0 hty hnm hown hK hP hD hS k ((ws_get hk).trans (by rw [hc])) hcl j hj (hts _ hlk) (fun _ h9 => h9) hfin hd hn.1 hn.2 (hl0 _ _ _) d (fun H1 locs1 hP1 hD1 hS1 => ?_)
  have e1 := ws_set (w := w) (q := q) (cA := cA) (h := h) (k := k) (upd (h.1 k) j x) hk
  rw [hc, ← hset] at e1
  rw [e1] at hP1 hD1
  exact K H1 locs1 ls hP1 hD1 hS1 hl
theorem aK_putL {w : Nat} {Γ : g_T} {q : Nat → Nat} {own : String} {cc : ByteArray} {fr lo pc : Nat} {lv : List (Option Value)} {st : List Value} {h : hp_T} (k ci j : Nat) {C : String} {T : u_T} {N : Nat} (fsf : (Nat → Nat) → (Nat → Int32) → Int64 → List Value) (hk : k < nW w) (hc : ∀ q cA f L, cellW w q cA k f L = .inr (ci, fsf q f L)) (hcl : vwCl[ci]? = some (C, T, N)) (hin : ∀ w ∈ u_ws C T N, w ∈ gd_tbl) (ty0 : Nat → FieldType) (hty : ∀ k, k < N → parseFieldDescriptor (T k).2.2.1 = some (ty0 k)) (hnm : ∀ a, a < N → ∀ b, b < N → a ≠ b → (T a).2.1 ≠ (T b).2.1) (hj : j < N) {index : Nat} (hlk : Cond.fieldLink own index (T j).1 (T j).2.1 (T j).2.2.1 ∈ gd_tbl) (hfin : (T j).2.2.2 = false) (hd : parseFieldDescriptor (T j).2.2.1 = some .long) {x : Int64} (hl0 : ∀ q f L, j < (fsf q f L).length) (hset : ∀ q f L x, (fsf q f L).set j (.long x) = fsf q f x) (hoth : ∀ q cA z f L L2, z ≠ k → cellW w q cA z f L = cellW w q cA z f L2) (X : aC w Γ q own cc fr lo) (d : decode cc pc = .ok (.putfield index, 3)) (K : aA Γ (pc + 3) lv st (hwL h x)) : aA Γ pc lv (.long x :: .ref (q k) :: st) h := by
  obtain ⟨p, l, e, R, s, m, args, below, meth, c, Q, A, wsf, D, tys, nL⟩ := Γ
  obtain ⟨⟨hx, hb, hml, hown, hts, hK, hA, hfr, hlo⟩, cA, hw, hty⟩ := X
  subst hw; subst hty
  intro H locs ls hP hD hS hl
  refine va_put hx hb hts hin ty0 hty hnm hown hK hP hD hS k ((ws_get hk).trans (by rw [hc])) hcl j hj (hts _ hlk) (fun _ h9 => h9) hfin hd rfl rfl (hl0 _ _ _) d (fun H1 locs1 hP1 hD1 hS1 => ?_)
  have e1 : (wsW w q cA h).set k (q k, cellW w q cA k (h.1 k) x) = wsW w q cA (hwL h x) := by
    refine List.ext_getElem? fun z => ?_
    by_cases hz : k = z
    · subst hz
      rw [List.getElem?_set_self (by rw [ws_len]; exact hk), ws_get hk]
      rfl
    · rw [List.getElem?_set_ne hz]
      by_cases hl : z < nW w
      · rw [ws_get hl, ws_get hl, hoth q cA z (h.1 z) h.2 x (Ne.symm hz)]
        rfl
      · rw [List.getElem?_eq_none (by rw [ws_len]; omega), List.getElem?_eq_none (by rw [ws_len]; omega)]
  rw [hc, ← hset _ _ h.2] at e1
  rw [e1] at hP1 hD1
  exact K H1 locs1 ls hP1 hD1 hS1 hl
/-- contracts -/
def aPc (w : Nat) (q : Nat → Nat) (cA : Nat → ClassId) (D : va_G) (h : hp_T) (sz : Nat) (vals : List Value) : Array Value → State → Prop := va_Pc vals (fun U => U.heap.size = sz ∧ va_P D vwCl (wsW w q cA h) U.heap ∧ va_K D vwCl (tysW w cA) U ∧ va_D (fun _ => True) (wsW w q cA h))
def aB (w : Nat) (q : Nat → Nat) (cA : Nat → ClassId) (D : va_G) (h : hp_T) (sz : Nat) (u : hp_T) (t : State) : Prop := va_P D vwCl (wsW w q cA u) t.heap ∧ va_K D vwCl (tysW w cA) t ∧ va_D (va_A (wsW w q cA h) sz) (wsW w q cA u)
def rmW (fr lo : Nat) : Room := { frames := fr, cells := 0, slots := 0, locals := lo }
def cI (w : Nat) (y : MethodName) (bytes : ByteArray) (maxL : Nat) (ty : FieldType) (fr lo : Nat) (q : Nat → Nat) (vals : List Value) (h : hp_T) (r : Int32) (h2 : hp_T) : Prop := ∀ (l : Launch) (D : va_G) (cA : Nat → ClassId) (sz : Nat), Met l y (Cond.code y bytes maxL (some ty) :: gd_tbl) (rmW fr lo) (aPc w q cA D h sz vals) (va_Qi (fun r2 u => r2 = r ∧ u = h2) (aB w q cA D h sz) (va_A (wsW w q cA h) sz)) 0 0 (va_A (wsW w q cA h) sz)
def cL (w : Nat) (y : MethodName) (bytes : ByteArray) (maxL : Nat) (fr lo : Nat) (q : Nat → Nat) (vals : List Value) (h : hp_T) (r : Int64) (h2 : hp_T) : Prop := ∀ (l : Launch) (D : va_G) (cA : Nat → ClassId) (sz : Nat), Met l y (Cond.code y bytes maxL (some .long) :: gd_tbl) (rmW fr lo) (aPc w q cA D h sz vals) (va_Ql (fun r2 u => r2 = r ∧ u = h2) (aB w q cA D h sz) (va_A (wsW w q cA h) sz)) 0 0 (va_A (wsW w q cA h) sz)
def cV (w : Nat) (y : MethodName) (bytes : ByteArray) (maxL : Nat) (fr lo : Nat) (q : Nat → Nat) (vals : List Value) (h : hp_T) (h2 : hp_T) : Prop := ∀ (l : Launch) (D : va_G) (cA : Nat → ClassId) (sz : Nat), Met l y (Cond.code y bytes maxL none :: gd_tbl) (rmW fr lo) (aPc w q cA D h sz vals) (va_Qv (fun u => u = h2) (aB w q cA D h sz) (va_A (wsW w q cA h) sz)) 0 0 (va_A (wsW w q cA h) sz)
theorem lo_entry {vals : List Value} {lv0 : List (Option Value)} {n : Nat} (hn : (lg_sl vals).length ≤ n) (hlv : lo_l 0 lv0 = lv_args 0 vals) : lo_has ((lg_sl vals ++ List.replicate (n - (lg_sl vals).length) Slot.unset).toArray) n lv0 := by
  unfold lo_has
  rw [hlv]
  exact lv_entry vals hn
theorem metI {w : Nat} {y : MethodName} {own : String} {bytes : ByteArray} {maxL : Nat} {fr lo : Nat} {q : Nat → Nat} {vals : List Value} {lv0 : List (Option Value)} {h h2 : hp_T} {r : Int32} (hy : plainName y.cls = true) (ho : y.cls = own) (hlen : (lg_sl vals).length ≤ maxL) (hlv : lo_l 0 lv0 = lv_args 0 vals) 
    (walk : ∀ Γ : g_T, aC w Γ q own bytes fr lo → (∀ k, k < maxL → aN Γ k) → (∀ pc lv, decode bytes pc = .ok (.ireturn, 1) → aA Γ pc lv [.int r] h2) → aA Γ 0 lv0 [] h) : cI w y bytes maxL .int fr lo q vals h r h2 := by
  intro l D cA sz
  refine Met.ofW (cc := bytes) (maxL := maxL) (ret := some .int) hy rfl ?_
  intro p e s m args below meth c s₁ B hml hv
  obtain ⟨rfl, hsz, hP, hK, hD0⟩ := hv
  have hts := atoms_spec (ws := Cond.code y bytes maxL (some .int) :: gd_tbl) B.pre
  have hown : s.vm.findClass y.cls = some m.cls := findClass_of_methodNamed B.named
  subst hsz
  subst ho
  have hD := hD0.self (sz := s.heap.size)
  rw [lg_entry_eq]
  refine walk (p, l, e, rmW fr lo, s, m, vals.toArray, below, meth, c, MQ below (va_Qi (fun r2 u => r2 = r ∧ u = h2) (aB w q cA D h s.heap.size) (va_A (wsW w q cA h) s.heap.size)) vals.toArray s 0 0 (va_A (wsW w q cA h) s.heap.size), va_A (wsW w q cA h) s.heap.size, wsW w q cA, D, tysW w cA, maxL) ⟨⟨B.exec, B.bytes, hml, hown, fun w hw => hts w (List.mem_cons_of_mem _ hw), hK, fun q hq => Or.inr hq, Nat.le_refl _, Nat.le_refl _⟩, cA, rfl, rfl⟩ (fun k hk => hk) ?_ s.heap [] _ hP hD va_S.rf (lo_entry hlen hlv)
  intro pc lv d H locs ls hP2 hD2 hS2 hl
  have hlocks := B.notSynchronized
  exact W.zret B.exec B.bytes B.returns (vp_nar_int r) (fun t ht hW => ⟨⟨r, h2, rfl, ⟨rfl, rfl⟩, by rw [ht]; exact hP2, va_K.moved hW.alike hK, hD2⟩, hS2.F ht⟩) hS2.2.2 d
theorem metZ {w : Nat} {y : MethodName} {own : String} {bytes : ByteArray} {maxL : Nat} {fr lo : Nat} {q : Nat → Nat} {vals : List Value} {lv0 : List (Option Value)} {h h2 : hp_T} {r : Int32} (hy : plainName y.cls = true) (ho : y.cls = own) (hlen : (lg_sl vals).length ≤ maxL) (hlv : lo_l 0 lv0 = lv_args 0 vals) 
    (walk : ∀ Γ : g_T, aC w Γ q own bytes fr lo → (∀ k, k < maxL → aN Γ k) → (∀ pc lv, decode bytes pc = .ok (.ireturn, 1) → bz r = true → aA Γ pc lv [.int r] h2) → aA Γ 0 lv0 [] h) : cI w y bytes maxL .boolean fr lo q vals h r h2 := by
  intro l D cA sz
  refine Met.ofW (cc := bytes) (maxL := maxL) (ret := some .boolean) hy rfl ?_
  intro p e s m args below meth c s₁ B hml hv
  obtain ⟨rfl, hsz, hP, hK, hD0⟩ := hv
  have hts := atoms_spec (ws := Cond.code y bytes maxL (some .boolean) :: gd_tbl) B.pre
  have hown : s.vm.findClass y.cls = some m.cls := findClass_of_methodNamed B.named
  subst hsz
  subst ho
  have hD := hD0.self (sz := s.heap.size)
  rw [lg_entry_eq]
  refine walk (p, l, e, rmW fr lo, s, m, vals.toArray, below, meth, c, MQ below (va_Qi (fun r2 u => r2 = r ∧ u = h2) (aB w q cA D h s.heap.size) (va_A (wsW w q cA h) s.heap.size)) vals.toArray s 0 0 (va_A (wsW w q cA h) s.heap.size), va_A (wsW w q cA h) s.heap.size, wsW w q cA, D, tysW w cA, maxL) ⟨⟨B.exec, B.bytes, hml, hown, fun w hw => hts w (List.mem_cons_of_mem _ hw), hK, fun q hq => Or.inr hq, Nat.le_refl _, Nat.le_refl _⟩, cA, rfl, rfl⟩ (fun k hk => hk) ?_ s.heap [] _ hP hD va_S.rf (lo_entry hlen hlv)
  intro pc lv d hz H locs ls hP2 hD2 hS2 hl
  have hlocks := B.notSynchronized
  exact W.zret B.exec B.bytes B.returns (bz_narrow hz).1 (fun t ht hW => ⟨⟨r, h2, rfl, ⟨rfl, rfl⟩, by rw [ht]; exact hP2, va_K.moved hW.alike hK, hD2⟩, hS2.F ht⟩) hS2.2.2 d
theorem metL {w : Nat} {y : MethodName} {own : String} {bytes : ByteArray} {maxL : Nat} {fr lo : Nat} {q : Nat → Nat} {vals : List Value} {lv0 : List (Option Value)} {h h2 : hp_T} {r : Int64} (hy : plainName y.cls = true) (ho : y.cls = own) (hlen : (lg_sl vals).length ≤ maxL) (hlv : lo_l 0 lv0 = lv_args 0 vals)
    (walk : ∀ Γ : g_T, aC w Γ q own bytes fr lo → (∀ k, k < maxL → aN Γ k) → (∀ pc lv, decode bytes pc = .ok (.lreturn, 1) → aA Γ pc lv [.long r] h2) → aA Γ 0 lv0 [] h) : cL w y bytes maxL fr lo q vals h r h2 := by
  intro l D cA sz
  refine Met.ofW (cc := bytes) (maxL := maxL) (ret := some .long) hy rfl ?_
  intro p e s m args below meth c s₁ B hml hv
  obtain ⟨rfl, hsz, hP, hK, hD0⟩ := hv
  have hts := atoms_spec (ws := Cond.code y bytes maxL (some .long) :: gd_tbl) B.pre
  have hown : s.vm.findClass y.cls = some m.cls := findClass_of_methodNamed B.named
  subst hsz
  subst ho
  have hD := hD0.self (sz := s.heap.size)
  rw [lg_entry_eq]
  refine walk (p, l, e, rmW fr lo, s, m, vals.toArray, below, meth, c, MQ below (va_Ql (fun r2 u => r2 = r ∧ u = h2) (aB w q cA D h s.heap.size) (va_A (wsW w q cA h) s.heap.size)) vals.toArray s 0 0 (va_A (wsW w q cA h) s.heap.size), va_A (wsW w q cA h) s.heap.size, wsW w q cA, D, tysW w cA, maxL) ⟨⟨B.exec, B.bytes, hml, hown, fun w hw => hts w (List.mem_cons_of_mem _ hw), hK, fun q hq => Or.inr hq, Nat.le_refl _, Nat.le_refl _⟩, cA, rfl, rfl⟩ (fun k hk => hk) ?_ s.heap [] _ hP hD va_S.rf (lo_entry hlen hlv)
  intro pc lv d H locs ls hP2 hD2 hS2 hl
  have hlocks := B.notSynchronized
  exact W.lret B.exec B.bytes B.returns (fun t ht hW => ⟨⟨r, h2, rfl, ⟨rfl, rfl⟩, by rw [ht]; exact hP2, va_K.moved hW.alike hK, hD2⟩, hS2.F ht⟩) hS2.2.2 d
theorem metV {w : Nat} {y : MethodName} {own : String} {bytes : ByteArray} {maxL : Nat} {fr lo : Nat} {q : Nat → Nat} {vals : List Value} {lv0 : List (Option Value)} {h h2 : hp_T} (hy : plainName y.cls = true) (ho : y.cls = own) (hlen : (lg_sl vals).length ≤ maxL) (hlv : lo_l 0 lv0 = lv_args 0 vals)
    (walk : ∀ Γ : g_T, aC w Γ q own bytes fr lo → (∀ k, k < maxL → aN Γ k) → (∀ pc lv, decode bytes pc = .ok (.return_, 1) → aA Γ pc lv [] h2) → aA Γ 0 lv0 [] h) : cV w y bytes maxL fr lo q vals h h2 := by
  intro l D cA sz
  refine Met.ofW (cc := bytes) (maxL := maxL) (ret := none) hy rfl ?_
  intro p e s m args below meth c s₁ B hml hv
  obtain ⟨rfl, hsz, hP, hK, hD0⟩ := hv
  have hts := atoms_spec (ws := Cond.code y bytes maxL none :: gd_tbl) B.pre
  have hown : s.vm.findClass y.cls = some m.cls := findClass_of_methodNamed B.named
  subst hsz
  subst ho
  have hD := hD0.self (sz := s.heap.size)
  rw [lg_entry_eq]
  refine walk (p, l, e, rmW fr lo, s, m, vals.toArray, below, meth, c, MQ below (va_Qv (fun u => u = h2) (aB w q cA D h s.heap.size) (va_A (wsW w q cA h) s.heap.size)) vals.toArray s 0 0 (va_A (wsW w q cA h) s.heap.size), va_A (wsW w q cA h) s.heap.size, wsW w q cA, D, tysW w cA, maxL) ⟨⟨B.exec, B.bytes, hml, hown, fun w hw => hts w (List.mem_cons_of_mem _ hw), hK, fun q hq => Or.inr hq, Nat.le_refl _, Nat.le_refl _⟩, cA, rfl, rfl⟩ (fun k hk => hk) ?_ s.heap [] _ hP hD va_S.rf (lo_entry hlen hlv)
  intro pc lv d H locs ls hP2 hD2 hS2 hl
  have hlocks := B.notSynchronized
  exact W.vret B.exec B.bytes B.returns (fun t ht hW => ⟨⟨h2, rfl, rfl, by rw [ht]; exact hP2, va_K.moved hW.alike hK, hD2⟩, hS2.F ht⟩) hS2.2.2 d
/-- calls -/
theorem gdI {ws : List Cond} (h : ∀ w ∈ ws, w ∈ gd_tbl) : GoodIn gd_tbl ws := fun w hw => ⟨h w hw, good_of_word (gd_good (h w hw))⟩
def yV (y : MethodName) (bytes : ByteArray) (maxL : Nat) (ret : Option FieldType) (n : Nat) : Prop := Cond.instanceMethod y ∈ gd_tbl ∧ Cond.selects y.cls y y ∈ gd_tbl ∧ Cond.initialized y.cls ∈ gd_tbl ∧ Cond.code y bytes maxL ret ∈ gd_tbl ∧ (y.cls ≠ "java/lang/invoke/MethodHandle" ∧ y.cls ≠ "java/lang/invoke/VarHandle" ∧ (parseMethodDescriptor y.desc).map (fun d => d.parameters.length) = some n)
def yS (y : MethodName) (bytes : ByteArray) (maxL : Nat) (ret : Option FieldType) (n : Nat) : Prop := Cond.static y ∈ gd_tbl ∧ Cond.initialized y.cls ∈ gd_tbl ∧ Cond.code y bytes maxL ret ∈ gd_tbl ∧ (y.cls ≠ "java/lang/invoke/MethodHandle" ∧ y.cls ≠ "java/lang/invoke/VarHandle" ∧ (parseMethodDescriptor y.desc).map (fun d => d.parameters.length) = some n)
theorem aPc_blind {w : Nat} {q : Nat → Nat} {cA : Nat → ClassId} {D : va_G} {h : hp_T} {sz : Nat} {vals : List Value} : FrameBlind (aPc w q cA D h sz vals) := fun a U g mk z => by
  obtain ⟨q0, q1, qP, qK, qD⟩ := z
  exact ⟨q0, q1, qP, va_K.moved (u := U) (U := U.calling g mk a) (Vm.Alike.refl U.vm) qK, qD⟩
theorem gd_wsV {own : String} {index : Nat} {y : MethodName} {bytes : ByteArray} {maxL n : Nat} {ret : Option FieldType} (hl : Cond.methodLink own index y ∈ gd_tbl) (hy : yV y bytes maxL ret n) : GoodIn gd_tbl (wsV own index y.cls y (Cond.code y bytes maxL ret :: gd_tbl)) := by
  obtain ⟨h1, h2, h3, h4, -⟩ := hy
  refine gdI fun w hw => ?_
  unfold wsV at hw
  simp only [List.cons_append, List.nil_append, List.mem_cons] at hw
  rcases hw with rfl | rfl | rfl | rfl | rfl | hw
  · exact hl
  · exact h1
  · exact h2
  · exact h3
  · exact h4
  · exact hw
theorem gd_wsS {own : String} {index : Nat} {y : MethodName} {bytes : ByteArray} {maxL n : Nat} {ret : Option FieldType} (hl : Cond.methodLink own index y ∈ gd_tbl) (ho : y.cls = own) (hy : yS y bytes maxL ret n) : GoodIn gd_tbl (wsS own index y (Cond.code y bytes maxL ret :: gd_tbl)) := by
  subst ho
  obtain ⟨h1, h2, h3, -⟩ := hy
  refine gdI fun w hw => ?_
  unfold wsS at hw
  simp only [List.cons_append, List.nil_append, List.mem_cons] at hw
  rcases hw with rfl | rfl | rfl | rfl | hw
  · exact hl
  · exact h1
  · exact h2
  · exact h3
  · exact hw
theorem aFree {w : Nat} {q : Nat → Nat} {cA : Nat → ClassId} {h : hp_T} {A : Nat → Prop} {H0 H : Heap} {locs : List Loc} (hD : va_D A (wsW w q cA h)) (hS : va_S A H0 H locs) (hA : ∀ z, H0.size ≤ z → A z) : ∀ z, va_A (wsW w q cA h) H.size z → A z := by
  intro z hz
  rcases hz with ⟨k, e, hz⟩ | hz
  · exact hD.2 k _ hz
  · exact hA z (Nat.le_trans hS.1 hz)
theorem aK_callVI {w : Nat} {Γ : g_T} {q : Nat → Nat} {own : String} {cc : ByteArray} {fr lo pc : Nat} {lv : List (Option Value)} {st : List Value} {h h2 : hp_T} {y : MethodName} {bytes : ByteArray} {maxL fr2 lo2 k ci n index : Nat} {T : u_T} {N : Nat} {As : List Value} {ty : FieldType} {r : Int32} (X : aC w Γ q own cc fr lo) (hM : cI w y bytes maxL ty fr2 lo2 q (.ref (q k) :: As) h r h2) (hk : k < nW w) (hc : ∀ q cA f L, ∃ fs, cellW w q cA k f L = .inr (ci, fs)) (hcl : vwCl[ci]? = some (y.cls, T, N)) (hy : yV y bytes maxL (some ty) n) (hlk : Cond.methodLink own index y ∈ gd_tbl) (hn : As.length = n) (hR1 : fr2 + 1 ≤ fr) (hR2 : 8 + (maxL + 11) + lo2 ≤ lo) (hW : (st.map fun v => v.category).sum ≤ 8) (d : decode cc pc = .ok (.invokevirtual index, 3)) (K : aA Γ (pc + 3) lv (.int r :: st) h2) : aA Γ pc lv (As.reverse ++ .ref (q k) :: st) h := by
  obtain ⟨p, l, e, R, s, m, args, below, meth, c, Q, A, wsf, D, tys, nL⟩ := Γ
  obtain ⟨⟨hx, hb, hml, hown, hts, hK, hA, hfr, hlo⟩, cA, hw, hty⟩ := X
  subst hw; subst hty
  intro H locs ls hP hD hS hl
  obtain ⟨fs, hfs⟩ := hc q cA (h.1 k) h.2
  have hFc := aFree (h := h) hD hS hA
  refine va_calli (va_runV (As := As) (rest := st) ⟨hx, hb, hml, hown, hts⟩ (hM l D cA H.size) (cwV n hts (gd_wsV hlk hy) rfl rfl rfl ⟨rfl, hy.2.2.2.2⟩ ⟨Nat.le_trans hR1 hfr, Nat.le_trans hR2 hlo⟩) ⟨aPc_blind, va_recv hK hP hcl ((ws_get hk).trans (by rw [hfs])), fun U hU hW => ⟨rfl, by rw [hU], by rw [hU]; exact hP, va_K.moved hW.alike hK, hD.weaken (fun _ _ _ _ => trivial)⟩⟩ rfl hn hl.1 rfl (lv_room hW) d ⟨Nat.zero_le _, Nat.zero_le _⟩) hS (fun z _ hz => hFc z hz) hFc (fun r1 u t H1 locs1 ht hvm hw hB hz1 hk1 hS1 => ?_)
  obtain ⟨rfl, rfl⟩ := hw
  obtain ⟨hP1, hK1, hD1⟩ := hB
  rw [ht] at hP1
  exact K H1 locs1 ls hP1 (hD1.weaken (fun _ x _ hx => hFc x.1 hx)) hS1 hl
theorem aK_callSI {w : Nat} {Γ : g_T} {q : Nat → Nat} {own : String} {cc : ByteArray} {fr lo pc : Nat} {lv : List (Option Value)} {st : List Value} {h h2 : hp_T} {y : MethodName} {bytes : ByteArray} {maxL fr2 lo2 n index : Nat} {As : List Value} {ty : FieldType} {r : Int32} (X : aC w Γ q own cc fr lo) (hM : cI w y bytes maxL ty fr2 lo2 q As h r h2) (ho : y.cls = own) (hy : yS y bytes maxL (some ty) n) (hlk : Cond.methodLink own index y ∈ gd_tbl) (hn : As.length = n) (hR1 : fr2 + 1 ≤ fr) (hR2 : 8 + (maxL + 11) + lo2 ≤ lo) (hW : (st.map fun v => v.category).sum ≤ 8) (d : decode cc pc = .ok (.invokestatic index, 3)) (K : aA Γ (pc + 3) lv (.int r :: st) h2) : aA Γ pc lv (As.reverse ++ st) h := by
  obtain ⟨p, l, e, R, s, m, args, below, meth, c, Q, A, wsf, D, tys, nL⟩ := Γ
  obtain ⟨⟨hx, hb, hml, hown, hts, hK, hA, hfr, hlo⟩, cA, hw, hty⟩ := X
  subst hw; subst hty
  intro H locs ls hP hD hS hl
  have hFc := aFree (h := h) hD hS hA
  refine va_calli (va_runS (As := As) (rest := st) ⟨hx, hb, hml, hown, hts⟩ (hM l D cA H.size) (cwS n hts (gd_wsS hlk ho hy) rfl rfl rfl ⟨ho, hy.2.2.2⟩ ⟨Nat.le_trans hR1 hfr, Nat.le_trans hR2 hlo⟩) ⟨aPc_blind, fun U hU hW => ⟨rfl, by rw [hU], by rw [hU]; exact hP, va_K.moved hW.alike hK, hD.weaken (fun _ _ _ _ => trivial)⟩⟩ rfl hn hl.1 rfl (lv_room hW) d ⟨Nat.zero_le _, Nat.zero_le _⟩) hS (fun z _ hz => hFc z hz) hFc (fun r1 u t H1 locs1 ht hvm hw hB hz1 hk1 hS1 => ?_)
  obtain ⟨rfl, rfl⟩ := hw
  obtain ⟨hP1, hK1, hD1⟩ := hB
  rw [ht] at hP1
  exact K H1 locs1 ls hP1 (hD1.weaken (fun _ x _ hx => hFc x.1 hx)) hS1 hl
theorem aK_callVL {w : Nat} {Γ : g_T} {q : Nat → Nat} {own : String} {cc : ByteArray} {fr lo pc : Nat} {lv : List (Option Value)} {st : List Value} {h h2 : hp_T} {y : MethodName} {bytes : ByteArray} {maxL fr2 lo2 k ci n index : Nat} {T : u_T} {N : Nat} {As : List Value} {r : Int64} (X : aC w Γ q own cc fr lo) (hM : cL w y bytes maxL fr2 lo2 q (.ref (q k) :: As) h r h2) (hk : k < nW w) (hc : ∀ q cA f L, ∃ fs, cellW w q cA k f L = .inr (ci, fs)) (hcl : vwCl[ci]? = some (y.cls, T, N)) (hy : yV y bytes maxL (some .long) n) (hlk : Cond.methodLink own index y ∈ gd_tbl) (hn : As.length = n) (hR1 : fr2 + 1 ≤ fr) (hR2 : 8 + (maxL + 11) + lo2 ≤ lo) (hW : (st.map fun v => v.category).sum ≤ 8) (d : decode cc pc = .ok (.invokevirtual index, 3)) (K : aA Γ (pc + 3) lv (.long r :: st) h2) : aA Γ pc lv (As.reverse ++ .ref (q k) :: st) h := by
  obtain ⟨p, l, e, R, s, m, args, below, meth, c, Q, A, wsf, D, tys, nL⟩ := Γ
  obtain ⟨⟨hx, hb, hml, hown, hts, hK, hA, hfr, hlo⟩, cA, hw, hty⟩ := X
  subst hw; subst hty
  intro H locs ls hP hD hS hl
  obtain ⟨fs, hfs⟩ := hc q cA (h.1 k) h.2
  have hFc := aFree (h := h) hD hS hA
  refine va_calll (va_runV (As := As) (rest := st) ⟨hx, hb, hml, hown, hts⟩ (hM l D cA H.size) (cwV n hts (gd_wsV hlk hy) rfl rfl rfl ⟨rfl, hy.2.2.2.2⟩ ⟨Nat.le_trans hR1 hfr, Nat.le_trans hR2 hlo⟩) ⟨aPc_blind, va_recv hK hP hcl ((ws_get hk).trans (by rw [hfs])), fun U hU hW => ⟨rfl, by rw [hU], by rw [hU]; exact hP, va_K.moved hW.alike hK, hD.weaken (fun _ _ _ _ => trivial)⟩⟩ rfl hn hl.1 rfl (lv_room hW) d ⟨Nat.zero_le _, Nat.zero_le _⟩) hS (fun z _ hz => hFc z hz) hFc (fun r1 u t H1 locs1 ht hvm hw hB hz1 hk1 hS1 => ?_)
  obtain ⟨rfl, rfl⟩ := hw
  obtain ⟨hP1, hK1, hD1⟩ := hB
  rw [ht] at hP1
  exact K H1 locs1 ls hP1 (hD1.weaken (fun _ x _ hx => hFc x.1 hx)) hS1 hl
theorem aK_callSL {w : Nat} {Γ : g_T} {q : Nat → Nat} {own : String} {cc : ByteArray} {fr lo pc : Nat} {lv : List (Option Value)} {st : List Value} {h h2 : hp_T} {y : MethodName} {bytes : ByteArray} {maxL fr2 lo2 n index : Nat} {As : List Value} {r : Int64} (X : aC w Γ q own cc fr lo) (hM : cL w y bytes maxL fr2 lo2 q As h r h2) (ho : y.cls = own) (hy : yS y bytes maxL (some .long) n) (hlk : Cond.methodLink own index y ∈ gd_tbl) (hn : As.length = n) (hR1 : fr2 + 1 ≤ fr) (hR2 : 8 + (maxL + 11) + lo2 ≤ lo) (hW : (st.map fun v => v.category).sum ≤ 8) (d : decode cc pc = .ok (.invokestatic index, 3)) (K : aA Γ (pc + 3) lv (.long r :: st) h2) : aA Γ pc lv (As.reverse ++ st) h := by
  obtain ⟨p, l, e, R, s, m, args, below, meth, c, Q, A, wsf, D, tys, nL⟩ := Γ
  obtain ⟨⟨hx, hb, hml, hown, hts, hK, hA, hfr, hlo⟩, cA, hw, hty⟩ := X
  subst hw; subst hty
  intro H locs ls hP hD hS hl
  have hFc := aFree (h := h) hD hS hA
  refine va_calll (va_runS (As := As) (rest := st) ⟨hx, hb, hml, hown, hts⟩ (hM l D cA H.size) (cwS n hts (gd_wsS hlk ho hy) rfl rfl rfl ⟨ho, hy.2.2.2⟩ ⟨Nat.le_trans hR1 hfr, Nat.le_trans hR2 hlo⟩) ⟨aPc_blind, fun U hU hW => ⟨rfl, by rw [hU], by rw [hU]; exact hP, va_K.moved hW.alike hK, hD.weaken (fun _ _ _ _ => trivial)⟩⟩ rfl hn hl.1 rfl (lv_room hW) d ⟨Nat.zero_le _, Nat.zero_le _⟩) hS (fun z _ hz => hFc z hz) hFc (fun r1 u t H1 locs1 ht hvm hw hB hz1 hk1 hS1 => ?_)
  obtain ⟨rfl, rfl⟩ := hw
  obtain ⟨hP1, hK1, hD1⟩ := hB
  rw [ht] at hP1
  exact K H1 locs1 ls hP1 (hD1.weaken (fun _ x _ hx => hFc x.1 hx)) hS1 hl
theorem aK_callVV {w : Nat} {Γ : g_T} {q : Nat → Nat} {own : String} {cc : ByteArray} {fr lo pc : Nat} {lv : List (Option Value)} {st : List Value} {h h2 : hp_T} {y : MethodName} {bytes : ByteArray} {maxL fr2 lo2 k ci n index : Nat} {T : u_T} {N : Nat} {As : List Value}  (X : aC w Γ q own cc fr lo) (hM : cV w y bytes maxL fr2 lo2 q (.ref (q k) :: As) h h2) (hk : k < nW w) (hc : ∀ q cA f L, ∃ fs, cellW w q cA k f L = .inr (ci, fs)) (hcl : vwCl[ci]? = some (y.cls, T, N)) (hy : yV y bytes maxL none n) (hlk : Cond.methodLink own index y ∈ gd_tbl) (hn : As.length = n) (hR1 : fr2 + 1 ≤ fr) (hR2 : 8 + (maxL + 11) + lo2 ≤ lo) (hW : (st.map fun v => v.category).sum ≤ 8) (d : decode cc pc = .ok (.invokevirtual index, 3)) (K : aA Γ (pc + 3) lv (st) h2) : aA Γ pc lv (As.reverse ++ .ref (q k) :: st) h := by
  obtain ⟨p, l, e, R, s, m, args, below, meth, c, Q, A, wsf, D, tys, nL⟩ := Γ
  obtain ⟨⟨hx, hb, hml, hown, hts, hK, hA, hfr, hlo⟩, cA, hw, hty⟩ := X
  subst hw; subst hty
  intro H locs ls hP hD hS hl
  obtain ⟨fs, hfs⟩ := hc q cA (h.1 k) h.2
  have hFc := aFree (h := h) hD hS hA
  refine va_callv (va_runV (As := As) (rest := st) ⟨hx, hb, hml, hown, hts⟩ (hM l D cA H.size) (cwV n hts (gd_wsV hlk hy) rfl rfl rfl ⟨rfl, hy.2.2.2.2⟩ ⟨Nat.le_trans hR1 hfr, Nat.le_trans hR2 hlo⟩) ⟨aPc_blind, va_recv hK hP hcl ((ws_get hk).trans (by rw [hfs])), fun U hU hW => ⟨rfl, by rw [hU], by rw [hU]; exact hP, va_K.moved hW.alike hK, hD.weaken (fun _ _ _ _ => trivial)⟩⟩ rfl hn hl.1 rfl (lv_room hW) d ⟨Nat.zero_le _, Nat.zero_le _⟩) hS (fun z _ hz => hFc z hz) hFc (fun u t H1 locs1 ht hvm hw hB hz1 hk1 hS1 => ?_)
  subst hw
  obtain ⟨hP1, hK1, hD1⟩ := hB
  rw [ht] at hP1
  exact K H1 locs1 ls hP1 (hD1.weaken (fun _ x _ hx => hFc x.1 hx)) hS1 hl
theorem aK_callSV {w : Nat} {Γ : g_T} {q : Nat → Nat} {own : String} {cc : ByteArray} {fr lo pc : Nat} {lv : List (Option Value)} {st : List Value} {h h2 : hp_T} {y : MethodName} {bytes : ByteArray} {maxL fr2 lo2 n index : Nat} {As : List Value}  (X : aC w Γ q own cc fr lo) (hM : cV w y bytes maxL fr2 lo2 q As h h2) (ho : y.cls = own) (hy : yS y bytes maxL none n) (hlk : Cond.methodLink own index y ∈ gd_tbl) (hn : As.length = n) (hR1 : fr2 + 1 ≤ fr) (hR2 : 8 + (maxL + 11) + lo2 ≤ lo) (hW : (st.map fun v => v.category).sum ≤ 8) (d : decode cc pc = .ok (.invokestatic index, 3)) (K : aA Γ (pc + 3) lv (st) h2) : aA Γ pc lv (As.reverse ++ st) h := by
  obtain ⟨p, l, e, R, s, m, args, below, meth, c, Q, A, wsf, D, tys, nL⟩ := Γ
  obtain ⟨⟨hx, hb, hml, hown, hts, hK, hA, hfr, hlo⟩, cA, hw, hty⟩ := X
  subst hw; subst hty
  intro H locs ls hP hD hS hl
  have hFc := aFree (h := h) hD hS hA
  refine va_callv (va_runS (As := As) (rest := st) ⟨hx, hb, hml, hown, hts⟩ (hM l D cA H.size) (cwS n hts (gd_wsS hlk ho hy) rfl rfl rfl ⟨ho, hy.2.2.2⟩ ⟨Nat.le_trans hR1 hfr, Nat.le_trans hR2 hlo⟩) ⟨aPc_blind, fun U hU hW => ⟨rfl, by rw [hU], by rw [hU]; exact hP, va_K.moved hW.alike hK, hD.weaken (fun _ _ _ _ => trivial)⟩⟩ rfl hn hl.1 rfl (lv_room hW) d ⟨Nat.zero_le _, Nat.zero_le _⟩) hS (fun z _ hz => hFc z hz) hFc (fun u t H1 locs1 ht hvm hw hB hz1 hk1 hS1 => ?_)
  subst hw
  obtain ⟨hP1, hK1, hD1⟩ := hB
  rw [ht] at hP1
  exact K H1 locs1 ls hP1 (hD1.weaken (fun _ x _ hx => hFc x.1 hx)) hS1 hl
theorem aK_aald {Γ : g_T} {q : Nat → Nat} {own : String} {cc : ByteArray} {fr lo pc : Nat} {lv : List (Option Value)} {st : List Value} {h : hp_T} {i : Int32} (X : aC 0 Γ q own cc fr lo) (hi : ix i 4 = true) (d : decode cc pc = .ok (.aaload, 1)) (K : aA Γ (pc + 1) lv (.ref (q (38 + i.toNatClampNeg)) :: st) h) : aA Γ pc lv (.int i :: .ref (q 37) :: st) h := by
  obtain ⟨p, l, e, R, s, m, args, below, meth, c, Q, A, wsf, D, tys, nL⟩ := Γ
  obtain ⟨⟨hx, hb, hml, hown, hts, hK, hA, hfr, hlo⟩, cA, hw, hty⟩ := X
  subst hw; subst hty
  intro H locs ls hP hD hS hl
  exact va_aldq hx hb hK hP 37 28 ((ws_get (by decide)).trans rfl) rfl (ix_vp hi) d (K H locs ls hP hD hS hl)
theorem cell_sheet {q : Nat → Nat} {cA : Nat → ClassId} {f : Nat → Int32} {L : Int64} : ∀ j, j < 4 → cellW 0 q cA (38 + j) f L = .inr (6, [.ref (q (42 + j)), .int (f 1), .int (f 2), .int (f 3)])
  | 0, _ => rfl
  | 1, _ => rfl
  | 2, _ => rfl
  | 3, _ => rfl
  | j + 4, h => absurd h (by omega)
theorem cell_items {q : Nat → Nat} {cA : Nat → ClassId} {f : Nat → Int32} {L : Int64} : ∀ j, j < 4 → cellW 0 q cA (42 + j) f L = .inl (cA (42 + j), 60, .inl f)
  | 0, _ => rfl
  | 1, _ => rfl
  | 2, _ => rfl
  | 3, _ => rfl
  | j + 4, h => absurd h (by omega)
theorem tys_items {cA : Nat → ClassId} : ∀ j, j < 4 → (tysW 0 cA)[29 + j]? = some (cA (42 + j), .int)
  | 0, _ => rfl
  | 1, _ => rfl
  | 2, _ => rfl
  | 3, _ => rfl
  | j + 4, h => absurd h (by omega)
theorem nW0_s {j : Nat} (h : j < 4) : 38 + j < nW 0 := by show _ < 46; omega
theorem nW0_i {j : Nat} (h : j < 4) : 42 + j < nW 0 := by show _ < 46; omega
end
