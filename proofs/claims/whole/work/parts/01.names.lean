-- ===== PART A: goes FIRST, ahead of the names: the tables' words, and 'selects' of the private methods out of them =====
/-- a private method of a class that the tables say can be made, by its rows of tables_1 -/
def lw_okq (q : MethodName × Nat) : Prop := (q.1.cls ≠ "java/lang/invoke/MethodHandle" ∧ q.1.cls ≠ "java/lang/invoke/VarHandle") ∧ Cond.instantiable q.1.cls q.2 ∈ tables_1 ∧ Cond.privateMethod q.1 ∈ tables_1 ∧ Cond.instanceMethod q.1 ∈ tables_1
theorem lw_p0 : lw_okq (⟨"AlgebraCabinet", "putDraft", "(I)V"⟩, 16) := ⟨⟨by decide +kernel, by decide +kernel⟩, List.mem_of_getElem? (i := 19) (by decide +kernel), List.mem_of_getElem? (i := 505) (by decide +kernel), List.mem_of_getElem? (i := 506) (by decide +kernel)⟩
theorem lw_p1 : lw_okq (⟨"AlgebraCabinet", "refuseOperation", "(II)I"⟩, 16) := ⟨⟨by decide +kernel, by decide +kernel⟩, List.mem_of_getElem? (i := 19) (by decide +kernel), List.mem_of_getElem? (i := 530) (by decide +kernel), List.mem_of_getElem? (i := 531) (by decide +kernel)⟩
theorem lw_p2 : lw_okq (⟨"AlgebraCabinet", "refuseDrawer", "(I)I"⟩, 16) := ⟨⟨by decide +kernel, by decide +kernel⟩, List.mem_of_getElem? (i := 19) (by decide +kernel), List.mem_of_getElem? (i := 534) (by decide +kernel), List.mem_of_getElem? (i := 535) (by decide +kernel)⟩
theorem lw_p3 : lw_okq (⟨"AlgebraCabinet", "refuseBinary", "(II)I"⟩, 16) := ⟨⟨by decide +kernel, by decide +kernel⟩, List.mem_of_getElem? (i := 19) (by decide +kernel), List.mem_of_getElem? (i := 568) (by decide +kernel), List.mem_of_getElem? (i := 569) (by decide +kernel)⟩
theorem lw_p4 : lw_okq (⟨"AlgebraCabinet$TextReader", "begin", "(LAlgebraCabinet$Bytes;)V"⟩, 9) := ⟨⟨by decide +kernel, by decide +kernel⟩, List.mem_of_getElem? (i := 172) (by decide +kernel), List.mem_of_getElem? (i := 609) (by decide +kernel), List.mem_of_getElem? (i := 610) (by decide +kernel)⟩
theorem lw_p5 : lw_okq (⟨"AlgebraCabinet$TextReader", "readTables", "(LAlgebraCabinet$Algebra;)V"⟩, 9) := ⟨⟨by decide +kernel, by decide +kernel⟩, List.mem_of_getElem? (i := 172) (by decide +kernel), List.mem_of_getElem? (i := 613) (by decide +kernel), List.mem_of_getElem? (i := 614) (by decide +kernel)⟩
theorem lw_p6 : lw_okq (⟨"AlgebraCabinet$TextReader", "failAt", "(II)Z"⟩, 9) := ⟨⟨by decide +kernel, by decide +kernel⟩, List.mem_of_getElem? (i := 172) (by decide +kernel), List.mem_of_getElem? (i := 618) (by decide +kernel), List.mem_of_getElem? (i := 619) (by decide +kernel)⟩
theorem lw_p7 : lw_okq (⟨"AlgebraCabinet$TextReader", "readOperation", "(LAlgebraCabinet$Algebra;)Z"⟩, 9) := ⟨⟨by decide +kernel, by decide +kernel⟩, List.mem_of_getElem? (i := 172) (by decide +kernel), List.mem_of_getElem? (i := 623) (by decide +kernel), List.mem_of_getElem? (i := 624) (by decide +kernel)⟩
theorem lw_p8 : lw_okq (⟨"AlgebraCabinet$TextReader", "readCell", "(LAlgebraCabinet$Algebra;I)Z"⟩, 9) := ⟨⟨by decide +kernel, by decide +kernel⟩, List.mem_of_getElem? (i := 172) (by decide +kernel), List.mem_of_getElem? (i := 632) (by decide +kernel), List.mem_of_getElem? (i := 633) (by decide +kernel)⟩
theorem lw_p9 : lw_okq (⟨"AlgebraCabinet$Algebra", "isAssociative", "(I)Z"⟩, 6) := ⟨⟨by decide +kernel, by decide +kernel⟩, List.mem_of_getElem? (i := 48) (by decide +kernel), List.mem_of_getElem? (i := 652) (by decide +kernel), List.mem_of_getElem? (i := 653) (by decide +kernel)⟩
theorem lw_p10 : lw_okq (⟨"AlgebraCabinet$Algebra", "hasNeutral", "(I)Z"⟩, 6) := ⟨⟨by decide +kernel, by decide +kernel⟩, List.mem_of_getElem? (i := 48) (by decide +kernel), List.mem_of_getElem? (i := 665) (by decide +kernel), List.mem_of_getElem? (i := 666) (by decide +kernel)⟩
theorem lw_p11 : lw_okq (⟨"AlgebraCabinet$Algebra", "isLatin", "(I)Z"⟩, 6) := ⟨⟨by decide +kernel, by decide +kernel⟩, List.mem_of_getElem? (i := 48) (by decide +kernel), List.mem_of_getElem? (i := 669) (by decide +kernel), List.mem_of_getElem? (i := 670) (by decide +kernel)⟩
theorem lw_p12 : lw_okq (⟨"AlgebraCabinet$Algebra", "isIdempotent", "(I)Z"⟩, 6) := ⟨⟨by decide +kernel, by decide +kernel⟩, List.mem_of_getElem? (i := 48) (by decide +kernel), List.mem_of_getElem? (i := 673) (by decide +kernel), List.mem_of_getElem? (i := 674) (by decide +kernel)⟩
theorem lw_p13 : lw_okq (⟨"AlgebraCabinet$Algebra", "isSelfDistributive", "(I)Z"⟩, 6) := ⟨⟨by decide +kernel, by decide +kernel⟩, List.mem_of_getElem? (i := 48) (by decide +kernel), List.mem_of_getElem? (i := 677) (by decide +kernel), List.mem_of_getElem? (i := 678) (by decide +kernel)⟩
theorem lw_p14 : lw_okq (⟨"AlgebraCabinet$TextReader", "gatherSigns", "()V"⟩, 9) := ⟨⟨by decide +kernel, by decide +kernel⟩, List.mem_of_getElem? (i := 172) (by decide +kernel), List.mem_of_getElem? (i := 708) (by decide +kernel), List.mem_of_getElem? (i := 709) (by decide +kernel)⟩
theorem lw_p15 : lw_okq (⟨"AlgebraCabinet$TextReader", "readLaw", "()Z"⟩, 9) := ⟨⟨by decide +kernel, by decide +kernel⟩, List.mem_of_getElem? (i := 172) (by decide +kernel), List.mem_of_getElem? (i := 719) (by decide +kernel), List.mem_of_getElem? (i := 720) (by decide +kernel)⟩
def lw_privs_1 : List (MethodName × Nat) := [(⟨"AlgebraCabinet", "putDraft", "(I)V"⟩, 16), (⟨"AlgebraCabinet", "refuseOperation", "(II)I"⟩, 16), (⟨"AlgebraCabinet", "refuseDrawer", "(I)I"⟩, 16), (⟨"AlgebraCabinet", "refuseBinary", "(II)I"⟩, 16), (⟨"AlgebraCabinet$TextReader", "begin", "(LAlgebraCabinet$Bytes;)V"⟩, 9), (⟨"AlgebraCabinet$TextReader", "readTables", "(LAlgebraCabinet$Algebra;)V"⟩, 9), (⟨"AlgebraCabinet$TextReader", "failAt", "(II)Z"⟩, 9), (⟨"AlgebraCabinet$TextReader", "readOperation", "(LAlgebraCabinet$Algebra;)Z"⟩, 9), (⟨"AlgebraCabinet$TextReader", "readCell", "(LAlgebraCabinet$Algebra;I)Z"⟩, 9), (⟨"AlgebraCabinet$Algebra", "isAssociative", "(I)Z"⟩, 6), (⟨"AlgebraCabinet$Algebra", "hasNeutral", "(I)Z"⟩, 6), (⟨"AlgebraCabinet$Algebra", "isLatin", "(I)Z"⟩, 6), (⟨"AlgebraCabinet$Algebra", "isIdempotent", "(I)Z"⟩, 6), (⟨"AlgebraCabinet$Algebra", "isSelfDistributive", "(I)Z"⟩, 6), (⟨"AlgebraCabinet$TextReader", "gatherSigns", "()V"⟩, 9), (⟨"AlgebraCabinet$TextReader", "readLaw", "()Z"⟩, 9)]
theorem lw_r1 : ∀ q ∈ lw_privs_1, lw_okq q := List.forall_mem_cons.mpr ⟨lw_p0, List.forall_mem_cons.mpr ⟨lw_p1, List.forall_mem_cons.mpr ⟨lw_p2, List.forall_mem_cons.mpr ⟨lw_p3, List.forall_mem_cons.mpr ⟨lw_p4, List.forall_mem_cons.mpr ⟨lw_p5, List.forall_mem_cons.mpr ⟨lw_p6, List.forall_mem_cons.mpr ⟨lw_p7, List.forall_mem_cons.mpr ⟨lw_p8, List.forall_mem_cons.mpr ⟨lw_p9, List.forall_mem_cons.mpr ⟨lw_p10, List.forall_mem_cons.mpr ⟨lw_p11, List.forall_mem_cons.mpr ⟨lw_p12, List.forall_mem_cons.mpr ⟨lw_p13, List.forall_mem_cons.mpr ⟨lw_p14, List.forall_mem_cons.mpr ⟨lw_p15, fun _ h => absurd h List.not_mem_nil⟩⟩⟩⟩⟩⟩⟩⟩⟩⟩⟩⟩⟩⟩⟩⟩
theorem lw_p16 : lw_okq (⟨"AlgebraCabinet$TextReader", "readSame", "()Z"⟩, 9) := ⟨⟨by decide +kernel, by decide +kernel⟩, List.mem_of_getElem? (i := 172) (by decide +kernel), List.mem_of_getElem? (i := 723) (by decide +kernel), List.mem_of_getElem? (i := 724) (by decide +kernel)⟩
theorem lw_p17 : lw_okq (⟨"AlgebraCabinet$TextReader", "readTerm", "(I)Z"⟩, 9) := ⟨⟨by decide +kernel, by decide +kernel⟩, List.mem_of_getElem? (i := 172) (by decide +kernel), List.mem_of_getElem? (i := 727) (by decide +kernel), List.mem_of_getElem? (i := 728) (by decide +kernel)⟩
theorem lw_p18 : lw_okq (⟨"AlgebraCabinet$TextReader", "failHere", "(I)Z"⟩, 9) := ⟨⟨by decide +kernel, by decide +kernel⟩, List.mem_of_getElem? (i := 172) (by decide +kernel), List.mem_of_getElem? (i := 734) (by decide +kernel), List.mem_of_getElem? (i := 735) (by decide +kernel)⟩
theorem lw_p19 : lw_okq (⟨"AlgebraCabinet$TextReader", "takes", "(I)Z"⟩, 9) := ⟨⟨by decide +kernel, by decide +kernel⟩, List.mem_of_getElem? (i := 172) (by decide +kernel), List.mem_of_getElem? (i := 742) (by decide +kernel), List.mem_of_getElem? (i := 743) (by decide +kernel)⟩
theorem lw_p20 : lw_okq (⟨"AlgebraCabinet$TextReader", "readArguments", "(II)Z"⟩, 9) := ⟨⟨by decide +kernel, by decide +kernel⟩, List.mem_of_getElem? (i := 172) (by decide +kernel), List.mem_of_getElem? (i := 746) (by decide +kernel), List.mem_of_getElem? (i := 747) (by decide +kernel)⟩
theorem lw_p21 : lw_okq (⟨"AlgebraCabinet$TextReader", "compareArguments", "()V"⟩, 9) := ⟨⟨by decide +kernel, by decide +kernel⟩, List.mem_of_getElem? (i := 172) (by decide +kernel), List.mem_of_getElem? (i := 758) (by decide +kernel), List.mem_of_getElem? (i := 759) (by decide +kernel)⟩
theorem lw_p22 : lw_okq (⟨"AlgebraCabinet", "refuseTrial", "(II)I"⟩, 16) := ⟨⟨by decide +kernel, by decide +kernel⟩, List.mem_of_getElem? (i := 19) (by decide +kernel), List.mem_of_getElem? (i := 771) (by decide +kernel), List.mem_of_getElem? (i := 772) (by decide +kernel)⟩
theorem lw_p23 : lw_okq (⟨"AlgebraCabinet$LawTrial", "keepsLaw", "(LAlgebraCabinet$Algebra;LAlgebraCabinet$LawList;I)Z"⟩, 5) := ⟨⟨by decide +kernel, by decide +kernel⟩, List.mem_of_getElem? (i := 208) (by decide +kernel), List.mem_of_getElem? (i := 792) (by decide +kernel), List.mem_of_getElem? (i := 793) (by decide +kernel)⟩
theorem lw_p24 : lw_okq (⟨"AlgebraCabinet$LawTrial", "agrees", "(LAlgebraCabinet$Algebra;LAlgebraCabinet$LawList;I)Z"⟩, 5) := ⟨⟨by decide +kernel, by decide +kernel⟩, List.mem_of_getElem? (i := 208) (by decide +kernel), List.mem_of_getElem? (i := 796) (by decide +kernel), List.mem_of_getElem? (i := 797) (by decide +kernel)⟩
theorem lw_p25 : lw_okq (⟨"AlgebraCabinet", "refuseLaw", "(III)I"⟩, 16) := ⟨⟨by decide +kernel, by decide +kernel⟩, List.mem_of_getElem? (i := 19) (by decide +kernel), List.mem_of_getElem? (i := 806) (by decide +kernel), List.mem_of_getElem? (i := 807) (by decide +kernel)⟩
theorem lw_p26 : lw_okq (⟨"AlgebraCabinet$Algebra", "grown", "(I)I"⟩, 6) := ⟨⟨by decide +kernel, by decide +kernel⟩, List.mem_of_getElem? (i := 48) (by decide +kernel), List.mem_of_getElem? (i := 824) (by decide +kernel), List.mem_of_getElem? (i := 825) (by decide +kernel)⟩
theorem lw_p27 : lw_okq (⟨"AlgebraCabinet$Algebra", "rowValues", "(III)I"⟩, 6) := ⟨⟨by decide +kernel, by decide +kernel⟩, List.mem_of_getElem? (i := 48) (by decide +kernel), List.mem_of_getElem? (i := 828) (by decide +kernel), List.mem_of_getElem? (i := 829) (by decide +kernel)⟩
theorem lw_p28 : lw_okq (⟨"AlgebraCabinet", "refuseSource", "(II)I"⟩, 16) := ⟨⟨by decide +kernel, by decide +kernel⟩, List.mem_of_getElem? (i := 19) (by decide +kernel), List.mem_of_getElem? (i := 848) (by decide +kernel), List.mem_of_getElem? (i := 849) (by decide +kernel)⟩
theorem lw_p29 : lw_okq (⟨"AlgebraCabinet", "numberMembers", "(II)I"⟩, 16) := ⟨⟨by decide +kernel, by decide +kernel⟩, List.mem_of_getElem? (i := 19) (by decide +kernel), List.mem_of_getElem? (i := 852) (by decide +kernel), List.mem_of_getElem? (i := 853) (by decide +kernel)⟩
theorem lw_p30 : lw_okq (⟨"AlgebraCabinet$Congruences", "clash", "()I"⟩, 5) := ⟨⟨by decide +kernel, by decide +kernel⟩, List.mem_of_getElem? (i := 233) (by decide +kernel), List.mem_of_getElem? (i := 871) (by decide +kernel), List.mem_of_getElem? (i := 872) (by decide +kernel)⟩
theorem lw_p31 : lw_okq (⟨"AlgebraCabinet$Congruences", "clashOf", "(III)I"⟩, 5) := ⟨⟨by decide +kernel, by decide +kernel⟩, List.mem_of_getElem? (i := 233) (by decide +kernel), List.mem_of_getElem? (i := 875) (by decide +kernel), List.mem_of_getElem? (i := 876) (by decide +kernel)⟩
def lw_privs_2 : List (MethodName × Nat) := [(⟨"AlgebraCabinet$TextReader", "readSame", "()Z"⟩, 9), (⟨"AlgebraCabinet$TextReader", "readTerm", "(I)Z"⟩, 9), (⟨"AlgebraCabinet$TextReader", "failHere", "(I)Z"⟩, 9), (⟨"AlgebraCabinet$TextReader", "takes", "(I)Z"⟩, 9), (⟨"AlgebraCabinet$TextReader", "readArguments", "(II)Z"⟩, 9), (⟨"AlgebraCabinet$TextReader", "compareArguments", "()V"⟩, 9), (⟨"AlgebraCabinet", "refuseTrial", "(II)I"⟩, 16), (⟨"AlgebraCabinet$LawTrial", "keepsLaw", "(LAlgebraCabinet$Algebra;LAlgebraCabinet$LawList;I)Z"⟩, 5), (⟨"AlgebraCabinet$LawTrial", "agrees", "(LAlgebraCabinet$Algebra;LAlgebraCabinet$LawList;I)Z"⟩, 5), (⟨"AlgebraCabinet", "refuseLaw", "(III)I"⟩, 16), (⟨"AlgebraCabinet$Algebra", "grown", "(I)I"⟩, 6), (⟨"AlgebraCabinet$Algebra", "rowValues", "(III)I"⟩, 6), (⟨"AlgebraCabinet", "refuseSource", "(II)I"⟩, 16), (⟨"AlgebraCabinet", "numberMembers", "(II)I"⟩, 16), (⟨"AlgebraCabinet$Congruences", "clash", "()I"⟩, 5), (⟨"AlgebraCabinet$Congruences", "clashOf", "(III)I"⟩, 5)]
theorem lw_r2 : ∀ q ∈ lw_privs_2, lw_okq q := List.forall_mem_cons.mpr ⟨lw_p16, List.forall_mem_cons.mpr ⟨lw_p17, List.forall_mem_cons.mpr ⟨lw_p18, List.forall_mem_cons.mpr ⟨lw_p19, List.forall_mem_cons.mpr ⟨lw_p20, List.forall_mem_cons.mpr ⟨lw_p21, List.forall_mem_cons.mpr ⟨lw_p22, List.forall_mem_cons.mpr ⟨lw_p23, List.forall_mem_cons.mpr ⟨lw_p24, List.forall_mem_cons.mpr ⟨lw_p25, List.forall_mem_cons.mpr ⟨lw_p26, List.forall_mem_cons.mpr ⟨lw_p27, List.forall_mem_cons.mpr ⟨lw_p28, List.forall_mem_cons.mpr ⟨lw_p29, List.forall_mem_cons.mpr ⟨lw_p30, List.forall_mem_cons.mpr ⟨lw_p31, fun _ h => absurd h List.not_mem_nil⟩⟩⟩⟩⟩⟩⟩⟩⟩⟩⟩⟩⟩⟩⟩⟩
theorem lw_p32 : lw_okq (⟨"AlgebraCabinet$Congruences", "nextPartition", "()Z"⟩, 5) := ⟨⟨by decide +kernel, by decide +kernel⟩, List.mem_of_getElem? (i := 233) (by decide +kernel), List.mem_of_getElem? (i := 884) (by decide +kernel), List.mem_of_getElem? (i := 885) (by decide +kernel)⟩
theorem lw_p33 : lw_okq (⟨"AlgebraCabinet$Congruences", "join", "(II)V"⟩, 5) := ⟨⟨by decide +kernel, by decide +kernel⟩, List.mem_of_getElem? (i := 233) (by decide +kernel), List.mem_of_getElem? (i := 892) (by decide +kernel), List.mem_of_getElem? (i := 893) (by decide +kernel)⟩
theorem lw_p34 : lw_okq (⟨"AlgebraCabinet$Congruences", "number", "()I"⟩, 5) := ⟨⟨by decide +kernel, by decide +kernel⟩, List.mem_of_getElem? (i := 233) (by decide +kernel), List.mem_of_getElem? (i := 900) (by decide +kernel), List.mem_of_getElem? (i := 901) (by decide +kernel)⟩
theorem lw_p35 : lw_okq (⟨"AlgebraCabinet$Congruences", "decode", "(I[I)V"⟩, 5) := ⟨⟨by decide +kernel, by decide +kernel⟩, List.mem_of_getElem? (i := 233) (by decide +kernel), List.mem_of_getElem? (i := 924) (by decide +kernel), List.mem_of_getElem? (i := 925) (by decide +kernel)⟩
theorem lw_p36 : lw_okq (⟨"AlgebraCabinet", "numberClasses", "([II)I"⟩, 16) := ⟨⟨by decide +kernel, by decide +kernel⟩, List.mem_of_getElem? (i := 19) (by decide +kernel), List.mem_of_getElem? (i := 937) (by decide +kernel), List.mem_of_getElem? (i := 938) (by decide +kernel)⟩
theorem lw_p37 : lw_okq (⟨"AlgebraCabinet", "refusePair", "(II)I"⟩, 16) := ⟨⟨by decide +kernel, by decide +kernel⟩, List.mem_of_getElem? (i := 19) (by decide +kernel), List.mem_of_getElem? (i := 945) (by decide +kernel), List.mem_of_getElem? (i := 946) (by decide +kernel)⟩
theorem lw_p38 : lw_okq (⟨"AlgebraCabinet$MapSearch", "sortCells", "()V"⟩, 15) := ⟨⟨by decide +kernel, by decide +kernel⟩, List.mem_of_getElem? (i := 258) (by decide +kernel), List.mem_of_getElem? (i := 953) (by decide +kernel), List.mem_of_getElem? (i := 954) (by decide +kernel)⟩
theorem lw_p39 : lw_okq (⟨"AlgebraCabinet$MapSearch", "sortCellsOf", "(II)V"⟩, 15) := ⟨⟨by decide +kernel, by decide +kernel⟩, List.mem_of_getElem? (i := 258) (by decide +kernel), List.mem_of_getElem? (i := 957) (by decide +kernel), List.mem_of_getElem? (i := 958) (by decide +kernel)⟩
theorem lw_p40 : lw_okq (⟨"AlgebraCabinet$MapSearch", "extend", "(II)V"⟩, 15) := ⟨⟨by decide +kernel, by decide +kernel⟩, List.mem_of_getElem? (i := 258) (by decide +kernel), List.mem_of_getElem? (i := 965) (by decide +kernel), List.mem_of_getElem? (i := 966) (by decide +kernel)⟩
theorem lw_p41 : lw_okq (⟨"AlgebraCabinet$MapSearch", "meet", "()V"⟩, 15) := ⟨⟨by decide +kernel, by decide +kernel⟩, List.mem_of_getElem? (i := 258) (by decide +kernel), List.mem_of_getElem? (i := 969) (by decide +kernel), List.mem_of_getElem? (i := 970) (by decide +kernel)⟩
theorem lw_p42 : lw_okq (⟨"AlgebraCabinet$MapSearch", "give", "(III)V"⟩, 15) := ⟨⟨by decide +kernel, by decide +kernel⟩, List.mem_of_getElem? (i := 258) (by decide +kernel), List.mem_of_getElem? (i := 974) (by decide +kernel), List.mem_of_getElem? (i := 975) (by decide +kernel)⟩
theorem lw_p43 : lw_okq (⟨"AlgebraCabinet$MapSearch", "keepsCells", "(I)Z"⟩, 15) := ⟨⟨by decide +kernel, by decide +kernel⟩, List.mem_of_getElem? (i := 258) (by decide +kernel), List.mem_of_getElem? (i := 984) (by decide +kernel), List.mem_of_getElem? (i := 985) (by decide +kernel)⟩
theorem lw_p44 : lw_okq (⟨"AlgebraCabinet$LeastForm", "keepBest", "()V"⟩, 6) := ⟨⟨by decide +kernel, by decide +kernel⟩, List.mem_of_getElem? (i := 312) (by decide +kernel), List.mem_of_getElem? (i := 1004) (by decide +kernel), List.mem_of_getElem? (i := 1005) (by decide +kernel)⟩
theorem lw_p45 : lw_okq (⟨"AlgebraCabinet$LeastForm", "compareWithBest", "(LAlgebraCabinet$Algebra;)I"⟩, 6) := ⟨⟨by decide +kernel, by decide +kernel⟩, List.mem_of_getElem? (i := 312) (by decide +kernel), List.mem_of_getElem? (i := 1009) (by decide +kernel), List.mem_of_getElem? (i := 1010) (by decide +kernel)⟩
theorem lw_p46 : lw_okq (⟨"AlgebraCabinet$LeastForm", "nextNumbering", "(I)Z"⟩, 6) := ⟨⟨by decide +kernel, by decide +kernel⟩, List.mem_of_getElem? (i := 312) (by decide +kernel), List.mem_of_getElem? (i := 1017) (by decide +kernel), List.mem_of_getElem? (i := 1018) (by decide +kernel)⟩
theorem lw_p47 : lw_okq (⟨"AlgebraCabinet$LeastForm", "swap", "(II)V"⟩, 6) := ⟨⟨by decide +kernel, by decide +kernel⟩, List.mem_of_getElem? (i := 312) (by decide +kernel), List.mem_of_getElem? (i := 1021) (by decide +kernel), List.mem_of_getElem? (i := 1022) (by decide +kernel)⟩
def lw_privs_3 : List (MethodName × Nat) := [(⟨"AlgebraCabinet$Congruences", "nextPartition", "()Z"⟩, 5), (⟨"AlgebraCabinet$Congruences", "join", "(II)V"⟩, 5), (⟨"AlgebraCabinet$Congruences", "number", "()I"⟩, 5), (⟨"AlgebraCabinet$Congruences", "decode", "(I[I)V"⟩, 5), (⟨"AlgebraCabinet", "numberClasses", "([II)I"⟩, 16), (⟨"AlgebraCabinet", "refusePair", "(II)I"⟩, 16), (⟨"AlgebraCabinet$MapSearch", "sortCells", "()V"⟩, 15), (⟨"AlgebraCabinet$MapSearch", "sortCellsOf", "(II)V"⟩, 15), (⟨"AlgebraCabinet$MapSearch", "extend", "(II)V"⟩, 15), (⟨"AlgebraCabinet$MapSearch", "meet", "()V"⟩, 15), (⟨"AlgebraCabinet$MapSearch", "give", "(III)V"⟩, 15), (⟨"AlgebraCabinet$MapSearch", "keepsCells", "(I)Z"⟩, 15), (⟨"AlgebraCabinet$LeastForm", "keepBest", "()V"⟩, 6), (⟨"AlgebraCabinet$LeastForm", "compareWithBest", "(LAlgebraCabinet$Algebra;)I"⟩, 6), (⟨"AlgebraCabinet$LeastForm", "nextNumbering", "(I)Z"⟩, 6), (⟨"AlgebraCabinet$LeastForm", "swap", "(II)V"⟩, 6)]
theorem lw_r3 : ∀ q ∈ lw_privs_3, lw_okq q := List.forall_mem_cons.mpr ⟨lw_p32, List.forall_mem_cons.mpr ⟨lw_p33, List.forall_mem_cons.mpr ⟨lw_p34, List.forall_mem_cons.mpr ⟨lw_p35, List.forall_mem_cons.mpr ⟨lw_p36, List.forall_mem_cons.mpr ⟨lw_p37, List.forall_mem_cons.mpr ⟨lw_p38, List.forall_mem_cons.mpr ⟨lw_p39, List.forall_mem_cons.mpr ⟨lw_p40, List.forall_mem_cons.mpr ⟨lw_p41, List.forall_mem_cons.mpr ⟨lw_p42, List.forall_mem_cons.mpr ⟨lw_p43, List.forall_mem_cons.mpr ⟨lw_p44, List.forall_mem_cons.mpr ⟨lw_p45, List.forall_mem_cons.mpr ⟨lw_p46, List.forall_mem_cons.mpr ⟨lw_p47, fun _ h => absurd h List.not_mem_nil⟩⟩⟩⟩⟩⟩⟩⟩⟩⟩⟩⟩⟩⟩⟩⟩
theorem lw_p48 : lw_okq (⟨"AlgebraCabinet$TermFunctions", "addLine", "()V"⟩, 6) := ⟨⟨by decide +kernel, by decide +kernel⟩, List.mem_of_getElem? (i := 342) (by decide +kernel), List.mem_of_getElem? (i := 1041) (by decide +kernel), List.mem_of_getElem? (i := 1042) (by decide +kernel)⟩
theorem lw_p49 : lw_okq (⟨"AlgebraCabinet$TermFunctions", "placeOf", "(I)I"⟩, 6) := ⟨⟨by decide +kernel, by decide +kernel⟩, List.mem_of_getElem? (i := 342) (by decide +kernel), List.mem_of_getElem? (i := 1046) (by decide +kernel), List.mem_of_getElem? (i := 1047) (by decide +kernel)⟩
theorem lw_p50 : lw_okq (⟨"AlgebraCabinet$TermFunctions", "combineUpTo", "(II)V"⟩, 6) := ⟨⟨by decide +kernel, by decide +kernel⟩, List.mem_of_getElem? (i := 342) (by decide +kernel), List.mem_of_getElem? (i := 1051) (by decide +kernel), List.mem_of_getElem? (i := 1052) (by decide +kernel)⟩
theorem lw_p51 : lw_okq (⟨"AlgebraCabinet$TermFunctions", "combine", "(III)V"⟩, 6) := ⟨⟨by decide +kernel, by decide +kernel⟩, List.mem_of_getElem? (i := 342) (by decide +kernel), List.mem_of_getElem? (i := 1055) (by decide +kernel), List.mem_of_getElem? (i := 1056) (by decide +kernel)⟩
theorem lw_p52 : lw_okq (⟨"AlgebraCabinet", "refuseModels", "(III)I"⟩, 16) := ⟨⟨by decide +kernel, by decide +kernel⟩, List.mem_of_getElem? (i := 19) (by decide +kernel), List.mem_of_getElem? (i := 1064) (by decide +kernel), List.mem_of_getElem? (i := 1065) (by decide +kernel)⟩
theorem lw_p53 : lw_okq (⟨"AlgebraCabinet$ModelSearch", "advance", "(LAlgebraCabinet$Algebra;I)Z"⟩, 4) := ⟨⟨by decide +kernel, by decide +kernel⟩, List.mem_of_getElem? (i := 370) (by decide +kernel), List.mem_of_getElem? (i := 1080) (by decide +kernel), List.mem_of_getElem? (i := 1081) (by decide +kernel)⟩
theorem lw_p54 : lw_okq (⟨"AlgebraCabinet", "fullDrawers", "()I"⟩, 16) := ⟨⟨by decide +kernel, by decide +kernel⟩, List.mem_of_getElem? (i := 19) (by decide +kernel), List.mem_of_getElem? (i := 1096) (by decide +kernel), List.mem_of_getElem? (i := 1097) (by decide +kernel)⟩
theorem lw_p55 : lw_okq (⟨"AlgebraCabinet", "fullLists", "()I"⟩, 16) := ⟨⟨by decide +kernel, by decide +kernel⟩, List.mem_of_getElem? (i := 19) (by decide +kernel), List.mem_of_getElem? (i := 1100) (by decide +kernel), List.mem_of_getElem? (i := 1101) (by decide +kernel)⟩
theorem lw_p56 : lw_okq (⟨"AlgebraCabinetModel", "four", "(I)V"⟩, 55) := ⟨⟨by decide +kernel, by decide +kernel⟩, List.mem_of_getElem? (i := 1104) (by decide +kernel), List.mem_of_getElem? (i := 1280) (by decide +kernel), List.mem_of_getElem? (i := 1281) (by decide +kernel)⟩
theorem lw_p57 : lw_okq (⟨"AlgebraCabinetModel", "isDrawer", "(I)Z"⟩, 55) := ⟨⟨by decide +kernel, by decide +kernel⟩, List.mem_of_getElem? (i := 1104) (by decide +kernel), List.mem_of_getElem? (i := 1296) (by decide +kernel), List.mem_of_getElem? (i := 1297) (by decide +kernel)⟩
theorem lw_p58 : lw_okq (⟨"AlgebraCabinetModel", "areArities", "(I)Z"⟩, 55) := ⟨⟨by decide +kernel, by decide +kernel⟩, List.mem_of_getElem? (i := 1104) (by decide +kernel), List.mem_of_getElem? (i := 1300) (by decide +kernel), List.mem_of_getElem? (i := 1301) (by decide +kernel)⟩
theorem lw_p59 : lw_okq (⟨"AlgebraCabinetModel", "keep", "(I)V"⟩, 55) := ⟨⟨by decide +kernel, by decide +kernel⟩, List.mem_of_getElem? (i := 1104) (by decide +kernel), List.mem_of_getElem? (i := 1304) (by decide +kernel), List.mem_of_getElem? (i := 1305) (by decide +kernel)⟩
theorem lw_p60 : lw_okq (⟨"AlgebraCabinetModel", "blank", "(III)V"⟩, 55) := ⟨⟨by decide +kernel, by decide +kernel⟩, List.mem_of_getElem? (i := 1104) (by decide +kernel), List.mem_of_getElem? (i := 1308) (by decide +kernel), List.mem_of_getElem? (i := 1309) (by decide +kernel)⟩
theorem lw_p61 : lw_okq (⟨"AlgebraCabinetModel", "cellsOf", "(I)I"⟩, 55) := ⟨⟨by decide +kernel, by decide +kernel⟩, List.mem_of_getElem? (i := 1104) (by decide +kernel), List.mem_of_getElem? (i := 1312) (by decide +kernel), List.mem_of_getElem? (i := 1313) (by decide +kernel)⟩
theorem lw_p62 : lw_okq (⟨"AlgebraCabinetModel", "arity", "(II)I"⟩, 55) := ⟨⟨by decide +kernel, by decide +kernel⟩, List.mem_of_getElem? (i := 1104) (by decide +kernel), List.mem_of_getElem? (i := 1316) (by decide +kernel), List.mem_of_getElem? (i := 1317) (by decide +kernel)⟩
theorem lw_p63 : lw_okq (⟨"AlgebraCabinetModel", "refuse", "(I)I"⟩, 55) := ⟨⟨by decide +kernel, by decide +kernel⟩, List.mem_of_getElem? (i := 1104) (by decide +kernel), List.mem_of_getElem? (i := 1327) (by decide +kernel), List.mem_of_getElem? (i := 1328) (by decide +kernel)⟩
def lw_privs_4 : List (MethodName × Nat) := [(⟨"AlgebraCabinet$TermFunctions", "addLine", "()V"⟩, 6), (⟨"AlgebraCabinet$TermFunctions", "placeOf", "(I)I"⟩, 6), (⟨"AlgebraCabinet$TermFunctions", "combineUpTo", "(II)V"⟩, 6), (⟨"AlgebraCabinet$TermFunctions", "combine", "(III)V"⟩, 6), (⟨"AlgebraCabinet", "refuseModels", "(III)I"⟩, 16), (⟨"AlgebraCabinet$ModelSearch", "advance", "(LAlgebraCabinet$Algebra;I)Z"⟩, 4), (⟨"AlgebraCabinet", "fullDrawers", "()I"⟩, 16), (⟨"AlgebraCabinet", "fullLists", "()I"⟩, 16), (⟨"AlgebraCabinetModel", "four", "(I)V"⟩, 55), (⟨"AlgebraCabinetModel", "isDrawer", "(I)Z"⟩, 55), (⟨"AlgebraCabinetModel", "areArities", "(I)Z"⟩, 55), (⟨"AlgebraCabinetModel", "keep", "(I)V"⟩, 55), (⟨"AlgebraCabinetModel", "blank", "(III)V"⟩, 55), (⟨"AlgebraCabinetModel", "cellsOf", "(I)I"⟩, 55), (⟨"AlgebraCabinetModel", "arity", "(II)I"⟩, 55), (⟨"AlgebraCabinetModel", "refuse", "(I)I"⟩, 55)]
theorem lw_r4 : ∀ q ∈ lw_privs_4, lw_okq q := List.forall_mem_cons.mpr ⟨lw_p48, List.forall_mem_cons.mpr ⟨lw_p49, List.forall_mem_cons.mpr ⟨lw_p50, List.forall_mem_cons.mpr ⟨lw_p51, List.forall_mem_cons.mpr ⟨lw_p52, List.forall_mem_cons.mpr ⟨lw_p53, List.forall_mem_cons.mpr ⟨lw_p54, List.forall_mem_cons.mpr ⟨lw_p55, List.forall_mem_cons.mpr ⟨lw_p56, List.forall_mem_cons.mpr ⟨lw_p57, List.forall_mem_cons.mpr ⟨lw_p58, List.forall_mem_cons.mpr ⟨lw_p59, List.forall_mem_cons.mpr ⟨lw_p60, List.forall_mem_cons.mpr ⟨lw_p61, List.forall_mem_cons.mpr ⟨lw_p62, List.forall_mem_cons.mpr ⟨lw_p63, fun _ h => absurd h List.not_mem_nil⟩⟩⟩⟩⟩⟩⟩⟩⟩⟩⟩⟩⟩⟩⟩⟩
theorem lw_p64 : lw_okq (⟨"AlgebraCabinetModel", "isOp", "(II)Z"⟩, 55) := ⟨⟨by decide +kernel, by decide +kernel⟩, List.mem_of_getElem? (i := 1104) (by decide +kernel), List.mem_of_getElem? (i := 1331) (by decide +kernel), List.mem_of_getElem? (i := 1332) (by decide +kernel)⟩
theorem lw_p65 : lw_okq (⟨"AlgebraCabinetModel", "areElements", "(IIII)Z"⟩, 55) := ⟨⟨by decide +kernel, by decide +kernel⟩, List.mem_of_getElem? (i := 1104) (by decide +kernel), List.mem_of_getElem? (i := 1335) (by decide +kernel), List.mem_of_getElem? (i := 1336) (by decide +kernel)⟩
theorem lw_p66 : lw_okq (⟨"AlgebraCabinetModel", "isElement", "(II)Z"⟩, 55) := ⟨⟨by decide +kernel, by decide +kernel⟩, List.mem_of_getElem? (i := 1104) (by decide +kernel), List.mem_of_getElem? (i := 1339) (by decide +kernel), List.mem_of_getElem? (i := 1340) (by decide +kernel)⟩
theorem lw_p67 : lw_okq (⟨"AlgebraCabinetModel", "at", "(IIII)I"⟩, 55) := ⟨⟨by decide +kernel, by decide +kernel⟩, List.mem_of_getElem? (i := 1104) (by decide +kernel), List.mem_of_getElem? (i := 1343) (by decide +kernel), List.mem_of_getElem? (i := 1344) (by decide +kernel)⟩
theorem lw_p68 : lw_okq (⟨"AlgebraCabinetModel", "value", "(IIII)I"⟩, 55) := ⟨⟨by decide +kernel, by decide +kernel⟩, List.mem_of_getElem? (i := 1104) (by decide +kernel), List.mem_of_getElem? (i := 1351) (by decide +kernel), List.mem_of_getElem? (i := 1352) (by decide +kernel)⟩
theorem lw_p69 : lw_okq (⟨"AlgebraCabinetModel", "refuseTwo", "(II)I"⟩, 55) := ⟨⟨by decide +kernel, by decide +kernel⟩, List.mem_of_getElem? (i := 1104) (by decide +kernel), List.mem_of_getElem? (i := 1359) (by decide +kernel), List.mem_of_getElem? (i := 1360) (by decide +kernel)⟩
theorem lw_p70 : lw_okq (⟨"AlgebraCabinetModel", "lineAt", "(II)I"⟩, 55) := ⟨⟨by decide +kernel, by decide +kernel⟩, List.mem_of_getElem? (i := 1104) (by decide +kernel), List.mem_of_getElem? (i := 1367) (by decide +kernel), List.mem_of_getElem? (i := 1368) (by decide +kernel)⟩
theorem lw_p71 : lw_okq (⟨"AlgebraCabinetModel", "say", "(I)V"⟩, 55) := ⟨⟨by decide +kernel, by decide +kernel⟩, List.mem_of_getElem? (i := 1104) (by decide +kernel), List.mem_of_getElem? (i := 1379) (by decide +kernel), List.mem_of_getElem? (i := 1380) (by decide +kernel)⟩
theorem lw_p72 : lw_okq (⟨"AlgebraCabinetModel", "byteAt", "(I)I"⟩, 55) := ⟨⟨by decide +kernel, by decide +kernel⟩, List.mem_of_getElem? (i := 1104) (by decide +kernel), List.mem_of_getElem? (i := 1387) (by decide +kernel), List.mem_of_getElem? (i := 1388) (by decide +kernel)⟩
theorem lw_p73 : lw_okq (⟨"AlgebraCabinetModel", "readFault", "(I)I"⟩, 55) := ⟨⟨by decide +kernel, by decide +kernel⟩, List.mem_of_getElem? (i := 1104) (by decide +kernel), List.mem_of_getElem? (i := 1391) (by decide +kernel), List.mem_of_getElem? (i := 1392) (by decide +kernel)⟩
theorem lw_p74 : lw_okq (⟨"AlgebraCabinetModel", "copy", "(II)V"⟩, 55) := ⟨⟨by decide +kernel, by decide +kernel⟩, List.mem_of_getElem? (i := 1104) (by decide +kernel), List.mem_of_getElem? (i := 1395) (by decide +kernel), List.mem_of_getElem? (i := 1396) (by decide +kernel)⟩
theorem lw_p75 : lw_okq (⟨"AlgebraCabinetModel", "isList", "(I)Z"⟩, 55) := ⟨⟨by decide +kernel, by decide +kernel⟩, List.mem_of_getElem? (i := 1104) (by decide +kernel), List.mem_of_getElem? (i := 1419) (by decide +kernel), List.mem_of_getElem? (i := 1420) (by decide +kernel)⟩
theorem lw_p76 : lw_okq (⟨"AlgebraCabinetModel", "nextSign", "()V"⟩, 55) := ⟨⟨by decide +kernel, by decide +kernel⟩, List.mem_of_getElem? (i := 1104) (by decide +kernel), List.mem_of_getElem? (i := 1423) (by decide +kernel), List.mem_of_getElem? (i := 1424) (by decide +kernel)⟩
theorem lw_p77 : lw_okq (⟨"AlgebraCabinetModel", "law", "()V"⟩, 55) := ⟨⟨by decide +kernel, by decide +kernel⟩, List.mem_of_getElem? (i := 1104) (by decide +kernel), List.mem_of_getElem? (i := 1427) (by decide +kernel), List.mem_of_getElem? (i := 1428) (by decide +kernel)⟩
theorem lw_p78 : lw_okq (⟨"AlgebraCabinetModel", "wrong", "(I)V"⟩, 55) := ⟨⟨by decide +kernel, by decide +kernel⟩, List.mem_of_getElem? (i := 1104) (by decide +kernel), List.mem_of_getElem? (i := 1437) (by decide +kernel), List.mem_of_getElem? (i := 1438) (by decide +kernel)⟩
theorem lw_p79 : lw_okq (⟨"AlgebraCabinetModel", "same", "()V"⟩, 55) := ⟨⟨by decide +kernel, by decide +kernel⟩, List.mem_of_getElem? (i := 1104) (by decide +kernel), List.mem_of_getElem? (i := 1441) (by decide +kernel), List.mem_of_getElem? (i := 1442) (by decide +kernel)⟩
def lw_privs_5 : List (MethodName × Nat) := [(⟨"AlgebraCabinetModel", "isOp", "(II)Z"⟩, 55), (⟨"AlgebraCabinetModel", "areElements", "(IIII)Z"⟩, 55), (⟨"AlgebraCabinetModel", "isElement", "(II)Z"⟩, 55), (⟨"AlgebraCabinetModel", "at", "(IIII)I"⟩, 55), (⟨"AlgebraCabinetModel", "value", "(IIII)I"⟩, 55), (⟨"AlgebraCabinetModel", "refuseTwo", "(II)I"⟩, 55), (⟨"AlgebraCabinetModel", "lineAt", "(II)I"⟩, 55), (⟨"AlgebraCabinetModel", "say", "(I)V"⟩, 55), (⟨"AlgebraCabinetModel", "byteAt", "(I)I"⟩, 55), (⟨"AlgebraCabinetModel", "readFault", "(I)I"⟩, 55), (⟨"AlgebraCabinetModel", "copy", "(II)V"⟩, 55), (⟨"AlgebraCabinetModel", "isList", "(I)Z"⟩, 55), (⟨"AlgebraCabinetModel", "nextSign", "()V"⟩, 55), (⟨"AlgebraCabinetModel", "law", "()V"⟩, 55), (⟨"AlgebraCabinetModel", "wrong", "(I)V"⟩, 55), (⟨"AlgebraCabinetModel", "same", "()V"⟩, 55)]
theorem lw_r5 : ∀ q ∈ lw_privs_5, lw_okq q := List.forall_mem_cons.mpr ⟨lw_p64, List.forall_mem_cons.mpr ⟨lw_p65, List.forall_mem_cons.mpr ⟨lw_p66, List.forall_mem_cons.mpr ⟨lw_p67, List.forall_mem_cons.mpr ⟨lw_p68, List.forall_mem_cons.mpr ⟨lw_p69, List.forall_mem_cons.mpr ⟨lw_p70, List.forall_mem_cons.mpr ⟨lw_p71, List.forall_mem_cons.mpr ⟨lw_p72, List.forall_mem_cons.mpr ⟨lw_p73, List.forall_mem_cons.mpr ⟨lw_p74, List.forall_mem_cons.mpr ⟨lw_p75, List.forall_mem_cons.mpr ⟨lw_p76, List.forall_mem_cons.mpr ⟨lw_p77, List.forall_mem_cons.mpr ⟨lw_p78, List.forall_mem_cons.mpr ⟨lw_p79, fun _ h => absurd h List.not_mem_nil⟩⟩⟩⟩⟩⟩⟩⟩⟩⟩⟩⟩⟩⟩⟩⟩
theorem lw_p80 : lw_okq (⟨"AlgebraCabinetModel", "term", "(I)I"⟩, 55) := ⟨⟨by decide +kernel, by decide +kernel⟩, List.mem_of_getElem? (i := 1104) (by decide +kernel), List.mem_of_getElem? (i := 1445) (by decide +kernel), List.mem_of_getElem? (i := 1446) (by decide +kernel)⟩
theorem lw_p81 : lw_okq (⟨"AlgebraCabinetModel", "takes", "(I)Z"⟩, 55) := ⟨⟨by decide +kernel, by decide +kernel⟩, List.mem_of_getElem? (i := 1104) (by decide +kernel), List.mem_of_getElem? (i := 1449) (by decide +kernel), List.mem_of_getElem? (i := 1450) (by decide +kernel)⟩
theorem lw_p82 : lw_okq (⟨"AlgebraCabinetModel", "must", "(I)V"⟩, 55) := ⟨⟨by decide +kernel, by decide +kernel⟩, List.mem_of_getElem? (i := 1104) (by decide +kernel), List.mem_of_getElem? (i := 1453) (by decide +kernel), List.mem_of_getElem? (i := 1454) (by decide +kernel)⟩
theorem lw_p83 : lw_okq (⟨"AlgebraCabinetModel", "agree", "()V"⟩, 55) := ⟨⟨by decide +kernel, by decide +kernel⟩, List.mem_of_getElem? (i := 1104) (by decide +kernel), List.mem_of_getElem? (i := 1457) (by decide +kernel), List.mem_of_getElem? (i := 1458) (by decide +kernel)⟩
theorem lw_p84 : lw_okq (⟨"AlgebraCabinetModel", "refuseLaws", "(II)I"⟩, 55) := ⟨⟨by decide +kernel, by decide +kernel⟩, List.mem_of_getElem? (i := 1104) (by decide +kernel), List.mem_of_getElem? (i := 1469) (by decide +kernel), List.mem_of_getElem? (i := 1470) (by decide +kernel)⟩
theorem lw_p85 : lw_okq (⟨"AlgebraCabinetModel", "fits", "(II)Z"⟩, 55) := ⟨⟨by decide +kernel, by decide +kernel⟩, List.mem_of_getElem? (i := 1104) (by decide +kernel), List.mem_of_getElem? (i := 1473) (by decide +kernel), List.mem_of_getElem? (i := 1474) (by decide +kernel)⟩
theorem lw_p86 : lw_okq (⟨"AlgebraCabinetModel", "broken", "(II)I"⟩, 55) := ⟨⟨by decide +kernel, by decide +kernel⟩, List.mem_of_getElem? (i := 1104) (by decide +kernel), List.mem_of_getElem? (i := 1477) (by decide +kernel), List.mem_of_getElem? (i := 1478) (by decide +kernel)⟩
theorem lw_p87 : lw_okq (⟨"AlgebraCabinetModel", "failing", "(IIIZ)I"⟩, 55) := ⟨⟨by decide +kernel, by decide +kernel⟩, List.mem_of_getElem? (i := 1104) (by decide +kernel), List.mem_of_getElem? (i := 1481) (by decide +kernel), List.mem_of_getElem? (i := 1482) (by decide +kernel)⟩
theorem lw_p88 : lw_okq (⟨"AlgebraCabinetModel", "given", "(IIII)I"⟩, 55) := ⟨⟨by decide +kernel, by decide +kernel⟩, List.mem_of_getElem? (i := 1104) (by decide +kernel), List.mem_of_getElem? (i := 1485) (by decide +kernel), List.mem_of_getElem? (i := 1486) (by decide +kernel)⟩
theorem lw_p89 : lw_okq (⟨"AlgebraCabinetModel", "keeps", "(III)Z"⟩, 55) := ⟨⟨by decide +kernel, by decide +kernel⟩, List.mem_of_getElem? (i := 1104) (by decide +kernel), List.mem_of_getElem? (i := 1489) (by decide +kernel), List.mem_of_getElem? (i := 1490) (by decide +kernel)⟩
theorem lw_p90 : lw_okq (⟨"AlgebraCabinetModel", "isSame", "(III)Z"⟩, 55) := ⟨⟨by decide +kernel, by decide +kernel⟩, List.mem_of_getElem? (i := 1104) (by decide +kernel), List.mem_of_getElem? (i := 1493) (by decide +kernel), List.mem_of_getElem? (i := 1494) (by decide +kernel)⟩
theorem lw_p91 : lw_okq (⟨"AlgebraCabinetModel", "worth", "(III)I"⟩, 55) := ⟨⟨by decide +kernel, by decide +kernel⟩, List.mem_of_getElem? (i := 1104) (by decide +kernel), List.mem_of_getElem? (i := 1497) (by decide +kernel), List.mem_of_getElem? (i := 1498) (by decide +kernel)⟩
theorem lw_p92 : lw_okq (⟨"AlgebraCabinetModel", "isClosed", "(II)Z"⟩, 55) := ⟨⟨by decide +kernel, by decide +kernel⟩, List.mem_of_getElem? (i := 1104) (by decide +kernel), List.mem_of_getElem? (i := 1513) (by decide +kernel), List.mem_of_getElem? (i := 1514) (by decide +kernel)⟩
theorem lw_p93 : lw_okq (⟨"AlgebraCabinetModel", "partOf", "(II)I"⟩, 55) := ⟨⟨by decide +kernel, by decide +kernel⟩, List.mem_of_getElem? (i := 1104) (by decide +kernel), List.mem_of_getElem? (i := 1521) (by decide +kernel), List.mem_of_getElem? (i := 1522) (by decide +kernel)⟩
theorem lw_p94 : lw_okq (⟨"AlgebraCabinetModel", "like", "(II)V"⟩, 55) := ⟨⟨by decide +kernel, by decide +kernel⟩, List.mem_of_getElem? (i := 1104) (by decide +kernel), List.mem_of_getElem? (i := 1529) (by decide +kernel), List.mem_of_getElem? (i := 1530) (by decide +kernel)⟩
theorem lw_p95 : lw_okq (⟨"AlgebraCabinetModel", "upTo", "(III)I"⟩, 55) := ⟨⟨by decide +kernel, by decide +kernel⟩, List.mem_of_getElem? (i := 1104) (by decide +kernel), List.mem_of_getElem? (i := 1533) (by decide +kernel), List.mem_of_getElem? (i := 1534) (by decide +kernel)⟩
def lw_privs_6 : List (MethodName × Nat) := [(⟨"AlgebraCabinetModel", "term", "(I)I"⟩, 55), (⟨"AlgebraCabinetModel", "takes", "(I)Z"⟩, 55), (⟨"AlgebraCabinetModel", "must", "(I)V"⟩, 55), (⟨"AlgebraCabinetModel", "agree", "()V"⟩, 55), (⟨"AlgebraCabinetModel", "refuseLaws", "(II)I"⟩, 55), (⟨"AlgebraCabinetModel", "fits", "(II)Z"⟩, 55), (⟨"AlgebraCabinetModel", "broken", "(II)I"⟩, 55), (⟨"AlgebraCabinetModel", "failing", "(IIIZ)I"⟩, 55), (⟨"AlgebraCabinetModel", "given", "(IIII)I"⟩, 55), (⟨"AlgebraCabinetModel", "keeps", "(III)Z"⟩, 55), (⟨"AlgebraCabinetModel", "isSame", "(III)Z"⟩, 55), (⟨"AlgebraCabinetModel", "worth", "(III)I"⟩, 55), (⟨"AlgebraCabinetModel", "isClosed", "(II)Z"⟩, 55), (⟨"AlgebraCabinetModel", "partOf", "(II)I"⟩, 55), (⟨"AlgebraCabinetModel", "like", "(II)V"⟩, 55), (⟨"AlgebraCabinetModel", "upTo", "(III)I"⟩, 55)]
theorem lw_r6 : ∀ q ∈ lw_privs_6, lw_okq q := List.forall_mem_cons.mpr ⟨lw_p80, List.forall_mem_cons.mpr ⟨lw_p81, List.forall_mem_cons.mpr ⟨lw_p82, List.forall_mem_cons.mpr ⟨lw_p83, List.forall_mem_cons.mpr ⟨lw_p84, List.forall_mem_cons.mpr ⟨lw_p85, List.forall_mem_cons.mpr ⟨lw_p86, List.forall_mem_cons.mpr ⟨lw_p87, List.forall_mem_cons.mpr ⟨lw_p88, List.forall_mem_cons.mpr ⟨lw_p89, List.forall_mem_cons.mpr ⟨lw_p90, List.forall_mem_cons.mpr ⟨lw_p91, List.forall_mem_cons.mpr ⟨lw_p92, List.forall_mem_cons.mpr ⟨lw_p93, List.forall_mem_cons.mpr ⟨lw_p94, List.forall_mem_cons.mpr ⟨lw_p95, fun _ h => absurd h List.not_mem_nil⟩⟩⟩⟩⟩⟩⟩⟩⟩⟩⟩⟩⟩⟩⟩⟩
theorem lw_p96 : lw_okq (⟨"AlgebraCabinetModel", "setAt", "(IIIII)V"⟩, 55) := ⟨⟨by decide +kernel, by decide +kernel⟩, List.mem_of_getElem? (i := 1104) (by decide +kernel), List.mem_of_getElem? (i := 1537) (by decide +kernel), List.mem_of_getElem? (i := 1538) (by decide +kernel)⟩
theorem lw_p97 : lw_okq (⟨"AlgebraCabinetModel", "findCongruence", "(II)Z"⟩, 55) := ⟨⟨by decide +kernel, by decide +kernel⟩, List.mem_of_getElem? (i := 1104) (by decide +kernel), List.mem_of_getElem? (i := 1545) (by decide +kernel), List.mem_of_getElem? (i := 1546) (by decide +kernel)⟩
theorem lw_p98 : lw_okq (⟨"AlgebraCabinetModel", "firstLine", "()V"⟩, 55) := ⟨⟨by decide +kernel, by decide +kernel⟩, List.mem_of_getElem? (i := 1104) (by decide +kernel), List.mem_of_getElem? (i := 1549) (by decide +kernel), List.mem_of_getElem? (i := 1550) (by decide +kernel)⟩
theorem lw_p99 : lw_okq (⟨"AlgebraCabinetModel", "isLine", "(I)Z"⟩, 55) := ⟨⟨by decide +kernel, by decide +kernel⟩, List.mem_of_getElem? (i := 1104) (by decide +kernel), List.mem_of_getElem? (i := 1553) (by decide +kernel), List.mem_of_getElem? (i := 1554) (by decide +kernel)⟩
theorem lw_p100 : lw_okq (⟨"AlgebraCabinetModel", "agrees", "(I)Z"⟩, 55) := ⟨⟨by decide +kernel, by decide +kernel⟩, List.mem_of_getElem? (i := 1104) (by decide +kernel), List.mem_of_getElem? (i := 1557) (by decide +kernel), List.mem_of_getElem? (i := 1558) (by decide +kernel)⟩
theorem lw_p101 : lw_okq (⟨"AlgebraCabinetModel", "nextLine", "(I)Z"⟩, 55) := ⟨⟨by decide +kernel, by decide +kernel⟩, List.mem_of_getElem? (i := 1104) (by decide +kernel), List.mem_of_getElem? (i := 1561) (by decide +kernel), List.mem_of_getElem? (i := 1562) (by decide +kernel)⟩
theorem lw_p102 : lw_okq (⟨"AlgebraCabinetModel", "told", "([II)I"⟩, 55) := ⟨⟨by decide +kernel, by decide +kernel⟩, List.mem_of_getElem? (i := 1104) (by decide +kernel), List.mem_of_getElem? (i := 1565) (by decide +kernel), List.mem_of_getElem? (i := 1566) (by decide +kernel)⟩
theorem lw_p103 : lw_okq (⟨"AlgebraCabinetModel", "classes", "(I)I"⟩, 55) := ⟨⟨by decide +kernel, by decide +kernel⟩, List.mem_of_getElem? (i := 1104) (by decide +kernel), List.mem_of_getElem? (i := 1573) (by decide +kernel), List.mem_of_getElem? (i := 1574) (by decide +kernel)⟩
theorem lw_p104 : lw_okq (⟨"AlgebraCabinetModel", "copyLine", "([I)V"⟩, 55) := ⟨⟨by decide +kernel, by decide +kernel⟩, List.mem_of_getElem? (i := 1104) (by decide +kernel), List.mem_of_getElem? (i := 1581) (by decide +kernel), List.mem_of_getElem? (i := 1582) (by decide +kernel)⟩
theorem lw_p105 : lw_okq (⟨"AlgebraCabinetModel", "joins", "([II)Z"⟩, 55) := ⟨⟨by decide +kernel, by decide +kernel⟩, List.mem_of_getElem? (i := 1104) (by decide +kernel), List.mem_of_getElem? (i := 1585) (by decide +kernel), List.mem_of_getElem? (i := 1586) (by decide +kernel)⟩
theorem lw_p106 : lw_okq (⟨"AlgebraCabinetModel", "joinsBoth", "(I)Z"⟩, 55) := ⟨⟨by decide +kernel, by decide +kernel⟩, List.mem_of_getElem? (i := 1104) (by decide +kernel), List.mem_of_getElem? (i := 1589) (by decide +kernel), List.mem_of_getElem? (i := 1590) (by decide +kernel)⟩
theorem lw_p107 : lw_okq (⟨"AlgebraCabinetModel", "refuseTwoDrawers", "(II)I"⟩, 55) := ⟨⟨by decide +kernel, by decide +kernel⟩, List.mem_of_getElem? (i := 1104) (by decide +kernel), List.mem_of_getElem? (i := 1601) (by decide +kernel), List.mem_of_getElem? (i := 1602) (by decide +kernel)⟩
theorem lw_p108 : lw_okq (⟨"AlgebraCabinetModel", "isOneSignature", "(II)Z"⟩, 55) := ⟨⟨by decide +kernel, by decide +kernel⟩, List.mem_of_getElem? (i := 1104) (by decide +kernel), List.mem_of_getElem? (i := 1605) (by decide +kernel), List.mem_of_getElem? (i := 1606) (by decide +kernel)⟩
theorem lw_p109 : lw_okq (⟨"AlgebraCabinetModel", "findMap", "(IIII)Z"⟩, 55) := ⟨⟨by decide +kernel, by decide +kernel⟩, List.mem_of_getElem? (i := 1104) (by decide +kernel), List.mem_of_getElem? (i := 1609) (by decide +kernel), List.mem_of_getElem? (i := 1610) (by decide +kernel)⟩
theorem lw_p110 : lw_okq (⟨"AlgebraCabinetModel", "maps", "(IIII)Z"⟩, 55) := ⟨⟨by decide +kernel, by decide +kernel⟩, List.mem_of_getElem? (i := 1104) (by decide +kernel), List.mem_of_getElem? (i := 1613) (by decide +kernel), List.mem_of_getElem? (i := 1614) (by decide +kernel)⟩
theorem lw_p111 : lw_okq (⟨"AlgebraCabinetModel", "isWhat", "(III)Z"⟩, 55) := ⟨⟨by decide +kernel, by decide +kernel⟩, List.mem_of_getElem? (i := 1104) (by decide +kernel), List.mem_of_getElem? (i := 1617) (by decide +kernel), List.mem_of_getElem? (i := 1618) (by decide +kernel)⟩
def lw_privs_7 : List (MethodName × Nat) := [(⟨"AlgebraCabinetModel", "setAt", "(IIIII)V"⟩, 55), (⟨"AlgebraCabinetModel", "findCongruence", "(II)Z"⟩, 55), (⟨"AlgebraCabinetModel", "firstLine", "()V"⟩, 55), (⟨"AlgebraCabinetModel", "isLine", "(I)Z"⟩, 55), (⟨"AlgebraCabinetModel", "agrees", "(I)Z"⟩, 55), (⟨"AlgebraCabinetModel", "nextLine", "(I)Z"⟩, 55), (⟨"AlgebraCabinetModel", "told", "([II)I"⟩, 55), (⟨"AlgebraCabinetModel", "classes", "(I)I"⟩, 55), (⟨"AlgebraCabinetModel", "copyLine", "([I)V"⟩, 55), (⟨"AlgebraCabinetModel", "joins", "([II)Z"⟩, 55), (⟨"AlgebraCabinetModel", "joinsBoth", "(I)Z"⟩, 55), (⟨"AlgebraCabinetModel", "refuseTwoDrawers", "(II)I"⟩, 55), (⟨"AlgebraCabinetModel", "isOneSignature", "(II)Z"⟩, 55), (⟨"AlgebraCabinetModel", "findMap", "(IIII)Z"⟩, 55), (⟨"AlgebraCabinetModel", "maps", "(IIII)Z"⟩, 55), (⟨"AlgebraCabinetModel", "isWhat", "(III)Z"⟩, 55)]
theorem lw_r7 : ∀ q ∈ lw_privs_7, lw_okq q := List.forall_mem_cons.mpr ⟨lw_p96, List.forall_mem_cons.mpr ⟨lw_p97, List.forall_mem_cons.mpr ⟨lw_p98, List.forall_mem_cons.mpr ⟨lw_p99, List.forall_mem_cons.mpr ⟨lw_p100, List.forall_mem_cons.mpr ⟨lw_p101, List.forall_mem_cons.mpr ⟨lw_p102, List.forall_mem_cons.mpr ⟨lw_p103, List.forall_mem_cons.mpr ⟨lw_p104, List.forall_mem_cons.mpr ⟨lw_p105, List.forall_mem_cons.mpr ⟨lw_p106, List.forall_mem_cons.mpr ⟨lw_p107, List.forall_mem_cons.mpr ⟨lw_p108, List.forall_mem_cons.mpr ⟨lw_p109, List.forall_mem_cons.mpr ⟨lw_p110, List.forall_mem_cons.mpr ⟨lw_p111, fun _ h => absurd h List.not_mem_nil⟩⟩⟩⟩⟩⟩⟩⟩⟩⟩⟩⟩⟩⟩⟩⟩
theorem lw_p112 : lw_okq (⟨"AlgebraCabinetModel", "goes", "(III)Z"⟩, 55) := ⟨⟨by decide +kernel, by decide +kernel⟩, List.mem_of_getElem? (i := 1104) (by decide +kernel), List.mem_of_getElem? (i := 1621) (by decide +kernel), List.mem_of_getElem? (i := 1622) (by decide +kernel)⟩
theorem lw_p113 : lw_okq (⟨"AlgebraCabinetModel", "findLeast", "(I)V"⟩, 55) := ⟨⟨by decide +kernel, by decide +kernel⟩, List.mem_of_getElem? (i := 1104) (by decide +kernel), List.mem_of_getElem? (i := 1633) (by decide +kernel), List.mem_of_getElem? (i := 1634) (by decide +kernel)⟩
theorem lw_p114 : lw_okq (⟨"AlgebraCabinetModel", "firstNames", "(I)V"⟩, 55) := ⟨⟨by decide +kernel, by decide +kernel⟩, List.mem_of_getElem? (i := 1104) (by decide +kernel), List.mem_of_getElem? (i := 1637) (by decide +kernel), List.mem_of_getElem? (i := 1638) (by decide +kernel)⟩
theorem lw_p115 : lw_okq (⟨"AlgebraCabinetModel", "lay", "(I[I)V"⟩, 55) := ⟨⟨by decide +kernel, by decide +kernel⟩, List.mem_of_getElem? (i := 1104) (by decide +kernel), List.mem_of_getElem? (i := 1641) (by decide +kernel), List.mem_of_getElem? (i := 1642) (by decide +kernel)⟩
theorem lw_p116 : lw_okq (⟨"AlgebraCabinetModel", "nextNames", "(I)Z"⟩, 55) := ⟨⟨by decide +kernel, by decide +kernel⟩, List.mem_of_getElem? (i := 1104) (by decide +kernel), List.mem_of_getElem? (i := 1645) (by decide +kernel), List.mem_of_getElem? (i := 1646) (by decide +kernel)⟩
theorem lw_p117 : lw_okq (⟨"AlgebraCabinetModel", "swap", "(II)V"⟩, 55) := ⟨⟨by decide +kernel, by decide +kernel⟩, List.mem_of_getElem? (i := 1104) (by decide +kernel), List.mem_of_getElem? (i := 1649) (by decide +kernel), List.mem_of_getElem? (i := 1650) (by decide +kernel)⟩
theorem lw_p118 : lw_okq (⟨"AlgebraCabinetModel", "compare", "(I[I)I"⟩, 55) := ⟨⟨by decide +kernel, by decide +kernel⟩, List.mem_of_getElem? (i := 1104) (by decide +kernel), List.mem_of_getElem? (i := 1653) (by decide +kernel), List.mem_of_getElem? (i := 1654) (by decide +kernel)⟩
theorem lw_p119 : lw_okq (⟨"AlgebraCabinetModel", "putLine", "(I[I)V"⟩, 55) := ⟨⟨by decide +kernel, by decide +kernel⟩, List.mem_of_getElem? (i := 1104) (by decide +kernel), List.mem_of_getElem? (i := 1657) (by decide +kernel), List.mem_of_getElem? (i := 1658) (by decide +kernel)⟩
theorem lw_p120 : lw_okq (⟨"AlgebraCabinetModel", "turns", "(I)I"⟩, 55) := ⟨⟨by decide +kernel, by decide +kernel⟩, List.mem_of_getElem? (i := 1104) (by decide +kernel), List.mem_of_getElem? (i := 1661) (by decide +kernel), List.mem_of_getElem? (i := 1662) (by decide +kernel)⟩
theorem lw_p121 : lw_okq (⟨"AlgebraCabinetModel", "findFunctions", "(I)Z"⟩, 55) := ⟨⟨by decide +kernel, by decide +kernel⟩, List.mem_of_getElem? (i := 1104) (by decide +kernel), List.mem_of_getElem? (i := 1673) (by decide +kernel), List.mem_of_getElem? (i := 1674) (by decide +kernel)⟩
theorem lw_p122 : lw_okq (⟨"AlgebraCabinetModel", "addFunction", "(I)Z"⟩, 55) := ⟨⟨by decide +kernel, by decide +kernel⟩, List.mem_of_getElem? (i := 1104) (by decide +kernel), List.mem_of_getElem? (i := 1677) (by decide +kernel), List.mem_of_getElem? (i := 1678) (by decide +kernel)⟩
theorem lw_p123 : lw_okq (⟨"AlgebraCabinetModel", "work", "(IIII)Z"⟩, 55) := ⟨⟨by decide +kernel, by decide +kernel⟩, List.mem_of_getElem? (i := 1104) (by decide +kernel), List.mem_of_getElem? (i := 1681) (by decide +kernel), List.mem_of_getElem? (i := 1682) (by decide +kernel)⟩
theorem lw_p124 : lw_okq (⟨"AlgebraCabinetModel", "refuseModels", "(III)I"⟩, 55) := ⟨⟨by decide +kernel, by decide +kernel⟩, List.mem_of_getElem? (i := 1104) (by decide +kernel), List.mem_of_getElem? (i := 1692) (by decide +kernel), List.mem_of_getElem? (i := 1693) (by decide +kernel)⟩
theorem lw_p125 : lw_okq (⟨"AlgebraCabinetModel", "findModel", "(IZI)Z"⟩, 55) := ⟨⟨by decide +kernel, by decide +kernel⟩, List.mem_of_getElem? (i := 1104) (by decide +kernel), List.mem_of_getElem? (i := 1697) (by decide +kernel), List.mem_of_getElem? (i := 1698) (by decide +kernel)⟩
theorem lw_p126 : lw_okq (⟨"AlgebraCabinetModel", "isLeast", "(I)Z"⟩, 55) := ⟨⟨by decide +kernel, by decide +kernel⟩, List.mem_of_getElem? (i := 1104) (by decide +kernel), List.mem_of_getElem? (i := 1701) (by decide +kernel), List.mem_of_getElem? (i := 1702) (by decide +kernel)⟩
theorem lw_p127 : lw_okq (⟨"AlgebraCabinetModel", "nextTable", "()Z"⟩, 55) := ⟨⟨by decide +kernel, by decide +kernel⟩, List.mem_of_getElem? (i := 1104) (by decide +kernel), List.mem_of_getElem? (i := 1705) (by decide +kernel), List.mem_of_getElem? (i := 1706) (by decide +kernel)⟩
def lw_privs_8 : List (MethodName × Nat) := [(⟨"AlgebraCabinetModel", "goes", "(III)Z"⟩, 55), (⟨"AlgebraCabinetModel", "findLeast", "(I)V"⟩, 55), (⟨"AlgebraCabinetModel", "firstNames", "(I)V"⟩, 55), (⟨"AlgebraCabinetModel", "lay", "(I[I)V"⟩, 55), (⟨"AlgebraCabinetModel", "nextNames", "(I)Z"⟩, 55), (⟨"AlgebraCabinetModel", "swap", "(II)V"⟩, 55), (⟨"AlgebraCabinetModel", "compare", "(I[I)I"⟩, 55), (⟨"AlgebraCabinetModel", "putLine", "(I[I)V"⟩, 55), (⟨"AlgebraCabinetModel", "turns", "(I)I"⟩, 55), (⟨"AlgebraCabinetModel", "findFunctions", "(I)Z"⟩, 55), (⟨"AlgebraCabinetModel", "addFunction", "(I)Z"⟩, 55), (⟨"AlgebraCabinetModel", "work", "(IIII)Z"⟩, 55), (⟨"AlgebraCabinetModel", "refuseModels", "(III)I"⟩, 55), (⟨"AlgebraCabinetModel", "findModel", "(IZI)Z"⟩, 55), (⟨"AlgebraCabinetModel", "isLeast", "(I)Z"⟩, 55), (⟨"AlgebraCabinetModel", "nextTable", "()Z"⟩, 55)]
theorem lw_r8 : ∀ q ∈ lw_privs_8, lw_okq q := List.forall_mem_cons.mpr ⟨lw_p112, List.forall_mem_cons.mpr ⟨lw_p113, List.forall_mem_cons.mpr ⟨lw_p114, List.forall_mem_cons.mpr ⟨lw_p115, List.forall_mem_cons.mpr ⟨lw_p116, List.forall_mem_cons.mpr ⟨lw_p117, List.forall_mem_cons.mpr ⟨lw_p118, List.forall_mem_cons.mpr ⟨lw_p119, List.forall_mem_cons.mpr ⟨lw_p120, List.forall_mem_cons.mpr ⟨lw_p121, List.forall_mem_cons.mpr ⟨lw_p122, List.forall_mem_cons.mpr ⟨lw_p123, List.forall_mem_cons.mpr ⟨lw_p124, List.forall_mem_cons.mpr ⟨lw_p125, List.forall_mem_cons.mpr ⟨lw_p126, List.forall_mem_cons.mpr ⟨lw_p127, fun _ h => absurd h List.not_mem_nil⟩⟩⟩⟩⟩⟩⟩⟩⟩⟩⟩⟩⟩⟩⟩⟩
def lw_privs : List (MethodName × Nat) := lw_privs_1 ++ (lw_privs_2 ++ (lw_privs_3 ++ (lw_privs_4 ++ (lw_privs_5 ++ (lw_privs_6 ++ (lw_privs_7 ++ (lw_privs_8)))))))
def lw_tbl : List Cond := k2_sels lw_privs ++ tables_1
theorem lw_privs_ok : ∀ q ∈ lw_privs, lw_okq q := by
  show ∀ q ∈ lw_privs_1 ++ (lw_privs_2 ++ (lw_privs_3 ++ (lw_privs_4 ++ (lw_privs_5 ++ (lw_privs_6 ++ (lw_privs_7 ++ (lw_privs_8))))))), lw_okq q
  exact List.forall_mem_append.mpr ⟨lw_r1, List.forall_mem_append.mpr ⟨lw_r2, List.forall_mem_append.mpr ⟨lw_r3, List.forall_mem_append.mpr ⟨lw_r4, List.forall_mem_append.mpr ⟨lw_r5, List.forall_mem_append.mpr ⟨lw_r6, List.forall_mem_append.mpr ⟨lw_r7, lw_r8⟩⟩⟩⟩⟩⟩⟩
def RX0 : String := "AlgebraCabinet$Algebra"
def TX0 : u_T := fun k => match k with
  | 0 => ("AlgebraCabinet$Algebra", "size", "I", false)
  | 1 => ("AlgebraCabinet$Algebra", "operations", "I", false)
  | 2 => ("AlgebraCabinet$Algebra", "arities", "I", false)
  | 3 => ("AlgebraCabinet$Algebra", "arity", "[I", true)
  | 4 => ("AlgebraCabinet$Algebra", "start", "[I", true)
  | _ => ("AlgebraCabinet$Algebra", "cells", "[I", true)
def tyX0 : Nat → FieldType := fun k => match k with
  | 0 => .int
  | 1 => .int
  | 2 => .int
  | 3 => .array .int
  | 4 => .array .int
  | _ => .array .int
abbrev wsX00 : List Cond := u_ws RX0 TX0 6
theorem nmX0 : ∀ a, a < 6 → ∀ b, b < 6 → a ≠ b → (TX0 a).2.1 ≠ (TX0 b).2.1 := by decide +kernel
theorem tyX0_ok : ∀ k, k < 6 → parseFieldDescriptor (TX0 k).2.2.1 = some (tyX0 k) := by decide +kernel
abbrev cX0_init : ByteArray := prog_2_method_1_code
def yX0_init : MethodName := ⟨RX0, "<init>", "()V"⟩
abbrev cX0_isHeld : ByteArray := prog_2_method_2_code
def yX0_isHeld : MethodName := ⟨RX0, "isHeld", "()Z"⟩
abbrev cX0_empty : ByteArray := prog_2_method_3_code
def yX0_empty : MethodName := ⟨RX0, "empty", "()V"⟩
abbrev cX0_begin : ByteArray := prog_2_method_4_code
def yX0_begin : MethodName := ⟨RX0, "begin", "(I)V"⟩
abbrev cX0_addOperation : ByteArray := prog_2_method_5_code
def yX0_addOperation : MethodName := ⟨RX0, "addOperation", "(I)V"⟩
abbrev cX0_shape : ByteArray := prog_2_method_6_code
def yX0_shape : MethodName := ⟨RX0, "shape", "(II)V"⟩
abbrev cX0_copyFrom : ByteArray := prog_2_method_7_code
def yX0_copyFrom : MethodName := ⟨RX0, "copyFrom", "(LAlgebraCabinet$Algebra;)V"⟩
abbrev cX0_cellCount : ByteArray := prog_2_method_8_code
def yX0_cellCount : MethodName := ⟨RX0, "cellCount", "()I"⟩
abbrev cX0_rows : ByteArray := prog_2_method_9_code
def yX0_rows : MethodName := ⟨RX0, "rows", "(I)I"⟩
abbrev cX0_columns : ByteArray := prog_2_method_10_code
def yX0_columns : MethodName := ⟨RX0, "columns", "(I)I"⟩
abbrev cX0_spot : ByteArray := prog_2_method_11_code
def yX0_spot : MethodName := ⟨RX0, "spot", "(III)I"⟩
abbrev cX0_value : ByteArray := prog_2_method_12_code
def yX0_value : MethodName := ⟨RX0, "value", "(III)I"⟩
abbrev cX0_hasElement : ByteArray := prog_2_method_13_code
def yX0_hasElement : MethodName := ⟨RX0, "hasElement", "(I)Z"⟩
abbrev cX0_hasCell : ByteArray := prog_2_method_14_code
def yX0_hasCell : MethodName := ⟨RX0, "hasCell", "(III)Z"⟩
abbrev cX0_otherThanZero : ByteArray := prog_2_method_15_code
def yX0_otherThanZero : MethodName := ⟨RX0, "otherThanZero", "()I"⟩
abbrev cX0_hasLineOf : ByteArray := prog_2_method_16_code
def yX0_hasLineOf : MethodName := ⟨RX0, "hasLineOf", "(LAlgebraCabinet$Algebra;)Z"⟩
abbrev cX0_hasManyTables : ByteArray := prog_2_method_17_code
def yX0_hasManyTables : MethodName := ⟨RX0, "hasManyTables", "()Z"⟩
abbrev cX0_write : ByteArray := prog_2_method_18_code
def yX0_write : MethodName := ⟨RX0, "write", "(LAlgebraCabinet$Bytes;)V"⟩
abbrev cX0_traitSum : ByteArray := prog_2_method_19_code
def yX0_traitSum : MethodName := ⟨RX0, "traitSum", "(I)I"⟩
abbrev cX0_isAssociative : ByteArray := prog_2_method_20_code
def yX0_isAssociative : MethodName := ⟨RX0, "isAssociative", "(I)Z"⟩
abbrev cX0_isSelfDistributive : ByteArray := prog_2_method_21_code
def yX0_isSelfDistributive : MethodName := ⟨RX0, "isSelfDistributive", "(I)Z"⟩
abbrev cX0_hasNeutral : ByteArray := prog_2_method_22_code
def yX0_hasNeutral : MethodName := ⟨RX0, "hasNeutral", "(I)Z"⟩
abbrev cX0_isLatin : ByteArray := prog_2_method_23_code
def yX0_isLatin : MethodName := ⟨RX0, "isLatin", "(I)Z"⟩
abbrev cX0_isIdempotent : ByteArray := prog_2_method_24_code
def yX0_isIdempotent : MethodName := ⟨RX0, "isIdempotent", "(I)Z"⟩
abbrev cX0_powerPath : ByteArray := prog_2_method_25_code
def yX0_powerPath : MethodName := ⟨RX0, "powerPath", "(II)I"⟩
abbrev cX0_centreBits : ByteArray := prog_2_method_26_code
def yX0_centreBits : MethodName := ⟨RX0, "centreBits", "(I)I"⟩
abbrev cX0_allBits : ByteArray := prog_2_method_27_code
def yX0_allBits : MethodName := ⟨RX0, "allBits", "()I"⟩
abbrev cX0_grown : ByteArray := prog_2_method_28_code
def yX0_grown : MethodName := ⟨RX0, "grown", "(I)I"⟩
abbrev cX0_rowValues : ByteArray := prog_2_method_29_code
def yX0_rowValues : MethodName := ⟨RX0, "rowValues", "(III)I"⟩
abbrev cX0_closure : ByteArray := prog_2_method_30_code
def yX0_closure : MethodName := ⟨RX0, "closure", "(I)I"⟩
abbrev cX0_partCount : ByteArray := prog_2_method_31_code
def yX0_partCount : MethodName := ⟨RX0, "partCount", "()I"⟩
abbrev cX0_partBits : ByteArray := prog_2_method_32_code
def yX0_partBits : MethodName := ⟨RX0, "partBits", "(I)I"⟩
abbrev cX0_becomeImage : ByteArray := prog_2_method_33_code
def yX0_becomeImage : MethodName := ⟨RX0, "becomeImage", "(LAlgebraCabinet$Algebra;I[I[I)V"⟩
abbrev cX0_becomeProduct : ByteArray := prog_2_method_34_code
def yX0_becomeProduct : MethodName := ⟨RX0, "becomeProduct", "(LAlgebraCabinet$Algebra;LAlgebraCabinet$Algebra;)V"⟩
def RX1 : String := "AlgebraCabinet$Bytes"
def TX1 : u_T := fun k => match k with
  | 0 => ("AlgebraCabinet$Bytes", "row", "[I", true)
  | _ => ("AlgebraCabinet$Bytes", "length", "I", false)
def tyX1 : Nat → FieldType := fun k => match k with
  | 0 => .array .int
  | _ => .int
abbrev wsX10 : List Cond := u_ws RX1 TX1 2
theorem nmX1 : ∀ a, a < 2 → ∀ b, b < 2 → a ≠ b → (TX1 a).2.1 ≠ (TX1 b).2.1 := by decide +kernel
theorem tyX1_ok : ∀ k, k < 2 → parseFieldDescriptor (TX1 k).2.2.1 = some (tyX1 k) := by decide +kernel
abbrev cX1_init : ByteArray := prog_3_method_1_code
def yX1_init : MethodName := ⟨RX1, "<init>", "(I)V"⟩
abbrev cX1_hasRoom : ByteArray := prog_3_method_2_code
def yX1_hasRoom : MethodName := ⟨RX1, "hasRoom", "(I)Z"⟩
abbrev cX1_addByte : ByteArray := prog_3_method_3_code
def yX1_addByte : MethodName := ⟨RX1, "addByte", "(I)V"⟩
abbrev cX1_addNumber : ByteArray := prog_3_method_4_code
def yX1_addNumber : MethodName := ⟨RX1, "addNumber", "(I)V"⟩
abbrev cX1_byteAt : ByteArray := prog_3_method_5_code
def yX1_byteAt : MethodName := ⟨RX1, "byteAt", "(I)I"⟩
def RX2 : String := "AlgebraCabinet$Congruences"
def TX2 : u_T := fun k => match k with
  | 0 => ("AlgebraCabinet$Congruences", "codes", "[I", true)
  | 1 => ("AlgebraCabinet$Congruences", "found", "I", false)
  | 2 => ("AlgebraCabinet$Congruences", "line", "[I", true)
  | 3 => ("AlgebraCabinet$Congruences", "otherLine", "[I", true)
  | _ => ("AlgebraCabinet$Congruences", "algebra", "LAlgebraCabinet$Algebra;", false)
def tyX2 : Nat → FieldType := fun k => match k with
  | 0 => .array .int
  | 1 => .int
  | 2 => .array .int
  | 3 => .array .int
  | _ => .object "AlgebraCabinet$Algebra"
abbrev wsX20 : List Cond := u_ws RX2 TX2 5
theorem nmX2 : ∀ a, a < 5 → ∀ b, b < 5 → a ≠ b → (TX2 a).2.1 ≠ (TX2 b).2.1 := by decide +kernel
theorem tyX2_ok : ∀ k, k < 5 → parseFieldDescriptor (TX2 k).2.2.1 = some (tyX2 k) := by decide +kernel
abbrev cX2_init : ByteArray := prog_4_method_1_code
def yX2_init : MethodName := ⟨RX2, "<init>", "()V"⟩
abbrev cX2_gather : ByteArray := prog_4_method_2_code
def yX2_gather : MethodName := ⟨RX2, "gather", "(LAlgebraCabinet$Algebra;)V"⟩
abbrev cX2_nextPartition : ByteArray := prog_4_method_3_code
def yX2_nextPartition : MethodName := ⟨RX2, "nextPartition", "()Z"⟩
abbrev cX2_clash : ByteArray := prog_4_method_4_code
def yX2_clash : MethodName := ⟨RX2, "clash", "()I"⟩
abbrev cX2_clashOf : ByteArray := prog_4_method_5_code
def yX2_clashOf : MethodName := ⟨RX2, "clashOf", "(III)I"⟩
abbrev cX2_has : ByteArray := prog_4_method_6_code
def yX2_has : MethodName := ⟨RX2, "has", "(I)Z"⟩
abbrev cX2_choose : ByteArray := prog_4_method_7_code
def yX2_choose : MethodName := ⟨RX2, "choose", "(I)V"⟩
abbrev cX2_decode : ByteArray := prog_4_method_8_code
def yX2_decode : MethodName := ⟨RX2, "decode", "(I[I)V"⟩
abbrev cX2_number : ByteArray := prog_4_method_9_code
def yX2_number : MethodName := ⟨RX2, "number", "()I"⟩
abbrev cX2_join : ByteArray := prog_4_method_10_code
def yX2_join : MethodName := ⟨RX2, "join", "(II)V"⟩
abbrev cX2_joining : ByteArray := prog_4_method_11_code
def yX2_joining : MethodName := ⟨RX2, "joining", "(II)I"⟩
abbrev cX2_above : ByteArray := prog_4_method_12_code
def yX2_above : MethodName := ⟨RX2, "above", "(II)I"⟩
abbrev cX2_below : ByteArray := prog_4_method_13_code
def yX2_below : MethodName := ⟨RX2, "below", "(II)I"⟩
def RX3 : String := "AlgebraCabinet$History"
def TX3 : u_T := fun k => match k with
  | 0 => ("AlgebraCabinet$History", "before", "[LAlgebraCabinet$Algebra;", true)
  | 1 => ("AlgebraCabinet$History", "drawerOf", "[I", true)
  | 2 => ("AlgebraCabinet$History", "oldest", "I", false)
  | _ => ("AlgebraCabinet$History", "kept", "I", false)
def tyX3 : Nat → FieldType := fun k => match k with
  | 0 => .array (.object "AlgebraCabinet$Algebra")
  | 1 => .array .int
  | 2 => .int
  | _ => .int
abbrev wsX30 : List Cond := u_ws RX3 TX3 4
theorem nmX3 : ∀ a, a < 4 → ∀ b, b < 4 → a ≠ b → (TX3 a).2.1 ≠ (TX3 b).2.1 := by decide +kernel
theorem tyX3_ok : ∀ k, k < 4 → parseFieldDescriptor (TX3 k).2.2.1 = some (tyX3 k) := by decide +kernel
abbrev cX3_init : ByteArray := prog_5_method_1_code
def yX3_init : MethodName := ⟨RX3, "<init>", "()V"⟩
abbrev cX3_keep : ByteArray := prog_5_method_2_code
def yX3_keep : MethodName := ⟨RX3, "keep", "(ILAlgebraCabinet$Algebra;)V"⟩
abbrev cX3_takeBack : ByteArray := prog_5_method_3_code
def yX3_takeBack : MethodName := ⟨RX3, "takeBack", "([LAlgebraCabinet$Algebra;)I"⟩
def RX4 : String := "AlgebraCabinet$LawList"
def TX4 : u_T := fun k => match k with
  | 0 => ("AlgebraCabinet$LawList", "lawCount", "I", false)
  | 1 => ("AlgebraCabinet$LawList", "sameCount", "I", false)
  | 2 => ("AlgebraCabinet$LawList", "termCount", "I", false)
  | 3 => ("AlgebraCabinet$LawList", "lawStart", "[I", true)
  | 4 => ("AlgebraCabinet$LawList", "variables", "[I", true)
  | 5 => ("AlgebraCabinet$LawList", "sameStart", "[I", true)
  | 6 => ("AlgebraCabinet$LawList", "sameRight", "[I", true)
  | 7 => ("AlgebraCabinet$LawList", "sign", "[I", true)
  | 8 => ("AlgebraCabinet$LawList", "arguments", "[I", true)
  | _ => ("AlgebraCabinet$LawList", "second", "[I", true)
def tyX4 : Nat → FieldType := fun k => match k with
  | 0 => .int
  | 1 => .int
  | 2 => .int
  | 3 => .array .int
  | 4 => .array .int
  | 5 => .array .int
  | 6 => .array .int
  | 7 => .array .int
  | 8 => .array .int
  | _ => .array .int
abbrev wsX40 : List Cond := u_ws RX4 TX4 10
theorem nmX4 : ∀ a, a < 10 → ∀ b, b < 10 → a ≠ b → (TX4 a).2.1 ≠ (TX4 b).2.1 := by decide +kernel
theorem tyX4_ok : ∀ k, k < 10 → parseFieldDescriptor (TX4 k).2.2.1 = some (tyX4 k) := by decide +kernel
abbrev cX4_init : ByteArray := prog_6_method_1_code
def yX4_init : MethodName := ⟨RX4, "<init>", "()V"⟩
abbrev cX4_isHeld : ByteArray := prog_6_method_2_code
def yX4_isHeld : MethodName := ⟨RX4, "isHeld", "()Z"⟩
abbrev cX4_clear : ByteArray := prog_6_method_3_code
def yX4_clear : MethodName := ⟨RX4, "clear", "()V"⟩
abbrev cX4_addTerm : ByteArray := prog_6_method_4_code
def yX4_addTerm : MethodName := ⟨RX4, "addTerm", "(I)I"⟩
abbrev cX4_endSame : ByteArray := prog_6_method_5_code
def yX4_endSame : MethodName := ⟨RX4, "endSame", "(I)V"⟩
abbrev cX4_endLaw : ByteArray := prog_6_method_6_code
def yX4_endLaw : MethodName := ⟨RX4, "endLaw", "()V"⟩
abbrev cX4_fits : ByteArray := prog_6_method_7_code
def yX4_fits : MethodName := ⟨RX4, "fits", "(LAlgebraCabinet$Algebra;)Z"⟩
def RX5 : String := "AlgebraCabinet$LawTrial"
def TX5 : u_T := fun k => match k with
  | 0 => ("AlgebraCabinet$LawTrial", "broken", "I", false)
  | 1 => ("AlgebraCabinet$LawTrial", "firstBreaker", "I", false)
  | 2 => ("AlgebraCabinet$LawTrial", "reach", "I", false)
  | 3 => ("AlgebraCabinet$LawTrial", "given", "[I", true)
  | _ => ("AlgebraCabinet$LawTrial", "values", "[I", true)
def tyX5 : Nat → FieldType := fun k => match k with
  | 0 => .int
  | 1 => .int
  | 2 => .int
  | 3 => .array .int
  | _ => .array .int
abbrev wsX50 : List Cond := u_ws RX5 TX5 5
theorem nmX5 : ∀ a, a < 5 → ∀ b, b < 5 → a ≠ b → (TX5 a).2.1 ≠ (TX5 b).2.1 := by decide +kernel
theorem tyX5_ok : ∀ k, k < 5 → parseFieldDescriptor (TX5 k).2.2.1 = some (tyX5 k) := by decide +kernel
abbrev cX5_init : ByteArray := prog_7_method_1_code
def yX5_init : MethodName := ⟨RX5, "<init>", "()V"⟩
abbrev cX5_firstBroken : ByteArray := prog_7_method_2_code
def yX5_firstBroken : MethodName := ⟨RX5, "firstBroken", "(LAlgebraCabinet$Algebra;LAlgebraCabinet$LawList;)I"⟩
abbrev cX5_tryLaw : ByteArray := prog_7_method_3_code
def yX5_tryLaw : MethodName := ⟨RX5, "tryLaw", "(LAlgebraCabinet$Algebra;LAlgebraCabinet$LawList;IZ)V"⟩
abbrev cX5_keepsLaw : ByteArray := prog_7_method_4_code
def yX5_keepsLaw : MethodName := ⟨RX5, "keepsLaw", "(LAlgebraCabinet$Algebra;LAlgebraCabinet$LawList;I)Z"⟩
abbrev cX5_agrees : ByteArray := prog_7_method_5_code
def yX5_agrees : MethodName := ⟨RX5, "agrees", "(LAlgebraCabinet$Algebra;LAlgebraCabinet$LawList;I)Z"⟩
def RX6 : String := "AlgebraCabinet$LeastForm"
def TX6 : u_T := fun k => match k with
  | 0 => ("AlgebraCabinet$LeastForm", "bestBack", "[I", true)
  | 1 => ("AlgebraCabinet$LeastForm", "bestForth", "[I", true)
  | 2 => ("AlgebraCabinet$LeastForm", "selfMaps", "I", false)
  | 3 => ("AlgebraCabinet$LeastForm", "reach", "I", false)
  | 4 => ("AlgebraCabinet$LeastForm", "back", "[I", true)
  | _ => ("AlgebraCabinet$LeastForm", "forth", "[I", true)
def tyX6 : Nat → FieldType := fun k => match k with
  | 0 => .array .int
  | 1 => .array .int
  | 2 => .int
  | 3 => .int
  | 4 => .array .int
  | _ => .array .int
abbrev wsX60 : List Cond := u_ws RX6 TX6 6
theorem nmX6 : ∀ a, a < 6 → ∀ b, b < 6 → a ≠ b → (TX6 a).2.1 ≠ (TX6 b).2.1 := by decide +kernel
theorem tyX6_ok : ∀ k, k < 6 → parseFieldDescriptor (TX6 k).2.2.1 = some (tyX6 k) := by decide +kernel
abbrev cX6_init : ByteArray := prog_8_method_1_code
def yX6_init : MethodName := ⟨RX6, "<init>", "()V"⟩
abbrev cX6_seek : ByteArray := prog_8_method_2_code
def yX6_seek : MethodName := ⟨RX6, "seek", "(LAlgebraCabinet$Algebra;Z)Z"⟩
abbrev cX6_keepBest : ByteArray := prog_8_method_3_code
def yX6_keepBest : MethodName := ⟨RX6, "keepBest", "()V"⟩
abbrev cX6_compareWithBest : ByteArray := prog_8_method_4_code
def yX6_compareWithBest : MethodName := ⟨RX6, "compareWithBest", "(LAlgebraCabinet$Algebra;)I"⟩
abbrev cX6_nextNumbering : ByteArray := prog_8_method_5_code
def yX6_nextNumbering : MethodName := ⟨RX6, "nextNumbering", "(I)Z"⟩
abbrev cX6_swap : ByteArray := prog_8_method_6_code
def yX6_swap : MethodName := ⟨RX6, "swap", "(II)V"⟩
def RX7 : String := "AlgebraCabinet$MapSearch"
def TX7 : u_T := fun k => match k with
  | 0 => ("AlgebraCabinet$MapSearch", "found", "I", false)
  | 1 => ("AlgebraCabinet$MapSearch", "code", "I", false)
  | 2 => ("AlgebraCabinet$MapSearch", "from", "LAlgebraCabinet$Algebra;", false)
  | 3 => ("AlgebraCabinet$MapSearch", "to", "LAlgebraCabinet$Algebra;", false)
  | 4 => ("AlgebraCabinet$MapSearch", "wanted", "I", false)
  | 5 => ("AlgebraCabinet$MapSearch", "noTwoAlike", "Z", false)
  | 6 => ("AlgebraCabinet$MapSearch", "eachThere", "Z", false)
  | 7 => ("AlgebraCabinet$MapSearch", "met", "Z", false)
  | 8 => ("AlgebraCabinet$MapSearch", "line", "[I", true)
  | 9 => ("AlgebraCabinet$MapSearch", "operationOf", "[I", true)
  | 10 => ("AlgebraCabinet$MapSearch", "firstOf", "[I", true)
  | 11 => ("AlgebraCabinet$MapSearch", "secondOf", "[I", true)
  | 12 => ("AlgebraCabinet$MapSearch", "valueOf", "[I", true)
  | 13 => ("AlgebraCabinet$MapSearch", "until", "[I", true)
  | _ => ("AlgebraCabinet$MapSearch", "sorted", "I", false)
def tyX7 : Nat → FieldType := fun k => match k with
  | 0 => .int
  | 1 => .int
  | 2 => .object "AlgebraCabinet$Algebra"
  | 3 => .object "AlgebraCabinet$Algebra"
  | 4 => .int
  | 5 => .boolean
  | 6 => .boolean
  | 7 => .boolean
  | 8 => .array .int
  | 9 => .array .int
  | 10 => .array .int
  | 11 => .array .int
  | 12 => .array .int
  | 13 => .array .int
  | _ => .int
abbrev wsX70 : List Cond := u_ws RX7 TX7 15
theorem nmX7 : ∀ a, a < 15 → ∀ b, b < 15 → a ≠ b → (TX7 a).2.1 ≠ (TX7 b).2.1 := by decide +kernel
theorem tyX7_ok : ∀ k, k < 15 → parseFieldDescriptor (TX7 k).2.2.1 = some (tyX7 k) := by decide +kernel
abbrev cX7_init : ByteArray := prog_9_method_1_code
def yX7_init : MethodName := ⟨RX7, "<init>", "()V"⟩
abbrev cX7_seek : ByteArray := prog_9_method_2_code
def yX7_seek : MethodName := ⟨RX7, "seek", "(LAlgebraCabinet$Algebra;LAlgebraCabinet$Algebra;II)Z"⟩
abbrev cX7_sortCells : ByteArray := prog_9_method_3_code
def yX7_sortCells : MethodName := ⟨RX7, "sortCells", "()V"⟩
abbrev cX7_sortCellsOf : ByteArray := prog_9_method_4_code
def yX7_sortCellsOf : MethodName := ⟨RX7, "sortCellsOf", "(II)V"⟩
abbrev cX7_extend : ByteArray := prog_9_method_5_code
def yX7_extend : MethodName := ⟨RX7, "extend", "(II)V"⟩
abbrev cX7_give : ByteArray := prog_9_method_6_code
def yX7_give : MethodName := ⟨RX7, "give", "(III)V"⟩
abbrev cX7_keepsCells : ByteArray := prog_9_method_7_code
def yX7_keepsCells : MethodName := ⟨RX7, "keepsCells", "(I)Z"⟩
abbrev cX7_meet : ByteArray := prog_9_method_8_code
def yX7_meet : MethodName := ⟨RX7, "meet", "()V"⟩
def RX8 : String := "AlgebraCabinet$ModelSearch"
def TX8 : u_T := fun k => match k with
  | 0 => ("AlgebraCabinet$ModelSearch", "forms", "I", false)
  | 1 => ("AlgebraCabinet$ModelSearch", "all", "I", false)
  | 2 => ("AlgebraCabinet$ModelSearch", "leastForm", "LAlgebraCabinet$LeastForm;", true)
  | _ => ("AlgebraCabinet$ModelSearch", "trial", "LAlgebraCabinet$LawTrial;", true)
def tyX8 : Nat → FieldType := fun k => match k with
  | 0 => .int
  | 1 => .int
  | 2 => .object "AlgebraCabinet$LeastForm"
  | _ => .object "AlgebraCabinet$LawTrial"
abbrev wsX80 : List Cond := u_ws RX8 TX8 4
theorem nmX8 : ∀ a, a < 4 → ∀ b, b < 4 → a ≠ b → (TX8 a).2.1 ≠ (TX8 b).2.1 := by decide +kernel
theorem tyX8_ok : ∀ k, k < 4 → parseFieldDescriptor (TX8 k).2.2.1 = some (tyX8 k) := by decide +kernel
abbrev cX8_init : ByteArray := prog_10_method_1_code
def yX8_init : MethodName := ⟨RX8, "<init>", "(LAlgebraCabinet$LeastForm;LAlgebraCabinet$LawTrial;)V"⟩
abbrev cX8_seek : ByteArray := prog_10_method_2_code
def yX8_seek : MethodName := ⟨RX8, "seek", "(LAlgebraCabinet$Algebra;LAlgebraCabinet$LawList;I)Z"⟩
abbrev cX8_advance : ByteArray := prog_10_method_3_code
def yX8_advance : MethodName := ⟨RX8, "advance", "(LAlgebraCabinet$Algebra;I)Z"⟩
def RX9 : String := "AlgebraCabinet$TermFunctions"
def TX9 : u_T := fun k => match k with
  | 0 => ("AlgebraCabinet$TermFunctions", "codes", "[I", true)
  | 1 => ("AlgebraCabinet$TermFunctions", "found", "I", false)
  | 2 => ("AlgebraCabinet$TermFunctions", "tooMany", "Z", false)
  | 3 => ("AlgebraCabinet$TermFunctions", "lines", "[I", true)
  | 4 => ("AlgebraCabinet$TermFunctions", "line", "[I", true)
  | _ => ("AlgebraCabinet$TermFunctions", "algebra", "LAlgebraCabinet$Algebra;", false)
def tyX9 : Nat → FieldType := fun k => match k with
  | 0 => .array .int
  | 1 => .int
  | 2 => .boolean
  | 3 => .array .int
  | 4 => .array .int
  | _ => .object "AlgebraCabinet$Algebra"
abbrev wsX90 : List Cond := u_ws RX9 TX9 6
theorem nmX9 : ∀ a, a < 6 → ∀ b, b < 6 → a ≠ b → (TX9 a).2.1 ≠ (TX9 b).2.1 := by decide +kernel
theorem tyX9_ok : ∀ k, k < 6 → parseFieldDescriptor (TX9 k).2.2.1 = some (tyX9 k) := by decide +kernel
abbrev cX9_init : ByteArray := prog_11_method_1_code
def yX9_init : MethodName := ⟨RX9, "<init>", "()V"⟩
abbrev cX9_gather : ByteArray := prog_11_method_2_code
def yX9_gather : MethodName := ⟨RX9, "gather", "(LAlgebraCabinet$Algebra;)V"⟩
abbrev cX9_combineUpTo : ByteArray := prog_11_method_3_code
def yX9_combineUpTo : MethodName := ⟨RX9, "combineUpTo", "(II)V"⟩
abbrev cX9_combine : ByteArray := prog_11_method_4_code
def yX9_combine : MethodName := ⟨RX9, "combine", "(III)V"⟩
abbrev cX9_addLine : ByteArray := prog_11_method_5_code
def yX9_addLine : MethodName := ⟨RX9, "addLine", "()V"⟩
abbrev cX9_placeOf : ByteArray := prog_11_method_6_code
def yX9_placeOf : MethodName := ⟨RX9, "placeOf", "(I)I"⟩
def RX10 : String := "AlgebraCabinet$TextReader"
def TX10 : u_T := fun k => match k with
  | 0 => ("AlgebraCabinet$TextReader", "faultKind", "I", false)
  | 1 => ("AlgebraCabinet$TextReader", "faultPlace", "I", false)
  | 2 => ("AlgebraCabinet$TextReader", "text", "LAlgebraCabinet$Bytes;", false)
  | 3 => ("AlgebraCabinet$TextReader", "at", "I", false)
  | 4 => ("AlgebraCabinet$TextReader", "list", "LAlgebraCabinet$LawList;", false)
  | 5 => ("AlgebraCabinet$TextReader", "signs", "[I", true)
  | 6 => ("AlgebraCabinet$TextReader", "signPlace", "[I", true)
  | 7 => ("AlgebraCabinet$TextReader", "termPlace", "[I", true)
  | _ => ("AlgebraCabinet$TextReader", "argumentsOf", "[I", true)
def tyX10 : Nat → FieldType := fun k => match k with
  | 0 => .int
  | 1 => .int
  | 2 => .object "AlgebraCabinet$Bytes"
  | 3 => .int
  | 4 => .object "AlgebraCabinet$LawList"
  | 5 => .array .int
  | 6 => .array .int
  | 7 => .array .int
  | _ => .array .int
abbrev wsX100 : List Cond := u_ws RX10 TX10 9
theorem nmX10 : ∀ a, a < 9 → ∀ b, b < 9 → a ≠ b → (TX10 a).2.1 ≠ (TX10 b).2.1 := by decide +kernel
theorem tyX10_ok : ∀ k, k < 9 → parseFieldDescriptor (TX10 k).2.2.1 = some (tyX10 k) := by decide +kernel
abbrev cX10_init : ByteArray := prog_12_method_1_code
def yX10_init : MethodName := ⟨RX10, "<init>", "()V"⟩
abbrev cX10_begin : ByteArray := prog_12_method_2_code
def yX10_begin : MethodName := ⟨RX10, "begin", "(LAlgebraCabinet$Bytes;)V"⟩
abbrev cX10_failAt : ByteArray := prog_12_method_3_code
def yX10_failAt : MethodName := ⟨RX10, "failAt", "(II)Z"⟩
abbrev cX10_passOver : ByteArray := prog_12_method_4_code
def yX10_passOver : MethodName := ⟨RX10, "passOver", "(LAlgebraCabinet$Bytes;)V"⟩
abbrev cX10_readAlgebra : ByteArray := prog_12_method_5_code
def yX10_readAlgebra : MethodName := ⟨RX10, "readAlgebra", "(LAlgebraCabinet$Bytes;LAlgebraCabinet$Algebra;)V"⟩
abbrev cX10_readTables : ByteArray := prog_12_method_6_code
def yX10_readTables : MethodName := ⟨RX10, "readTables", "(LAlgebraCabinet$Algebra;)V"⟩
abbrev cX10_readOperation : ByteArray := prog_12_method_7_code
def yX10_readOperation : MethodName := ⟨RX10, "readOperation", "(LAlgebraCabinet$Algebra;)Z"⟩
abbrev cX10_arityOf : ByteArray := prog_12_method_8_code
def yX10_arityOf : MethodName := ⟨RX10, "arityOf", "(I)I"⟩
abbrev cX10_readCell : ByteArray := prog_12_method_9_code
def yX10_readCell : MethodName := ⟨RX10, "readCell", "(LAlgebraCabinet$Algebra;I)Z"⟩
abbrev cX10_readLaws : ByteArray := prog_12_method_10_code
def yX10_readLaws : MethodName := ⟨RX10, "readLaws", "(LAlgebraCabinet$Bytes;LAlgebraCabinet$LawList;)V"⟩
abbrev cX10_gatherSigns : ByteArray := prog_12_method_11_code
def yX10_gatherSigns : MethodName := ⟨RX10, "gatherSigns", "()V"⟩
abbrev cX10_failHere : ByteArray := prog_12_method_12_code
def yX10_failHere : MethodName := ⟨RX10, "failHere", "(I)Z"⟩
abbrev cX10_takes : ByteArray := prog_12_method_13_code
def yX10_takes : MethodName := ⟨RX10, "takes", "(I)Z"⟩
abbrev cX10_readLaw : ByteArray := prog_12_method_14_code
def yX10_readLaw : MethodName := ⟨RX10, "readLaw", "()Z"⟩
abbrev cX10_readSame : ByteArray := prog_12_method_15_code
def yX10_readSame : MethodName := ⟨RX10, "readSame", "()Z"⟩
abbrev cX10_readTerm : ByteArray := prog_12_method_16_code
def yX10_readTerm : MethodName := ⟨RX10, "readTerm", "(I)Z"⟩
abbrev cX10_readArguments : ByteArray := prog_12_method_17_code
def yX10_readArguments : MethodName := ⟨RX10, "readArguments", "(II)Z"⟩
abbrev cX10_termSign : ByteArray := prog_12_method_18_code
def yX10_termSign : MethodName := ⟨RX10, "termSign", "(I)I"⟩
abbrev cX10_compareArguments : ByteArray := prog_12_method_19_code
def yX10_compareArguments : MethodName := ⟨RX10, "compareArguments", "()V"⟩
def RX11 : String := "AlgebraCabinet"
def TX11 : u_T := fun k => match k with
  | 0 => ("AlgebraCabinet", "tape", "LAlgebraCabinet$Bytes;", true)
  | 1 => ("AlgebraCabinet", "told", "LAlgebraCabinet$Bytes;", true)
  | 2 => ("AlgebraCabinet", "drawers", "[LAlgebraCabinet$Algebra;", true)
  | 3 => ("AlgebraCabinet", "draft", "LAlgebraCabinet$Algebra;", true)
  | 4 => ("AlgebraCabinet", "history", "LAlgebraCabinet$History;", true)
  | 5 => ("AlgebraCabinet", "lists", "[LAlgebraCabinet$LawList;", true)
  | 6 => ("AlgebraCabinet", "spareList", "LAlgebraCabinet$LawList;", false)
  | 7 => ("AlgebraCabinet", "reader", "LAlgebraCabinet$TextReader;", true)
  | 8 => ("AlgebraCabinet", "trial", "LAlgebraCabinet$LawTrial;", true)
  | 9 => ("AlgebraCabinet", "congruences", "LAlgebraCabinet$Congruences;", true)
  | 10 => ("AlgebraCabinet", "maps", "LAlgebraCabinet$MapSearch;", true)
  | 11 => ("AlgebraCabinet", "leastForm", "LAlgebraCabinet$LeastForm;", true)
  | 12 => ("AlgebraCabinet", "functions", "LAlgebraCabinet$TermFunctions;", true)
  | 13 => ("AlgebraCabinet", "modelSearch", "LAlgebraCabinet$ModelSearch;", true)
  | 14 => ("AlgebraCabinet", "oldOf", "[I", true)
  | _ => ("AlgebraCabinet", "newOf", "[I", true)
def tyX11 : Nat → FieldType := fun k => match k with
  | 0 => .object "AlgebraCabinet$Bytes"
  | 1 => .object "AlgebraCabinet$Bytes"
  | 2 => .array (.object "AlgebraCabinet$Algebra")
  | 3 => .object "AlgebraCabinet$Algebra"
  | 4 => .object "AlgebraCabinet$History"
  | 5 => .array (.object "AlgebraCabinet$LawList")
  | 6 => .object "AlgebraCabinet$LawList"
  | 7 => .object "AlgebraCabinet$TextReader"
  | 8 => .object "AlgebraCabinet$LawTrial"
  | 9 => .object "AlgebraCabinet$Congruences"
  | 10 => .object "AlgebraCabinet$MapSearch"
  | 11 => .object "AlgebraCabinet$LeastForm"
  | 12 => .object "AlgebraCabinet$TermFunctions"
  | 13 => .object "AlgebraCabinet$ModelSearch"
  | 14 => .array .int
  | _ => .array .int
abbrev wsX110 : List Cond := u_ws RX11 TX11 16
theorem nmX11 : ∀ a, a < 16 → ∀ b, b < 16 → a ≠ b → (TX11 a).2.1 ≠ (TX11 b).2.1 := by decide +kernel
theorem tyX11_ok : ∀ k, k < 16 → parseFieldDescriptor (TX11 k).2.2.1 = some (tyX11 k) := by decide +kernel
abbrev cX11_init : ByteArray := prog_1_method_1_code
def yX11_init : MethodName := ⟨RX11, "<init>", "()V"⟩
abbrev cX11_feed : ByteArray := prog_1_method_2_code
def yX11_feed : MethodName := ⟨RX11, "feed", "(IIIII)I"⟩
abbrev cX11_trim : ByteArray := prog_1_method_3_code
def yX11_trim : MethodName := ⟨RX11, "trim", "(I)I"⟩
abbrev cX11_out : ByteArray := prog_1_method_4_code
def yX11_out : MethodName := ⟨RX11, "out", "(I)I"⟩
abbrev cX11_make : ByteArray := prog_1_method_5_code
def yX11_make : MethodName := ⟨RX11, "make", "(III)I"⟩
abbrev cX11_set : ByteArray := prog_1_method_6_code
def yX11_set : MethodName := ⟨RX11, "set", "(IIIII)I"⟩
abbrev cX11_cell : ByteArray := prog_1_method_7_code
def yX11_cell : MethodName := ⟨RX11, "cell", "(IIIII)I"⟩
abbrev cX11_stamp : ByteArray := prog_1_method_8_code
def yX11_stamp : MethodName := ⟨RX11, "stamp", "(IIIII)I"⟩
abbrev cX11_about : ByteArray := prog_1_method_9_code
def yX11_about : MethodName := ⟨RX11, "about", "(II)I"⟩
abbrev cX11_drop : ByteArray := prog_1_method_10_code
def yX11_drop : MethodName := ⟨RX11, "drop", "(I)I"⟩
abbrev cX11_tell : ByteArray := prog_1_method_11_code
def yX11_tell : MethodName := ⟨RX11, "tell", "(I)I"⟩
abbrev cX11_read : ByteArray := prog_1_method_12_code
def yX11_read : MethodName := ⟨RX11, "read", "(I)I"⟩
abbrev cX11_undo : ByteArray := prog_1_method_13_code
def yX11_undo : MethodName := ⟨RX11, "undo", "()I"⟩
abbrev cX11_traits : ByteArray := prog_1_method_14_code
def yX11_traits : MethodName := ⟨RX11, "traits", "(II)I"⟩
abbrev cX11_powers : ByteArray := prog_1_method_15_code
def yX11_powers : MethodName := ⟨RX11, "powers", "(III)I"⟩
abbrev cX11_centre : ByteArray := prog_1_method_16_code
def yX11_centre : MethodName := ⟨RX11, "centre", "(II)I"⟩
abbrev cX11_laws : ByteArray := prog_1_method_17_code
def yX11_laws : MethodName := ⟨RX11, "laws", "(I)I"⟩
abbrev cX11_fault : ByteArray := prog_1_method_18_code
def yX11_fault : MethodName := ⟨RX11, "fault", "()I"⟩
abbrev cX11_holds : ByteArray := prog_1_method_19_code
def yX11_holds : MethodName := ⟨RX11, "holds", "(II)I"⟩
abbrev cX11_fails : ByteArray := prog_1_method_20_code
def yX11_fails : MethodName := ⟨RX11, "fails", "(III)I"⟩
abbrev cX11_witness : ByteArray := prog_1_method_21_code
def yX11_witness : MethodName := ⟨RX11, "witness", "(III)I"⟩
abbrev cX11_span : ByteArray := prog_1_method_22_code
def yX11_span : MethodName := ⟨RX11, "span", "(II)I"⟩
abbrev cX11_part : ByteArray := prog_1_method_23_code
def yX11_part : MethodName := ⟨RX11, "part", "(II)I"⟩
abbrev cX11_sub : ByteArray := prog_1_method_24_code
def yX11_sub : MethodName := ⟨RX11, "sub", "(III)I"⟩
abbrev cX11_link : ByteArray := prog_1_method_25_code
def yX11_link : MethodName := ⟨RX11, "link", "(III)I"⟩
abbrev cX11_congruence : ByteArray := prog_1_method_26_code
def yX11_congruence : MethodName := ⟨RX11, "congruence", "(II)I"⟩
abbrev cX11_bound : ByteArray := prog_1_method_27_code
def yX11_bound : MethodName := ⟨RX11, "bound", "(IIIZ)I"⟩
abbrev cX11_quotient : ByteArray := prog_1_method_28_code
def yX11_quotient : MethodName := ⟨RX11, "quotient", "(III)I"⟩
abbrev cX11_map : ByteArray := prog_1_method_29_code
def yX11_map : MethodName := ⟨RX11, "map", "(IIII)I"⟩
abbrev cX11_alike : ByteArray := prog_1_method_30_code
def yX11_alike : MethodName := ⟨RX11, "alike", "(II)I"⟩
abbrev cX11_least : ByteArray := prog_1_method_31_code
def yX11_least : MethodName := ⟨RX11, "least", "(II)I"⟩
abbrev cX11_product : ByteArray := prog_1_method_32_code
def yX11_product : MethodName := ⟨RX11, "product", "(III)I"⟩
abbrev cX11_function : ByteArray := prog_1_method_33_code
def yX11_function : MethodName := ⟨RX11, "function", "(II)I"⟩
abbrev cX11_models : ByteArray := prog_1_method_34_code
def yX11_models : MethodName := ⟨RX11, "models", "(IIIZ)I"⟩
abbrev cX11_model : ByteArray := prog_1_method_35_code
def yX11_model : MethodName := ⟨RX11, "model", "(IIIII)I"⟩
abbrev cX11_count : ByteArray := prog_1_method_36_code
def yX11_count : MethodName := ⟨RX11, "count", "(I)I"⟩
abbrev cX11_fullDrawers : ByteArray := prog_1_method_37_code
def yX11_fullDrawers : MethodName := ⟨RX11, "fullDrawers", "()I"⟩
abbrev cX11_fullLists : ByteArray := prog_1_method_38_code
def yX11_fullLists : MethodName := ⟨RX11, "fullLists", "()I"⟩
abbrev cX11_putDraft : ByteArray := prog_1_method_39_code
def yX11_putDraft : MethodName := ⟨RX11, "putDraft", "(I)V"⟩
abbrev cX11_numberMembers : ByteArray := prog_1_method_40_code
def yX11_numberMembers : MethodName := ⟨RX11, "numberMembers", "(II)I"⟩
abbrev cX11_numberClasses : ByteArray := prog_1_method_41_code
def yX11_numberClasses : MethodName := ⟨RX11, "numberClasses", "([II)I"⟩
abbrev cX11_hasBit : ByteArray := prog_1_method_42_code
def yX11_hasBit : MethodName := ⟨RX11, "hasBit", "(II)Z"⟩
abbrev cX11_encode : ByteArray := prog_1_method_43_code
def yX11_encode : MethodName := ⟨RX11, "encode", "([II)I"⟩
abbrev cX11_isDrawer : ByteArray := prog_1_method_44_code
def yX11_isDrawer : MethodName := ⟨RX11, "isDrawer", "(I)Z"⟩
abbrev cX11_isList : ByteArray := prog_1_method_45_code
def yX11_isList : MethodName := ⟨RX11, "isList", "(I)Z"⟩
abbrev cX11_isShape : ByteArray := prog_1_method_46_code
def yX11_isShape : MethodName := ⟨RX11, "isShape", "(II)Z"⟩
abbrev cX11_refuseDrawer : ByteArray := prog_1_method_47_code
def yX11_refuseDrawer : MethodName := ⟨RX11, "refuseDrawer", "(I)I"⟩
abbrev cX11_refuseSource : ByteArray := prog_1_method_48_code
def yX11_refuseSource : MethodName := ⟨RX11, "refuseSource", "(II)I"⟩
abbrev cX11_refuseOperation : ByteArray := prog_1_method_49_code
def yX11_refuseOperation : MethodName := ⟨RX11, "refuseOperation", "(II)I"⟩
abbrev cX11_refuseBinary : ByteArray := prog_1_method_50_code
def yX11_refuseBinary : MethodName := ⟨RX11, "refuseBinary", "(II)I"⟩
abbrev cX11_refusePair : ByteArray := prog_1_method_51_code
def yX11_refusePair : MethodName := ⟨RX11, "refusePair", "(II)I"⟩
abbrev cX11_refuseTrial : ByteArray := prog_1_method_52_code
def yX11_refuseTrial : MethodName := ⟨RX11, "refuseTrial", "(II)I"⟩
abbrev cX11_refuseLaw : ByteArray := prog_1_method_53_code
def yX11_refuseLaw : MethodName := ⟨RX11, "refuseLaw", "(III)I"⟩
abbrev cX11_refuseModels : ByteArray := prog_1_method_54_code
def yX11_refuseModels : MethodName := ⟨RX11, "refuseModels", "(III)I"⟩
def RX12 : String := "AlgebraCabinetModel"
def TX12 : u_T := fun k => match k with
  | 0 => ("AlgebraCabinetModel", "thrown", "I", false)
  | 1 => ("AlgebraCabinetModel", "tape", "[I", true)
  | 2 => ("AlgebraCabinetModel", "taped", "I", false)
  | 3 => ("AlgebraCabinetModel", "out", "[I", true)
  | 4 => ("AlgebraCabinetModel", "outMany", "I", false)
  | 5 => ("AlgebraCabinetModel", "fault", "I", false)
  | 6 => ("AlgebraCabinetModel", "sizes", "[I", true)
  | 7 => ("AlgebraCabinetModel", "ops", "[I", true)
  | 8 => ("AlgebraCabinetModel", "arities", "[I", true)
  | 9 => ("AlgebraCabinetModel", "cells", "[I", true)
  | 10 => ("AlgebraCabinetModel", "oldDrawer", "[I", true)
  | 11 => ("AlgebraCabinetModel", "oldSize", "[I", true)
  | 12 => ("AlgebraCabinetModel", "oldOps", "[I", true)
  | 13 => ("AlgebraCabinetModel", "oldArities", "[I", true)
  | 14 => ("AlgebraCabinetModel", "oldCells", "[I", true)
  | 15 => ("AlgebraCabinetModel", "changeEnd", "I", false)
  | 16 => ("AlgebraCabinetModel", "changes", "I", false)
  | 17 => ("AlgebraCabinetModel", "readAt", "I", false)
  | 18 => ("AlgebraCabinetModel", "when", "[I", true)
  | 19 => ("AlgebraCabinetModel", "termSort", "[I", true)
  | 20 => ("AlgebraCabinetModel", "termMany", "[I", true)
  | 21 => ("AlgebraCabinetModel", "termFirst", "[I", true)
  | 22 => ("AlgebraCabinetModel", "termSecond", "[I", true)
  | 23 => ("AlgebraCabinetModel", "termPlace", "[I", true)
  | 24 => ("AlgebraCabinetModel", "terms", "[I", true)
  | 25 => ("AlgebraCabinetModel", "lefts", "[I", true)
  | 26 => ("AlgebraCabinetModel", "rights", "[I", true)
  | 27 => ("AlgebraCabinetModel", "sames", "[I", true)
  | 28 => ("AlgebraCabinetModel", "lawSame", "[I", true)
  | 29 => ("AlgebraCabinetModel", "lawTerm", "[I", true)
  | 30 => ("AlgebraCabinetModel", "lawMany", "[I", true)
  | 31 => ("AlgebraCabinetModel", "textEnd", "I", false)
  | 32 => ("AlgebraCabinetModel", "textAt", "I", false)
  | 33 => ("AlgebraCabinetModel", "sign", "I", false)
  | 34 => ("AlgebraCabinetModel", "signPlace", "I", false)
  | 35 => ("AlgebraCabinetModel", "wrong", "I", false)
  | 36 => ("AlgebraCabinetModel", "wrongPlace", "I", false)
  | 37 => ("AlgebraCabinetModel", "x", "I", false)
  | 38 => ("AlgebraCabinetModel", "y", "I", false)
  | 39 => ("AlgebraCabinetModel", "z", "I", false)
  | 40 => ("AlgebraCabinetModel", "firstFail", "I", false)
  | 41 => ("AlgebraCabinetModel", "renamed", "[I", true)
  | 42 => ("AlgebraCabinetModel", "line", "[I", true)
  | 43 => ("AlgebraCabinetModel", "many", "I", false)
  | 44 => ("AlgebraCabinetModel", "one", "[I", true)
  | 45 => ("AlgebraCabinetModel", "two", "[I", true)
  | 46 => ("AlgebraCabinetModel", "image", "[I", true)
  | 47 => ("AlgebraCabinetModel", "wanted", "I", false)
  | 48 => ("AlgebraCabinetModel", "name", "[I", true)
  | 49 => ("AlgebraCabinetModel", "back", "[I", true)
  | 50 => ("AlgebraCabinetModel", "least", "[I", true)
  | 51 => ("AlgebraCabinetModel", "try1", "[I", true)
  | 52 => ("AlgebraCabinetModel", "functions", "[I", true)
  | 53 => ("AlgebraCabinetModel", "functionMany", "I", false)
  | _ => ("AlgebraCabinetModel", "worked", "[I", true)
def tyX12 : Nat → FieldType := fun k => match k with
  | 0 => .int
  | 1 => .array .int
  | 2 => .int
  | 3 => .array .int
  | 4 => .int
  | 5 => .int
  | 6 => .array .int
  | 7 => .array .int
  | 8 => .array .int
  | 9 => .array .int
  | 10 => .array .int
  | 11 => .array .int
  | 12 => .array .int
  | 13 => .array .int
  | 14 => .array .int
  | 15 => .int
  | 16 => .int
  | 17 => .int
  | 18 => .array .int
  | 19 => .array .int
  | 20 => .array .int
  | 21 => .array .int
  | 22 => .array .int
  | 23 => .array .int
  | 24 => .array .int
  | 25 => .array .int
  | 26 => .array .int
  | 27 => .array .int
  | 28 => .array .int
  | 29 => .array .int
  | 30 => .array .int
  | 31 => .int
  | 32 => .int
  | 33 => .int
  | 34 => .int
  | 35 => .int
  | 36 => .int
  | 37 => .int
  | 38 => .int
  | 39 => .int
  | 40 => .int
  | 41 => .array .int
  | 42 => .array .int
  | 43 => .int
  | 44 => .array .int
  | 45 => .array .int
  | 46 => .array .int
  | 47 => .int
  | 48 => .array .int
  | 49 => .array .int
  | 50 => .array .int
  | 51 => .array .int
  | 52 => .array .int
  | 53 => .int
  | _ => .array .int
abbrev wsX120 : List Cond := u_ws RX12 TX12 55
theorem nmX12 : ∀ a, a < 55 → ∀ b, b < 55 → a ≠ b → (TX12 a).2.1 ≠ (TX12 b).2.1 := by decide +kernel
theorem tyX12_ok : ∀ k, k < 55 → parseFieldDescriptor (TX12 k).2.2.1 = some (tyX12 k) := by decide +kernel
abbrev cX12_init : ByteArray := prog_14_method_1_code
def yX12_init : MethodName := ⟨RX12, "<init>", "()V"⟩
abbrev cX12_feed : ByteArray := prog_14_method_3_code
def yX12_feed : MethodName := ⟨RX12, "feed", "(IIIII)I"⟩
abbrev cX12_four : ByteArray := prog_14_method_4_code
def yX12_four : MethodName := ⟨RX12, "four", "(I)V"⟩
abbrev cX12_trim : ByteArray := prog_14_method_5_code
def yX12_trim : MethodName := ⟨RX12, "trim", "(I)I"⟩
abbrev cX12_out : ByteArray := prog_14_method_6_code
def yX12_out : MethodName := ⟨RX12, "out", "(I)I"⟩
abbrev cX12_isDrawer : ByteArray := prog_14_method_7_code
def yX12_isDrawer : MethodName := ⟨RX12, "isDrawer", "(I)Z"⟩
abbrev cX12_isList : ByteArray := prog_14_method_8_code
def yX12_isList : MethodName := ⟨RX12, "isList", "(I)Z"⟩
abbrev cX12_power : ByteArray := prog_14_method_9_code
def yX12_power : MethodName := ⟨RX12, "power", "(II)I"⟩
abbrev cX12_arity : ByteArray := prog_14_method_10_code
def yX12_arity : MethodName := ⟨RX12, "arity", "(II)I"⟩
abbrev cX12_cellsOf : ByteArray := prog_14_method_11_code
def yX12_cellsOf : MethodName := ⟨RX12, "cellsOf", "(I)I"⟩
abbrev cX12_at : ByteArray := prog_14_method_12_code
def yX12_at : MethodName := ⟨RX12, "at", "(IIII)I"⟩
abbrev cX12_value : ByteArray := prog_14_method_13_code
def yX12_value : MethodName := ⟨RX12, "value", "(IIII)I"⟩
abbrev cX12_lineAt : ByteArray := prog_14_method_14_code
def yX12_lineAt : MethodName := ⟨RX12, "lineAt", "(II)I"⟩
abbrev cX12_copy : ByteArray := prog_14_method_15_code
def yX12_copy : MethodName := ⟨RX12, "copy", "(II)V"⟩
abbrev cX12_keep : ByteArray := prog_14_method_16_code
def yX12_keep : MethodName := ⟨RX12, "keep", "(I)V"⟩
abbrev cX12_areArities : ByteArray := prog_14_method_17_code
def yX12_areArities : MethodName := ⟨RX12, "areArities", "(I)Z"⟩
abbrev cX12_blank : ByteArray := prog_14_method_18_code
def yX12_blank : MethodName := ⟨RX12, "blank", "(III)V"⟩
abbrev cX12_make : ByteArray := prog_14_method_19_code
def yX12_make : MethodName := ⟨RX12, "make", "(III)I"⟩
abbrev cX12_refuse : ByteArray := prog_14_method_20_code
def yX12_refuse : MethodName := ⟨RX12, "refuse", "(I)I"⟩
abbrev cX12_isOp : ByteArray := prog_14_method_21_code
def yX12_isOp : MethodName := ⟨RX12, "isOp", "(II)Z"⟩
abbrev cX12_isElement : ByteArray := prog_14_method_22_code
def yX12_isElement : MethodName := ⟨RX12, "isElement", "(II)Z"⟩
abbrev cX12_areElements : ByteArray := prog_14_method_23_code
def yX12_areElements : MethodName := ⟨RX12, "areElements", "(IIII)Z"⟩
abbrev cX12_set : ByteArray := prog_14_method_24_code
def yX12_set : MethodName := ⟨RX12, "set", "(IIIII)I"⟩
abbrev cX12_cell : ByteArray := prog_14_method_25_code
def yX12_cell : MethodName := ⟨RX12, "cell", "(IIIII)I"⟩
abbrev cX12_stamp : ByteArray := prog_14_method_26_code
def yX12_stamp : MethodName := ⟨RX12, "stamp", "(IIIII)I"⟩
abbrev cX12_about : ByteArray := prog_14_method_27_code
def yX12_about : MethodName := ⟨RX12, "about", "(II)I"⟩
abbrev cX12_drop : ByteArray := prog_14_method_28_code
def yX12_drop : MethodName := ⟨RX12, "drop", "(I)I"⟩
abbrev cX12_say : ByteArray := prog_14_method_29_code
def yX12_say : MethodName := ⟨RX12, "say", "(I)V"⟩
abbrev cX12_tell : ByteArray := prog_14_method_30_code
def yX12_tell : MethodName := ⟨RX12, "tell", "(I)I"⟩
abbrev cX12_readFault : ByteArray := prog_14_method_31_code
def yX12_readFault : MethodName := ⟨RX12, "readFault", "(I)I"⟩
abbrev cX12_byteAt : ByteArray := prog_14_method_32_code
def yX12_byteAt : MethodName := ⟨RX12, "byteAt", "(I)I"⟩
abbrev cX12_read : ByteArray := prog_14_method_33_code
def yX12_read : MethodName := ⟨RX12, "read", "(I)I"⟩
abbrev cX12_undo : ByteArray := prog_14_method_34_code
def yX12_undo : MethodName := ⟨RX12, "undo", "()I"⟩
abbrev cX12_refuseTwo : ByteArray := prog_14_method_35_code
def yX12_refuseTwo : MethodName := ⟨RX12, "refuseTwo", "(II)I"⟩
abbrev cX12_traits : ByteArray := prog_14_method_36_code
def yX12_traits : MethodName := ⟨RX12, "traits", "(II)I"⟩
abbrev cX12_powers : ByteArray := prog_14_method_37_code
def yX12_powers : MethodName := ⟨RX12, "powers", "(III)I"⟩
abbrev cX12_centre : ByteArray := prog_14_method_38_code
def yX12_centre : MethodName := ⟨RX12, "centre", "(II)I"⟩
abbrev cX12_nextSign : ByteArray := prog_14_method_39_code
def yX12_nextSign : MethodName := ⟨RX12, "nextSign", "()V"⟩
abbrev cX12_wrong : ByteArray := prog_14_method_40_code
def yX12_wrong : MethodName := ⟨RX12, "wrong", "(I)V"⟩
abbrev cX12_takes : ByteArray := prog_14_method_41_code
def yX12_takes : MethodName := ⟨RX12, "takes", "(I)Z"⟩
abbrev cX12_must : ByteArray := prog_14_method_42_code
def yX12_must : MethodName := ⟨RX12, "must", "(I)V"⟩
abbrev cX12_isVariable : ByteArray := prog_14_method_43_code
def yX12_isVariable : MethodName := ⟨RX12, "isVariable", "(I)Z"⟩
abbrev cX12_isLetter : ByteArray := prog_14_method_44_code
def yX12_isLetter : MethodName := ⟨RX12, "isLetter", "(I)Z"⟩
abbrev cX12_term : ByteArray := prog_14_method_45_code
def yX12_term : MethodName := ⟨RX12, "term", "(I)I"⟩
abbrev cX12_same : ByteArray := prog_14_method_46_code
def yX12_same : MethodName := ⟨RX12, "same", "()V"⟩
abbrev cX12_law : ByteArray := prog_14_method_47_code
def yX12_law : MethodName := ⟨RX12, "law", "()V"⟩
abbrev cX12_agree : ByteArray := prog_14_method_48_code
def yX12_agree : MethodName := ⟨RX12, "agree", "()V"⟩
abbrev cX12_laws : ByteArray := prog_14_method_49_code
def yX12_laws : MethodName := ⟨RX12, "laws", "(I)I"⟩
abbrev cX12_fault : ByteArray := prog_14_method_50_code
def yX12_fault : MethodName := ⟨RX12, "fault", "()I"⟩
abbrev cX12_fits : ByteArray := prog_14_method_51_code
def yX12_fits : MethodName := ⟨RX12, "fits", "(II)Z"⟩
abbrev cX12_worth : ByteArray := prog_14_method_52_code
def yX12_worth : MethodName := ⟨RX12, "worth", "(III)I"⟩
abbrev cX12_isSame : ByteArray := prog_14_method_53_code
def yX12_isSame : MethodName := ⟨RX12, "isSame", "(III)Z"⟩
abbrev cX12_keeps : ByteArray := prog_14_method_54_code
def yX12_keeps : MethodName := ⟨RX12, "keeps", "(III)Z"⟩
abbrev cX12_given : ByteArray := prog_14_method_55_code
def yX12_given : MethodName := ⟨RX12, "given", "(IIII)I"⟩
abbrev cX12_failing : ByteArray := prog_14_method_56_code
def yX12_failing : MethodName := ⟨RX12, "failing", "(IIIZ)I"⟩
abbrev cX12_broken : ByteArray := prog_14_method_57_code
def yX12_broken : MethodName := ⟨RX12, "broken", "(II)I"⟩
abbrev cX12_refuseLaws : ByteArray := prog_14_method_58_code
def yX12_refuseLaws : MethodName := ⟨RX12, "refuseLaws", "(II)I"⟩
abbrev cX12_holds : ByteArray := prog_14_method_59_code
def yX12_holds : MethodName := ⟨RX12, "holds", "(II)I"⟩
abbrev cX12_fails : ByteArray := prog_14_method_60_code
def yX12_fails : MethodName := ⟨RX12, "fails", "(III)I"⟩
abbrev cX12_witness : ByteArray := prog_14_method_61_code
def yX12_witness : MethodName := ⟨RX12, "witness", "(III)I"⟩
abbrev cX12_isClosed : ByteArray := prog_14_method_62_code
def yX12_isClosed : MethodName := ⟨RX12, "isClosed", "(II)Z"⟩
abbrev cX12_span : ByteArray := prog_14_method_63_code
def yX12_span : MethodName := ⟨RX12, "span", "(II)I"⟩
abbrev cX12_partOf : ByteArray := prog_14_method_64_code
def yX12_partOf : MethodName := ⟨RX12, "partOf", "(II)I"⟩
abbrev cX12_part : ByteArray := prog_14_method_65_code
def yX12_part : MethodName := ⟨RX12, "part", "(II)I"⟩
abbrev cX12_like : ByteArray := prog_14_method_66_code
def yX12_like : MethodName := ⟨RX12, "like", "(II)V"⟩
abbrev cX12_setAt : ByteArray := prog_14_method_67_code
def yX12_setAt : MethodName := ⟨RX12, "setAt", "(IIIII)V"⟩
abbrev cX12_upTo : ByteArray := prog_14_method_68_code
def yX12_upTo : MethodName := ⟨RX12, "upTo", "(III)I"⟩
abbrev cX12_sub : ByteArray := prog_14_method_69_code
def yX12_sub : MethodName := ⟨RX12, "sub", "(III)I"⟩
abbrev cX12_isLine : ByteArray := prog_14_method_70_code
def yX12_isLine : MethodName := ⟨RX12, "isLine", "(I)Z"⟩
abbrev cX12_agrees : ByteArray := prog_14_method_71_code
def yX12_agrees : MethodName := ⟨RX12, "agrees", "(I)Z"⟩
abbrev cX12_nextLine : ByteArray := prog_14_method_72_code
def yX12_nextLine : MethodName := ⟨RX12, "nextLine", "(I)Z"⟩
abbrev cX12_firstLine : ByteArray := prog_14_method_73_code
def yX12_firstLine : MethodName := ⟨RX12, "firstLine", "()V"⟩
abbrev cX12_findCongruence : ByteArray := prog_14_method_74_code
def yX12_findCongruence : MethodName := ⟨RX12, "findCongruence", "(II)Z"⟩
abbrev cX12_told : ByteArray := prog_14_method_75_code
def yX12_told : MethodName := ⟨RX12, "told", "([II)I"⟩
abbrev cX12_congruence : ByteArray := prog_14_method_76_code
def yX12_congruence : MethodName := ⟨RX12, "congruence", "(II)I"⟩
abbrev cX12_classes : ByteArray := prog_14_method_77_code
def yX12_classes : MethodName := ⟨RX12, "classes", "(I)I"⟩
abbrev cX12_link : ByteArray := prog_14_method_78_code
def yX12_link : MethodName := ⟨RX12, "link", "(III)I"⟩
abbrev cX12_copyLine : ByteArray := prog_14_method_79_code
def yX12_copyLine : MethodName := ⟨RX12, "copyLine", "([I)V"⟩
abbrev cX12_joins : ByteArray := prog_14_method_80_code
def yX12_joins : MethodName := ⟨RX12, "joins", "([II)Z"⟩
abbrev cX12_joinsBoth : ByteArray := prog_14_method_81_code
def yX12_joinsBoth : MethodName := ⟨RX12, "joinsBoth", "(I)Z"⟩
abbrev cX12_bound : ByteArray := prog_14_method_82_code
def yX12_bound : MethodName := ⟨RX12, "bound", "(IIIZ)I"⟩
abbrev cX12_quotient : ByteArray := prog_14_method_83_code
def yX12_quotient : MethodName := ⟨RX12, "quotient", "(III)I"⟩
abbrev cX12_isOneSignature : ByteArray := prog_14_method_84_code
def yX12_isOneSignature : MethodName := ⟨RX12, "isOneSignature", "(II)Z"⟩
abbrev cX12_goes : ByteArray := prog_14_method_85_code
def yX12_goes : MethodName := ⟨RX12, "goes", "(III)Z"⟩
abbrev cX12_isWhat : ByteArray := prog_14_method_86_code
def yX12_isWhat : MethodName := ⟨RX12, "isWhat", "(III)Z"⟩
abbrev cX12_maps : ByteArray := prog_14_method_87_code
def yX12_maps : MethodName := ⟨RX12, "maps", "(IIII)Z"⟩
abbrev cX12_findMap : ByteArray := prog_14_method_88_code
def yX12_findMap : MethodName := ⟨RX12, "findMap", "(IIII)Z"⟩
abbrev cX12_refuseTwoDrawers : ByteArray := prog_14_method_89_code
def yX12_refuseTwoDrawers : MethodName := ⟨RX12, "refuseTwoDrawers", "(II)I"⟩
abbrev cX12_map : ByteArray := prog_14_method_90_code
def yX12_map : MethodName := ⟨RX12, "map", "(IIII)I"⟩
abbrev cX12_alike : ByteArray := prog_14_method_91_code
def yX12_alike : MethodName := ⟨RX12, "alike", "(II)I"⟩
abbrev cX12_nextNames : ByteArray := prog_14_method_92_code
def yX12_nextNames : MethodName := ⟨RX12, "nextNames", "(I)Z"⟩
abbrev cX12_swap : ByteArray := prog_14_method_93_code
def yX12_swap : MethodName := ⟨RX12, "swap", "(II)V"⟩
abbrev cX12_firstNames : ByteArray := prog_14_method_94_code
def yX12_firstNames : MethodName := ⟨RX12, "firstNames", "(I)V"⟩
abbrev cX12_compare : ByteArray := prog_14_method_95_code
def yX12_compare : MethodName := ⟨RX12, "compare", "(I[I)I"⟩
abbrev cX12_lay : ByteArray := prog_14_method_96_code
def yX12_lay : MethodName := ⟨RX12, "lay", "(I[I)V"⟩
abbrev cX12_findLeast : ByteArray := prog_14_method_97_code
def yX12_findLeast : MethodName := ⟨RX12, "findLeast", "(I)V"⟩
abbrev cX12_isLeast : ByteArray := prog_14_method_98_code
def yX12_isLeast : MethodName := ⟨RX12, "isLeast", "(I)Z"⟩
abbrev cX12_putLine : ByteArray := prog_14_method_99_code
def yX12_putLine : MethodName := ⟨RX12, "putLine", "(I[I)V"⟩
abbrev cX12_turns : ByteArray := prog_14_method_100_code
def yX12_turns : MethodName := ⟨RX12, "turns", "(I)I"⟩
abbrev cX12_least : ByteArray := prog_14_method_101_code
def yX12_least : MethodName := ⟨RX12, "least", "(II)I"⟩
abbrev cX12_product : ByteArray := prog_14_method_102_code
def yX12_product : MethodName := ⟨RX12, "product", "(III)I"⟩
abbrev cX12_gives : ByteArray := prog_14_method_103_code
def yX12_gives : MethodName := ⟨RX12, "gives", "(III)I"⟩
abbrev cX12_addFunction : ByteArray := prog_14_method_104_code
def yX12_addFunction : MethodName := ⟨RX12, "addFunction", "(I)Z"⟩
abbrev cX12_work : ByteArray := prog_14_method_105_code
def yX12_work : MethodName := ⟨RX12, "work", "(IIII)Z"⟩
abbrev cX12_findFunctions : ByteArray := prog_14_method_106_code
def yX12_findFunctions : MethodName := ⟨RX12, "findFunctions", "(I)Z"⟩
abbrev cX12_function : ByteArray := prog_14_method_107_code
def yX12_function : MethodName := ⟨RX12, "function", "(II)I"⟩
abbrev cX12_refuseModels : ByteArray := prog_14_method_108_code
def yX12_refuseModels : MethodName := ⟨RX12, "refuseModels", "(III)I"⟩
abbrev cX12_nextTable : ByteArray := prog_14_method_109_code
def yX12_nextTable : MethodName := ⟨RX12, "nextTable", "()Z"⟩
abbrev cX12_findModel : ByteArray := prog_14_method_110_code
def yX12_findModel : MethodName := ⟨RX12, "findModel", "(IZI)Z"⟩
abbrev cX12_models : ByteArray := prog_14_method_111_code
def yX12_models : MethodName := ⟨RX12, "models", "(IIIZ)I"⟩
abbrev cX12_model : ByteArray := prog_14_method_112_code
def yX12_model : MethodName := ⟨RX12, "model", "(IIIII)I"⟩
abbrev cX12_count : ByteArray := prog_14_method_113_code
def yX12_count : MethodName := ⟨RX12, "count", "(I)I"⟩
def RJ6 : String := "java/lang/Integer"
def TJ6 : u_T := fun k => match k with
  | _ => ("", "", "", false)
def tyJ6 : Nat → FieldType := fun k => match k with
  | _ => .int
theorem nmJ6 : ∀ a, a < 0 → ∀ b, b < 0 → a ≠ b → (TJ6 a).2.1 ≠ (TJ6 b).2.1 := by decide +kernel
theorem tyJ6_ok : ∀ k, k < 0 → parseFieldDescriptor (TJ6 k).2.2.1 = some (tyJ6 k) := by decide +kernel
abbrev cJ6_bitCount_0f7a4 : ByteArray := prog_15_method_49_code
def yJ6_bitCount_0f7a4 : MethodName := ⟨RJ6, "bitCount", "(I)I"⟩
def RJ9 : String := "java/lang/Math"
def TJ9 : u_T := fun k => match k with
  | _ => ("", "", "", false)
def tyJ9 : Nat → FieldType := fun k => match k with
  | _ => .int
theorem nmJ9 : ∀ a, a < 0 → ∀ b, b < 0 → a ≠ b → (TJ9 a).2.1 ≠ (TJ9 b).2.1 := by decide +kernel
theorem tyJ9_ok : ∀ k, k < 0 → parseFieldDescriptor (TJ9 k).2.2.1 = some (tyJ9 k) := by decide +kernel
abbrev cJ9_max_7cf53 : ByteArray := prog_16_method_65_code
def yJ9_max_7cf53 : MethodName := ⟨RJ9, "max", "(II)I"⟩
abbrev cJ9_min_7cf53 : ByteArray := prog_16_method_69_code
def yJ9_min_7cf53 : MethodName := ⟨RJ9, "min", "(II)I"⟩
def RJ10 : String := "java/lang/System"
def TJ10 : u_T := fun k => match k with
  | _ => ("", "", "", false)
def tyJ10 : Nat → FieldType := fun k => match k with
  | _ => .int
theorem nmJ10 : ∀ a, a < 0 → ∀ b, b < 0 → a ≠ b → (TJ10 a).2.1 ≠ (TJ10 b).2.1 := by decide +kernel
theorem tyJ10_ok : ∀ k, k < 0 → parseFieldDescriptor (TJ10 k).2.2.1 = some (tyJ10 k) := by decide +kernel
def RJ7 : String := "java/util/Arrays"
def TJ7 : u_T := fun k => match k with
  | _ => ("", "", "", false)
def tyJ7 : Nat → FieldType := fun k => match k with
  | _ => .int
theorem nmJ7 : ∀ a, a < 0 → ∀ b, b < 0 → a ≠ b → (TJ7 a).2.1 ≠ (TJ7 b).2.1 := by decide +kernel
theorem tyJ7_ok : ∀ k, k < 0 → parseFieldDescriptor (TJ7 k).2.2.1 = some (tyJ7 k) := by decide +kernel
abbrev cJ7_rangeCheck_23922 : ByteArray := prog_18_method_30_code
def yJ7_rangeCheck_23922 : MethodName := ⟨RJ7, "rangeCheck", "(III)V"⟩
abbrev cJ7_fill_53178 : ByteArray := prog_18_method_103_code
def yJ7_fill_53178 : MethodName := ⟨RJ7, "fill", "([II)V"⟩
abbrev cJ7_fill_fda19 : ByteArray := prog_18_method_104_code
def yJ7_fill_fda19 : MethodName := ⟨RJ7, "fill", "([IIII)V"⟩
def RL : String := "AlgebraCabinetLaw"
abbrev cL_law : ByteArray := code
def yL_law : MethodName := ⟨RL, "law", "([I)Z"⟩
abbrev vwCl : List vw_C := [(RX0, TX0, 6), (RX1, TX1, 2), (RX2, TX2, 5), (RX3, TX3, 4), (RX4, TX4, 10), (RX5, TX5, 5), (RX6, TX6, 6), (RX7, TX7, 15), (RX8, TX8, 4), (RX9, TX9, 6), (RX10, TX10, 9), (RX11, TX11, 16), (RX12, TX12, 55)]
