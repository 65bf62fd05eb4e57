-- ===== PART A: goes FIRST, ahead of the names: the tables' words, and 'selects' of the private methods out of them =====
/-- a private method of a class that the tables say can be made, by its rows of tables_1 -/
def lw_okq (q : MethodName × Nat) : Prop := (q.1.cls ≠ "java/lang/invoke/MethodHandle" ∧ q.1.cls ≠ "java/lang/invoke/VarHandle") ∧ Cond.instantiable q.1.cls q.2 ∈ tables_1 ∧ Cond.privateMethod q.1 ∈ tables_1 ∧ Cond.instanceMethod q.1 ∈ tables_1
theorem lw_p0 : lw_okq (⟨"RopeDance$Text", "addShortLaw", "(II)V"⟩, 13) := ⟨⟨by decide +kernel, by decide +kernel⟩, List.mem_of_getElem? (i := 78) (by decide +kernel), List.mem_of_getElem? (i := 170) (by decide +kernel), List.mem_of_getElem? (i := 171) (by decide +kernel)⟩
theorem lw_p1 : lw_okq (⟨"RopeDance$Tape", "behindBlanks", "(I)I"⟩, 11) := ⟨⟨by decide +kernel, by decide +kernel⟩, List.mem_of_getElem? (i := 29) (by decide +kernel), List.mem_of_getElem? (i := 433) (by decide +kernel), List.mem_of_getElem? (i := 434) (by decide +kernel)⟩
theorem lw_p2 : lw_okq (⟨"RopeDance$Tape", "byteAt", "(I)I"⟩, 11) := ⟨⟨by decide +kernel, by decide +kernel⟩, List.mem_of_getElem? (i := 29) (by decide +kernel), List.mem_of_getElem? (i := 437) (by decide +kernel), List.mem_of_getElem? (i := 438) (by decide +kernel)⟩
theorem lw_p3 : lw_okq (⟨"RopeDance$Tape", "scanToken", "(II)I"⟩, 11) := ⟨⟨by decide +kernel, by decide +kernel⟩, List.mem_of_getElem? (i := 29) (by decide +kernel), List.mem_of_getElem? (i := 444) (by decide +kernel), List.mem_of_getElem? (i := 445) (by decide +kernel)⟩
theorem lw_p4 : lw_okq (⟨"RopeDance$Tape", "scanWord", "(II)I"⟩, 11) := ⟨⟨by decide +kernel, by decide +kernel⟩, List.mem_of_getElem? (i := 29) (by decide +kernel), List.mem_of_getElem? (i := 451) (by decide +kernel), List.mem_of_getElem? (i := 452) (by decide +kernel)⟩
theorem lw_p5 : lw_okq (⟨"RopeDance$Tape", "scanInt", "(II)I"⟩, 11) := ⟨⟨by decide +kernel, by decide +kernel⟩, List.mem_of_getElem? (i := 29) (by decide +kernel), List.mem_of_getElem? (i := 514) (by decide +kernel), List.mem_of_getElem? (i := 515) (by decide +kernel)⟩
theorem lw_p6 : lw_okq (⟨"RopeDance$Reader", "readTell", "(I)V"⟩, 10) := ⟨⟨by decide +kernel, by decide +kernel⟩, List.mem_of_getElem? (i := 234) (by decide +kernel), List.mem_of_getElem? (i := 582) (by decide +kernel), List.mem_of_getElem? (i := 583) (by decide +kernel)⟩
theorem lw_p7 : lw_okq (⟨"RopeDance$Reader", "readRow", "(ILRopeDance$Row;)V"⟩, 10) := ⟨⟨by decide +kernel, by decide +kernel⟩, List.mem_of_getElem? (i := 234) (by decide +kernel), List.mem_of_getElem? (i := 598) (by decide +kernel), List.mem_of_getElem? (i := 599) (by decide +kernel)⟩
theorem lw_p8 : lw_okq (⟨"RopeDance$Reader", "fail", "(I)V"⟩, 10) := ⟨⟨by decide +kernel, by decide +kernel⟩, List.mem_of_getElem? (i := 234) (by decide +kernel), List.mem_of_getElem? (i := 602) (by decide +kernel), List.mem_of_getElem? (i := 603) (by decide +kernel)⟩
theorem lw_p9 : lw_okq (⟨"RopeDance$Reader", "take", "(I)V"⟩, 10) := ⟨⟨by decide +kernel, by decide +kernel⟩, List.mem_of_getElem? (i := 234) (by decide +kernel), List.mem_of_getElem? (i := 606) (by decide +kernel), List.mem_of_getElem? (i := 607) (by decide +kernel)⟩
theorem lw_p10 : lw_okq (⟨"RopeDance$Reader", "isAt", "(I)Z"⟩, 10) := ⟨⟨by decide +kernel, by decide +kernel⟩, List.mem_of_getElem? (i := 234) (by decide +kernel), List.mem_of_getElem? (i := 610) (by decide +kernel), List.mem_of_getElem? (i := 611) (by decide +kernel)⟩
theorem lw_p11 : lw_okq (⟨"RopeDance$Reader", "readMove", "(LRopeDance$Row;)V"⟩, 10) := ⟨⟨by decide +kernel, by decide +kernel⟩, List.mem_of_getElem? (i := 234) (by decide +kernel), List.mem_of_getElem? (i := 618) (by decide +kernel), List.mem_of_getElem? (i := 619) (by decide +kernel)⟩
theorem lw_p12 : lw_okq (⟨"RopeDance$Reader", "suspect", "(II)V"⟩, 10) := ⟨⟨by decide +kernel, by decide +kernel⟩, List.mem_of_getElem? (i := 234) (by decide +kernel), List.mem_of_getElem? (i := 626) (by decide +kernel), List.mem_of_getElem? (i := 627) (by decide +kernel)⟩
theorem lw_p13 : lw_okq (⟨"RopeDance$Reader", "suspectName", "(JI)V"⟩, 10) := ⟨⟨by decide +kernel, by decide +kernel⟩, List.mem_of_getElem? (i := 234) (by decide +kernel), List.mem_of_getElem? (i := 639) (by decide +kernel), List.mem_of_getElem? (i := 640) (by decide +kernel)⟩
theorem lw_p14 : lw_okq (⟨"RopeDance$Square", "turn", "()V"⟩, 4) := ⟨⟨by decide +kernel, by decide +kernel⟩, List.mem_of_getElem? (i := 131) (by decide +kernel), List.mem_of_getElem? (i := 664) (by decide +kernel), List.mem_of_getElem? (i := 665) (by decide +kernel)⟩
theorem lw_p15 : lw_okq (⟨"RopeDance$Reader", "readLaw", "(I)V"⟩, 10) := ⟨⟨by decide +kernel, by decide +kernel⟩, List.mem_of_getElem? (i := 234) (by decide +kernel), List.mem_of_getElem? (i := 675) (by decide +kernel), List.mem_of_getElem? (i := 676) (by decide +kernel)⟩
def lw_privs_1 : List (MethodName × Nat) := [(⟨"RopeDance$Text", "addShortLaw", "(II)V"⟩, 13), (⟨"RopeDance$Tape", "behindBlanks", "(I)I"⟩, 11), (⟨"RopeDance$Tape", "byteAt", "(I)I"⟩, 11), (⟨"RopeDance$Tape", "scanToken", "(II)I"⟩, 11), (⟨"RopeDance$Tape", "scanWord", "(II)I"⟩, 11), (⟨"RopeDance$Tape", "scanInt", "(II)I"⟩, 11), (⟨"RopeDance$Reader", "readTell", "(I)V"⟩, 10), (⟨"RopeDance$Reader", "readRow", "(ILRopeDance$Row;)V"⟩, 10), (⟨"RopeDance$Reader", "fail", "(I)V"⟩, 10), (⟨"RopeDance$Reader", "take", "(I)V"⟩, 10), (⟨"RopeDance$Reader", "isAt", "(I)Z"⟩, 10), (⟨"RopeDance$Reader", "readMove", "(LRopeDance$Row;)V"⟩, 10), (⟨"RopeDance$Reader", "suspect", "(II)V"⟩, 10), (⟨"RopeDance$Reader", "suspectName", "(JI)V"⟩, 10), (⟨"RopeDance$Square", "turn", "()V"⟩, 4), (⟨"RopeDance$Reader", "readLaw", "(I)V"⟩, 10)]
theorem lw_r1 : ∀ q ∈ lw_privs_1, lw_okq q := List.forall_mem_cons.mpr ⟨lw_p0, List.forall_mem_cons.mpr ⟨lw_p1, List.forall_mem_cons.mpr ⟨lw_p2, List.forall_mem_cons.mpr ⟨lw_p3, List.forall_mem_cons.mpr ⟨lw_p4, List.forall_mem_cons.mpr ⟨lw_p5, List.forall_mem_cons.mpr ⟨lw_p6, List.forall_mem_cons.mpr ⟨lw_p7, List.forall_mem_cons.mpr ⟨lw_p8, List.forall_mem_cons.mpr ⟨lw_p9, List.forall_mem_cons.mpr ⟨lw_p10, List.forall_mem_cons.mpr ⟨lw_p11, List.forall_mem_cons.mpr ⟨lw_p12, List.forall_mem_cons.mpr ⟨lw_p13, List.forall_mem_cons.mpr ⟨lw_p14, List.forall_mem_cons.mpr ⟨lw_p15, fun _ h => absurd h List.not_mem_nil⟩⟩⟩⟩⟩⟩⟩⟩⟩⟩⟩⟩⟩⟩⟩⟩
theorem lw_p16 : lw_okq (⟨"RopeDance$Reader", "readSum", "()V"⟩, 10) := ⟨⟨by decide +kernel, by decide +kernel⟩, List.mem_of_getElem? (i := 234) (by decide +kernel), List.mem_of_getElem? (i := 680) (by decide +kernel), List.mem_of_getElem? (i := 681) (by decide +kernel)⟩
theorem lw_p17 : lw_okq (⟨"RopeDance$Reader", "readUnit", "(I)V"⟩, 10) := ⟨⟨by decide +kernel, by decide +kernel⟩, List.mem_of_getElem? (i := 234) (by decide +kernel), List.mem_of_getElem? (i := 684) (by decide +kernel), List.mem_of_getElem? (i := 685) (by decide +kernel)⟩
theorem lw_p18 : lw_okq (⟨"RopeDance$Reader", "addWaiting", "(I)V"⟩, 10) := ⟨⟨by decide +kernel, by decide +kernel⟩, List.mem_of_getElem? (i := 234) (by decide +kernel), List.mem_of_getElem? (i := 688) (by decide +kernel), List.mem_of_getElem? (i := 689) (by decide +kernel)⟩
theorem lw_p19 : lw_okq (⟨"RopeDance$Reader", "releaseDownTo", "(I)V"⟩, 10) := ⟨⟨by decide +kernel, by decide +kernel⟩, List.mem_of_getElem? (i := 234) (by decide +kernel), List.mem_of_getElem? (i := 693) (by decide +kernel), List.mem_of_getElem? (i := 694) (by decide +kernel)⟩
theorem lw_p20 : lw_okq (⟨"RopeDance$Reader", "readSeed", "()V"⟩, 10) := ⟨⟨by decide +kernel, by decide +kernel⟩, List.mem_of_getElem? (i := 234) (by decide +kernel), List.mem_of_getElem? (i := 707) (by decide +kernel), List.mem_of_getElem? (i := 708) (by decide +kernel)⟩
theorem lw_p21 : lw_okq (⟨"RopeDance", "takeDraft", "()V"⟩, 12) := ⟨⟨by decide +kernel, by decide +kernel⟩, List.mem_of_getElem? (i := 21) (by decide +kernel), List.mem_of_getElem? (i := 711) (by decide +kernel), List.mem_of_getElem? (i := 712) (by decide +kernel)⟩
theorem lw_p22 : lw_okq (⟨"RopeDance", "squareAt", "(I)LRopeDance$Square;"⟩, 12) := ⟨⟨by decide +kernel, by decide +kernel⟩, List.mem_of_getElem? (i := 21) (by decide +kernel), List.mem_of_getElem? (i := 737) (by decide +kernel), List.mem_of_getElem? (i := 738) (by decide +kernel)⟩
theorem lw_p23 : lw_okq (⟨"RopeDance$Text", "run", "(I)I"⟩, 13) := ⟨⟨by decide +kernel, by decide +kernel⟩, List.mem_of_getElem? (i := 78) (by decide +kernel), List.mem_of_getElem? (i := 762) (by decide +kernel), List.mem_of_getElem? (i := 763) (by decide +kernel)⟩
theorem lw_p24 : lw_okq (⟨"RopeDance$Text", "jump", "(I)I"⟩, 13) := ⟨⟨by decide +kernel, by decide +kernel⟩, List.mem_of_getElem? (i := 78) (by decide +kernel), List.mem_of_getElem? (i := 767) (by decide +kernel), List.mem_of_getElem? (i := 768) (by decide +kernel)⟩
theorem lw_p25 : lw_okq (⟨"RopeDance", "figureAt", "(I)LRopeDance$Row;"⟩, 12) := ⟨⟨by decide +kernel, by decide +kernel⟩, List.mem_of_getElem? (i := 21) (by decide +kernel), List.mem_of_getElem? (i := 779) (by decide +kernel), List.mem_of_getElem? (i := 780) (by decide +kernel)⟩
theorem lw_p26 : lw_okq (⟨"RopeDance", "unwinding", "()LRopeDance$Unwinding;"⟩, 12) := ⟨⟨by decide +kernel, by decide +kernel⟩, List.mem_of_getElem? (i := 21) (by decide +kernel), List.mem_of_getElem? (i := 877) (by decide +kernel), List.mem_of_getElem? (i := 878) (by decide +kernel)⟩
theorem lw_p27 : lw_okq (⟨"RopeDance$Unwinding", "goalOf", "(II)I"⟩, 2) := ⟨⟨by decide +kernel, by decide +kernel⟩, List.mem_of_getElem? (i := 881) (by decide +kernel), List.mem_of_getElem? (i := 921) (by decide +kernel), List.mem_of_getElem? (i := 922) (by decide +kernel)⟩
theorem lw_p28 : lw_okq (⟨"RopeDance", "figuresTo", "(LRopeDance$Square;LRopeDance$Square;I)I"⟩, 12) := ⟨⟨by decide +kernel, by decide +kernel⟩, List.mem_of_getElem? (i := 21) (by decide +kernel), List.mem_of_getElem? (i := 932) (by decide +kernel), List.mem_of_getElem? (i := 933) (by decide +kernel)⟩
theorem lw_p29 : lw_okq (⟨"RopeDance", "searchFrom", "(LRopeDance$Square;)LRopeDance$Search;"⟩, 12) := ⟨⟨by decide +kernel, by decide +kernel⟩, List.mem_of_getElem? (i := 21) (by decide +kernel), List.mem_of_getElem? (i := 940) (by decide +kernel), List.mem_of_getElem? (i := 941) (by decide +kernel)⟩
theorem lw_p30 : lw_okq (⟨"RopeDance$Search", "forgetFound", "()V"⟩, 5) := ⟨⟨by decide +kernel, by decide +kernel⟩, List.mem_of_getElem? (i := 944) (by decide +kernel), List.mem_of_getElem? (i := 974) (by decide +kernel), List.mem_of_getElem? (i := 975) (by decide +kernel)⟩
theorem lw_p31 : lw_okq (⟨"RopeDance$Search", "add", "(II)V"⟩, 5) := ⟨⟨by decide +kernel, by decide +kernel⟩, List.mem_of_getElem? (i := 944) (by decide +kernel), List.mem_of_getElem? (i := 978) (by decide +kernel), List.mem_of_getElem? (i := 979) (by decide +kernel)⟩
def lw_privs_2 : List (MethodName × Nat) := [(⟨"RopeDance$Reader", "readSum", "()V"⟩, 10), (⟨"RopeDance$Reader", "readUnit", "(I)V"⟩, 10), (⟨"RopeDance$Reader", "addWaiting", "(I)V"⟩, 10), (⟨"RopeDance$Reader", "releaseDownTo", "(I)V"⟩, 10), (⟨"RopeDance$Reader", "readSeed", "()V"⟩, 10), (⟨"RopeDance", "takeDraft", "()V"⟩, 12), (⟨"RopeDance", "squareAt", "(I)LRopeDance$Square;"⟩, 12), (⟨"RopeDance$Text", "run", "(I)I"⟩, 13), (⟨"RopeDance$Text", "jump", "(I)I"⟩, 13), (⟨"RopeDance", "figureAt", "(I)LRopeDance$Row;"⟩, 12), (⟨"RopeDance", "unwinding", "()LRopeDance$Unwinding;"⟩, 12), (⟨"RopeDance$Unwinding", "goalOf", "(II)I"⟩, 2), (⟨"RopeDance", "figuresTo", "(LRopeDance$Square;LRopeDance$Square;I)I"⟩, 12), (⟨"RopeDance", "searchFrom", "(LRopeDance$Square;)LRopeDance$Search;"⟩, 12), (⟨"RopeDance$Search", "forgetFound", "()V"⟩, 5), (⟨"RopeDance$Search", "add", "(II)V"⟩, 5)]
theorem lw_r2 : ∀ q ∈ lw_privs_2, lw_okq q := List.forall_mem_cons.mpr ⟨lw_p16, List.forall_mem_cons.mpr ⟨lw_p17, List.forall_mem_cons.mpr ⟨lw_p18, List.forall_mem_cons.mpr ⟨lw_p19, List.forall_mem_cons.mpr ⟨lw_p20, List.forall_mem_cons.mpr ⟨lw_p21, List.forall_mem_cons.mpr ⟨lw_p22, List.forall_mem_cons.mpr ⟨lw_p23, List.forall_mem_cons.mpr ⟨lw_p24, List.forall_mem_cons.mpr ⟨lw_p25, List.forall_mem_cons.mpr ⟨lw_p26, List.forall_mem_cons.mpr ⟨lw_p27, List.forall_mem_cons.mpr ⟨lw_p28, List.forall_mem_cons.mpr ⟨lw_p29, List.forall_mem_cons.mpr ⟨lw_p30, List.forall_mem_cons.mpr ⟨lw_p31, fun _ h => absurd h List.not_mem_nil⟩⟩⟩⟩⟩⟩⟩⟩⟩⟩⟩⟩⟩⟩⟩⟩
theorem lw_p32 : lw_okq (⟨"RopeDance", "roundOf", "(LRopeDance$Table;I)I"⟩, 12) := ⟨⟨by decide +kernel, by decide +kernel⟩, List.mem_of_getElem? (i := 21) (by decide +kernel), List.mem_of_getElem? (i := 1047) (by decide +kernel), List.mem_of_getElem? (i := 1048) (by decide +kernel)⟩
theorem lw_p33 : lw_okq (⟨"RopeDance", "tryMinutes", "(LRopeDance$Square;III)V"⟩, 12) := ⟨⟨by decide +kernel, by decide +kernel⟩, List.mem_of_getElem? (i := 21) (by decide +kernel), List.mem_of_getElem? (i := 1110) (by decide +kernel), List.mem_of_getElem? (i := 1111) (by decide +kernel)⟩
theorem lw_p34 : lw_okq (⟨"RopeDance$Told", "canBeCalled", "(LRopeDance$Text;LRopeDance$Square;III)Z"⟩, 9) := ⟨⟨by decide +kernel, by decide +kernel⟩, List.mem_of_getElem? (i := 323) (by decide +kernel), List.mem_of_getElem? (i := 1148) (by decide +kernel), List.mem_of_getElem? (i := 1149) (by decide +kernel)⟩
theorem lw_p35 : lw_okq (⟨"RopeDance$Told", "fits", "(II)Z"⟩, 9) := ⟨⟨by decide +kernel, by decide +kernel⟩, List.mem_of_getElem? (i := 323) (by decide +kernel), List.mem_of_getElem? (i := 1155) (by decide +kernel), List.mem_of_getElem? (i := 1156) (by decide +kernel)⟩
theorem lw_p36 : lw_okq (⟨"RopeDance$Told", "addFitting", "(II)V"⟩, 9) := ⟨⟨by decide +kernel, by decide +kernel⟩, List.mem_of_getElem? (i := 323) (by decide +kernel), List.mem_of_getElem? (i := 1159) (by decide +kernel), List.mem_of_getElem? (i := 1160) (by decide +kernel)⟩
theorem lw_p37 : lw_okq (⟨"RopeDance", "allCrossings", "()I"⟩, 12) := ⟨⟨by decide +kernel, by decide +kernel⟩, List.mem_of_getElem? (i := 21) (by decide +kernel), List.mem_of_getElem? (i := 1192) (by decide +kernel), List.mem_of_getElem? (i := 1193) (by decide +kernel)⟩
theorem lw_p38 : lw_okq (⟨"RopeDance", "undoneSquares", "()I"⟩, 12) := ⟨⟨by decide +kernel, by decide +kernel⟩, List.mem_of_getElem? (i := 21) (by decide +kernel), List.mem_of_getElem? (i := 1196) (by decide +kernel), List.mem_of_getElem? (i := 1197) (by decide +kernel)⟩
theorem lw_p39 : lw_okq (⟨"RopeDance", "allTired", "()I"⟩, 12) := ⟨⟨by decide +kernel, by decide +kernel⟩, List.mem_of_getElem? (i := 21) (by decide +kernel), List.mem_of_getElem? (i := 1200) (by decide +kernel), List.mem_of_getElem? (i := 1201) (by decide +kernel)⟩
theorem lw_p40 : lw_okq (⟨"RopeDance", "allCalled", "()I"⟩, 12) := ⟨⟨by decide +kernel, by decide +kernel⟩, List.mem_of_getElem? (i := 21) (by decide +kernel), List.mem_of_getElem? (i := 1204) (by decide +kernel), List.mem_of_getElem? (i := 1205) (by decide +kernel)⟩
theorem lw_p41 : lw_okq (⟨"RopeDance", "squaresOfEnds", "(I)I"⟩, 12) := ⟨⟨by decide +kernel, by decide +kernel⟩, List.mem_of_getElem? (i := 21) (by decide +kernel), List.mem_of_getElem? (i := 1212) (by decide +kernel), List.mem_of_getElem? (i := 1213) (by decide +kernel)⟩
theorem lw_p42 : lw_okq (⟨"RopeDanceModel", "plain", "(I)V"⟩, 75) := ⟨⟨by decide +kernel, by decide +kernel⟩, List.mem_of_getElem? (i := 1216) (by decide +kernel), List.mem_of_getElem? (i := 1222) (by decide +kernel), List.mem_of_getElem? (i := 1223) (by decide +kernel)⟩
theorem lw_p43 : lw_okq (⟨"RopeDanceModel", "fillsUndoing", "()V"⟩, 75) := ⟨⟨by decide +kernel, by decide +kernel⟩, List.mem_of_getElem? (i := 1216) (by decide +kernel), List.mem_of_getElem? (i := 1233) (by decide +kernel), List.mem_of_getElem? (i := 1234) (by decide +kernel)⟩
theorem lw_p44 : lw_okq (⟨"RopeDanceModel", "fillsOne", "(II)V"⟩, 75) := ⟨⟨by decide +kernel, by decide +kernel⟩, List.mem_of_getElem? (i := 1216) (by decide +kernel), List.mem_of_getElem? (i := 1246) (by decide +kernel), List.mem_of_getElem? (i := 1247) (by decide +kernel)⟩
theorem lw_p45 : lw_okq (⟨"RopeDanceModel", "leastWith", "(III)I"⟩, 75) := ⟨⟨by decide +kernel, by decide +kernel⟩, List.mem_of_getElem? (i := 1216) (by decide +kernel), List.mem_of_getElem? (i := 1256) (by decide +kernel), List.mem_of_getElem? (i := 1257) (by decide +kernel)⟩
theorem lw_p46 : lw_okq (⟨"RopeDanceModel", "begins", "()V"⟩, 75) := ⟨⟨by decide +kernel, by decide +kernel⟩, List.mem_of_getElem? (i := 1216) (by decide +kernel), List.mem_of_getElem? (i := 1269) (by decide +kernel), List.mem_of_getElem? (i := 1270) (by decide +kernel)⟩
theorem lw_p47 : lw_okq (⟨"RopeDanceModel", "keepsRow", "()V"⟩, 75) := ⟨⟨by decide +kernel, by decide +kernel⟩, List.mem_of_getElem? (i := 1216) (by decide +kernel), List.mem_of_getElem? (i := 1273) (by decide +kernel), List.mem_of_getElem? (i := 1274) (by decide +kernel)⟩
def lw_privs_3 : List (MethodName × Nat) := [(⟨"RopeDance", "roundOf", "(LRopeDance$Table;I)I"⟩, 12), (⟨"RopeDance", "tryMinutes", "(LRopeDance$Square;III)V"⟩, 12), (⟨"RopeDance$Told", "canBeCalled", "(LRopeDance$Text;LRopeDance$Square;III)Z"⟩, 9), (⟨"RopeDance$Told", "fits", "(II)Z"⟩, 9), (⟨"RopeDance$Told", "addFitting", "(II)V"⟩, 9), (⟨"RopeDance", "allCrossings", "()I"⟩, 12), (⟨"RopeDance", "undoneSquares", "()I"⟩, 12), (⟨"RopeDance", "allTired", "()I"⟩, 12), (⟨"RopeDance", "allCalled", "()I"⟩, 12), (⟨"RopeDance", "squaresOfEnds", "(I)I"⟩, 12), (⟨"RopeDanceModel", "plain", "(I)V"⟩, 75), (⟨"RopeDanceModel", "fillsUndoing", "()V"⟩, 75), (⟨"RopeDanceModel", "fillsOne", "(II)V"⟩, 75), (⟨"RopeDanceModel", "leastWith", "(III)I"⟩, 75), (⟨"RopeDanceModel", "begins", "()V"⟩, 75), (⟨"RopeDanceModel", "keepsRow", "()V"⟩, 75)]
theorem lw_r3 : ∀ q ∈ lw_privs_3, lw_okq q := List.forall_mem_cons.mpr ⟨lw_p32, List.forall_mem_cons.mpr ⟨lw_p33, List.forall_mem_cons.mpr ⟨lw_p34, List.forall_mem_cons.mpr ⟨lw_p35, List.forall_mem_cons.mpr ⟨lw_p36, List.forall_mem_cons.mpr ⟨lw_p37, List.forall_mem_cons.mpr ⟨lw_p38, List.forall_mem_cons.mpr ⟨lw_p39, List.forall_mem_cons.mpr ⟨lw_p40, List.forall_mem_cons.mpr ⟨lw_p41, List.forall_mem_cons.mpr ⟨lw_p42, List.forall_mem_cons.mpr ⟨lw_p43, List.forall_mem_cons.mpr ⟨lw_p44, List.forall_mem_cons.mpr ⟨lw_p45, List.forall_mem_cons.mpr ⟨lw_p46, List.forall_mem_cons.mpr ⟨lw_p47, fun _ h => absurd h List.not_mem_nil⟩⟩⟩⟩⟩⟩⟩⟩⟩⟩⟩⟩⟩⟩⟩⟩
theorem lw_p48 : lw_okq (⟨"RopeDanceModel", "lays", "(I)V"⟩, 75) := ⟨⟨by decide +kernel, by decide +kernel⟩, List.mem_of_getElem? (i := 1216) (by decide +kernel), List.mem_of_getElem? (i := 1506) (by decide +kernel), List.mem_of_getElem? (i := 1507) (by decide +kernel)⟩
theorem lw_p49 : lw_okq (⟨"RopeDanceModel", "cut", "()V"⟩, 75) := ⟨⟨by decide +kernel, by decide +kernel⟩, List.mem_of_getElem? (i := 1216) (by decide +kernel), List.mem_of_getElem? (i := 1518) (by decide +kernel), List.mem_of_getElem? (i := 1519) (by decide +kernel)⟩
theorem lw_p50 : lw_okq (⟨"RopeDanceModel", "byteAt", "(I)I"⟩, 75) := ⟨⟨by decide +kernel, by decide +kernel⟩, List.mem_of_getElem? (i := 1216) (by decide +kernel), List.mem_of_getElem? (i := 1522) (by decide +kernel), List.mem_of_getElem? (i := 1523) (by decide +kernel)⟩
theorem lw_p51 : lw_okq (⟨"RopeDanceModel", "token", "(IIIJ)V"⟩, 75) := ⟨⟨by decide +kernel, by decide +kernel⟩, List.mem_of_getElem? (i := 1216) (by decide +kernel), List.mem_of_getElem? (i := 1526) (by decide +kernel), List.mem_of_getElem? (i := 1527) (by decide +kernel)⟩
theorem lw_p52 : lw_okq (⟨"RopeDanceModel", "sign", "(III)I"⟩, 75) := ⟨⟨by decide +kernel, by decide +kernel⟩, List.mem_of_getElem? (i := 1216) (by decide +kernel), List.mem_of_getElem? (i := 1536) (by decide +kernel), List.mem_of_getElem? (i := 1537) (by decide +kernel)⟩
theorem lw_p53 : lw_okq (⟨"RopeDanceModel", "is", "(I)Z"⟩, 75) := ⟨⟨by decide +kernel, by decide +kernel⟩, List.mem_of_getElem? (i := 1216) (by decide +kernel), List.mem_of_getElem? (i := 1540) (by decide +kernel), List.mem_of_getElem? (i := 1541) (by decide +kernel)⟩
theorem lw_p54 : lw_okq (⟨"RopeDanceModel", "tellOne", "()V"⟩, 75) := ⟨⟨by decide +kernel, by decide +kernel⟩, List.mem_of_getElem? (i := 1216) (by decide +kernel), List.mem_of_getElem? (i := 1544) (by decide +kernel), List.mem_of_getElem? (i := 1545) (by decide +kernel)⟩
theorem lw_p55 : lw_okq (⟨"RopeDanceModel", "roomFor", "(II)V"⟩, 75) := ⟨⟨by decide +kernel, by decide +kernel⟩, List.mem_of_getElem? (i := 1216) (by decide +kernel), List.mem_of_getElem? (i := 1548) (by decide +kernel), List.mem_of_getElem? (i := 1549) (by decide +kernel)⟩
theorem lw_p56 : lw_okq (⟨"RopeDanceModel", "fail", "(I)V"⟩, 75) := ⟨⟨by decide +kernel, by decide +kernel⟩, List.mem_of_getElem? (i := 1216) (by decide +kernel), List.mem_of_getElem? (i := 1552) (by decide +kernel), List.mem_of_getElem? (i := 1553) (by decide +kernel)⟩
theorem lw_p57 : lw_okq (⟨"RopeDanceModel", "goesOn", "()V"⟩, 75) := ⟨⟨by decide +kernel, by decide +kernel⟩, List.mem_of_getElem? (i := 1216) (by decide +kernel), List.mem_of_getElem? (i := 1556) (by decide +kernel), List.mem_of_getElem? (i := 1557) (by decide +kernel)⟩
theorem lw_p58 : lw_okq (⟨"RopeDanceModel", "tellRow", "(IZ)V"⟩, 75) := ⟨⟨by decide +kernel, by decide +kernel⟩, List.mem_of_getElem? (i := 1216) (by decide +kernel), List.mem_of_getElem? (i := 1560) (by decide +kernel), List.mem_of_getElem? (i := 1561) (by decide +kernel)⟩
theorem lw_p59 : lw_okq (⟨"RopeDanceModel", "must", "(I)V"⟩, 75) := ⟨⟨by decide +kernel, by decide +kernel⟩, List.mem_of_getElem? (i := 1216) (by decide +kernel), List.mem_of_getElem? (i := 1564) (by decide +kernel), List.mem_of_getElem? (i := 1565) (by decide +kernel)⟩
theorem lw_p60 : lw_okq (⟨"RopeDanceModel", "wrong", "(II)V"⟩, 75) := ⟨⟨by decide +kernel, by decide +kernel⟩, List.mem_of_getElem? (i := 1216) (by decide +kernel), List.mem_of_getElem? (i := 1568) (by decide +kernel), List.mem_of_getElem? (i := 1569) (by decide +kernel)⟩
theorem lw_p61 : lw_okq (⟨"RopeDanceModel", "bounded", "(II)I"⟩, 75) := ⟨⟨by decide +kernel, by decide +kernel⟩, List.mem_of_getElem? (i := 1216) (by decide +kernel), List.mem_of_getElem? (i := 1572) (by decide +kernel), List.mem_of_getElem? (i := 1573) (by decide +kernel)⟩
theorem lw_p62 : lw_okq (⟨"RopeDanceModel", "tellLaw", "(I)V"⟩, 75) := ⟨⟨by decide +kernel, by decide +kernel⟩, List.mem_of_getElem? (i := 1216) (by decide +kernel), List.mem_of_getElem? (i := 1576) (by decide +kernel), List.mem_of_getElem? (i := 1577) (by decide +kernel)⟩
theorem lw_p63 : lw_okq (⟨"RopeDanceModel", "expression", "()V"⟩, 75) := ⟨⟨by decide +kernel, by decide +kernel⟩, List.mem_of_getElem? (i := 1216) (by decide +kernel), List.mem_of_getElem? (i := 1580) (by decide +kernel), List.mem_of_getElem? (i := 1581) (by decide +kernel)⟩
def lw_privs_4 : List (MethodName × Nat) := [(⟨"RopeDanceModel", "lays", "(I)V"⟩, 75), (⟨"RopeDanceModel", "cut", "()V"⟩, 75), (⟨"RopeDanceModel", "byteAt", "(I)I"⟩, 75), (⟨"RopeDanceModel", "token", "(IIIJ)V"⟩, 75), (⟨"RopeDanceModel", "sign", "(III)I"⟩, 75), (⟨"RopeDanceModel", "is", "(I)Z"⟩, 75), (⟨"RopeDanceModel", "tellOne", "()V"⟩, 75), (⟨"RopeDanceModel", "roomFor", "(II)V"⟩, 75), (⟨"RopeDanceModel", "fail", "(I)V"⟩, 75), (⟨"RopeDanceModel", "goesOn", "()V"⟩, 75), (⟨"RopeDanceModel", "tellRow", "(IZ)V"⟩, 75), (⟨"RopeDanceModel", "must", "(I)V"⟩, 75), (⟨"RopeDanceModel", "wrong", "(II)V"⟩, 75), (⟨"RopeDanceModel", "bounded", "(II)I"⟩, 75), (⟨"RopeDanceModel", "tellLaw", "(I)V"⟩, 75), (⟨"RopeDanceModel", "expression", "()V"⟩, 75)]
theorem lw_r4 : ∀ q ∈ lw_privs_4, lw_okq q := List.forall_mem_cons.mpr ⟨lw_p48, List.forall_mem_cons.mpr ⟨lw_p49, List.forall_mem_cons.mpr ⟨lw_p50, List.forall_mem_cons.mpr ⟨lw_p51, List.forall_mem_cons.mpr ⟨lw_p52, List.forall_mem_cons.mpr ⟨lw_p53, List.forall_mem_cons.mpr ⟨lw_p54, List.forall_mem_cons.mpr ⟨lw_p55, List.forall_mem_cons.mpr ⟨lw_p56, List.forall_mem_cons.mpr ⟨lw_p57, List.forall_mem_cons.mpr ⟨lw_p58, List.forall_mem_cons.mpr ⟨lw_p59, List.forall_mem_cons.mpr ⟨lw_p60, List.forall_mem_cons.mpr ⟨lw_p61, List.forall_mem_cons.mpr ⟨lw_p62, List.forall_mem_cons.mpr ⟨lw_p63, fun _ h => absurd h List.not_mem_nil⟩⟩⟩⟩⟩⟩⟩⟩⟩⟩⟩⟩⟩⟩⟩⟩
theorem lw_p64 : lw_okq (⟨"RopeDanceModel", "unit", "()V"⟩, 75) := ⟨⟨by decide +kernel, by decide +kernel⟩, List.mem_of_getElem? (i := 1216) (by decide +kernel), List.mem_of_getElem? (i := 1584) (by decide +kernel), List.mem_of_getElem? (i := 1585) (by decide +kernel)⟩
theorem lw_p65 : lw_okq (⟨"RopeDanceModel", "emit", "(II)V"⟩, 75) := ⟨⟨by decide +kernel, by decide +kernel⟩, List.mem_of_getElem? (i := 1216) (by decide +kernel), List.mem_of_getElem? (i := 1588) (by decide +kernel), List.mem_of_getElem? (i := 1589) (by decide +kernel)⟩
theorem lw_p66 : lw_okq (⟨"RopeDanceModel", "comesOut", "(Z)V"⟩, 75) := ⟨⟨by decide +kernel, by decide +kernel⟩, List.mem_of_getElem? (i := 1216) (by decide +kernel), List.mem_of_getElem? (i := 1592) (by decide +kernel), List.mem_of_getElem? (i := 1593) (by decide +kernel)⟩
theorem lw_p67 : lw_okq (⟨"RopeDanceModel", "term", "()V"⟩, 75) := ⟨⟨by decide +kernel, by decide +kernel⟩, List.mem_of_getElem? (i := 1216) (by decide +kernel), List.mem_of_getElem? (i := 1596) (by decide +kernel), List.mem_of_getElem? (i := 1597) (by decide +kernel)⟩
theorem lw_p68 : lw_okq (⟨"RopeDanceModel", "isSquare", "(I)Z"⟩, 75) := ⟨⟨by decide +kernel, by decide +kernel⟩, List.mem_of_getElem? (i := 1216) (by decide +kernel), List.mem_of_getElem? (i := 1608) (by decide +kernel), List.mem_of_getElem? (i := 1609) (by decide +kernel)⟩
theorem lw_p69 : lw_okq (⟨"RopeDanceModel", "copies", "()V"⟩, 75) := ⟨⟨by decide +kernel, by decide +kernel⟩, List.mem_of_getElem? (i := 1216) (by decide +kernel), List.mem_of_getElem? (i := 1615) (by decide +kernel), List.mem_of_getElem? (i := 1616) (by decide +kernel)⟩
theorem lw_p70 : lw_okq (⟨"RopeDanceModel", "restsOf", "(I)I"⟩, 75) := ⟨⟨by decide +kernel, by decide +kernel⟩, List.mem_of_getElem? (i := 1216) (by decide +kernel), List.mem_of_getElem? (i := 1625) (by decide +kernel), List.mem_of_getElem? (i := 1626) (by decide +kernel)⟩
theorem lw_p71 : lw_okq (⟨"RopeDanceModel", "looks", "(I)V"⟩, 75) := ⟨⟨by decide +kernel, by decide +kernel⟩, List.mem_of_getElem? (i := 1216) (by decide +kernel), List.mem_of_getElem? (i := 1629) (by decide +kernel), List.mem_of_getElem? (i := 1630) (by decide +kernel)⟩
theorem lw_p72 : lw_okq (⟨"RopeDanceModel", "lawTells", "(II)I"⟩, 75) := ⟨⟨by decide +kernel, by decide +kernel⟩, List.mem_of_getElem? (i := 1216) (by decide +kernel), List.mem_of_getElem? (i := 1633) (by decide +kernel), List.mem_of_getElem? (i := 1634) (by decide +kernel)⟩
theorem lw_p73 : lw_okq (⟨"RopeDanceModel", "termOf", "(II)I"⟩, 75) := ⟨⟨by decide +kernel, by decide +kernel⟩, List.mem_of_getElem? (i := 1216) (by decide +kernel), List.mem_of_getElem? (i := 1637) (by decide +kernel), List.mem_of_getElem? (i := 1638) (by decide +kernel)⟩
theorem lw_p74 : lw_okq (⟨"RopeDanceModel", "paysOf", "(I)I"⟩, 75) := ⟨⟨by decide +kernel, by decide +kernel⟩, List.mem_of_getElem? (i := 1216) (by decide +kernel), List.mem_of_getElem? (i := 1644) (by decide +kernel), List.mem_of_getElem? (i := 1645) (by decide +kernel)⟩
theorem lw_p75 : lw_okq (⟨"RopeDanceModel", "slipsOf", "(I)I"⟩, 75) := ⟨⟨by decide +kernel, by decide +kernel⟩, List.mem_of_getElem? (i := 1216) (by decide +kernel), List.mem_of_getElem? (i := 1648) (by decide +kernel), List.mem_of_getElem? (i := 1649) (by decide +kernel)⟩
theorem lw_p76 : lw_okq (⟨"RopeDanceModel", "isFigure", "(I)Z"⟩, 75) := ⟨⟨by decide +kernel, by decide +kernel⟩, List.mem_of_getElem? (i := 1216) (by decide +kernel), List.mem_of_getElem? (i := 1656) (by decide +kernel), List.mem_of_getElem? (i := 1657) (by decide +kernel)⟩
theorem lw_p77 : lw_okq (⟨"RopeDanceModel", "tiresOf", "(II)I"⟩, 75) := ⟨⟨by decide +kernel, by decide +kernel⟩, List.mem_of_getElem? (i := 1216) (by decide +kernel), List.mem_of_getElem? (i := 1660) (by decide +kernel), List.mem_of_getElem? (i := 1661) (by decide +kernel)⟩
theorem lw_p78 : lw_okq (⟨"RopeDanceModel", "movesOf", "(I)I"⟩, 75) := ⟨⟨by decide +kernel, by decide +kernel⟩, List.mem_of_getElem? (i := 1216) (by decide +kernel), List.mem_of_getElem? (i := 1664) (by decide +kernel), List.mem_of_getElem? (i := 1665) (by decide +kernel)⟩
theorem lw_p79 : lw_okq (⟨"RopeDanceModel", "rowAt", "(I)I"⟩, 75) := ⟨⟨by decide +kernel, by decide +kernel⟩, List.mem_of_getElem? (i := 1216) (by decide +kernel), List.mem_of_getElem? (i := 1668) (by decide +kernel), List.mem_of_getElem? (i := 1669) (by decide +kernel)⟩
def lw_privs_5 : List (MethodName × Nat) := [(⟨"RopeDanceModel", "unit", "()V"⟩, 75), (⟨"RopeDanceModel", "emit", "(II)V"⟩, 75), (⟨"RopeDanceModel", "comesOut", "(Z)V"⟩, 75), (⟨"RopeDanceModel", "term", "()V"⟩, 75), (⟨"RopeDanceModel", "isSquare", "(I)Z"⟩, 75), (⟨"RopeDanceModel", "copies", "()V"⟩, 75), (⟨"RopeDanceModel", "restsOf", "(I)I"⟩, 75), (⟨"RopeDanceModel", "looks", "(I)V"⟩, 75), (⟨"RopeDanceModel", "lawTells", "(II)I"⟩, 75), (⟨"RopeDanceModel", "termOf", "(II)I"⟩, 75), (⟨"RopeDanceModel", "paysOf", "(I)I"⟩, 75), (⟨"RopeDanceModel", "slipsOf", "(I)I"⟩, 75), (⟨"RopeDanceModel", "isFigure", "(I)Z"⟩, 75), (⟨"RopeDanceModel", "tiresOf", "(II)I"⟩, 75), (⟨"RopeDanceModel", "movesOf", "(I)I"⟩, 75), (⟨"RopeDanceModel", "rowAt", "(I)I"⟩, 75)]
theorem lw_r5 : ∀ q ∈ lw_privs_5, lw_okq q := List.forall_mem_cons.mpr ⟨lw_p64, List.forall_mem_cons.mpr ⟨lw_p65, List.forall_mem_cons.mpr ⟨lw_p66, List.forall_mem_cons.mpr ⟨lw_p67, List.forall_mem_cons.mpr ⟨lw_p68, List.forall_mem_cons.mpr ⟨lw_p69, List.forall_mem_cons.mpr ⟨lw_p70, List.forall_mem_cons.mpr ⟨lw_p71, List.forall_mem_cons.mpr ⟨lw_p72, List.forall_mem_cons.mpr ⟨lw_p73, List.forall_mem_cons.mpr ⟨lw_p74, List.forall_mem_cons.mpr ⟨lw_p75, List.forall_mem_cons.mpr ⟨lw_p76, List.forall_mem_cons.mpr ⟨lw_p77, List.forall_mem_cons.mpr ⟨lw_p78, List.forall_mem_cons.mpr ⟨lw_p79, fun _ h => absurd h List.not_mem_nil⟩⟩⟩⟩⟩⟩⟩⟩⟩⟩⟩⟩⟩⟩⟩⟩
theorem lw_p80 : lw_okq (⟨"RopeDanceModel", "calledBy", "(III)I"⟩, 75) := ⟨⟨by decide +kernel, by decide +kernel⟩, List.mem_of_getElem? (i := 1216) (by decide +kernel), List.mem_of_getElem? (i := 1676) (by decide +kernel), List.mem_of_getElem? (i := 1677) (by decide +kernel)⟩
theorem lw_p81 : lw_okq (⟨"RopeDanceModel", "calls", "(III)Z"⟩, 75) := ⟨⟨by decide +kernel, by decide +kernel⟩, List.mem_of_getElem? (i := 1216) (by decide +kernel), List.mem_of_getElem? (i := 1684) (by decide +kernel), List.mem_of_getElem? (i := 1685) (by decide +kernel)⟩
theorem lw_p82 : lw_okq (⟨"RopeDanceModel", "records", "()V"⟩, 75) := ⟨⟨by decide +kernel, by decide +kernel⟩, List.mem_of_getElem? (i := 1216) (by decide +kernel), List.mem_of_getElem? (i := 1688) (by decide +kernel), List.mem_of_getElem? (i := 1689) (by decide +kernel)⟩
theorem lw_p83 : lw_okq (⟨"RopeDanceModel", "becomes", "(II)Z"⟩, 75) := ⟨⟨by decide +kernel, by decide +kernel⟩, List.mem_of_getElem? (i := 1216) (by decide +kernel), List.mem_of_getElem? (i := 1696) (by decide +kernel), List.mem_of_getElem? (i := 1697) (by decide +kernel)⟩
theorem lw_p84 : lw_okq (⟨"RopeDanceModel", "goes", "(I)V"⟩, 75) := ⟨⟨by decide +kernel, by decide +kernel⟩, List.mem_of_getElem? (i := 1216) (by decide +kernel), List.mem_of_getElem? (i := 1711) (by decide +kernel), List.mem_of_getElem? (i := 1712) (by decide +kernel)⟩
theorem lw_p85 : lw_okq (⟨"RopeDanceModel", "minuteGoes", "()V"⟩, 75) := ⟨⟨by decide +kernel, by decide +kernel⟩, List.mem_of_getElem? (i := 1216) (by decide +kernel), List.mem_of_getElem? (i := 1715) (by decide +kernel), List.mem_of_getElem? (i := 1716) (by decide +kernel)⟩
theorem lw_p86 : lw_okq (⟨"RopeDanceModel", "dances", "(I)V"⟩, 75) := ⟨⟨by decide +kernel, by decide +kernel⟩, List.mem_of_getElem? (i := 1216) (by decide +kernel), List.mem_of_getElem? (i := 1719) (by decide +kernel), List.mem_of_getElem? (i := 1720) (by decide +kernel)⟩
theorem lw_p87 : lw_okq (⟨"RopeDanceModel", "figuresNow", "()I"⟩, 75) := ⟨⟨by decide +kernel, by decide +kernel⟩, List.mem_of_getElem? (i := 1216) (by decide +kernel), List.mem_of_getElem? (i := 1723) (by decide +kernel), List.mem_of_getElem? (i := 1724) (by decide +kernel)⟩
theorem lw_p88 : lw_okq (⟨"RopeDanceModel", "lotOf", "(II)I"⟩, 75) := ⟨⟨by decide +kernel, by decide +kernel⟩, List.mem_of_getElem? (i := 1216) (by decide +kernel), List.mem_of_getElem? (i := 1727) (by decide +kernel), List.mem_of_getElem? (i := 1728) (by decide +kernel)⟩
theorem lw_p89 : lw_okq (⟨"RopeDanceModel", "isSlip", "(I)Z"⟩, 75) := ⟨⟨by decide +kernel, by decide +kernel⟩, List.mem_of_getElem? (i := 1216) (by decide +kernel), List.mem_of_getElem? (i := 1735) (by decide +kernel), List.mem_of_getElem? (i := 1736) (by decide +kernel)⟩
theorem lw_p90 : lw_okq (⟨"RopeDanceModel", "restAt", "(I)I"⟩, 75) := ⟨⟨by decide +kernel, by decide +kernel⟩, List.mem_of_getElem? (i := 1216) (by decide +kernel), List.mem_of_getElem? (i := 1756) (by decide +kernel), List.mem_of_getElem? (i := 1757) (by decide +kernel)⟩
theorem lw_p91 : lw_okq (⟨"RopeDanceModel", "planOf", "(III)I"⟩, 75) := ⟨⟨by decide +kernel, by decide +kernel⟩, List.mem_of_getElem? (i := 1216) (by decide +kernel), List.mem_of_getElem? (i := 1764) (by decide +kernel), List.mem_of_getElem? (i := 1765) (by decide +kernel)⟩
theorem lw_p92 : lw_okq (⟨"RopeDanceModel", "goesThrough", "(I)V"⟩, 75) := ⟨⟨by decide +kernel, by decide +kernel⟩, List.mem_of_getElem? (i := 1216) (by decide +kernel), List.mem_of_getElem? (i := 1768) (by decide +kernel), List.mem_of_getElem? (i := 1769) (by decide +kernel)⟩
theorem lw_p93 : lw_okq (⟨"RopeDanceModel", "closedP", "(I)I"⟩, 75) := ⟨⟨by decide +kernel, by decide +kernel⟩, List.mem_of_getElem? (i := 1216) (by decide +kernel), List.mem_of_getElem? (i := 1784) (by decide +kernel), List.mem_of_getElem? (i := 1785) (by decide +kernel)⟩
theorem lw_p94 : lw_okq (⟨"RopeDanceModel", "closedQ", "(I)I"⟩, 75) := ⟨⟨by decide +kernel, by decide +kernel⟩, List.mem_of_getElem? (i := 1216) (by decide +kernel), List.mem_of_getElem? (i := 1788) (by decide +kernel), List.mem_of_getElem? (i := 1789) (by decide +kernel)⟩
theorem lw_p95 : lw_okq (⟨"RopeDanceModel", "tableOf", "(I)V"⟩, 75) := ⟨⟨by decide +kernel, by decide +kernel⟩, List.mem_of_getElem? (i := 1216) (by decide +kernel), List.mem_of_getElem? (i := 1809) (by decide +kernel), List.mem_of_getElem? (i := 1810) (by decide +kernel)⟩
def lw_privs_6 : List (MethodName × Nat) := [(⟨"RopeDanceModel", "calledBy", "(III)I"⟩, 75), (⟨"RopeDanceModel", "calls", "(III)Z"⟩, 75), (⟨"RopeDanceModel", "records", "()V"⟩, 75), (⟨"RopeDanceModel", "becomes", "(II)Z"⟩, 75), (⟨"RopeDanceModel", "goes", "(I)V"⟩, 75), (⟨"RopeDanceModel", "minuteGoes", "()V"⟩, 75), (⟨"RopeDanceModel", "dances", "(I)V"⟩, 75), (⟨"RopeDanceModel", "figuresNow", "()I"⟩, 75), (⟨"RopeDanceModel", "lotOf", "(II)I"⟩, 75), (⟨"RopeDanceModel", "isSlip", "(I)Z"⟩, 75), (⟨"RopeDanceModel", "restAt", "(I)I"⟩, 75), (⟨"RopeDanceModel", "planOf", "(III)I"⟩, 75), (⟨"RopeDanceModel", "goesThrough", "(I)V"⟩, 75), (⟨"RopeDanceModel", "closedP", "(I)I"⟩, 75), (⟨"RopeDanceModel", "closedQ", "(I)I"⟩, 75), (⟨"RopeDanceModel", "tableOf", "(I)V"⟩, 75)]
theorem lw_r6 : ∀ q ∈ lw_privs_6, lw_okq q := List.forall_mem_cons.mpr ⟨lw_p80, List.forall_mem_cons.mpr ⟨lw_p81, List.forall_mem_cons.mpr ⟨lw_p82, List.forall_mem_cons.mpr ⟨lw_p83, List.forall_mem_cons.mpr ⟨lw_p84, List.forall_mem_cons.mpr ⟨lw_p85, List.forall_mem_cons.mpr ⟨lw_p86, List.forall_mem_cons.mpr ⟨lw_p87, List.forall_mem_cons.mpr ⟨lw_p88, List.forall_mem_cons.mpr ⟨lw_p89, List.forall_mem_cons.mpr ⟨lw_p90, List.forall_mem_cons.mpr ⟨lw_p91, List.forall_mem_cons.mpr ⟨lw_p92, List.forall_mem_cons.mpr ⟨lw_p93, List.forall_mem_cons.mpr ⟨lw_p94, List.forall_mem_cons.mpr ⟨lw_p95, fun _ h => absurd h List.not_mem_nil⟩⟩⟩⟩⟩⟩⟩⟩⟩⟩⟩⟩⟩⟩⟩⟩
theorem lw_p96 : lw_okq (⟨"RopeDanceModel", "noTable", "()V"⟩, 75) := ⟨⟨by decide +kernel, by decide +kernel⟩, List.mem_of_getElem? (i := 1216) (by decide +kernel), List.mem_of_getElem? (i := 1813) (by decide +kernel), List.mem_of_getElem? (i := 1814) (by decide +kernel)⟩
theorem lw_p97 : lw_okq (⟨"RopeDanceModel", "tablesOn", "(I)V"⟩, 75) := ⟨⟨by decide +kernel, by decide +kernel⟩, List.mem_of_getElem? (i := 1216) (by decide +kernel), List.mem_of_getElem? (i := 1817) (by decide +kernel), List.mem_of_getElem? (i := 1818) (by decide +kernel)⟩
theorem lw_p98 : lw_okq (⟨"RopeDanceModel", "signsTable", "()V"⟩, 75) := ⟨⟨by decide +kernel, by decide +kernel⟩, List.mem_of_getElem? (i := 1216) (by decide +kernel), List.mem_of_getElem? (i := 1821) (by decide +kernel), List.mem_of_getElem? (i := 1822) (by decide +kernel)⟩
theorem lw_p99 : lw_okq (⟨"RopeDanceModel", "isNoTable", "()Z"⟩, 75) := ⟨⟨by decide +kernel, by decide +kernel⟩, List.mem_of_getElem? (i := 1216) (by decide +kernel), List.mem_of_getElem? (i := 1829) (by decide +kernel), List.mem_of_getElem? (i := 1830) (by decide +kernel)⟩
theorem lw_p100 : lw_okq (⟨"RopeDanceModel", "restsBy", "(I)V"⟩, 75) := ⟨⟨by decide +kernel, by decide +kernel⟩, List.mem_of_getElem? (i := 1216) (by decide +kernel), List.mem_of_getElem? (i := 1840) (by decide +kernel), List.mem_of_getElem? (i := 1841) (by decide +kernel)⟩
theorem lw_p101 : lw_okq (⟨"RopeDanceModel", "putsTogether", "()V"⟩, 75) := ⟨⟨by decide +kernel, by decide +kernel⟩, List.mem_of_getElem? (i := 1216) (by decide +kernel), List.mem_of_getElem? (i := 1844) (by decide +kernel), List.mem_of_getElem? (i := 1845) (by decide +kernel)⟩
theorem lw_p102 : lw_okq (⟨"RopeDanceModel", "doubles", "()V"⟩, 75) := ⟨⟨by decide +kernel, by decide +kernel⟩, List.mem_of_getElem? (i := 1216) (by decide +kernel), List.mem_of_getElem? (i := 1853) (by decide +kernel), List.mem_of_getElem? (i := 1854) (by decide +kernel)⟩
theorem lw_p103 : lw_okq (⟨"RopeDanceModel", "doesStay", "(II)Z"⟩, 75) := ⟨⟨by decide +kernel, by decide +kernel⟩, List.mem_of_getElem? (i := 1216) (by decide +kernel), List.mem_of_getElem? (i := 1861) (by decide +kernel), List.mem_of_getElem? (i := 1862) (by decide +kernel)⟩
theorem lw_p104 : lw_okq (⟨"RopeDanceModel", "isAsked", "(III)Z"⟩, 75) := ⟨⟨by decide +kernel, by decide +kernel⟩, List.mem_of_getElem? (i := 1216) (by decide +kernel), List.mem_of_getElem? (i := 1897) (by decide +kernel), List.mem_of_getElem? (i := 1898) (by decide +kernel)⟩
theorem lw_p105 : lw_okq (⟨"RopeDanceModel", "rowsMany", "(I)I"⟩, 75) := ⟨⟨by decide +kernel, by decide +kernel⟩, List.mem_of_getElem? (i := 1216) (by decide +kernel), List.mem_of_getElem? (i := 1901) (by decide +kernel), List.mem_of_getElem? (i := 1902) (by decide +kernel)⟩
theorem lw_p106 : lw_okq (⟨"RopeDanceModel", "doesFit", "(IIII)Z"⟩, 75) := ⟨⟨by decide +kernel, by decide +kernel⟩, List.mem_of_getElem? (i := 1216) (by decide +kernel), List.mem_of_getElem? (i := 1905) (by decide +kernel), List.mem_of_getElem? (i := 1906) (by decide +kernel)⟩
theorem lw_p107 : lw_okq (⟨"RopeDanceModel", "ofEnds", "(I)I"⟩, 75) := ⟨⟨by decide +kernel, by decide +kernel⟩, List.mem_of_getElem? (i := 1216) (by decide +kernel), List.mem_of_getElem? (i := 1925) (by decide +kernel), List.mem_of_getElem? (i := 1926) (by decide +kernel)⟩
def lw_privs_7 : List (MethodName × Nat) := [(⟨"RopeDanceModel", "noTable", "()V"⟩, 75), (⟨"RopeDanceModel", "tablesOn", "(I)V"⟩, 75), (⟨"RopeDanceModel", "signsTable", "()V"⟩, 75), (⟨"RopeDanceModel", "isNoTable", "()Z"⟩, 75), (⟨"RopeDanceModel", "restsBy", "(I)V"⟩, 75), (⟨"RopeDanceModel", "putsTogether", "()V"⟩, 75), (⟨"RopeDanceModel", "doubles", "()V"⟩, 75), (⟨"RopeDanceModel", "doesStay", "(II)Z"⟩, 75), (⟨"RopeDanceModel", "isAsked", "(III)Z"⟩, 75), (⟨"RopeDanceModel", "rowsMany", "(I)I"⟩, 75), (⟨"RopeDanceModel", "doesFit", "(IIII)Z"⟩, 75), (⟨"RopeDanceModel", "ofEnds", "(I)I"⟩, 75)]
theorem lw_r7 : ∀ q ∈ lw_privs_7, lw_okq q := List.forall_mem_cons.mpr ⟨lw_p96, List.forall_mem_cons.mpr ⟨lw_p97, List.forall_mem_cons.mpr ⟨lw_p98, List.forall_mem_cons.mpr ⟨lw_p99, List.forall_mem_cons.mpr ⟨lw_p100, List.forall_mem_cons.mpr ⟨lw_p101, List.forall_mem_cons.mpr ⟨lw_p102, List.forall_mem_cons.mpr ⟨lw_p103, List.forall_mem_cons.mpr ⟨lw_p104, List.forall_mem_cons.mpr ⟨lw_p105, List.forall_mem_cons.mpr ⟨lw_p106, List.forall_mem_cons.mpr ⟨lw_p107, fun _ h => absurd h List.not_mem_nil⟩⟩⟩⟩⟩⟩⟩⟩⟩⟩⟩⟩
def lw_privs : List (MethodName × Nat) := lw_privs_1 ++ (lw_privs_2 ++ (lw_privs_3 ++ (lw_privs_4 ++ (lw_privs_5 ++ (lw_privs_6 ++ (lw_privs_7))))))
def lw_tbl : List Cond := k2_sels lw_privs ++ tables_1
theorem lw_privs_ok : ∀ q ∈ lw_privs, lw_okq q := by
  show ∀ q ∈ lw_privs_1 ++ (lw_privs_2 ++ (lw_privs_3 ++ (lw_privs_4 ++ (lw_privs_5 ++ (lw_privs_6 ++ (lw_privs_7)))))), lw_okq q
  exact List.forall_mem_append.mpr ⟨lw_r1, List.forall_mem_append.mpr ⟨lw_r2, List.forall_mem_append.mpr ⟨lw_r3, List.forall_mem_append.mpr ⟨lw_r4, List.forall_mem_append.mpr ⟨lw_r5, List.forall_mem_append.mpr ⟨lw_r6, lw_r7⟩⟩⟩⟩⟩⟩
theorem xin_1 {w : Cond} (h : w ∈ tables_1_1) : w ∈ lw_tbl := List.mem_append_right _ (List.mem_append_left _ h)
theorem xin_2 {w : Cond} (h : w ∈ tables_1_2) : w ∈ lw_tbl := List.mem_append_right _ (List.mem_append_right _ (List.mem_append_left _ h))
theorem xin_3 {w : Cond} (h : w ∈ tables_1_3) : w ∈ lw_tbl := List.mem_append_right _ (List.mem_append_right _ (List.mem_append_right _ (List.mem_append_left _ h)))
theorem xin_4 {w : Cond} (h : w ∈ tables_1_4) : w ∈ lw_tbl := List.mem_append_right _ (List.mem_append_right _ (List.mem_append_right _ (List.mem_append_right _ (List.mem_append_left _ h))))
theorem xin_5 {w : Cond} (h : w ∈ tables_1_5) : w ∈ lw_tbl := List.mem_append_right _ (List.mem_append_right _ (List.mem_append_right _ (List.mem_append_right _ (List.mem_append_right _ (List.mem_append_left _ h)))))
theorem xin_6 {w : Cond} (h : w ∈ tables_1_6) : w ∈ lw_tbl := List.mem_append_right _ (List.mem_append_right _ (List.mem_append_right _ (List.mem_append_right _ (List.mem_append_right _ (List.mem_append_right _ (List.mem_append_left _ h))))))
theorem xin_7 {w : Cond} (h : w ∈ tables_1_7) : w ∈ lw_tbl := List.mem_append_right _ (List.mem_append_right _ (List.mem_append_right _ (List.mem_append_right _ (List.mem_append_right _ (List.mem_append_right _ (List.mem_append_right _ (List.mem_append_left _ h)))))))
theorem xin_8 {w : Cond} (h : w ∈ tables_1_8) : w ∈ lw_tbl := List.mem_append_right _ (List.mem_append_right _ (List.mem_append_right _ (List.mem_append_right _ (List.mem_append_right _ (List.mem_append_right _ (List.mem_append_right _ (List.mem_append_right _ (List.mem_append_left _ h))))))))
theorem xin_9 {w : Cond} (h : w ∈ tables_1_9) : w ∈ lw_tbl := List.mem_append_right _ (List.mem_append_right _ (List.mem_append_right _ (List.mem_append_right _ (List.mem_append_right _ (List.mem_append_right _ (List.mem_append_right _ (List.mem_append_right _ (List.mem_append_right _ h))))))))
theorem xip_1 {q : MethodName × Nat} (h : q ∈ lw_privs_1) : Cond.selects q.1.cls q.1 q.1 ∈ lw_tbl := List.mem_append_left _ (List.mem_map.mpr ⟨q, (List.mem_append_left _ h), rfl⟩)
theorem xip_2 {q : MethodName × Nat} (h : q ∈ lw_privs_2) : Cond.selects q.1.cls q.1 q.1 ∈ lw_tbl := List.mem_append_left _ (List.mem_map.mpr ⟨q, (List.mem_append_right _ (List.mem_append_left _ h)), rfl⟩)
theorem xip_3 {q : MethodName × Nat} (h : q ∈ lw_privs_3) : Cond.selects q.1.cls q.1 q.1 ∈ lw_tbl := List.mem_append_left _ (List.mem_map.mpr ⟨q, (List.mem_append_right _ (List.mem_append_right _ (List.mem_append_left _ h))), rfl⟩)
theorem xip_4 {q : MethodName × Nat} (h : q ∈ lw_privs_4) : Cond.selects q.1.cls q.1 q.1 ∈ lw_tbl := List.mem_append_left _ (List.mem_map.mpr ⟨q, (List.mem_append_right _ (List.mem_append_right _ (List.mem_append_right _ (List.mem_append_left _ h)))), rfl⟩)
theorem xip_5 {q : MethodName × Nat} (h : q ∈ lw_privs_5) : Cond.selects q.1.cls q.1 q.1 ∈ lw_tbl := List.mem_append_left _ (List.mem_map.mpr ⟨q, (List.mem_append_right _ (List.mem_append_right _ (List.mem_append_right _ (List.mem_append_right _ (List.mem_append_left _ h))))), rfl⟩)
theorem xip_6 {q : MethodName × Nat} (h : q ∈ lw_privs_6) : Cond.selects q.1.cls q.1 q.1 ∈ lw_tbl := List.mem_append_left _ (List.mem_map.mpr ⟨q, (List.mem_append_right _ (List.mem_append_right _ (List.mem_append_right _ (List.mem_append_right _ (List.mem_append_right _ (List.mem_append_left _ h)))))), rfl⟩)
theorem xip_7 {q : MethodName × Nat} (h : q ∈ lw_privs_7) : Cond.selects q.1.cls q.1 q.1 ∈ lw_tbl := List.mem_append_left _ (List.mem_map.mpr ⟨q, (List.mem_append_right _ (List.mem_append_right _ (List.mem_append_right _ (List.mem_append_right _ (List.mem_append_right _ (List.mem_append_right _ h)))))), rfl⟩)
abbrev yX0_init : MethodName := ⟨"RopeDance$Evening", "<init>", "()V"⟩
abbrev bX0_init : ByteArray := prog_2_method_1_code
abbrev yX0_begin : MethodName := ⟨"RopeDance$Evening", "begin", "(LRopeDance$Text;)V"⟩
abbrev bX0_begin : ByteArray := prog_2_method_2_code
abbrev yX0_passMinute : MethodName := ⟨"RopeDance$Evening", "passMinute", "(LRopeDance$Text;)V"⟩
abbrev bX0_passMinute : ByteArray := prog_2_method_3_code
abbrev yX0_putInto : MethodName := ⟨"RopeDance$Evening", "putInto", "([I)V"⟩
abbrev bX0_putInto : ByteArray := prog_2_method_4_code
abbrev yX0_takeFrom : MethodName := ⟨"RopeDance$Evening", "takeFrom", "([I)V"⟩
abbrev bX0_takeFrom : ByteArray := prog_2_method_5_code
abbrev yX1_init : MethodName := ⟨"RopeDance$Memory", "<init>", "()V"⟩
abbrev bX1_init : ByteArray := prog_3_method_1_code
abbrev yX1_clear : MethodName := ⟨"RopeDance$Memory", "clear", "()V"⟩
abbrev bX1_clear : ByteArray := prog_3_method_2_code
abbrev yX1_remember : MethodName := ⟨"RopeDance$Memory", "remember", "(LRopeDance$Evening;)V"⟩
abbrev bX1_remember : ByteArray := prog_3_method_3_code
abbrev yX1_takeBack : MethodName := ⟨"RopeDance$Memory", "takeBack", "(LRopeDance$Evening;)Z"⟩
abbrev bX1_takeBack : ByteArray := prog_3_method_4_code
abbrev yX1_keep : MethodName := ⟨"RopeDance$Memory", "keep", "(ILRopeDance$Evening;)Z"⟩
abbrev bX1_keep : ByteArray := prog_3_method_5_code
abbrev yX1_goOn : MethodName := ⟨"RopeDance$Memory", "goOn", "(ILRopeDance$Evening;)Z"⟩
abbrev bX1_goOn : ByteArray := prog_3_method_6_code
abbrev yX1_heldSlots : MethodName := ⟨"RopeDance$Memory", "heldSlots", "()I"⟩
abbrev bX1_heldSlots : ByteArray := prog_3_method_7_code
abbrev yX2_init : MethodName := ⟨"RopeDance$Reader", "<init>", "(LRopeDance$Tape;LRopeDance$Text;)V"⟩
abbrev bX2_init : ByteArray := prog_4_method_1_code
abbrev yX2_readInto : MethodName := ⟨"RopeDance$Reader", "readInto", "(LRopeDance$Text;)V"⟩
abbrev bX2_readInto : ByteArray := prog_4_method_2_code
abbrev yX2_fail : MethodName := ⟨"RopeDance$Reader", "fail", "(I)V"⟩
abbrev bX2_fail : ByteArray := prog_4_method_3_code
abbrev yX2_suspect : MethodName := ⟨"RopeDance$Reader", "suspect", "(II)V"⟩
abbrev bX2_suspect : ByteArray := prog_4_method_4_code
abbrev yX2_isAt : MethodName := ⟨"RopeDance$Reader", "isAt", "(I)Z"⟩
abbrev bX2_isAt : ByteArray := prog_4_method_5_code
abbrev yX2_take : MethodName := ⟨"RopeDance$Reader", "take", "(I)V"⟩
abbrev bX2_take : ByteArray := prog_4_method_6_code
abbrev yX2_readTell : MethodName := ⟨"RopeDance$Reader", "readTell", "(I)V"⟩
abbrev bX2_readTell : ByteArray := prog_4_method_7_code
abbrev yX2_readRow : MethodName := ⟨"RopeDance$Reader", "readRow", "(ILRopeDance$Row;)V"⟩
abbrev bX2_readRow : ByteArray := prog_4_method_8_code
abbrev yX2_suspectName : MethodName := ⟨"RopeDance$Reader", "suspectName", "(JI)V"⟩
abbrev bX2_suspectName : ByteArray := prog_4_method_9_code
abbrev yX2_isMove : MethodName := ⟨"RopeDance$Reader", "isMove", "(I)Z"⟩
abbrev bX2_isMove : ByteArray := prog_4_method_10_code
abbrev yX2_readMove : MethodName := ⟨"RopeDance$Reader", "readMove", "(LRopeDance$Row;)V"⟩
abbrev bX2_readMove : ByteArray := prog_4_method_11_code
abbrev yX2_readSeed : MethodName := ⟨"RopeDance$Reader", "readSeed", "()V"⟩
abbrev bX2_readSeed : ByteArray := prog_4_method_12_code
abbrev yX2_readLaw : MethodName := ⟨"RopeDance$Reader", "readLaw", "(I)V"⟩
abbrev bX2_readLaw : ByteArray := prog_4_method_13_code
abbrev yX2_readSum : MethodName := ⟨"RopeDance$Reader", "readSum", "()V"⟩
abbrev bX2_readSum : ByteArray := prog_4_method_14_code
abbrev yX2_readUnit : MethodName := ⟨"RopeDance$Reader", "readUnit", "(I)V"⟩
abbrev bX2_readUnit : ByteArray := prog_4_method_15_code
abbrev yX2_addWaiting : MethodName := ⟨"RopeDance$Reader", "addWaiting", "(I)V"⟩
abbrev bX2_addWaiting : ByteArray := prog_4_method_16_code
abbrev yX2_releaseDownTo : MethodName := ⟨"RopeDance$Reader", "releaseDownTo", "(I)V"⟩
abbrev bX2_releaseDownTo : ByteArray := prog_4_method_17_code
abbrev yX3_init : MethodName := ⟨"RopeDance$Row", "<init>", "()V"⟩
abbrev bX3_init : ByteArray := prog_5_method_1_code
abbrev yX3_clear : MethodName := ⟨"RopeDance$Row", "clear", "()V"⟩
abbrev bX3_clear : ByteArray := prog_5_method_2_code
abbrev yX3_isFull : MethodName := ⟨"RopeDance$Row", "isFull", "()Z"⟩
abbrev bX3_isFull : ByteArray := prog_5_method_3_code
abbrev yX3_add : MethodName := ⟨"RopeDance$Row", "add", "(II)V"⟩
abbrev bX3_add : ByteArray := prog_5_method_4_code
abbrev yX3_makes : MethodName := ⟨"RopeDance$Row", "makes", "(LRopeDance$Square;I)Z"⟩
abbrev bX3_makes : ByteArray := prog_5_method_5_code
abbrev yX4_init : MethodName := ⟨"RopeDance$Search", "<init>", "()V"⟩
abbrev bX4_init : ByteArray := prog_6_method_1_code
abbrev yX4_number : MethodName := ⟨"RopeDance$Search", "number", "(II)I"⟩
abbrev bX4_number : ByteArray := prog_6_method_2_code
abbrev yX4_startAnew : MethodName := ⟨"RopeDance$Search", "startAnew", "()V"⟩
abbrev bX4_startAnew : ByteArray := prog_6_method_3_code
abbrev yX4_spread : MethodName := ⟨"RopeDance$Search", "spread", "(LRopeDance$Text;LRopeDance$Square;)V"⟩
abbrev bX4_spread : ByteArray := prog_6_method_4_code
abbrev yX4_forgetFound : MethodName := ⟨"RopeDance$Search", "forgetFound", "()V"⟩
abbrev bX4_forgetFound : ByteArray := prog_6_method_5_code
abbrev yX4_add : MethodName := ⟨"RopeDance$Search", "add", "(II)V"⟩
abbrev bX4_add : ByteArray := prog_6_method_6_code
abbrev yX4_lengthTo : MethodName := ⟨"RopeDance$Search", "lengthTo", "(I)I"⟩
abbrev bX4_lengthTo : ByteArray := prog_6_method_7_code
abbrev yX4_figureBeforeLast : MethodName := ⟨"RopeDance$Search", "figureBeforeLast", "(II)I"⟩
abbrev bX4_figureBeforeLast : ByteArray := prog_6_method_8_code
abbrev yX5_init : MethodName := ⟨"RopeDance$Square", "<init>", "()V"⟩
abbrev bX5_init : ByteArray := prog_7_method_1_code
abbrev yX5_isTangle : MethodName := ⟨"RopeDance$Square", "isTangle", "(I)Z"⟩
abbrev bX5_isTangle : ByteArray := prog_7_method_2_code
abbrev yX5_endsOf : MethodName := ⟨"RopeDance$Square", "endsOf", "(II)I"⟩
abbrev bX5_endsOf : ByteArray := prog_7_method_3_code
abbrev yX5_take : MethodName := ⟨"RopeDance$Square", "take", "(LRopeDance$Square;)V"⟩
abbrev bX5_take : ByteArray := prog_7_method_4_code
abbrev yX5_takeTangle : MethodName := ⟨"RopeDance$Square", "takeTangle", "(LRopeDance$Square;)V"⟩
abbrev bX5_takeTangle : ByteArray := prog_7_method_5_code
abbrev yX5_letGo : MethodName := ⟨"RopeDance$Square", "letGo", "()V"⟩
abbrev bX5_letGo : ByteArray := prog_7_method_6_code
abbrev yX5_isUndone : MethodName := ⟨"RopeDance$Square", "isUndone", "()Z"⟩
abbrev bX5_isUndone : ByteArray := prog_7_method_7_code
abbrev yX5_makes : MethodName := ⟨"RopeDance$Square", "makes", "(II)Z"⟩
abbrev bX5_makes : ByteArray := prog_7_method_8_code
abbrev yX5_turn : MethodName := ⟨"RopeDance$Square", "turn", "()V"⟩
abbrev bX5_turn : ByteArray := prog_7_method_9_code
abbrev yX5_crossings : MethodName := ⟨"RopeDance$Square", "crossings", "()I"⟩
abbrev bX5_crossings : ByteArray := prog_7_method_10_code
abbrev yX5_ends : MethodName := ⟨"RopeDance$Square", "ends", "()I"⟩
abbrev bX5_ends : ByteArray := prog_7_method_11_code
abbrev yX5_closedP : MethodName := ⟨"RopeDance$Square", "closedP", "()I"⟩
abbrev bX5_closedP : ByteArray := prog_7_method_12_code
abbrev yX5_closedQ : MethodName := ⟨"RopeDance$Square", "closedQ", "()I"⟩
abbrev bX5_closedQ : ByteArray := prog_7_method_13_code
abbrev yX6_init : MethodName := ⟨"RopeDance$Table", "<init>", "()V"⟩
abbrev bX6_init : ByteArray := prog_8_method_1_code
abbrev yX6_clear : MethodName := ⟨"RopeDance$Table", "clear", "()V"⟩
abbrev bX6_clear : ByteArray := prog_8_method_2_code
abbrev yX6_addMove : MethodName := ⟨"RopeDance$Table", "addMove", "(II)V"⟩
abbrev bX6_addMove : ByteArray := prog_8_method_3_code
abbrev yX6_become : MethodName := ⟨"RopeDance$Table", "become", "(LRopeDance$Table;LRopeDance$Table;)V"⟩
abbrev bX6_become : ByteArray := prog_8_method_4_code
abbrev yX6_restsOf : MethodName := ⟨"RopeDance$Table", "restsOf", "(LRopeDance$Table;I)V"⟩
abbrev bX6_restsOf : ByteArray := prog_8_method_5_code
abbrev yX6_part : MethodName := ⟨"RopeDance$Table", "part", "(I)I"⟩
abbrev bX6_part : ByteArray := prog_8_method_6_code
abbrev yX6_trace : MethodName := ⟨"RopeDance$Table", "trace", "()I"⟩
abbrev bX6_trace : ByteArray := prog_8_method_7_code
abbrev yX6_sign : MethodName := ⟨"RopeDance$Table", "sign", "()I"⟩
abbrev bX6_sign : ByteArray := prog_8_method_8_code
abbrev yX6_isNothing : MethodName := ⟨"RopeDance$Table", "isNothing", "()Z"⟩
abbrev bX6_isNothing : ByteArray := prog_8_method_9_code
abbrev yX6_isNothingBy : MethodName := ⟨"RopeDance$Table", "isNothingBy", "(I)Z"⟩
abbrev bX6_isNothingBy : ByteArray := prog_8_method_10_code
abbrev yX6_isAsFractions : MethodName := ⟨"RopeDance$Table", "isAsFractions", "(LRopeDance$Table;)Z"⟩
abbrev bX6_isAsFractions : ByteArray := prog_8_method_11_code
abbrev yX6_endsOf : MethodName := ⟨"RopeDance$Table", "endsOf", "(I)I"⟩
abbrev bX6_endsOf : ByteArray := prog_8_method_12_code
abbrev yX6_stay : MethodName := ⟨"RopeDance$Table", "stay", "(LRopeDance$Square;)I"⟩
abbrev bX6_stay : ByteArray := prog_8_method_13_code
abbrev yX7_init : MethodName := ⟨"RopeDance$Tape", "<init>", "()V"⟩
abbrev bX7_init : ByteArray := prog_9_method_1_code
abbrev yX7_hasRoom : MethodName := ⟨"RopeDance$Tape", "hasRoom", "(I)Z"⟩
abbrev bX7_hasRoom : ByteArray := prog_9_method_2_code
abbrev yX7_append : MethodName := ⟨"RopeDance$Tape", "append", "(I)V"⟩
abbrev bX7_append : ByteArray := prog_9_method_3_code
abbrev yX7_scan : MethodName := ⟨"RopeDance$Tape", "scan", "()V"⟩
abbrev bX7_scan : ByteArray := prog_9_method_4_code
abbrev yX7_takeUp : MethodName := ⟨"RopeDance$Tape", "takeUp", "(I)V"⟩
abbrev bX7_takeUp : ByteArray := prog_9_method_5_code
abbrev yX7_byteAt : MethodName := ⟨"RopeDance$Tape", "byteAt", "(I)I"⟩
abbrev bX7_byteAt : ByteArray := prog_9_method_6_code
abbrev yX7_behindBlanks : MethodName := ⟨"RopeDance$Tape", "behindBlanks", "(I)I"⟩
abbrev bX7_behindBlanks : ByteArray := prog_9_method_7_code
abbrev yX7_scanToken : MethodName := ⟨"RopeDance$Tape", "scanToken", "(II)I"⟩
abbrev bX7_scanToken : ByteArray := prog_9_method_8_code
abbrev yX7_scanWord : MethodName := ⟨"RopeDance$Tape", "scanWord", "(II)I"⟩
abbrev bX7_scanWord : ByteArray := prog_9_method_9_code
abbrev yX7_scanInt : MethodName := ⟨"RopeDance$Tape", "scanInt", "(II)I"⟩
abbrev bX7_scanInt : ByteArray := prog_9_method_10_code
abbrev yX7_kindOfWord : MethodName := ⟨"RopeDance$Tape", "kindOfWord", "(J)I"⟩
abbrev bX7_kindOfWord : ByteArray := prog_9_method_11_code
abbrev yX7_withLetter : MethodName := ⟨"RopeDance$Tape", "withLetter", "(JI)J"⟩
abbrev bX7_withLetter : ByteArray := prog_9_method_12_code
abbrev yX7_isBlank : MethodName := ⟨"RopeDance$Tape", "isBlank", "(I)Z"⟩
abbrev bX7_isBlank : ByteArray := prog_9_method_13_code
abbrev yX7_isLetter : MethodName := ⟨"RopeDance$Tape", "isLetter", "(I)Z"⟩
abbrev bX7_isLetter : ByteArray := prog_9_method_14_code
abbrev yX7_isDigit : MethodName := ⟨"RopeDance$Tape", "isDigit", "(I)Z"⟩
abbrev bX7_isDigit : ByteArray := prog_9_method_15_code
abbrev yX8_init : MethodName := ⟨"RopeDance$Text", "<init>", "()V"⟩
abbrev bX8_init : ByteArray := prog_10_method_1_code
abbrev yX8_clear : MethodName := ⟨"RopeDance$Text", "clear", "()V"⟩
abbrev bX8_clear : ByteArray := prog_10_method_2_code
abbrev yX8_addShortLaw : MethodName := ⟨"RopeDance$Text", "addShortLaw", "(II)V"⟩
abbrev bX8_addShortLaw : ByteArray := prog_10_method_3_code
abbrev yX8_nextSquare : MethodName := ⟨"RopeDance$Text", "nextSquare", "()LRopeDance$Row;"⟩
abbrev bX8_nextSquare : ByteArray := prog_10_method_4_code
abbrev yX8_nextFigure : MethodName := ⟨"RopeDance$Text", "nextFigure", "()LRopeDance$Row;"⟩
abbrev bX8_nextFigure : ByteArray := prog_10_method_5_code
abbrev yX8_isTold : MethodName := ⟨"RopeDance$Text", "isTold", "(J)Z"⟩
abbrev bX8_isTold : ByteArray := prog_10_method_6_code
abbrev yX8_addName : MethodName := ⟨"RopeDance$Text", "addName", "(J)V"⟩
abbrev bX8_addName : ByteArray := prog_10_method_7_code
abbrev yX8_beginLaw : MethodName := ⟨"RopeDance$Text", "beginLaw", "(I)V"⟩
abbrev bX8_beginLaw : ByteArray := prog_10_method_8_code
abbrev yX8_addCode : MethodName := ⟨"RopeDance$Text", "addCode", "(I)V"⟩
abbrev bX8_addCode : ByteArray := prog_10_method_9_code
abbrev yX8_addUnless : MethodName := ⟨"RopeDance$Text", "addUnless", "()I"⟩
abbrev bX8_addUnless : ByteArray := prog_10_method_10_code
abbrev yX8_sendHere : MethodName := ⟨"RopeDance$Text", "sendHere", "(I)V"⟩
abbrev bX8_sendHere : ByteArray := prog_10_method_11_code
abbrev yX8_worth : MethodName := ⟨"RopeDance$Text", "worth", "(ILRopeDance$Square;III)I"⟩
abbrev bX8_worth : ByteArray := prog_10_method_12_code
abbrev yX8_run : MethodName := ⟨"RopeDance$Text", "run", "(I)I"⟩
abbrev bX8_run : ByteArray := prog_10_method_13_code
abbrev yX8_jump : MethodName := ⟨"RopeDance$Text", "jump", "(I)I"⟩
abbrev bX8_jump : ByteArray := prog_10_method_14_code
abbrev yX8_work : MethodName := ⟨"RopeDance$Text", "work", "(III)I"⟩
abbrev bX8_work : ByteArray := prog_10_method_15_code
abbrev yX8_calls : MethodName := ⟨"RopeDance$Text", "calls", "(LRopeDance$Row;LRopeDance$Square;III)Z"⟩
abbrev bX8_calls : ByteArray := prog_10_method_16_code
abbrev yX8_passMinute : MethodName := ⟨"RopeDance$Text", "passMinute", "(LRopeDance$Square;III)V"⟩
abbrev bX8_passMinute : ByteArray := prog_10_method_17_code
abbrev yX8_lot : MethodName := ⟨"RopeDance$Text", "lot", "(III)I"⟩
abbrev bX8_lot : ByteArray := prog_10_method_18_code
abbrev yX8_mixed : MethodName := ⟨"RopeDance$Text", "mixed", "(II)I"⟩
abbrev bX8_mixed : ByteArray := prog_10_method_19_code
abbrev yX9_init : MethodName := ⟨"RopeDance$Told", "<init>", "()V"⟩
abbrev bX9_init : ByteArray := prog_11_method_1_code
abbrev yX9_add : MethodName := ⟨"RopeDance$Told", "add", "(IIZ)I"⟩
abbrev bX9_add : ByteArray := prog_11_method_2_code
abbrev yX9_canHear : MethodName := ⟨"RopeDance$Told", "canHear", "(II)Z"⟩
abbrev bX9_canHear : ByteArray := prog_11_method_3_code
abbrev yX9_hear : MethodName := ⟨"RopeDance$Told", "hear", "(LRopeDance$Text;LRopeDance$Square;II)V"⟩
abbrev bX9_hear : ByteArray := prog_11_method_4_code
abbrev yX9_canBeCalled : MethodName := ⟨"RopeDance$Told", "canBeCalled", "(LRopeDance$Text;LRopeDance$Square;III)Z"⟩
abbrev bX9_canBeCalled : ByteArray := prog_11_method_5_code
abbrev yX9_fits : MethodName := ⟨"RopeDance$Told", "fits", "(II)Z"⟩
abbrev bX9_fits : ByteArray := prog_11_method_6_code
abbrev yX9_addFitting : MethodName := ⟨"RopeDance$Told", "addFitting", "(II)V"⟩
abbrev bX9_addFitting : ByteArray := prog_11_method_7_code
abbrev yX9_whereToListen : MethodName := ⟨"RopeDance$Told", "whereToListen", "(I)I"⟩
abbrev bX9_whereToListen : ByteArray := prog_11_method_8_code
abbrev yX10_init : MethodName := ⟨"RopeDance$Unwinding", "<init>", "()V"⟩
abbrev bX10_init : ByteArray := prog_12_method_1_code
abbrev yX10_at : MethodName := ⟨"RopeDance$Unwinding", "at", "(II)I"⟩
abbrev bX10_at : ByteArray := prog_12_method_2_code
abbrev yX10_fewest : MethodName := ⟨"RopeDance$Unwinding", "fewest", "(II)I"⟩
abbrev bX10_fewest : ByteArray := prog_12_method_3_code
abbrev yX10_howMany : MethodName := ⟨"RopeDance$Unwinding", "howMany", "(II)I"⟩
abbrev bX10_howMany : ByteArray := prog_12_method_4_code
abbrev yX10_thing : MethodName := ⟨"RopeDance$Unwinding", "thing", "(III)I"⟩
abbrev bX10_thing : ByteArray := prog_12_method_5_code
abbrev yX10_goalOf : MethodName := ⟨"RopeDance$Unwinding", "goalOf", "(II)I"⟩
abbrev bX10_goalOf : ByteArray := prog_12_method_6_code
abbrev yX11_init : MethodName := ⟨"RopeDance", "<init>", "()V"⟩
abbrev bX11_init : ByteArray := prog_1_method_1_code
abbrev yX11_feed : MethodName := ⟨"RopeDance", "feed", "(IIIII)I"⟩
abbrev bX11_feed : ByteArray := prog_1_method_2_code
abbrev yX11_back : MethodName := ⟨"RopeDance", "back", "(I)I"⟩
abbrev bX11_back : ByteArray := prog_1_method_3_code
abbrev yX11_read : MethodName := ⟨"RopeDance", "read", "()I"⟩
abbrev bX11_read : ByteArray := prog_1_method_4_code
abbrev yX11_place : MethodName := ⟨"RopeDance", "place", "()I"⟩
abbrev bX11_place : ByteArray := prog_1_method_5_code
abbrev yX11_square : MethodName := ⟨"RopeDance", "square", "(II)I"⟩
abbrev bX11_square : ByteArray := prog_1_method_6_code
abbrev yX11_figure : MethodName := ⟨"RopeDance", "figure", "(II)I"⟩
abbrev bX11_figure : ByteArray := prog_1_method_7_code
abbrev yX11_tires : MethodName := ⟨"RopeDance", "tires", "(II)I"⟩
abbrev bX11_tires : ByteArray := prog_1_method_8_code
abbrev yX11_after : MethodName := ⟨"RopeDance", "after", "(III)I"⟩
abbrev bX11_after : ByteArray := prog_1_method_9_code
abbrev yX11_call : MethodName := ⟨"RopeDance", "call", "(II)I"⟩
abbrev bX11_call : ByteArray := prog_1_method_10_code
abbrev yX11_move : MethodName := ⟨"RopeDance", "move", "(III)Z"⟩
abbrev bX11_move : ByteArray := prog_1_method_11_code
abbrev yX11_let : MethodName := ⟨"RopeDance", "let", "(I)Z"⟩
abbrev bX11_let : ByteArray := prog_1_method_12_code
abbrev yX11_minutes : MethodName := ⟨"RopeDance", "minutes", "(I)I"⟩
abbrev bX11_minutes : ByteArray := prog_1_method_13_code
abbrev yX11_undo : MethodName := ⟨"RopeDance", "undo", "()Z"⟩
abbrev bX11_undo : ByteArray := prog_1_method_14_code
abbrev yX11_least : MethodName := ⟨"RopeDance", "least", "(I)I"⟩
abbrev bX11_least : ByteArray := prog_1_method_15_code
abbrev yX11_ways : MethodName := ⟨"RopeDance", "ways", "(I)I"⟩
abbrev bX11_ways : ByteArray := prog_1_method_16_code
abbrev yX11_step : MethodName := ⟨"RopeDance", "step", "(II)I"⟩
abbrev bX11_step : ByteArray := prog_1_method_17_code
abbrev yX11_plan : MethodName := ⟨"RopeDance", "plan", "(II)I"⟩
abbrev bX11_plan : ByteArray := prog_1_method_18_code
abbrev yX11_bring : MethodName := ⟨"RopeDance", "bring", "(III)I"⟩
abbrev bX11_bring : ByteArray := prog_1_method_19_code
abbrev yX11_reach : MethodName := ⟨"RopeDance", "reach", "(I)I"⟩
abbrev bX11_reach : ByteArray := prog_1_method_20_code
abbrev yX11_alike : MethodName := ⟨"RopeDance", "alike", "(II)I"⟩
abbrev bX11_alike : ByteArray := prog_1_method_21_code
abbrev yX11_closed : MethodName := ⟨"RopeDance", "closed", "(II)I"⟩
abbrev bX11_closed : ByteArray := prog_1_method_22_code
abbrev yX11_colours : MethodName := ⟨"RopeDance", "colours", "(II)I"⟩
abbrev bX11_colours : ByteArray := prog_1_method_23_code
abbrev yX11_joined : MethodName := ⟨"RopeDance", "joined", "(II)I"⟩
abbrev bX11_joined : ByteArray := prog_1_method_24_code
abbrev yX11_order : MethodName := ⟨"RopeDance", "order", "(I)I"⟩
abbrev bX11_order : ByteArray := prog_1_method_25_code
abbrev yX11_round : MethodName := ⟨"RopeDance", "round", "(II)I"⟩
abbrev bX11_round : ByteArray := prog_1_method_26_code
abbrev yX11_power : MethodName := ⟨"RopeDance", "power", "(IIII)I"⟩
abbrev bX11_power : ByteArray := prog_1_method_27_code
abbrev yX11_stays : MethodName := ⟨"RopeDance", "stays", "(II)I"⟩
abbrev bX11_stays : ByteArray := prog_1_method_28_code
abbrev yX11_mind : MethodName := ⟨"RopeDance", "mind", "(II)I"⟩
abbrev bX11_mind : ByteArray := prog_1_method_29_code
abbrev yX11_reverse : MethodName := ⟨"RopeDance", "reverse", "(I)I"⟩
abbrev bX11_reverse : ByteArray := prog_1_method_30_code
abbrev yX11_hands : MethodName := ⟨"RopeDance", "hands", "(II)I"⟩
abbrev bX11_hands : ByteArray := prog_1_method_31_code
abbrev yX11_then : MethodName := ⟨"RopeDance", "then", "(III)I"⟩
abbrev bX11_then : ByteArray := prog_1_method_32_code
abbrev yX11_year : MethodName := ⟨"RopeDance", "year", "(III)I"⟩
abbrev bX11_year : ByteArray := prog_1_method_33_code
abbrev yX11_tell : MethodName := ⟨"RopeDance", "tell", "(IIZ)I"⟩
abbrev bX11_tell : ByteArray := prog_1_method_34_code
abbrev yX11_forget : MethodName := ⟨"RopeDance", "forget", "()I"⟩
abbrev bX11_forget : ByteArray := prog_1_method_35_code
abbrev yX11_rows : MethodName := ⟨"RopeDance", "rows", "(IIII)I"⟩
abbrev bX11_rows : ByteArray := prog_1_method_36_code
abbrev yX11_listen : MethodName := ⟨"RopeDance", "listen", "(III)I"⟩
abbrev bX11_listen : ByteArray := prog_1_method_37_code
abbrev yX11_hold : MethodName := ⟨"RopeDance", "hold", "(I)Z"⟩
abbrev bX11_hold : ByteArray := prog_1_method_38_code
abbrev yX11_restore : MethodName := ⟨"RopeDance", "restore", "(I)Z"⟩
abbrev bX11_restore : ByteArray := prog_1_method_39_code
abbrev yX11_count : MethodName := ⟨"RopeDance", "count", "(I)I"⟩
abbrev bX11_count : ByteArray := prog_1_method_40_code
abbrev yX11_takeDraft : MethodName := ⟨"RopeDance", "takeDraft", "()V"⟩
abbrev bX11_takeDraft : ByteArray := prog_1_method_41_code
abbrev yX11_squareAt : MethodName := ⟨"RopeDance", "squareAt", "(I)LRopeDance$Square;"⟩
abbrev bX11_squareAt : ByteArray := prog_1_method_42_code
abbrev yX11_figureAt : MethodName := ⟨"RopeDance", "figureAt", "(I)LRopeDance$Row;"⟩
abbrev bX11_figureAt : ByteArray := prog_1_method_43_code
abbrev yX11_isDivisor : MethodName := ⟨"RopeDance", "isDivisor", "(I)Z"⟩
abbrev bX11_isDivisor : ByteArray := prog_1_method_44_code
abbrev yX11_unwinding : MethodName := ⟨"RopeDance", "unwinding", "()LRopeDance$Unwinding;"⟩
abbrev bX11_unwinding : ByteArray := prog_1_method_45_code
abbrev yX11_searchFrom : MethodName := ⟨"RopeDance", "searchFrom", "(LRopeDance$Square;)LRopeDance$Search;"⟩
abbrev bX11_searchFrom : ByteArray := prog_1_method_46_code
abbrev yX11_figuresTo : MethodName := ⟨"RopeDance", "figuresTo", "(LRopeDance$Square;LRopeDance$Square;I)I"⟩
abbrev bX11_figuresTo : ByteArray := prog_1_method_47_code
abbrev yX11_roundOf : MethodName := ⟨"RopeDance", "roundOf", "(LRopeDance$Table;I)I"⟩
abbrev bX11_roundOf : ByteArray := prog_1_method_48_code
abbrev yX11_tryMinutes : MethodName := ⟨"RopeDance", "tryMinutes", "(LRopeDance$Square;III)V"⟩
abbrev bX11_tryMinutes : ByteArray := prog_1_method_49_code
abbrev yX11_allCrossings : MethodName := ⟨"RopeDance", "allCrossings", "()I"⟩
abbrev bX11_allCrossings : ByteArray := prog_1_method_50_code
abbrev yX11_undoneSquares : MethodName := ⟨"RopeDance", "undoneSquares", "()I"⟩
abbrev bX11_undoneSquares : ByteArray := prog_1_method_51_code
abbrev yX11_allTired : MethodName := ⟨"RopeDance", "allTired", "()I"⟩
abbrev bX11_allTired : ByteArray := prog_1_method_52_code
abbrev yX11_allCalled : MethodName := ⟨"RopeDance", "allCalled", "()I"⟩
abbrev bX11_allCalled : ByteArray := prog_1_method_53_code
abbrev yX11_squaresOfEnds : MethodName := ⟨"RopeDance", "squaresOfEnds", "(I)I"⟩
abbrev bX11_squaresOfEnds : ByteArray := prog_1_method_54_code
abbrev yX11_greatest : MethodName := ⟨"RopeDance", "greatest", "(II)I"⟩
abbrev bX11_greatest : ByteArray := prog_1_method_55_code
abbrev yX12_init : MethodName := ⟨"RopeDanceModel", "<init>", "()V"⟩
abbrev bX12_init : ByteArray := prog_14_method_2_code
abbrev yX12_feed : MethodName := ⟨"RopeDanceModel", "feed", "(IIIII)I"⟩
abbrev bX12_feed : ByteArray := prog_14_method_3_code
abbrev yX12_lays : MethodName := ⟨"RopeDanceModel", "lays", "(I)V"⟩
abbrev bX12_lays : ByteArray := prog_14_method_4_code
abbrev yX12_back : MethodName := ⟨"RopeDanceModel", "back", "(I)I"⟩
abbrev bX12_back : ByteArray := prog_14_method_5_code
abbrev yX12_byteAt : MethodName := ⟨"RopeDanceModel", "byteAt", "(I)I"⟩
abbrev bX12_byteAt : ByteArray := prog_14_method_6_code
abbrev yX12_isDigit : MethodName := ⟨"RopeDanceModel", "isDigit", "(I)Z"⟩
abbrev bX12_isDigit : ByteArray := prog_14_method_7_code
abbrev yX12_isLetter : MethodName := ⟨"RopeDanceModel", "isLetter", "(I)Z"⟩
abbrev bX12_isLetter : ByteArray := prog_14_method_8_code
abbrev yX12_appends : MethodName := ⟨"RopeDanceModel", "appends", "(JI)J"⟩
abbrev bX12_appends : ByteArray := prog_14_method_9_code
abbrev yX12_letters : MethodName := ⟨"RopeDanceModel", "letters", "(IIIIIII)J"⟩
abbrev bX12_letters : ByteArray := prog_14_method_10_code
abbrev yX12_token : MethodName := ⟨"RopeDanceModel", "token", "(IIIJ)V"⟩
abbrev bX12_token : ByteArray := prog_14_method_11_code
abbrev yX12_cut : MethodName := ⟨"RopeDanceModel", "cut", "()V"⟩
abbrev bX12_cut : ByteArray := prog_14_method_12_code
abbrev yX12_sign : MethodName := ⟨"RopeDanceModel", "sign", "(III)I"⟩
abbrev bX12_sign : ByteArray := prog_14_method_13_code
abbrev yX12_is : MethodName := ⟨"RopeDanceModel", "is", "(I)Z"⟩
abbrev bX12_is : ByteArray := prog_14_method_14_code
abbrev yX12_fail : MethodName := ⟨"RopeDanceModel", "fail", "(I)V"⟩
abbrev bX12_fail : ByteArray := prog_14_method_15_code
abbrev yX12_wrong : MethodName := ⟨"RopeDanceModel", "wrong", "(II)V"⟩
abbrev bX12_wrong : ByteArray := prog_14_method_16_code
abbrev yX12_goesOn : MethodName := ⟨"RopeDanceModel", "goesOn", "()V"⟩
abbrev bX12_goesOn : ByteArray := prog_14_method_17_code
abbrev yX12_must : MethodName := ⟨"RopeDanceModel", "must", "(I)V"⟩
abbrev bX12_must : ByteArray := prog_14_method_18_code
abbrev yX12_plain : MethodName := ⟨"RopeDanceModel", "plain", "(I)V"⟩
abbrev bX12_plain : ByteArray := prog_14_method_19_code
abbrev yX12_read : MethodName := ⟨"RopeDanceModel", "read", "()I"⟩
abbrev bX12_read : ByteArray := prog_14_method_20_code
abbrev yX12_place : MethodName := ⟨"RopeDanceModel", "place", "()I"⟩
abbrev bX12_place : ByteArray := prog_14_method_21_code
abbrev yX12_roomFor : MethodName := ⟨"RopeDanceModel", "roomFor", "(II)V"⟩
abbrev bX12_roomFor : ByteArray := prog_14_method_22_code
abbrev yX12_tellOne : MethodName := ⟨"RopeDanceModel", "tellOne", "()V"⟩
abbrev bX12_tellOne : ByteArray := prog_14_method_23_code
abbrev yX12_tellRow : MethodName := ⟨"RopeDanceModel", "tellRow", "(IZ)V"⟩
abbrev bX12_tellRow : ByteArray := prog_14_method_24_code
abbrev yX12_bounded : MethodName := ⟨"RopeDanceModel", "bounded", "(II)I"⟩
abbrev bX12_bounded : ByteArray := prog_14_method_25_code
abbrev yX12_tellLaw : MethodName := ⟨"RopeDanceModel", "tellLaw", "(I)V"⟩
abbrev bX12_tellLaw : ByteArray := prog_14_method_26_code
abbrev yX12_term : MethodName := ⟨"RopeDanceModel", "term", "()V"⟩
abbrev bX12_term : ByteArray := prog_14_method_27_code
abbrev yX12_emit : MethodName := ⟨"RopeDanceModel", "emit", "(II)V"⟩
abbrev bX12_emit : ByteArray := prog_14_method_28_code
abbrev yX12_comesOut : MethodName := ⟨"RopeDanceModel", "comesOut", "(Z)V"⟩
abbrev bX12_comesOut : ByteArray := prog_14_method_29_code
abbrev yX12_expression : MethodName := ⟨"RopeDanceModel", "expression", "()V"⟩
abbrev bX12_expression : ByteArray := prog_14_method_30_code
abbrev yX12_unit : MethodName := ⟨"RopeDanceModel", "unit", "()V"⟩
abbrev bX12_unit : ByteArray := prog_14_method_31_code
abbrev yX12_termOf : MethodName := ⟨"RopeDanceModel", "termOf", "(II)I"⟩
abbrev bX12_termOf : ByteArray := prog_14_method_32_code
abbrev yX12_overOf : MethodName := ⟨"RopeDanceModel", "overOf", "(I)I"⟩
abbrev bX12_overOf : ByteArray := prog_14_method_33_code
abbrev yX12_underOf : MethodName := ⟨"RopeDanceModel", "underOf", "(I)I"⟩
abbrev bX12_underOf : ByteArray := prog_14_method_34_code
abbrev yX12_numberOf : MethodName := ⟨"RopeDanceModel", "numberOf", "(II)I"⟩
abbrev bX12_numberOf : ByteArray := prog_14_method_35_code
abbrev yX12_off : MethodName := ⟨"RopeDanceModel", "off", "(I)I"⟩
abbrev bX12_off : ByteArray := prog_14_method_36_code
abbrev yX12_madeBy : MethodName := ⟨"RopeDanceModel", "madeBy", "(III)I"⟩
abbrev bX12_madeBy : ByteArray := prog_14_method_37_code
abbrev yX12_greatest : MethodName := ⟨"RopeDanceModel", "greatest", "(II)I"⟩
abbrev bX12_greatest : ByteArray := prog_14_method_38_code
abbrev yX12_isTangle : MethodName := ⟨"RopeDanceModel", "isTangle", "(II)Z"⟩
abbrev bX12_isTangle : ByteArray := prog_14_method_39_code
abbrev yX12_crossingsOf : MethodName := ⟨"RopeDanceModel", "crossingsOf", "(I)I"⟩
abbrev bX12_crossingsOf : ByteArray := prog_14_method_40_code
abbrev yX12_endsOf : MethodName := ⟨"RopeDanceModel", "endsOf", "(I)I"⟩
abbrev bX12_endsOf : ByteArray := prog_14_method_41_code
abbrev yX12_figuresNow : MethodName := ⟨"RopeDanceModel", "figuresNow", "()I"⟩
abbrev bX12_figuresNow : ByteArray := prog_14_method_42_code
abbrev yX12_rowAt : MethodName := ⟨"RopeDanceModel", "rowAt", "(I)I"⟩
abbrev bX12_rowAt : ByteArray := prog_14_method_43_code
abbrev yX12_calledBy : MethodName := ⟨"RopeDanceModel", "calledBy", "(III)I"⟩
abbrev bX12_calledBy : ByteArray := prog_14_method_44_code
abbrev yX12_movesOf : MethodName := ⟨"RopeDanceModel", "movesOf", "(I)I"⟩
abbrev bX12_movesOf : ByteArray := prog_14_method_45_code
abbrev yX12_in : MethodName := ⟨"RopeDanceModel", "in", "(III)Z"⟩
abbrev bX12_in : ByteArray := prog_14_method_46_code
abbrev yX12_within : MethodName := ⟨"RopeDanceModel", "within", "(III)I"⟩
abbrev bX12_within : ByteArray := prog_14_method_47_code
abbrev yX12_isSquare : MethodName := ⟨"RopeDanceModel", "isSquare", "(I)Z"⟩
abbrev bX12_isSquare : ByteArray := prog_14_method_48_code
abbrev yX12_isFigure : MethodName := ⟨"RopeDanceModel", "isFigure", "(I)Z"⟩
abbrev bX12_isFigure : ByteArray := prog_14_method_49_code
abbrev yX12_begins : MethodName := ⟨"RopeDanceModel", "begins", "()V"⟩
abbrev bX12_begins : ByteArray := prog_14_method_50_code
abbrev yX12_keepsRow : MethodName := ⟨"RopeDanceModel", "keepsRow", "()V"⟩
abbrev bX12_keepsRow : ByteArray := prog_14_method_51_code
abbrev yX12_copies : MethodName := ⟨"RopeDanceModel", "copies", "()V"⟩
abbrev bX12_copies : ByteArray := prog_14_method_52_code
abbrev yX12_mixed : MethodName := ⟨"RopeDanceModel", "mixed", "(II)I"⟩
abbrev bX12_mixed : ByteArray := prog_14_method_53_code
abbrev yX12_lotOf : MethodName := ⟨"RopeDanceModel", "lotOf", "(II)I"⟩
abbrev bX12_lotOf : ByteArray := prog_14_method_54_code
abbrev yX12_lawTells : MethodName := ⟨"RopeDanceModel", "lawTells", "(II)I"⟩
abbrev bX12_lawTells : ByteArray := prog_14_method_55_code
abbrev yX12_looks : MethodName := ⟨"RopeDanceModel", "looks", "(I)V"⟩
abbrev bX12_looks : ByteArray := prog_14_method_56_code
abbrev yX12_tiresOf : MethodName := ⟨"RopeDanceModel", "tiresOf", "(II)I"⟩
abbrev bX12_tiresOf : ByteArray := prog_14_method_57_code
abbrev yX12_restsOf : MethodName := ⟨"RopeDanceModel", "restsOf", "(I)I"⟩
abbrev bX12_restsOf : ByteArray := prog_14_method_58_code
abbrev yX12_paysOf : MethodName := ⟨"RopeDanceModel", "paysOf", "(I)I"⟩
abbrev bX12_paysOf : ByteArray := prog_14_method_59_code
abbrev yX12_slipsOf : MethodName := ⟨"RopeDanceModel", "slipsOf", "(I)I"⟩
abbrev bX12_slipsOf : ByteArray := prog_14_method_60_code
abbrev yX12_calls : MethodName := ⟨"RopeDanceModel", "calls", "(III)Z"⟩
abbrev bX12_calls : ByteArray := prog_14_method_61_code
abbrev yX12_isSlip : MethodName := ⟨"RopeDanceModel", "isSlip", "(I)Z"⟩
abbrev bX12_isSlip : ByteArray := prog_14_method_62_code
abbrev yX12_dances : MethodName := ⟨"RopeDanceModel", "dances", "(I)V"⟩
abbrev bX12_dances : ByteArray := prog_14_method_63_code
abbrev yX12_minuteGoes : MethodName := ⟨"RopeDanceModel", "minuteGoes", "()V"⟩
abbrev bX12_minuteGoes : ByteArray := prog_14_method_64_code
abbrev yX12_goes : MethodName := ⟨"RopeDanceModel", "goes", "(I)V"⟩
abbrev bX12_goes : ByteArray := prog_14_method_65_code
abbrev yX12_leastWith : MethodName := ⟨"RopeDanceModel", "leastWith", "(III)I"⟩
abbrev bX12_leastWith : ByteArray := prog_14_method_66_code
abbrev yX12_restOf : MethodName := ⟨"RopeDanceModel", "restOf", "(II)I"⟩
abbrev bX12_restOf : ByteArray := prog_14_method_67_code
abbrev yX12_fillsOne : MethodName := ⟨"RopeDanceModel", "fillsOne", "(II)V"⟩
abbrev bX12_fillsOne : ByteArray := prog_14_method_68_code
abbrev yX12_fillsUndoing : MethodName := ⟨"RopeDanceModel", "fillsUndoing", "()V"⟩
abbrev bX12_fillsUndoing : ByteArray := prog_14_method_69_code
abbrev yX12_square : MethodName := ⟨"RopeDanceModel", "square", "(II)I"⟩
abbrev bX12_square : ByteArray := prog_14_method_70_code
abbrev yX12_tires : MethodName := ⟨"RopeDanceModel", "tires", "(II)I"⟩
abbrev bX12_tires : ByteArray := prog_14_method_71_code
abbrev yX12_after : MethodName := ⟨"RopeDanceModel", "after", "(III)I"⟩
abbrev bX12_after : ByteArray := prog_14_method_72_code
abbrev yX12_records : MethodName := ⟨"RopeDanceModel", "records", "()V"⟩
abbrev bX12_records : ByteArray := prog_14_method_73_code
abbrev yX12_becomes : MethodName := ⟨"RopeDanceModel", "becomes", "(II)Z"⟩
abbrev bX12_becomes : ByteArray := prog_14_method_74_code
abbrev yX12_call : MethodName := ⟨"RopeDanceModel", "call", "(II)I"⟩
abbrev bX12_call : ByteArray := prog_14_method_75_code
abbrev yX12_move : MethodName := ⟨"RopeDanceModel", "move", "(III)Z"⟩
abbrev bX12_move : ByteArray := prog_14_method_76_code
abbrev yX12_let : MethodName := ⟨"RopeDanceModel", "let", "(I)Z"⟩
abbrev bX12_let : ByteArray := prog_14_method_77_code
abbrev yX12_isLong : MethodName := ⟨"RopeDanceModel", "isLong", "(I)Z"⟩
abbrev bX12_isLong : ByteArray := prog_14_method_78_code
abbrev yX12_minutes : MethodName := ⟨"RopeDanceModel", "minutes", "(I)I"⟩
abbrev bX12_minutes : ByteArray := prog_14_method_79_code
abbrev yX12_undo : MethodName := ⟨"RopeDanceModel", "undo", "()Z"⟩
abbrev bX12_undo : ByteArray := prog_14_method_80_code
abbrev yX12_least : MethodName := ⟨"RopeDanceModel", "least", "(I)I"⟩
abbrev bX12_least : ByteArray := prog_14_method_81_code
abbrev yX12_ways : MethodName := ⟨"RopeDanceModel", "ways", "(I)I"⟩
abbrev bX12_ways : ByteArray := prog_14_method_82_code
abbrev yX12_restAt : MethodName := ⟨"RopeDanceModel", "restAt", "(I)I"⟩
abbrev bX12_restAt : ByteArray := prog_14_method_83_code
abbrev yX12_step : MethodName := ⟨"RopeDanceModel", "step", "(II)I"⟩
abbrev bX12_step : ByteArray := prog_14_method_84_code
abbrev yX12_goesThrough : MethodName := ⟨"RopeDanceModel", "goesThrough", "(I)V"⟩
abbrev bX12_goesThrough : ByteArray := prog_14_method_85_code
abbrev yX12_planOf : MethodName := ⟨"RopeDanceModel", "planOf", "(III)I"⟩
abbrev bX12_planOf : ByteArray := prog_14_method_86_code
abbrev yX12_plan : MethodName := ⟨"RopeDanceModel", "plan", "(II)I"⟩
abbrev bX12_plan : ByteArray := prog_14_method_87_code
abbrev yX12_bring : MethodName := ⟨"RopeDanceModel", "bring", "(III)I"⟩
abbrev bX12_bring : ByteArray := prog_14_method_88_code
abbrev yX12_reach : MethodName := ⟨"RopeDanceModel", "reach", "(I)I"⟩
abbrev bX12_reach : ByteArray := prog_14_method_89_code
abbrev yX12_closedP : MethodName := ⟨"RopeDanceModel", "closedP", "(I)I"⟩
abbrev bX12_closedP : ByteArray := prog_14_method_90_code
abbrev yX12_closedQ : MethodName := ⟨"RopeDanceModel", "closedQ", "(I)I"⟩
abbrev bX12_closedQ : ByteArray := prog_14_method_91_code
abbrev yX12_closed : MethodName := ⟨"RopeDanceModel", "closed", "(II)I"⟩
abbrev bX12_closed : ByteArray := prog_14_method_92_code
abbrev yX12_alike : MethodName := ⟨"RopeDanceModel", "alike", "(II)I"⟩
abbrev bX12_alike : ByteArray := prog_14_method_93_code
abbrev yX12_colours : MethodName := ⟨"RopeDanceModel", "colours", "(II)I"⟩
abbrev bX12_colours : ByteArray := prog_14_method_94_code
abbrev yX12_joined : MethodName := ⟨"RopeDanceModel", "joined", "(II)I"⟩
abbrev bX12_joined : ByteArray := prog_14_method_95_code
abbrev yX12_noTable : MethodName := ⟨"RopeDanceModel", "noTable", "()V"⟩
abbrev bX12_noTable : ByteArray := prog_14_method_96_code
abbrev yX12_tablesOn : MethodName := ⟨"RopeDanceModel", "tablesOn", "(I)V"⟩
abbrev bX12_tablesOn : ByteArray := prog_14_method_97_code
abbrev yX12_signsTable : MethodName := ⟨"RopeDanceModel", "signsTable", "()V"⟩
abbrev bX12_signsTable : ByteArray := prog_14_method_98_code
abbrev yX12_tableOf : MethodName := ⟨"RopeDanceModel", "tableOf", "(I)V"⟩
abbrev bX12_tableOf : ByteArray := prog_14_method_99_code
abbrev yX12_isNoTable : MethodName := ⟨"RopeDanceModel", "isNoTable", "()Z"⟩
abbrev bX12_isNoTable : ByteArray := prog_14_method_100_code
abbrev yX12_figure : MethodName := ⟨"RopeDanceModel", "figure", "(II)I"⟩
abbrev bX12_figure : ByteArray := prog_14_method_101_code
abbrev yX12_order : MethodName := ⟨"RopeDanceModel", "order", "(I)I"⟩
abbrev bX12_order : ByteArray := prog_14_method_102_code
abbrev yX12_restsBy : MethodName := ⟨"RopeDanceModel", "restsBy", "(I)V"⟩
abbrev bX12_restsBy : ByteArray := prog_14_method_103_code
abbrev yX12_putsTogether : MethodName := ⟨"RopeDanceModel", "putsTogether", "()V"⟩
abbrev bX12_putsTogether : ByteArray := prog_14_method_104_code
abbrev yX12_doubles : MethodName := ⟨"RopeDanceModel", "doubles", "()V"⟩
abbrev bX12_doubles : ByteArray := prog_14_method_105_code
abbrev yX12_isBase : MethodName := ⟨"RopeDanceModel", "isBase", "(I)Z"⟩
abbrev bX12_isBase : ByteArray := prog_14_method_106_code
abbrev yX12_round : MethodName := ⟨"RopeDanceModel", "round", "(II)I"⟩
abbrev bX12_round : ByteArray := prog_14_method_107_code
abbrev yX12_power : MethodName := ⟨"RopeDanceModel", "power", "(IIII)I"⟩
abbrev bX12_power : ByteArray := prog_14_method_108_code
abbrev yX12_doesStay : MethodName := ⟨"RopeDanceModel", "doesStay", "(II)Z"⟩
abbrev bX12_doesStay : ByteArray := prog_14_method_109_code
abbrev yX12_stays : MethodName := ⟨"RopeDanceModel", "stays", "(II)I"⟩
abbrev bX12_stays : ByteArray := prog_14_method_110_code
abbrev yX12_mind : MethodName := ⟨"RopeDanceModel", "mind", "(II)I"⟩
abbrev bX12_mind : ByteArray := prog_14_method_111_code
abbrev yX12_reverse : MethodName := ⟨"RopeDanceModel", "reverse", "(I)I"⟩
abbrev bX12_reverse : ByteArray := prog_14_method_112_code
abbrev yX12_hands : MethodName := ⟨"RopeDanceModel", "hands", "(II)I"⟩
abbrev bX12_hands : ByteArray := prog_14_method_113_code
abbrev yX12_then : MethodName := ⟨"RopeDanceModel", "then", "(III)I"⟩
abbrev bX12_then : ByteArray := prog_14_method_114_code
abbrev yX12_year : MethodName := ⟨"RopeDanceModel", "year", "(III)I"⟩
abbrev bX12_year : ByteArray := prog_14_method_115_code
abbrev yX12_tell : MethodName := ⟨"RopeDanceModel", "tell", "(IIZ)I"⟩
abbrev bX12_tell : ByteArray := prog_14_method_116_code
abbrev yX12_forget : MethodName := ⟨"RopeDanceModel", "forget", "()I"⟩
abbrev bX12_forget : ByteArray := prog_14_method_117_code
abbrev yX12_rowsMany : MethodName := ⟨"RopeDanceModel", "rowsMany", "(I)I"⟩
abbrev bX12_rowsMany : ByteArray := prog_14_method_118_code
abbrev yX12_doesFit : MethodName := ⟨"RopeDanceModel", "doesFit", "(IIII)Z"⟩
abbrev bX12_doesFit : ByteArray := prog_14_method_119_code
abbrev yX12_isAsked : MethodName := ⟨"RopeDanceModel", "isAsked", "(III)Z"⟩
abbrev bX12_isAsked : ByteArray := prog_14_method_120_code
abbrev yX12_rows : MethodName := ⟨"RopeDanceModel", "rows", "(IIII)I"⟩
abbrev bX12_rows : ByteArray := prog_14_method_121_code
abbrev yX12_listen : MethodName := ⟨"RopeDanceModel", "listen", "(III)I"⟩
abbrev bX12_listen : ByteArray := prog_14_method_122_code
abbrev yX12_hold : MethodName := ⟨"RopeDanceModel", "hold", "(I)Z"⟩
abbrev bX12_hold : ByteArray := prog_14_method_123_code
abbrev yX12_restore : MethodName := ⟨"RopeDanceModel", "restore", "(I)Z"⟩
abbrev bX12_restore : ByteArray := prog_14_method_124_code
abbrev yX12_ofEnds : MethodName := ⟨"RopeDanceModel", "ofEnds", "(I)I"⟩
abbrev bX12_ofEnds : ByteArray := prog_14_method_125_code
abbrev yX12_count : MethodName := ⟨"RopeDanceModel", "count", "(I)I"⟩
abbrev bX12_count : ByteArray := prog_14_method_126_code
abbrev yJ11_isValidCodePoint_9a6ad : MethodName := ⟨"java/lang/Character", "isValidCodePoint", "(I)Z"⟩
abbrev bJ11_isValidCodePoint_9a6ad : ByteArray := prog_15_method_11_code
abbrev yJ11_highSurrogate_5068e : MethodName := ⟨"java/lang/Character", "highSurrogate", "(I)C"⟩
abbrev bJ11_highSurrogate_5068e : ByteArray := prog_15_method_28_code
abbrev yJ11_lowSurrogate_5068e : MethodName := ⟨"java/lang/Character", "lowSurrogate", "(I)C"⟩
abbrev bJ11_lowSurrogate_5068e : ByteArray := prog_15_method_29_code
abbrev yJ9_floorMod_7cf53 : MethodName := ⟨"java/lang/Math", "floorMod", "(II)I"⟩
abbrev bJ9_floorMod_7cf53 : ByteArray := prog_16_method_50_code
abbrev yJ9_abs_0f7a4 : MethodName := ⟨"java/lang/Math", "abs", "(I)I"⟩
abbrev bJ9_abs_0f7a4 : ByteArray := prog_16_method_59_code
abbrev yJ9_max_7cf53 : MethodName := ⟨"java/lang/Math", "max", "(II)I"⟩
abbrev bJ9_max_7cf53 : ByteArray := prog_16_method_65_code
abbrev yJ9_min_7cf53 : MethodName := ⟨"java/lang/Math", "min", "(II)I"⟩
abbrev bJ9_min_7cf53 : ByteArray := prog_16_method_69_code
abbrev yJ0_length_8abf5 : MethodName := ⟨"java/lang/String", "length", "()I"⟩
abbrev bJ0_length_8abf5 : ByteArray := prog_17_method_54_code
abbrev yJ0_charAt_5068e : MethodName := ⟨"java/lang/String", "charAt", "(I)C"⟩
abbrev bJ0_charAt_5068e : ByteArray := prog_17_method_56_code
abbrev yJ0_indexOf_0f7a4 : MethodName := ⟨"java/lang/String", "indexOf", "(I)I"⟩
abbrev bJ0_indexOf_0f7a4 : ByteArray := prog_17_method_79_code
abbrev yJ0_indexOf_7cf53 : MethodName := ⟨"java/lang/String", "indexOf", "(II)I"⟩
abbrev bJ0_indexOf_7cf53 : ByteArray := prog_17_method_80_code
abbrev yJ0_coder_7d493 : MethodName := ⟨"java/lang/String", "coder", "()B"⟩
abbrev bJ0_coder_7d493 : ByteArray := prog_17_method_152_code
abbrev yJ0_isLatin1_aae02 : MethodName := ⟨"java/lang/String", "isLatin1", "()Z"⟩
abbrev bJ0_isLatin1_aae02 : ByteArray := prog_17_method_154_code
abbrev yJ0_checkIndex_df160 : MethodName := ⟨"java/lang/String", "checkIndex", "(II)V"⟩
abbrev bJ0_checkIndex_df160 : ByteArray := prog_17_method_155_code
abbrev yJ0_checkBoundsBeginEnd_23922 : MethodName := ⟨"java/lang/String", "checkBoundsBeginEnd", "(III)V"⟩
abbrev bJ0_checkBoundsBeginEnd_23922 : ByteArray := prog_17_method_158_code
abbrev yJ1_charAt_3b067 : MethodName := ⟨"java/lang/StringLatin1", "charAt", "([BI)C"⟩
abbrev bJ1_charAt_3b067 : ByteArray := prog_18_method_2_code
abbrev yJ1_canEncode_9a6ad : MethodName := ⟨"java/lang/StringLatin1", "canEncode", "(I)Z"⟩
abbrev bJ1_canEncode_9a6ad : ByteArray := prog_18_method_4_code
abbrev yJ1_indexOf_4cfef : MethodName := ⟨"java/lang/StringLatin1", "indexOf", "([BIII)I"⟩
abbrev bJ1_indexOf_4cfef : ByteArray := prog_18_method_22_code
abbrev yJ1_indexOfChar_4cfef : MethodName := ⟨"java/lang/StringLatin1", "indexOfChar", "([BIII)I"⟩
abbrev bJ1_indexOfChar_4cfef : ByteArray := prog_18_method_23_code
abbrev yJ2_getChar_3b067 : MethodName := ⟨"java/lang/StringUTF16", "getChar", "([BI)C"⟩
abbrev bJ2_getChar_3b067 : ByteArray := prog_19_method_5_code
abbrev yJ2_length_9d52b : MethodName := ⟨"java/lang/StringUTF16", "length", "([B)I"⟩
abbrev bJ2_length_9d52b : ByteArray := prog_19_method_6_code
abbrev yJ2_indexOf_4cfef : MethodName := ⟨"java/lang/StringUTF16", "indexOf", "([BIII)I"⟩
abbrev bJ2_indexOf_4cfef : ByteArray := prog_19_method_40_code
abbrev yJ2_indexOfChar_4cfef : MethodName := ⟨"java/lang/StringUTF16", "indexOfChar", "([BIII)I"⟩
abbrev bJ2_indexOfChar_4cfef : ByteArray := prog_19_method_47_code
abbrev yJ2_indexOfCharUnsafe_4cfef : MethodName := ⟨"java/lang/StringUTF16", "indexOfCharUnsafe", "([BIII)I"⟩
abbrev bJ2_indexOfCharUnsafe_4cfef : ByteArray := prog_19_method_48_code
abbrev yJ2_indexOfSupplementary_4cfef : MethodName := ⟨"java/lang/StringUTF16", "indexOfSupplementary", "([BIII)I"⟩
abbrev bJ2_indexOfSupplementary_4cfef : ByteArray := prog_19_method_49_code
abbrev yJ2_charAt_3b067 : MethodName := ⟨"java/lang/StringUTF16", "charAt", "([BI)C"⟩
abbrev bJ2_charAt_3b067 : ByteArray := prog_19_method_83_code
abbrev yJ2_checkIndex_2214a : MethodName := ⟨"java/lang/StringUTF16", "checkIndex", "(I[B)V"⟩
abbrev bJ2_checkIndex_2214a : ByteArray := prog_19_method_91_code
abbrev yJ2_checkBoundsBeginEnd_d044e : MethodName := ⟨"java/lang/StringUTF16", "checkBoundsBeginEnd", "(II[B)V"⟩
abbrev bJ2_checkBoundsBeginEnd_d044e : ByteArray := prog_19_method_93_code
abbrev yJ3_checkIndex_8e157 : MethodName := ⟨"jdk/internal/util/Preconditions", "checkIndex", "(IILjava/util/function/BiFunction;)I"⟩
abbrev bJ3_checkIndex_8e157 : ByteArray := prog_20_method_11_code
abbrev yJ3_checkFromToIndex_8c36e : MethodName := ⟨"jdk/internal/util/Preconditions", "checkFromToIndex", "(IIILjava/util/function/BiFunction;)I"⟩
abbrev bJ3_checkFromToIndex_8c36e : ByteArray := prog_20_method_12_code
abbrev yL_law : MethodName := ⟨"RopeDanceLaw", "law", "([I)Z"⟩
def T0 : u_T := fun k => match k with
  | 0 => ("RopeDance$Evening", "squares", "[LRopeDance$Square;", true)
  | 1 => ("RopeDance$Evening", "minute", "I", false)
  | _ => ("RopeDance$Evening", "paid", "I", false)
def t0 : Nat → FieldType := fun k => match k with
  | 0 => (.array (.object "RopeDance$Square"))
  | 1 => .int
  | _ => .int
def T1 : u_T := fun k => match k with
  | 0 => ("RopeDance$Memory", "length", "I", false)
  | 1 => ("RopeDance$Memory", "next", "I", false)
  | 2 => ("RopeDance$Memory", "ahead", "[[I", true)
  | 3 => ("RopeDance$Memory", "slots", "[[I", true)
  | _ => ("RopeDance$Memory", "held", "[Z", true)
def t1 : Nat → FieldType := fun k => match k with
  | 0 => .int
  | 1 => .int
  | 2 => (.array (.array .int))
  | 3 => (.array (.array .int))
  | _ => (.array .boolean)
def T2 : u_T := fun k => match k with
  | 0 => ("RopeDance$Reader", "fault", "I", false)
  | 1 => ("RopeDance$Reader", "place", "I", false)
  | 2 => ("RopeDance$Reader", "tape", "LRopeDance$Tape;", true)
  | 3 => ("RopeDance$Reader", "text", "LRopeDance$Text;", false)
  | 4 => ("RopeDance$Reader", "doubt", "I", false)
  | 5 => ("RopeDance$Reader", "doubtPlace", "I", false)
  | 6 => ("RopeDance$Reader", "waiting", "[I", true)
  | 7 => ("RopeDance$Reader", "waits", "I", false)
  | 8 => ("RopeDance$Reader", "open", "I", false)
  | _ => ("RopeDance$Reader", "made", "LRopeDance$Square;", true)
def t2 : Nat → FieldType := fun k => match k with
  | 0 => .int
  | 1 => .int
  | 2 => (.object "RopeDance$Tape")
  | 3 => (.object "RopeDance$Text")
  | 4 => .int
  | 5 => .int
  | 6 => (.array .int)
  | 7 => .int
  | 8 => .int
  | _ => (.object "RopeDance$Square")
def T3 : u_T := fun k => match k with
  | 0 => ("RopeDance$Row", "length", "I", false)
  | 1 => ("RopeDance$Row", "table", "LRopeDance$Table;", true)
  | 2 => ("RopeDance$Row", "whats", "[I", true)
  | _ => ("RopeDance$Row", "twists", "[I", true)
def t3 : Nat → FieldType := fun k => match k with
  | 0 => .int
  | 1 => (.object "RopeDance$Table")
  | 2 => (.array .int)
  | _ => (.array .int)
def T4 : u_T := fun k => match k with
  | 0 => ("RopeDance$Search", "found", "I", false)
  | 1 => ("RopeDance$Search", "start", "I", false)
  | 2 => ("RopeDance$Search", "queue", "[I", true)
  | 3 => ("RopeDance$Search", "madeOf", "[I", true)
  | _ => ("RopeDance$Search", "tried", "LRopeDance$Square;", true)
def t4 : Nat → FieldType := fun k => match k with
  | 0 => .int
  | 1 => .int
  | 2 => (.array .int)
  | 3 => (.array .int)
  | _ => (.object "RopeDance$Square")
def T5 : u_T := fun k => match k with
  | 0 => ("RopeDance$Square", "p", "I", false)
  | 1 => ("RopeDance$Square", "q", "I", false)
  | 2 => ("RopeDance$Square", "tired", "I", false)
  | _ => ("RopeDance$Square", "called", "I", false)
def t5 : Nat → FieldType := fun k => match k with
  | 0 => .int
  | 1 => .int
  | 2 => .int
  | _ => .int
def T6 : u_T := fun k => match k with
  | 0 => ("RopeDance$Table", "a", "I", false)
  | 1 => ("RopeDance$Table", "b", "I", false)
  | 2 => ("RopeDance$Table", "c", "I", false)
  | _ => ("RopeDance$Table", "d", "I", false)
def t6 : Nat → FieldType := fun k => match k with
  | 0 => .int
  | 1 => .int
  | 2 => .int
  | _ => .int
def T7 : u_T := fun k => match k with
  | 0 => ("RopeDance$Tape", "length", "I", false)
  | 1 => ("RopeDance$Tape", "token", "I", false)
  | 2 => ("RopeDance$Tape", "kind", "I", false)
  | 3 => ("RopeDance$Tape", "place", "I", false)
  | 4 => ("RopeDance$Tape", "value", "I", false)
  | 5 => ("RopeDance$Tape", "name", "J", false)
  | 6 => ("RopeDance$Tape", "bytes", "[B", true)
  | 7 => ("RopeDance$Tape", "kinds", "[I", true)
  | 8 => ("RopeDance$Tape", "places", "[I", true)
  | 9 => ("RopeDance$Tape", "values", "[I", true)
  | _ => ("RopeDance$Tape", "names", "[J", true)
def t7 : Nat → FieldType := fun k => match k with
  | 0 => .int
  | 1 => .int
  | 2 => .int
  | 3 => .int
  | 4 => .int
  | 5 => .long
  | 6 => (.array .byte)
  | 7 => (.array .int)
  | 8 => (.array .int)
  | 9 => (.array .int)
  | _ => (.array .long)
def T8 : u_T := fun k => match k with
  | 0 => ("RopeDance$Text", "squares", "I", false)
  | 1 => ("RopeDance$Text", "figures", "I", false)
  | 2 => ("RopeDance$Text", "seed", "I", false)
  | 3 => ("RopeDance$Text", "squareRows", "[LRopeDance$Row;", true)
  | 4 => ("RopeDance$Text", "figureRows", "[LRopeDance$Row;", true)
  | 5 => ("RopeDance$Text", "codes", "I", false)
  | 6 => ("RopeDance$Text", "names", "[J", true)
  | 7 => ("RopeDance$Text", "namesTold", "I", false)
  | 8 => ("RopeDance$Text", "code", "[I", true)
  | 9 => ("RopeDance$Text", "lawStarts", "[I", true)
  | 10 => ("RopeDance$Text", "vars", "[I", true)
  | 11 => ("RopeDance$Text", "stack", "[I", true)
  | _ => ("RopeDance$Text", "tried", "LRopeDance$Square;", true)
def t8 : Nat → FieldType := fun k => match k with
  | 0 => .int
  | 1 => .int
  | 2 => .int
  | 3 => (.array (.object "RopeDance$Row"))
  | 4 => (.array (.object "RopeDance$Row"))
  | 5 => .int
  | 6 => (.array .long)
  | 7 => .int
  | 8 => (.array .int)
  | 9 => (.array .int)
  | 10 => (.array .int)
  | 11 => (.array .int)
  | _ => (.object "RopeDance$Square")
def T9 : u_T := fun k => match k with
  | 0 => ("RopeDance$Told", "length", "I", false)
  | 1 => ("RopeDance$Told", "fitting", "I", false)
  | 2 => ("RopeDance$Told", "first", "I", false)
  | 3 => ("RopeDance$Told", "behinds", "[I", true)
  | 4 => ("RopeDance$Told", "ends", "[I", true)
  | 5 => ("RopeDance$Told", "are", "[Z", true)
  | 6 => ("RopeDance$Told", "tried", "LRopeDance$Square;", true)
  | 7 => ("RopeDance$Told", "endsBehind", "[I", true)
  | _ => ("RopeDance$Told", "tallies", "[I", true)
def t9 : Nat → FieldType := fun k => match k with
  | 0 => .int
  | 1 => .int
  | 2 => .int
  | 3 => (.array .int)
  | 4 => (.array .int)
  | 5 => (.array .boolean)
  | 6 => (.object "RopeDance$Square")
  | 7 => (.array .int)
  | _ => (.array .int)
def T10 : u_T := fun k => match k with
  | 0 => ("RopeDance$Unwinding", "fewestBehind", "[I", true)
  | _ => ("RopeDance$Unwinding", "waysBehind", "[I", true)
def t10 : Nat → FieldType := fun k => match k with
  | 0 => (.array .int)
  | _ => (.array .int)
def T11 : u_T := fun k => match k with
  | 0 => ("RopeDance", "tape", "LRopeDance$Tape;", true)
  | 1 => ("RopeDance", "reader", "LRopeDance$Reader;", true)
  | 2 => ("RopeDance", "text", "LRopeDance$Text;", false)
  | 3 => ("RopeDance", "draft", "LRopeDance$Text;", false)
  | 4 => ("RopeDance", "now", "LRopeDance$Evening;", true)
  | 5 => ("RopeDance", "memory", "LRopeDance$Memory;", true)
  | 6 => ("RopeDance", "told", "LRopeDance$Told;", true)
  | 7 => ("RopeDance", "tried", "LRopeDance$Square;", true)
  | 8 => ("RopeDance", "oneTable", "LRopeDance$Table;", true)
  | 9 => ("RopeDance", "otherTable", "LRopeDance$Table;", true)
  | 10 => ("RopeDance", "search", "LRopeDance$Search;", false)
  | _ => ("RopeDance", "unwinding", "LRopeDance$Unwinding;", false)
def t11 : Nat → FieldType := fun k => match k with
  | 0 => (.object "RopeDance$Tape")
  | 1 => (.object "RopeDance$Reader")
  | 2 => (.object "RopeDance$Text")
  | 3 => (.object "RopeDance$Text")
  | 4 => (.object "RopeDance$Evening")
  | 5 => (.object "RopeDance$Memory")
  | 6 => (.object "RopeDance$Told")
  | 7 => (.object "RopeDance$Square")
  | 8 => (.object "RopeDance$Table")
  | 9 => (.object "RopeDance$Table")
  | 10 => (.object "RopeDance$Search")
  | _ => (.object "RopeDance$Unwinding")
def T12 : u_T := fun k => match k with
  | 0 => ("RopeDanceModel", "thrown", "I", false)
  | 1 => ("RopeDanceModel", "tape", "[B", true)
  | 2 => ("RopeDanceModel", "taped", "I", false)
  | 3 => ("RopeDanceModel", "text", "[B", true)
  | 4 => ("RopeDanceModel", "size", "I", false)
  | 5 => ("RopeDanceModel", "tKind", "[I", true)
  | 6 => ("RopeDanceModel", "tPlace", "[I", true)
  | 7 => ("RopeDanceModel", "tValue", "[I", true)
  | 8 => ("RopeDanceModel", "tName", "[J", true)
  | 9 => ("RopeDanceModel", "keys", "[J", true)
  | 10 => ("RopeDanceModel", "tokens", "I", false)
  | 11 => ("RopeDanceModel", "t", "I", false)
  | 12 => ("RopeDanceModel", "open", "I", false)
  | 13 => ("RopeDanceModel", "fault", "I", false)
  | 14 => ("RopeDanceModel", "faultPlace", "I", false)
  | 15 => ("RopeDanceModel", "worst", "I", false)
  | 16 => ("RopeDanceModel", "worstPlace", "I", false)
  | 17 => ("RopeDanceModel", "place", "I", false)
  | 18 => ("RopeDanceModel", "live", "I", false)
  | 19 => ("RopeDanceModel", "side", "I", false)
  | 20 => ("RopeDanceModel", "names", "I", false)
  | 21 => ("RopeDanceModel", "nameOf", "[J", true)
  | 22 => ("RopeDanceModel", "squares", "[I", true)
  | 23 => ("RopeDanceModel", "figures", "[I", true)
  | 24 => ("RopeDanceModel", "moveMany", "[I", true)
  | 25 => ("RopeDanceModel", "moveKind", "[I", true)
  | 26 => ("RopeDanceModel", "moveInt", "[I", true)
  | 27 => ("RopeDanceModel", "firstTangle", "[I", true)
  | 28 => ("RopeDanceModel", "seed", "[I", true)
  | 29 => ("RopeDanceModel", "lawFirst", "[I", true)
  | 30 => ("RopeDanceModel", "lawLast", "[I", true)
  | 31 => ("RopeDanceModel", "branches", "I", false)
  | 32 => ("RopeDanceModel", "hasTest", "[Z", true)
  | 33 => ("RopeDanceModel", "testFrom", "[I", true)
  | 34 => ("RopeDanceModel", "testMid", "[I", true)
  | 35 => ("RopeDanceModel", "testTo", "[I", true)
  | 36 => ("RopeDanceModel", "termTo", "[I", true)
  | 37 => ("RopeDanceModel", "codes", "I", false)
  | 38 => ("RopeDanceModel", "code", "[I", true)
  | 39 => ("RopeDanceModel", "codeInt", "[I", true)
  | 40 => ("RopeDanceModel", "waits", "[I", true)
  | 41 => ("RopeDanceModel", "waiting", "I", false)
  | 42 => ("RopeDanceModel", "variables", "[I", true)
  | 43 => ("RopeDanceModel", "pile", "[I", true)
  | 44 => ("RopeDanceModel", "isBroken", "Z", false)
  | 45 => ("RopeDanceModel", "now", "[I", true)
  | 46 => ("RopeDanceModel", "row", "[I", true)
  | 47 => ("RopeDanceModel", "lots", "I", false)
  | 48 => ("RopeDanceModel", "leastBy", "[I", true)
  | 49 => ("RopeDanceModel", "waysBy", "[I", true)
  | 50 => ("RopeDanceModel", "undos", "I", false)
  | 51 => ("RopeDanceModel", "history", "[I", true)
  | 52 => ("RopeDanceModel", "farBy", "[I", true)
  | 53 => ("RopeDanceModel", "fromBy", "[I", true)
  | 54 => ("RopeDanceModel", "figureBy", "[I", true)
  | 55 => ("RopeDanceModel", "line", "[I", true)
  | 56 => ("RopeDanceModel", "lineMany", "I", false)
  | 57 => ("RopeDanceModel", "tableA", "I", false)
  | 58 => ("RopeDanceModel", "tableB", "I", false)
  | 59 => ("RopeDanceModel", "tableC", "I", false)
  | 60 => ("RopeDanceModel", "tableD", "I", false)
  | 61 => ("RopeDanceModel", "mod", "I", false)
  | 62 => ("RopeDanceModel", "restA", "I", false)
  | 63 => ("RopeDanceModel", "restB", "I", false)
  | 64 => ("RopeDanceModel", "restC", "I", false)
  | 65 => ("RopeDanceModel", "restD", "I", false)
  | 66 => ("RopeDanceModel", "tolds", "I", false)
  | 67 => ("RopeDanceModel", "toldBehind", "[I", true)
  | 68 => ("RopeDanceModel", "toldEnds", "[I", true)
  | 69 => ("RopeDanceModel", "toldSo", "[Z", true)
  | 70 => ("RopeDanceModel", "endsBy", "[I", true)
  | 71 => ("RopeDanceModel", "digits", "[I", true)
  | 72 => ("RopeDanceModel", "manyBy", "[I", true)
  | 73 => ("RopeDanceModel", "isHeld", "[Z", true)
  | _ => ("RopeDanceModel", "heldRows", "[I", true)
def t12 : Nat → FieldType := fun k => match k with
  | 0 => .int
  | 1 => (.array .byte)
  | 2 => .int
  | 3 => (.array .byte)
  | 4 => .int
  | 5 => (.array .int)
  | 6 => (.array .int)
  | 7 => (.array .int)
  | 8 => (.array .long)
  | 9 => (.array .long)
  | 10 => .int
  | 11 => .int
  | 12 => .int
  | 13 => .int
  | 14 => .int
  | 15 => .int
  | 16 => .int
  | 17 => .int
  | 18 => .int
  | 19 => .int
  | 20 => .int
  | 21 => (.array .long)
  | 22 => (.array .int)
  | 23 => (.array .int)
  | 24 => (.array .int)
  | 25 => (.array .int)
  | 26 => (.array .int)
  | 27 => (.array .int)
  | 28 => (.array .int)
  | 29 => (.array .int)
  | 30 => (.array .int)
  | 31 => .int
  | 32 => (.array .boolean)
  | 33 => (.array .int)
  | 34 => (.array .int)
  | 35 => (.array .int)
  | 36 => (.array .int)
  | 37 => .int
  | 38 => (.array .int)
  | 39 => (.array .int)
  | 40 => (.array .int)
  | 41 => .int
  | 42 => (.array .int)
  | 43 => (.array .int)
  | 44 => .boolean
  | 45 => (.array .int)
  | 46 => (.array .int)
  | 47 => .int
  | 48 => (.array .int)
  | 49 => (.array .int)
  | 50 => .int
  | 51 => (.array .int)
  | 52 => (.array .int)
  | 53 => (.array .int)
  | 54 => (.array .int)
  | 55 => (.array .int)
  | 56 => .int
  | 57 => .int
  | 58 => .int
  | 59 => .int
  | 60 => .int
  | 61 => .int
  | 62 => .int
  | 63 => .int
  | 64 => .int
  | 65 => .int
  | 66 => .int
  | 67 => (.array .int)
  | 68 => (.array .int)
  | 69 => (.array .boolean)
  | 70 => (.array .int)
  | 71 => (.array .int)
  | 72 => (.array .int)
  | 73 => (.array .boolean)
  | _ => (.array .int)
abbrev classes : List vw_C := [("RopeDance$Evening", T0, 3), ("RopeDance$Memory", T1, 5), ("RopeDance$Reader", T2, 10), ("RopeDance$Row", T3, 4), ("RopeDance$Search", T4, 5), ("RopeDance$Square", T5, 4), ("RopeDance$Table", T6, 4), ("RopeDance$Tape", T7, 11), ("RopeDance$Text", T8, 13), ("RopeDance$Told", T9, 9), ("RopeDance$Unwinding", T10, 2), ("RopeDance", T11, 12), ("RopeDanceModel", T12, 75)]
theorem n0 : ∀ a, a < 3 → ∀ b, b < 3 → a ≠ b → (T0 a).2.1 ≠ (T0 b).2.1 := by decide +kernel
theorem tok0 : ∀ k, k < 3 → parseFieldDescriptor (T0 k).2.2.1 = some (t0 k) := by decide +kernel
theorem iw0 : ∀ w ∈ u_ws "RopeDance$Evening" T0 3, w ∈ lw_tbl := by
  intro w hw
  obtain ⟨k, hk, rfl⟩ := List.mem_map.mp hw
  have hk := List.mem_range.mp hk
  rcases (show k = 0 ∨ k = 1 ∨ k = 2 by omega) with rfl | rfl | rfl
  · exact xin_2 (List.mem_of_getElem? (i := 49) rfl)
  · exact xin_2 (List.mem_of_getElem? (i := 51) rfl)
  · exact xin_2 (List.mem_of_getElem? (i := 53) rfl)
theorem n1 : ∀ a, a < 5 → ∀ b, b < 5 → a ≠ b → (T1 a).2.1 ≠ (T1 b).2.1 := by decide +kernel
theorem tok1 : ∀ k, k < 5 → parseFieldDescriptor (T1 k).2.2.1 = some (t1 k) := by decide +kernel
theorem iw1 : ∀ w ∈ u_ws "RopeDance$Memory" T1 5, w ∈ lw_tbl := by
  intro w hw
  obtain ⟨k, hk, rfl⟩ := List.mem_map.mp hw
  have hk := List.mem_range.mp hk
  rcases (show k = 0 ∨ k = 1 ∨ k = 2 ∨ k = 3 ∨ k = 4 by omega) with rfl | rfl | rfl | rfl | rfl
  · exact xin_2 (List.mem_of_getElem? (i := 70) rfl)
  · exact xin_2 (List.mem_of_getElem? (i := 72) rfl)
  · exact xin_2 (List.mem_of_getElem? (i := 74) rfl)
  · exact xin_2 (List.mem_of_getElem? (i := 76) rfl)
  · exact xin_2 (List.mem_of_getElem? (i := 78) rfl)
theorem n2 : ∀ a, a < 10 → ∀ b, b < 10 → a ≠ b → (T2 a).2.1 ≠ (T2 b).2.1 := by decide +kernel
theorem tok2 : ∀ k, k < 10 → parseFieldDescriptor (T2 k).2.2.1 = some (t2 k) := by decide +kernel
theorem iw2 : ∀ w ∈ u_ws "RopeDance$Reader" T2 10, w ∈ lw_tbl := by
  intro w hw
  obtain ⟨k, hk, rfl⟩ := List.mem_map.mp hw
  have hk := List.mem_range.mp hk
  rcases (show k = 0 ∨ k = 1 ∨ k = 2 ∨ k = 3 ∨ k = 4 ∨ k = 5 ∨ k = 6 ∨ k = 7 ∨ k = 8 ∨ k = 9 by omega) with rfl | rfl | rfl | rfl | rfl | rfl | rfl | rfl | rfl | rfl
  · exact xin_2 (List.mem_of_getElem? (i := 13) rfl)
  · exact xin_2 (List.mem_of_getElem? (i := 15) rfl)
  · exact xin_2 (List.mem_of_getElem? (i := 17) rfl)
  · exact xin_2 (List.mem_of_getElem? (i := 19) rfl)
  · exact xin_2 (List.mem_of_getElem? (i := 21) rfl)
  · exact xin_2 (List.mem_of_getElem? (i := 23) rfl)
  · exact xin_2 (List.mem_of_getElem? (i := 25) rfl)
  · exact xin_2 (List.mem_of_getElem? (i := 27) rfl)
  · exact xin_2 (List.mem_of_getElem? (i := 29) rfl)
  · exact xin_2 (List.mem_of_getElem? (i := 31) rfl)
theorem n3 : ∀ a, a < 4 → ∀ b, b < 4 → a ≠ b → (T3 a).2.1 ≠ (T3 b).2.1 := by decide +kernel
theorem tok3 : ∀ k, k < 4 → parseFieldDescriptor (T3 k).2.2.1 = some (t3 k) := by decide +kernel
theorem iw3 : ∀ w ∈ u_ws "RopeDance$Row" T3 4, w ∈ lw_tbl := by
  intro w hw
  obtain ⟨k, hk, rfl⟩ := List.mem_map.mp hw
  have hk := List.mem_range.mp hk
  rcases (show k = 0 ∨ k = 1 ∨ k = 2 ∨ k = 3 by omega) with rfl | rfl | rfl | rfl
  · exact xin_1 (List.mem_of_getElem? (i := 119) rfl)
  · exact xin_1 (List.mem_of_getElem? (i := 121) rfl)
  · exact xin_1 (List.mem_of_getElem? (i := 123) rfl)
  · exact xin_1 (List.mem_of_getElem? (i := 125) rfl)
theorem n4 : ∀ a, a < 5 → ∀ b, b < 5 → a ≠ b → (T4 a).2.1 ≠ (T4 b).2.1 := by decide +kernel
theorem tok4 : ∀ k, k < 5 → parseFieldDescriptor (T4 k).2.2.1 = some (t4 k) := by decide +kernel
theorem iw4 : ∀ w ∈ u_ws "RopeDance$Search" T4 5, w ∈ lw_tbl := by
  intro w hw
  obtain ⟨k, hk, rfl⟩ := List.mem_map.mp hw
  have hk := List.mem_range.mp hk
  rcases (show k = 0 ∨ k = 1 ∨ k = 2 ∨ k = 3 ∨ k = 4 by omega) with rfl | rfl | rfl | rfl | rfl
  · exact xin_4 (List.mem_of_getElem? (i := 237) rfl)
  · exact xin_4 (List.mem_of_getElem? (i := 239) rfl)
  · exact xin_5 (List.mem_of_getElem? (i := 1) rfl)
  · exact xin_5 (List.mem_of_getElem? (i := 3) rfl)
  · exact xin_5 (List.mem_of_getElem? (i := 5) rfl)
theorem n5 : ∀ a, a < 4 → ∀ b, b < 4 → a ≠ b → (T5 a).2.1 ≠ (T5 b).2.1 := by decide +kernel
theorem tok5 : ∀ k, k < 4 → parseFieldDescriptor (T5 k).2.2.1 = some (t5 k) := by decide +kernel
theorem iw5 : ∀ w ∈ u_ws "RopeDance$Square" T5 4, w ∈ lw_tbl := by
  intro w hw
  obtain ⟨k, hk, rfl⟩ := List.mem_map.mp hw
  have hk := List.mem_range.mp hk
  rcases (show k = 0 ∨ k = 1 ∨ k = 2 ∨ k = 3 by omega) with rfl | rfl | rfl | rfl
  · exact xin_1 (List.mem_of_getElem? (i := 156) rfl)
  · exact xin_1 (List.mem_of_getElem? (i := 158) rfl)
  · exact xin_1 (List.mem_of_getElem? (i := 160) rfl)
  · exact xin_1 (List.mem_of_getElem? (i := 162) rfl)
theorem n6 : ∀ a, a < 4 → ∀ b, b < 4 → a ≠ b → (T6 a).2.1 ≠ (T6 b).2.1 := by decide +kernel
theorem tok6 : ∀ k, k < 4 → parseFieldDescriptor (T6 k).2.2.1 = some (t6 k) := by decide +kernel
theorem iw6 : ∀ w ∈ u_ws "RopeDance$Table" T6 4, w ∈ lw_tbl := by
  intro w hw
  obtain ⟨k, hk, rfl⟩ := List.mem_map.mp hw
  have hk := List.mem_range.mp hk
  rcases (show k = 0 ∨ k = 1 ∨ k = 2 ∨ k = 3 by omega) with rfl | rfl | rfl | rfl
  · exact xin_1 (List.mem_of_getElem? (i := 100) rfl)
  · exact xin_1 (List.mem_of_getElem? (i := 102) rfl)
  · exact xin_1 (List.mem_of_getElem? (i := 104) rfl)
  · exact xin_1 (List.mem_of_getElem? (i := 106) rfl)
theorem n7 : ∀ a, a < 11 → ∀ b, b < 11 → a ≠ b → (T7 a).2.1 ≠ (T7 b).2.1 := by decide +kernel
theorem tok7 : ∀ k, k < 11 → parseFieldDescriptor (T7 k).2.2.1 = some (t7 k) := by decide +kernel
theorem iw7 : ∀ w ∈ u_ws "RopeDance$Tape" T7 11, w ∈ lw_tbl := by
  intro w hw
  obtain ⟨k, hk, rfl⟩ := List.mem_map.mp hw
  have hk := List.mem_range.mp hk
  rcases (show k = 0 ∨ k = 1 ∨ k = 2 ∨ k = 3 ∨ k = 4 ∨ k = 5 ∨ k = 6 ∨ k = 7 ∨ k = 8 ∨ k = 9 ∨ k = 10 by omega) with rfl | rfl | rfl | rfl | rfl | rfl | rfl | rfl | rfl | rfl | rfl
  · exact xin_1 (List.mem_of_getElem? (i := 51) rfl)
  · exact xin_1 (List.mem_of_getElem? (i := 53) rfl)
  · exact xin_1 (List.mem_of_getElem? (i := 55) rfl)
  · exact xin_1 (List.mem_of_getElem? (i := 57) rfl)
  · exact xin_1 (List.mem_of_getElem? (i := 59) rfl)
  · exact xin_1 (List.mem_of_getElem? (i := 61) rfl)
  · exact xin_1 (List.mem_of_getElem? (i := 63) rfl)
  · exact xin_1 (List.mem_of_getElem? (i := 65) rfl)
  · exact xin_1 (List.mem_of_getElem? (i := 67) rfl)
  · exact xin_1 (List.mem_of_getElem? (i := 69) rfl)
  · exact xin_1 (List.mem_of_getElem? (i := 71) rfl)
theorem n8 : ∀ a, a < 13 → ∀ b, b < 13 → a ≠ b → (T8 a).2.1 ≠ (T8 b).2.1 := by decide +kernel
theorem tok8 : ∀ k, k < 13 → parseFieldDescriptor (T8 k).2.2.1 = some (t8 k) := by decide +kernel
theorem iw8 : ∀ w ∈ u_ws "RopeDance$Text" T8 13, w ∈ lw_tbl := by
  intro w hw
  obtain ⟨k, hk, rfl⟩ := List.mem_map.mp hw
  have hk := List.mem_range.mp hk
  rcases (show k = 0 ∨ k = 1 ∨ k = 2 ∨ k = 3 ∨ k = 4 ∨ k = 5 ∨ k = 6 ∨ k = 7 ∨ k = 8 ∨ k = 9 ∨ k = 10 ∨ k = 11 ∨ k = 12 by omega) with rfl | rfl | rfl | rfl | rfl | rfl | rfl | rfl | rfl | rfl | rfl | rfl | rfl
  · exact xin_1 (List.mem_of_getElem? (i := 206) rfl)
  · exact xin_1 (List.mem_of_getElem? (i := 208) rfl)
  · exact xin_1 (List.mem_of_getElem? (i := 210) rfl)
  · exact xin_1 (List.mem_of_getElem? (i := 212) rfl)
  · exact xin_1 (List.mem_of_getElem? (i := 214) rfl)
  · exact xin_1 (List.mem_of_getElem? (i := 216) rfl)
  · exact xin_1 (List.mem_of_getElem? (i := 218) rfl)
  · exact xin_1 (List.mem_of_getElem? (i := 220) rfl)
  · exact xin_1 (List.mem_of_getElem? (i := 222) rfl)
  · exact xin_1 (List.mem_of_getElem? (i := 224) rfl)
  · exact xin_1 (List.mem_of_getElem? (i := 226) rfl)
  · exact xin_1 (List.mem_of_getElem? (i := 228) rfl)
  · exact xin_1 (List.mem_of_getElem? (i := 230) rfl)
theorem n9 : ∀ a, a < 9 → ∀ b, b < 9 → a ≠ b → (T9 a).2.1 ≠ (T9 b).2.1 := by decide +kernel
theorem tok9 : ∀ k, k < 9 → parseFieldDescriptor (T9 k).2.2.1 = some (t9 k) := by decide +kernel
theorem iw9 : ∀ w ∈ u_ws "RopeDance$Told" T9 9, w ∈ lw_tbl := by
  intro w hw
  obtain ⟨k, hk, rfl⟩ := List.mem_map.mp hw
  have hk := List.mem_range.mp hk
  rcases (show k = 0 ∨ k = 1 ∨ k = 2 ∨ k = 3 ∨ k = 4 ∨ k = 5 ∨ k = 6 ∨ k = 7 ∨ k = 8 by omega) with rfl | rfl | rfl | rfl | rfl | rfl | rfl | rfl | rfl
  · exact xin_2 (List.mem_of_getElem? (i := 102) rfl)
  · exact xin_2 (List.mem_of_getElem? (i := 104) rfl)
  · exact xin_2 (List.mem_of_getElem? (i := 106) rfl)
  · exact xin_2 (List.mem_of_getElem? (i := 108) rfl)
  · exact xin_2 (List.mem_of_getElem? (i := 110) rfl)
  · exact xin_2 (List.mem_of_getElem? (i := 112) rfl)
  · exact xin_2 (List.mem_of_getElem? (i := 114) rfl)
  · exact xin_2 (List.mem_of_getElem? (i := 116) rfl)
  · exact xin_2 (List.mem_of_getElem? (i := 118) rfl)
theorem n10 : ∀ a, a < 2 → ∀ b, b < 2 → a ≠ b → (T10 a).2.1 ≠ (T10 b).2.1 := by decide +kernel
theorem tok10 : ∀ k, k < 2 → parseFieldDescriptor (T10 k).2.2.1 = some (t10 k) := by decide +kernel
theorem iw10 : ∀ w ∈ u_ws "RopeDance$Unwinding" T10 2, w ∈ lw_tbl := by
  intro w hw
  obtain ⟨k, hk, rfl⟩ := List.mem_map.mp hw
  have hk := List.mem_range.mp hk
  rcases (show k = 0 ∨ k = 1 by omega) with rfl | rfl
  · exact xin_4 (List.mem_of_getElem? (i := 181) rfl)
  · exact xin_4 (List.mem_of_getElem? (i := 183) rfl)
theorem n11 : ∀ a, a < 12 → ∀ b, b < 12 → a ≠ b → (T11 a).2.1 ≠ (T11 b).2.1 := by decide +kernel
theorem tok11 : ∀ k, k < 12 → parseFieldDescriptor (T11 k).2.2.1 = some (t11 k) := by decide +kernel
theorem iw11 : ∀ w ∈ u_ws "RopeDance" T11 12, w ∈ lw_tbl := by
  intro w hw
  obtain ⟨k, hk, rfl⟩ := List.mem_map.mp hw
  have hk := List.mem_range.mp hk
  rcases (show k = 0 ∨ k = 1 ∨ k = 2 ∨ k = 3 ∨ k = 4 ∨ k = 5 ∨ k = 6 ∨ k = 7 ∨ k = 8 ∨ k = 9 ∨ k = 10 ∨ k = 11 by omega) with rfl | rfl | rfl | rfl | rfl | rfl | rfl | rfl | rfl | rfl | rfl | rfl
  · exact xin_2 (List.mem_of_getElem? (i := 137) rfl)
  · exact xin_2 (List.mem_of_getElem? (i := 139) rfl)
  · exact xin_2 (List.mem_of_getElem? (i := 141) rfl)
  · exact xin_2 (List.mem_of_getElem? (i := 143) rfl)
  · exact xin_2 (List.mem_of_getElem? (i := 145) rfl)
  · exact xin_2 (List.mem_of_getElem? (i := 147) rfl)
  · exact xin_2 (List.mem_of_getElem? (i := 149) rfl)
  · exact xin_2 (List.mem_of_getElem? (i := 151) rfl)
  · exact xin_2 (List.mem_of_getElem? (i := 153) rfl)
  · exact xin_2 (List.mem_of_getElem? (i := 155) rfl)
  · exact xin_2 (List.mem_of_getElem? (i := 157) rfl)
  · exact xin_2 (List.mem_of_getElem? (i := 159) rfl)
theorem n12 : ∀ a, a < 75 → ∀ b, b < 75 → a ≠ b → (T12 a).2.1 ≠ (T12 b).2.1 := by decide +kernel
theorem tok12 : ∀ k, k < 75 → parseFieldDescriptor (T12 k).2.2.1 = some (t12 k) := by decide +kernel
theorem iw12 : ∀ w ∈ u_ws "RopeDanceModel" T12 75, w ∈ lw_tbl := by
  intro w hw
  obtain ⟨k, hk, rfl⟩ := List.mem_map.mp hw
  have hk := List.mem_range.mp hk
  rcases (show k = 0 ∨ k = 1 ∨ k = 2 ∨ k = 3 ∨ k = 4 ∨ k = 5 ∨ k = 6 ∨ k = 7 ∨ k = 8 ∨ k = 9 ∨ k = 10 ∨ k = 11 ∨ k = 12 ∨ k = 13 ∨ k = 14 ∨ k = 15 ∨ k = 16 ∨ k = 17 ∨ k = 18 ∨ k = 19 ∨ k = 20 ∨ k = 21 ∨ k = 22 ∨ k = 23 ∨ k = 24 ∨ k = 25 ∨ k = 26 ∨ k = 27 ∨ k = 28 ∨ k = 29 ∨ k = 30 ∨ k = 31 ∨ k = 32 ∨ k = 33 ∨ k = 34 ∨ k = 35 ∨ k = 36 ∨ k = 37 ∨ k = 38 ∨ k = 39 ∨ k = 40 ∨ k = 41 ∨ k = 42 ∨ k = 43 ∨ k = 44 ∨ k = 45 ∨ k = 46 ∨ k = 47 ∨ k = 48 ∨ k = 49 ∨ k = 50 ∨ k = 51 ∨ k = 52 ∨ k = 53 ∨ k = 54 ∨ k = 55 ∨ k = 56 ∨ k = 57 ∨ k = 58 ∨ k = 59 ∨ k = 60 ∨ k = 61 ∨ k = 62 ∨ k = 63 ∨ k = 64 ∨ k = 65 ∨ k = 66 ∨ k = 67 ∨ k = 68 ∨ k = 69 ∨ k = 70 ∨ k = 71 ∨ k = 72 ∨ k = 73 ∨ k = 74 by omega) with rfl | rfl | rfl | rfl | rfl | rfl | rfl | rfl | rfl | rfl | rfl | rfl | rfl | rfl | rfl | rfl | rfl | rfl | rfl | rfl | rfl | rfl | rfl | rfl | rfl | rfl | rfl | rfl | rfl | rfl | rfl | rfl | rfl | rfl | rfl | rfl | rfl | rfl | rfl | rfl | rfl | rfl | rfl | rfl | rfl | rfl | rfl | rfl | rfl | rfl | rfl | rfl | rfl | rfl | rfl | rfl | rfl | rfl | rfl | rfl | rfl | rfl | rfl | rfl | rfl | rfl | rfl | rfl | rfl | rfl | rfl | rfl | rfl | rfl | rfl
  · exact xin_6 (List.mem_of_getElem? (i := 150) rfl)
  · exact xin_6 (List.mem_of_getElem? (i := 152) rfl)
  · exact xin_6 (List.mem_of_getElem? (i := 154) rfl)
  · exact xin_6 (List.mem_of_getElem? (i := 156) rfl)
  · exact xin_6 (List.mem_of_getElem? (i := 158) rfl)
  · exact xin_6 (List.mem_of_getElem? (i := 160) rfl)
  · exact xin_6 (List.mem_of_getElem? (i := 162) rfl)
  · exact xin_6 (List.mem_of_getElem? (i := 164) rfl)
  · exact xin_6 (List.mem_of_getElem? (i := 166) rfl)
  · exact xin_6 (List.mem_of_getElem? (i := 168) rfl)
  · exact xin_6 (List.mem_of_getElem? (i := 170) rfl)
  · exact xin_6 (List.mem_of_getElem? (i := 172) rfl)
  · exact xin_6 (List.mem_of_getElem? (i := 174) rfl)
  · exact xin_6 (List.mem_of_getElem? (i := 176) rfl)
  · exact xin_6 (List.mem_of_getElem? (i := 178) rfl)
  · exact xin_6 (List.mem_of_getElem? (i := 180) rfl)
  · exact xin_6 (List.mem_of_getElem? (i := 182) rfl)
  · exact xin_6 (List.mem_of_getElem? (i := 184) rfl)
  · exact xin_6 (List.mem_of_getElem? (i := 186) rfl)
  · exact xin_6 (List.mem_of_getElem? (i := 188) rfl)
  · exact xin_6 (List.mem_of_getElem? (i := 190) rfl)
  · exact xin_6 (List.mem_of_getElem? (i := 192) rfl)
  · exact xin_6 (List.mem_of_getElem? (i := 194) rfl)
  · exact xin_6 (List.mem_of_getElem? (i := 196) rfl)
  · exact xin_6 (List.mem_of_getElem? (i := 198) rfl)
  · exact xin_6 (List.mem_of_getElem? (i := 200) rfl)
  · exact xin_6 (List.mem_of_getElem? (i := 202) rfl)
  · exact xin_6 (List.mem_of_getElem? (i := 204) rfl)
  · exact xin_6 (List.mem_of_getElem? (i := 206) rfl)
  · exact xin_6 (List.mem_of_getElem? (i := 208) rfl)
  · exact xin_6 (List.mem_of_getElem? (i := 210) rfl)
  · exact xin_6 (List.mem_of_getElem? (i := 212) rfl)
  · exact xin_6 (List.mem_of_getElem? (i := 214) rfl)
  · exact xin_6 (List.mem_of_getElem? (i := 216) rfl)
  · exact xin_6 (List.mem_of_getElem? (i := 218) rfl)
  · exact xin_6 (List.mem_of_getElem? (i := 220) rfl)
  · exact xin_6 (List.mem_of_getElem? (i := 222) rfl)
  · exact xin_6 (List.mem_of_getElem? (i := 224) rfl)
  · exact xin_6 (List.mem_of_getElem? (i := 226) rfl)
  · exact xin_6 (List.mem_of_getElem? (i := 228) rfl)
  · exact xin_6 (List.mem_of_getElem? (i := 230) rfl)
  · exact xin_6 (List.mem_of_getElem? (i := 232) rfl)
  · exact xin_6 (List.mem_of_getElem? (i := 234) rfl)
  · exact xin_6 (List.mem_of_getElem? (i := 236) rfl)
  · exact xin_6 (List.mem_of_getElem? (i := 238) rfl)
  · exact xin_7 (List.mem_of_getElem? (i := 0) rfl)
  · exact xin_7 (List.mem_of_getElem? (i := 2) rfl)
  · exact xin_7 (List.mem_of_getElem? (i := 4) rfl)
  · exact xin_7 (List.mem_of_getElem? (i := 6) rfl)
  · exact xin_7 (List.mem_of_getElem? (i := 8) rfl)
  · exact xin_7 (List.mem_of_getElem? (i := 10) rfl)
  · exact xin_7 (List.mem_of_getElem? (i := 12) rfl)
  · exact xin_7 (List.mem_of_getElem? (i := 14) rfl)
  · exact xin_7 (List.mem_of_getElem? (i := 16) rfl)
  · exact xin_7 (List.mem_of_getElem? (i := 18) rfl)
  · exact xin_7 (List.mem_of_getElem? (i := 20) rfl)
  · exact xin_7 (List.mem_of_getElem? (i := 22) rfl)
  · exact xin_7 (List.mem_of_getElem? (i := 24) rfl)
  · exact xin_7 (List.mem_of_getElem? (i := 26) rfl)
  · exact xin_7 (List.mem_of_getElem? (i := 28) rfl)
  · exact xin_7 (List.mem_of_getElem? (i := 30) rfl)
  · exact xin_7 (List.mem_of_getElem? (i := 32) rfl)
  · exact xin_7 (List.mem_of_getElem? (i := 34) rfl)
  · exact xin_7 (List.mem_of_getElem? (i := 36) rfl)
  · exact xin_7 (List.mem_of_getElem? (i := 38) rfl)
  · exact xin_7 (List.mem_of_getElem? (i := 40) rfl)
  · exact xin_7 (List.mem_of_getElem? (i := 42) rfl)
  · exact xin_7 (List.mem_of_getElem? (i := 44) rfl)
  · exact xin_7 (List.mem_of_getElem? (i := 46) rfl)
  · exact xin_7 (List.mem_of_getElem? (i := 48) rfl)
  · exact xin_7 (List.mem_of_getElem? (i := 50) rfl)
  · exact xin_7 (List.mem_of_getElem? (i := 52) rfl)
  · exact xin_7 (List.mem_of_getElem? (i := 54) rfl)
  · exact xin_7 (List.mem_of_getElem? (i := 56) rfl)
  · exact xin_7 (List.mem_of_getElem? (i := 58) rfl)
