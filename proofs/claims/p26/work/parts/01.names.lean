-- ===== PART A: goes FIRST, ahead of the names: the tables' words, and 'selects' of the private methods out of them =====
/-- a private method of a class that the tables say can be made, by its rows of tables_1 -/
def lw_okq (q : MethodName × Nat) : Prop := (q.1.cls ≠ "java/lang/invoke/MethodHandle" ∧ q.1.cls ≠ "java/lang/invoke/VarHandle") ∧ Cond.instantiable q.1.cls q.2 ∈ tables_1 ∧ Cond.privateMethod q.1 ∈ tables_1 ∧ Cond.instanceMethod q.1 ∈ tables_1
theorem lw_p0 : lw_okq (⟨"TrailFinder", "caseAt", "(I)LTrailFinder$Case;"⟩, 8) := ⟨⟨by decide +kernel, by decide +kernel⟩, List.mem_of_getElem? (i := 17) (by decide +kernel), List.mem_of_getElem? (i := 135) (by decide +kernel), List.mem_of_getElem? (i := 136) (by decide +kernel)⟩
theorem lw_p1 : lw_okq (⟨"TrailFinder$Case", "tell", "(II)I"⟩, 3) := ⟨⟨by decide +kernel, by decide +kernel⟩, List.mem_of_getElem? (i := 141) (by decide +kernel), List.mem_of_getElem? (i := 139) (by decide +kernel), List.mem_of_getElem? (i := 140) (by decide +kernel)⟩
theorem lw_p2 : lw_okq (⟨"TrailFinder", "inLog", "(I)LTrailFinder$Case;"⟩, 8) := ⟨⟨by decide +kernel, by decide +kernel⟩, List.mem_of_getElem? (i := 17) (by decide +kernel), List.mem_of_getElem? (i := 148) (by decide +kernel), List.mem_of_getElem? (i := 149) (by decide +kernel)⟩
theorem lw_p3 : lw_okq (⟨"TrailFinder", "pieceAt", "(I)LTrailFinder$Piece;"⟩, 8) := ⟨⟨by decide +kernel, by decide +kernel⟩, List.mem_of_getElem? (i := 17) (by decide +kernel), List.mem_of_getElem? (i := 152) (by decide +kernel), List.mem_of_getElem? (i := 153) (by decide +kernel)⟩
theorem lw_p4 : lw_okq (⟨"TrailFinder$Laying", "lay", "(LTrailFinder$Case;LTrailFinder$Piece;)V"⟩, 7) := ⟨⟨by decide +kernel, by decide +kernel⟩, List.mem_of_getElem? (i := 29) (by decide +kernel), List.mem_of_getElem? (i := 156) (by decide +kernel), List.mem_of_getElem? (i := 157) (by decide +kernel)⟩
theorem lw_p5 : lw_okq (⟨"TrailFinder$Laying", "weighDeed", "([ILTrailFinder$Piece;)V"⟩, 7) := ⟨⟨by decide +kernel, by decide +kernel⟩, List.mem_of_getElem? (i := 29) (by decide +kernel), List.mem_of_getElem? (i := 170) (by decide +kernel), List.mem_of_getElem? (i := 171) (by decide +kernel)⟩
theorem lw_p6 : lw_okq (⟨"TrailFinder$Laying", "weighParts", "([II[LTrailFinder$Piece;)V"⟩, 7) := ⟨⟨by decide +kernel, by decide +kernel⟩, List.mem_of_getElem? (i := 29) (by decide +kernel), List.mem_of_getElem? (i := 178) (by decide +kernel), List.mem_of_getElem? (i := 179) (by decide +kernel)⟩
theorem lw_p7 : lw_okq (⟨"TrailFinder$Laying", "copy", "([I[I)V"⟩, 7) := ⟨⟨by decide +kernel, by decide +kernel⟩, List.mem_of_getElem? (i := 29) (by decide +kernel), List.mem_of_getElem? (i := 182) (by decide +kernel), List.mem_of_getElem? (i := 183) (by decide +kernel)⟩
theorem lw_p8 : lw_okq (⟨"TrailFinder$Laying", "inRow", "([I[I)V"⟩, 7) := ⟨⟨by decide +kernel, by decide +kernel⟩, List.mem_of_getElem? (i := 29) (by decide +kernel), List.mem_of_getElem? (i := 186) (by decide +kernel), List.mem_of_getElem? (i := 187) (by decide +kernel)⟩
theorem lw_p9 : lw_okq (⟨"TrailFinder$Laying", "cheaper", "([I[I)V"⟩, 7) := ⟨⟨by decide +kernel, by decide +kernel⟩, List.mem_of_getElem? (i := 29) (by decide +kernel), List.mem_of_getElem? (i := 190) (by decide +kernel), List.mem_of_getElem? (i := 191) (by decide +kernel)⟩
theorem lw_p10 : lw_okq (⟨"TrailFinder$Laying", "mixed", "([I[I)V"⟩, 7) := ⟨⟨by decide +kernel, by decide +kernel⟩, List.mem_of_getElem? (i := 29) (by decide +kernel), List.mem_of_getElem? (i := 194) (by decide +kernel), List.mem_of_getElem? (i := 195) (by decide +kernel)⟩
theorem lw_p11 : lw_okq (⟨"TrailFinder$Laying", "weighRounds", "([I[LTrailFinder$Piece;)V"⟩, 7) := ⟨⟨by decide +kernel, by decide +kernel⟩, List.mem_of_getElem? (i := 29) (by decide +kernel), List.mem_of_getElem? (i := 198) (by decide +kernel), List.mem_of_getElem? (i := 199) (by decide +kernel)⟩
theorem lw_p12 : lw_okq (⟨"TrailFinder$Laying", "choose", "([I)V"⟩, 7) := ⟨⟨by decide +kernel, by decide +kernel⟩, List.mem_of_getElem? (i := 29) (by decide +kernel), List.mem_of_getElem? (i := 202) (by decide +kernel), List.mem_of_getElem? (i := 203) (by decide +kernel)⟩
theorem lw_p13 : lw_okq (⟨"TrailFinder", "trailsInLog", "()I"⟩, 8) := ⟨⟨by decide +kernel, by decide +kernel⟩, List.mem_of_getElem? (i := 17) (by decide +kernel), List.mem_of_getElem? (i := 227) (by decide +kernel), List.mem_of_getElem? (i := 228) (by decide +kernel)⟩
theorem lw_p14 : lw_okq (⟨"TrailFinder", "deedsInLog", "()I"⟩, 8) := ⟨⟨by decide +kernel, by decide +kernel⟩, List.mem_of_getElem? (i := 17) (by decide +kernel), List.mem_of_getElem? (i := 231) (by decide +kernel), List.mem_of_getElem? (i := 232) (by decide +kernel)⟩
theorem lw_p15 : lw_okq (⟨"TrailFinder", "namesInLog", "()I"⟩, 8) := ⟨⟨by decide +kernel, by decide +kernel⟩, List.mem_of_getElem? (i := 17) (by decide +kernel), List.mem_of_getElem? (i := 235) (by decide +kernel), List.mem_of_getElem? (i := 236) (by decide +kernel)⟩
def lw_privs_1 : List (MethodName × Nat) := [(⟨"TrailFinder", "caseAt", "(I)LTrailFinder$Case;"⟩, 8), (⟨"TrailFinder$Case", "tell", "(II)I"⟩, 3), (⟨"TrailFinder", "inLog", "(I)LTrailFinder$Case;"⟩, 8), (⟨"TrailFinder", "pieceAt", "(I)LTrailFinder$Piece;"⟩, 8), (⟨"TrailFinder$Laying", "lay", "(LTrailFinder$Case;LTrailFinder$Piece;)V"⟩, 7), (⟨"TrailFinder$Laying", "weighDeed", "([ILTrailFinder$Piece;)V"⟩, 7), (⟨"TrailFinder$Laying", "weighParts", "([II[LTrailFinder$Piece;)V"⟩, 7), (⟨"TrailFinder$Laying", "copy", "([I[I)V"⟩, 7), (⟨"TrailFinder$Laying", "inRow", "([I[I)V"⟩, 7), (⟨"TrailFinder$Laying", "cheaper", "([I[I)V"⟩, 7), (⟨"TrailFinder$Laying", "mixed", "([I[I)V"⟩, 7), (⟨"TrailFinder$Laying", "weighRounds", "([I[LTrailFinder$Piece;)V"⟩, 7), (⟨"TrailFinder$Laying", "choose", "([I)V"⟩, 7), (⟨"TrailFinder", "trailsInLog", "()I"⟩, 8), (⟨"TrailFinder", "deedsInLog", "()I"⟩, 8), (⟨"TrailFinder", "namesInLog", "()I"⟩, 8)]
theorem lw_r1 : ∀ q ∈ lw_privs_1, lw_okq q := List.forall_mem_cons.mpr ⟨lw_p0, List.forall_mem_cons.mpr ⟨lw_p1, List.forall_mem_cons.mpr ⟨lw_p2, List.forall_mem_cons.mpr ⟨lw_p3, List.forall_mem_cons.mpr ⟨lw_p4, List.forall_mem_cons.mpr ⟨lw_p5, List.forall_mem_cons.mpr ⟨lw_p6, List.forall_mem_cons.mpr ⟨lw_p7, List.forall_mem_cons.mpr ⟨lw_p8, List.forall_mem_cons.mpr ⟨lw_p9, List.forall_mem_cons.mpr ⟨lw_p10, List.forall_mem_cons.mpr ⟨lw_p11, List.forall_mem_cons.mpr ⟨lw_p12, List.forall_mem_cons.mpr ⟨lw_p13, List.forall_mem_cons.mpr ⟨lw_p14, List.forall_mem_cons.mpr ⟨lw_p15, fun _ h => absurd h List.not_mem_nil⟩⟩⟩⟩⟩⟩⟩⟩⟩⟩⟩⟩⟩⟩⟩⟩
theorem lw_p16 : lw_okq (⟨"TrailFinder$Case", "timesNamed", "(I)I"⟩, 3) := ⟨⟨by decide +kernel, by decide +kernel⟩, List.mem_of_getElem? (i := 141) (by decide +kernel), List.mem_of_getElem? (i := 246) (by decide +kernel), List.mem_of_getElem? (i := 247) (by decide +kernel)⟩
theorem lw_p17 : lw_okq (⟨"TrailFinder", "unlikeTrails", "()I"⟩, 8) := ⟨⟨by decide +kernel, by decide +kernel⟩, List.mem_of_getElem? (i := 17) (by decide +kernel), List.mem_of_getElem? (i := 251) (by decide +kernel), List.mem_of_getElem? (i := 252) (by decide +kernel)⟩
theorem lw_p18 : lw_okq (⟨"TrailFinder$Case", "row", "()I"⟩, 3) := ⟨⟨by decide +kernel, by decide +kernel⟩, List.mem_of_getElem? (i := 141) (by decide +kernel), List.mem_of_getElem? (i := 255) (by decide +kernel), List.mem_of_getElem? (i := 256) (by decide +kernel)⟩
theorem lw_p19 : lw_okq (⟨"TrailFinder", "stoodAhead", "(II)Z"⟩, 8) := ⟨⟨by decide +kernel, by decide +kernel⟩, List.mem_of_getElem? (i := 17) (by decide +kernel), List.mem_of_getElem? (i := 259) (by decide +kernel), List.mem_of_getElem? (i := 260) (by decide +kernel)⟩
theorem lw_p20 : lw_okq (⟨"TrailFinder$Case", "put", "(IIII)V"⟩, 3) := ⟨⟨by decide +kernel, by decide +kernel⟩, List.mem_of_getElem? (i := 141) (by decide +kernel), List.mem_of_getElem? (i := 305) (by decide +kernel), List.mem_of_getElem? (i := 306) (by decide +kernel)⟩
theorem lw_p21 : lw_okq (⟨"TrailFinder", "keep", "(LTrailFinder$Piece;I)I"⟩, 8) := ⟨⟨by decide +kernel, by decide +kernel⟩, List.mem_of_getElem? (i := 17) (by decide +kernel), List.mem_of_getElem? (i := 368) (by decide +kernel), List.mem_of_getElem? (i := 369) (by decide +kernel)⟩
theorem lw_p22 : lw_okq (⟨"java/util/ArrayList", "rangeCheckForAdd", "(I)V"⟩, 3) := ⟨⟨by decide +kernel, by decide +kernel⟩, List.mem_of_getElem? (i := 393) (by decide +kernel), List.mem_of_getElem? (i := 454) (by decide +kernel), List.mem_of_getElem? (i := 455) (by decide +kernel)⟩
theorem lw_p23 : lw_okq (⟨"java/util/ArrayList", "grow", "()[Ljava/lang/Object;"⟩, 3) := ⟨⟨by decide +kernel, by decide +kernel⟩, List.mem_of_getElem? (i := 393) (by decide +kernel), List.mem_of_getElem? (i := 458) (by decide +kernel), List.mem_of_getElem? (i := 459) (by decide +kernel)⟩
theorem lw_p24 : lw_okq (⟨"java/util/ArrayList", "grow", "(I)[Ljava/lang/Object;"⟩, 3) := ⟨⟨by decide +kernel, by decide +kernel⟩, List.mem_of_getElem? (i := 393) (by decide +kernel), List.mem_of_getElem? (i := 462) (by decide +kernel), List.mem_of_getElem? (i := 463) (by decide +kernel)⟩
theorem lw_p25 : lw_okq (⟨"TrailFinder$Share", "put", "(I)V"⟩, 11) := ⟨⟨by decide +kernel, by decide +kernel⟩, List.mem_of_getElem? (i := 61) (by decide +kernel), List.mem_of_getElem? (i := 506) (by decide +kernel), List.mem_of_getElem? (i := 507) (by decide +kernel)⟩
theorem lw_p26 : lw_okq (⟨"TrailFinder$Share", "leaveOutEmpty", "()V"⟩, 11) := ⟨⟨by decide +kernel, by decide +kernel⟩, List.mem_of_getElem? (i := 61) (by decide +kernel), List.mem_of_getElem? (i := 513) (by decide +kernel), List.mem_of_getElem? (i := 514) (by decide +kernel)⟩
theorem lw_p27 : lw_okq (⟨"TrailFinder$Share", "look", "()V"⟩, 11) := ⟨⟨by decide +kernel, by decide +kernel⟩, List.mem_of_getElem? (i := 61) (by decide +kernel), List.mem_of_getElem? (i := 521) (by decide +kernel), List.mem_of_getElem? (i := 522) (by decide +kernel)⟩
theorem lw_p28 : lw_okq (⟨"TrailFinder$Share", "lookAt", "(I)V"⟩, 11) := ⟨⟨by decide +kernel, by decide +kernel⟩, List.mem_of_getElem? (i := 61) (by decide +kernel), List.mem_of_getElem? (i := 526) (by decide +kernel), List.mem_of_getElem? (i := 527) (by decide +kernel)⟩
theorem lw_p29 : lw_okq (⟨"TrailFinder$Share", "hasLongRow", "()Z"⟩, 11) := ⟨⟨by decide +kernel, by decide +kernel⟩, List.mem_of_getElem? (i := 61) (by decide +kernel), List.mem_of_getElem? (i := 538) (by decide +kernel), List.mem_of_getElem? (i := 539) (by decide +kernel)⟩
theorem lw_p30 : lw_okq (⟨"TrailFinder$Share", "cutsTo", "()I"⟩, 11) := ⟨⟨by decide +kernel, by decide +kernel⟩, List.mem_of_getElem? (i := 61) (by decide +kernel), List.mem_of_getElem? (i := 542) (by decide +kernel), List.mem_of_getElem? (i := 543) (by decide +kernel)⟩
theorem lw_p31 : lw_okq (⟨"TrailFinder$Share", "cutsToChoice", "()Z"⟩, 11) := ⟨⟨by decide +kernel, by decide +kernel⟩, List.mem_of_getElem? (i := 61) (by decide +kernel), List.mem_of_getElem? (i := 546) (by decide +kernel), List.mem_of_getElem? (i := 547) (by decide +kernel)⟩
def lw_privs_2 : List (MethodName × Nat) := [(⟨"TrailFinder$Case", "timesNamed", "(I)I"⟩, 3), (⟨"TrailFinder", "unlikeTrails", "()I"⟩, 8), (⟨"TrailFinder$Case", "row", "()I"⟩, 3), (⟨"TrailFinder", "stoodAhead", "(II)Z"⟩, 8), (⟨"TrailFinder$Case", "put", "(IIII)V"⟩, 3), (⟨"TrailFinder", "keep", "(LTrailFinder$Piece;I)I"⟩, 8), (⟨"java/util/ArrayList", "rangeCheckForAdd", "(I)V"⟩, 3), (⟨"java/util/ArrayList", "grow", "()[Ljava/lang/Object;"⟩, 3), (⟨"java/util/ArrayList", "grow", "(I)[Ljava/lang/Object;"⟩, 3), (⟨"TrailFinder$Share", "put", "(I)V"⟩, 11), (⟨"TrailFinder$Share", "leaveOutEmpty", "()V"⟩, 11), (⟨"TrailFinder$Share", "look", "()V"⟩, 11), (⟨"TrailFinder$Share", "lookAt", "(I)V"⟩, 11), (⟨"TrailFinder$Share", "hasLongRow", "()Z"⟩, 11), (⟨"TrailFinder$Share", "cutsTo", "()I"⟩, 11), (⟨"TrailFinder$Share", "cutsToChoice", "()Z"⟩, 11)]
theorem lw_r2 : ∀ q ∈ lw_privs_2, lw_okq q := List.forall_mem_cons.mpr ⟨lw_p16, List.forall_mem_cons.mpr ⟨lw_p17, List.forall_mem_cons.mpr ⟨lw_p18, List.forall_mem_cons.mpr ⟨lw_p19, List.forall_mem_cons.mpr ⟨lw_p20, List.forall_mem_cons.mpr ⟨lw_p21, List.forall_mem_cons.mpr ⟨lw_p22, List.forall_mem_cons.mpr ⟨lw_p23, List.forall_mem_cons.mpr ⟨lw_p24, List.forall_mem_cons.mpr ⟨lw_p25, List.forall_mem_cons.mpr ⟨lw_p26, List.forall_mem_cons.mpr ⟨lw_p27, List.forall_mem_cons.mpr ⟨lw_p28, List.forall_mem_cons.mpr ⟨lw_p29, List.forall_mem_cons.mpr ⟨lw_p30, List.forall_mem_cons.mpr ⟨lw_p31, fun _ h => absurd h List.not_mem_nil⟩⟩⟩⟩⟩⟩⟩⟩⟩⟩⟩⟩⟩⟩⟩⟩
theorem lw_p32 : lw_okq (⟨"TrailFinder$Share", "partByNear", "(I)V"⟩, 11) := ⟨⟨by decide +kernel, by decide +kernel⟩, List.mem_of_getElem? (i := 61) (by decide +kernel), List.mem_of_getElem? (i := 550) (by decide +kernel), List.mem_of_getElem? (i := 551) (by decide +kernel)⟩
theorem lw_p33 : lw_okq (⟨"TrailFinder$Share", "cutsToRow", "()Z"⟩, 11) := ⟨⟨by decide +kernel, by decide +kernel⟩, List.mem_of_getElem? (i := 61) (by decide +kernel), List.mem_of_getElem? (i := 557) (by decide +kernel), List.mem_of_getElem? (i := 558) (by decide +kernel)⟩
theorem lw_p34 : lw_okq (⟨"TrailFinder$Share", "orderByReach", "()V"⟩, 11) := ⟨⟨by decide +kernel, by decide +kernel⟩, List.mem_of_getElem? (i := 61) (by decide +kernel), List.mem_of_getElem? (i := 561) (by decide +kernel), List.mem_of_getElem? (i := 562) (by decide +kernel)⟩
theorem lw_p35 : lw_okq (⟨"TrailFinder$Share", "reaches", "(II)Z"⟩, 11) := ⟨⟨by decide +kernel, by decide +kernel⟩, List.mem_of_getElem? (i := 61) (by decide +kernel), List.mem_of_getElem? (i := 565) (by decide +kernel), List.mem_of_getElem? (i := 566) (by decide +kernel)⟩
theorem lw_p36 : lw_okq (⟨"TrailFinder$Share", "cutsToBeside", "()Z"⟩, 11) := ⟨⟨by decide +kernel, by decide +kernel⟩, List.mem_of_getElem? (i := 61) (by decide +kernel), List.mem_of_getElem? (i := 569) (by decide +kernel), List.mem_of_getElem? (i := 570) (by decide +kernel)⟩
theorem lw_p37 : lw_okq (⟨"TrailFinder$Share", "cutsToLoop", "()Z"⟩, 11) := ⟨⟨by decide +kernel, by decide +kernel⟩, List.mem_of_getElem? (i := 61) (by decide +kernel), List.mem_of_getElem? (i := 573) (by decide +kernel), List.mem_of_getElem? (i := 574) (by decide +kernel)⟩
theorem lw_p38 : lw_okq (⟨"TrailFinder$Share", "goesTo", "(II)Z"⟩, 11) := ⟨⟨by decide +kernel, by decide +kernel⟩, List.mem_of_getElem? (i := 61) (by decide +kernel), List.mem_of_getElem? (i := 577) (by decide +kernel), List.mem_of_getElem? (i := 578) (by decide +kernel)⟩
theorem lw_p39 : lw_okq (⟨"TrailFinder$Share", "putAhead", "(I)V"⟩, 11) := ⟨⟨by decide +kernel, by decide +kernel⟩, List.mem_of_getElem? (i := 61) (by decide +kernel), List.mem_of_getElem? (i := 584) (by decide +kernel), List.mem_of_getElem? (i := 585) (by decide +kernel)⟩
theorem lw_p40 : lw_okq (⟨"TrailFinder$Share", "takeFrom", "(LTrailFinder$Share;II)V"⟩, 11) := ⟨⟨by decide +kernel, by decide +kernel⟩, List.mem_of_getElem? (i := 61) (by decide +kernel), List.mem_of_getElem? (i := 591) (by decide +kernel), List.mem_of_getElem? (i := 592) (by decide +kernel)⟩
theorem lw_p41 : lw_okq (⟨"TrailFinder$Share", "putStretches", "(II)V"⟩, 11) := ⟨⟨by decide +kernel, by decide +kernel⟩, List.mem_of_getElem? (i := 61) (by decide +kernel), List.mem_of_getElem? (i := 598) (by decide +kernel), List.mem_of_getElem? (i := 599) (by decide +kernel)⟩
theorem lw_p42 : lw_okq (⟨"TrailFinder", "pairs", "(III)I"⟩, 8) := ⟨⟨by decide +kernel, by decide +kernel⟩, List.mem_of_getElem? (i := 17) (by decide +kernel), List.mem_of_getElem? (i := 621) (by decide +kernel), List.mem_of_getElem? (i := 622) (by decide +kernel)⟩
def lw_privs_3 : List (MethodName × Nat) := [(⟨"TrailFinder$Share", "partByNear", "(I)V"⟩, 11), (⟨"TrailFinder$Share", "cutsToRow", "()Z"⟩, 11), (⟨"TrailFinder$Share", "orderByReach", "()V"⟩, 11), (⟨"TrailFinder$Share", "reaches", "(II)Z"⟩, 11), (⟨"TrailFinder$Share", "cutsToBeside", "()Z"⟩, 11), (⟨"TrailFinder$Share", "cutsToLoop", "()Z"⟩, 11), (⟨"TrailFinder$Share", "goesTo", "(II)Z"⟩, 11), (⟨"TrailFinder$Share", "putAhead", "(I)V"⟩, 11), (⟨"TrailFinder$Share", "takeFrom", "(LTrailFinder$Share;II)V"⟩, 11), (⟨"TrailFinder$Share", "putStretches", "(II)V"⟩, 11), (⟨"TrailFinder", "pairs", "(III)I"⟩, 8)]
theorem lw_r3 : ∀ q ∈ lw_privs_3, lw_okq q := List.forall_mem_cons.mpr ⟨lw_p32, List.forall_mem_cons.mpr ⟨lw_p33, List.forall_mem_cons.mpr ⟨lw_p34, List.forall_mem_cons.mpr ⟨lw_p35, List.forall_mem_cons.mpr ⟨lw_p36, List.forall_mem_cons.mpr ⟨lw_p37, List.forall_mem_cons.mpr ⟨lw_p38, List.forall_mem_cons.mpr ⟨lw_p39, List.forall_mem_cons.mpr ⟨lw_p40, List.forall_mem_cons.mpr ⟨lw_p41, List.forall_mem_cons.mpr ⟨lw_p42, fun _ h => absurd h List.not_mem_nil⟩⟩⟩⟩⟩⟩⟩⟩⟩⟩⟩
def lw_privs : List (MethodName × Nat) := lw_privs_1 ++ (lw_privs_2 ++ (lw_privs_3))
def lw_tbl : List Cond := k2_sels lw_privs ++ tables_1
theorem lw_privs_ok : ∀ q ∈ lw_privs, lw_okq q := by
  show ∀ q ∈ lw_privs_1 ++ (lw_privs_2 ++ (lw_privs_3)), lw_okq q
  exact List.forall_mem_append.mpr ⟨lw_r1, List.forall_mem_append.mpr ⟨lw_r2, lw_r3⟩⟩

-- names
def RX0 : String := "TrailFinder$Case"
def TX0 : u_T := fun k => match k with
  | 0 => ("TrailFinder$Case", "deeds", "[I", true)
  | 1 => ("TrailFinder$Case", "length", "I", false)
  | _ => ("TrailFinder$Case", "dropped", "Z", false)
def tyX0 : Nat → FieldType := fun k => match k with
  | 0 => .array .int
  | 1 => .int
  | _ => .boolean
theorem nmX0 : ∀ a, a < 3 → ∀ b, b < 3 → a ≠ b → (TX0 a).2.1 ≠ (TX0 b).2.1 := by decide +kernel
theorem tyX0_ok : ∀ k, k < 3 → parseFieldDescriptor (TX0 k).2.2.1 = some (tyX0 k) := by decide +kernel
abbrev cX0_init : ByteArray := prog_2_method_1_code
def yX0_init : MethodName := ⟨RX0, "<init>", "()V"⟩
abbrev cX0_put : ByteArray := prog_2_method_2_code
def yX0_put : MethodName := ⟨RX0, "put", "(IIII)V"⟩
abbrev cX0_tell : ByteArray := prog_2_method_3_code
def yX0_tell : MethodName := ⟨RX0, "tell", "(II)I"⟩
abbrev cX0_timesNamed : ByteArray := prog_2_method_4_code
def yX0_timesNamed : MethodName := ⟨RX0, "timesNamed", "(I)I"⟩
abbrev cX0_row : ByteArray := prog_2_method_5_code
def yX0_row : MethodName := ⟨RX0, "row", "()I"⟩
def RX1 : String := "TrailFinder$Laying"
def TX1 : u_T := fun k => match k with
  | 0 => ("TrailFinder$Laying", "names", "[I", true)
  | 1 => ("TrailFinder$Laying", "length", "I", false)
  | 2 => ("TrailFinder$Laying", "sets", "I", false)
  | 3 => ("TrailFinder$Laying", "others", "[I", true)
  | 4 => ("TrailFinder$Laying", "rounds", "[I", true)
  | 5 => ("TrailFinder$Laying", "least", "I", false)
  | _ => ("TrailFinder$Laying", "number", "I", false)
def tyX1 : Nat → FieldType := fun k => match k with
  | 0 => .array .int
  | 1 => .int
  | 2 => .int
  | 3 => .array .int
  | 4 => .array .int
  | 5 => .int
  | _ => .int
theorem nmX1 : ∀ a, a < 7 → ∀ b, b < 7 → a ≠ b → (TX1 a).2.1 ≠ (TX1 b).2.1 := by decide +kernel
theorem tyX1_ok : ∀ k, k < 7 → parseFieldDescriptor (TX1 k).2.2.1 = some (tyX1 k) := by decide +kernel
abbrev cX1_init : ByteArray := prog_3_method_1_code
def yX1_init : MethodName := ⟨RX1, "<init>", "()V"⟩
abbrev cX1_lay : ByteArray := prog_3_method_2_code
def yX1_lay : MethodName := ⟨RX1, "lay", "(LTrailFinder$Case;LTrailFinder$Piece;)V"⟩
abbrev cX1_choose : ByteArray := prog_3_method_3_code
def yX1_choose : MethodName := ⟨RX1, "choose", "([I)V"⟩
abbrev cX1_numberOf : ByteArray := prog_3_method_4_code
def yX1_numberOf : MethodName := ⟨RX1, "numberOf", "(I)I"⟩
abbrev cX1_costsOf : ByteArray := prog_3_method_5_code
def yX1_costsOf : MethodName := ⟨RX1, "costsOf", "(LTrailFinder$Piece;)[I"⟩
abbrev cX1_weigh : ByteArray := prog_3_method_6_code
def yX1_weigh : MethodName := ⟨RX1, "weigh", "(LTrailFinder$Laying;LTrailFinder$Piece;I)V"⟩
abbrev cX1_weighDeed : ByteArray := prog_3_method_7_code
def yX1_weighDeed : MethodName := ⟨RX1, "weighDeed", "([ILTrailFinder$Piece;)V"⟩
abbrev cX1_weighParts : ByteArray := prog_3_method_8_code
def yX1_weighParts : MethodName := ⟨RX1, "weighParts", "([II[LTrailFinder$Piece;)V"⟩
abbrev cX1_weighRounds : ByteArray := prog_3_method_9_code
def yX1_weighRounds : MethodName := ⟨RX1, "weighRounds", "([I[LTrailFinder$Piece;)V"⟩
abbrev cX1_inRow : ByteArray := prog_3_method_10_code
def yX1_inRow : MethodName := ⟨RX1, "inRow", "([I[I)V"⟩
abbrev cX1_mixed : ByteArray := prog_3_method_11_code
def yX1_mixed : MethodName := ⟨RX1, "mixed", "([I[I)V"⟩
abbrev cX1_cheaper : ByteArray := prog_3_method_12_code
def yX1_cheaper : MethodName := ⟨RX1, "cheaper", "([I[I)V"⟩
abbrev cX1_copy : ByteArray := prog_3_method_13_code
def yX1_copy : MethodName := ⟨RX1, "copy", "([I[I)V"⟩
def RX2 : String := "TrailFinder$Piece"
def TX2 : u_T := fun k => match k with
  | 0 => ("TrailFinder$Piece", "kind", "I", true)
  | 1 => ("TrailFinder$Piece", "name", "I", true)
  | 2 => ("TrailFinder$Piece", "parts", "[LTrailFinder$Piece;", true)
  | 3 => ("TrailFinder$Piece", "size", "I", true)
  | 4 => ("TrailFinder$Piece", "fewest", "I", true)
  | 5 => ("TrailFinder$Piece", "number", "I", false)
  | _ => ("TrailFinder$Piece", "costs", "[I", false)
def tyX2 : Nat → FieldType := fun k => match k with
  | 0 => .int
  | 1 => .int
  | 2 => .array (.object "TrailFinder$Piece")
  | 3 => .int
  | 4 => .int
  | 5 => .int
  | _ => .array .int
theorem nmX2 : ∀ a, a < 7 → ∀ b, b < 7 → a ≠ b → (TX2 a).2.1 ≠ (TX2 b).2.1 := by decide +kernel
theorem tyX2_ok : ∀ k, k < 7 → parseFieldDescriptor (TX2 k).2.2.1 = some (tyX2 k) := by decide +kernel
abbrev cX2_init : ByteArray := prog_4_method_1_code
def yX2_init : MethodName := ⟨RX2, "<init>", "(II[LTrailFinder$Piece;)V"⟩
abbrev cX2_fewestOf : ByteArray := prog_4_method_2_code
def yX2_fewestOf : MethodName := ⟨RX2, "fewestOf", "(I[LTrailFinder$Piece;)I"⟩
def RX3 : String := "TrailFinder$Share"
def TX3 : u_T := fun k => match k with
  | 0 => ("TrailFinder$Share", "rows", "[I", true)
  | 1 => ("TrailFinder$Share", "filled", "I", false)
  | 2 => ("TrailFinder$Share", "names", "I", false)
  | 3 => ("TrailFinder$Share", "begins", "I", false)
  | 4 => ("TrailFinder$Share", "ends", "I", false)
  | 5 => ("TrailFinder$Share", "behind", "[I", true)
  | 6 => ("TrailFinder$Share", "ahead", "[I", true)
  | 7 => ("TrailFinder$Share", "near", "[I", true)
  | 8 => ("TrailFinder$Share", "reached", "[I", true)
  | 9 => ("TrailFinder$Share", "parts", "[I", true)
  | _ => ("TrailFinder$Share", "cutInto", "I", false)
def tyX3 : Nat → FieldType := fun k => match k with
  | 0 => .array .int
  | 1 => .int
  | 2 => .int
  | 3 => .int
  | 4 => .int
  | 5 => .array .int
  | 6 => .array .int
  | 7 => .array .int
  | 8 => .array .int
  | 9 => .array .int
  | _ => .int
theorem nmX3 : ∀ a, a < 11 → ∀ b, b < 11 → a ≠ b → (TX3 a).2.1 ≠ (TX3 b).2.1 := by decide +kernel
theorem tyX3_ok : ∀ k, k < 11 → parseFieldDescriptor (TX3 k).2.2.1 = some (tyX3 k) := by decide +kernel
abbrev cX3_init : ByteArray := prog_5_method_1_code
def yX3_init : MethodName := ⟨RX3, "<init>", "()V"⟩
abbrev cX3_put : ByteArray := prog_5_method_2_code
def yX3_put : MethodName := ⟨RX3, "put", "(I)V"⟩
abbrev cX3_leaveOutEmpty : ByteArray := prog_5_method_3_code
def yX3_leaveOutEmpty : MethodName := ⟨RX3, "leaveOutEmpty", "()V"⟩
abbrev cX3_hasLongRow : ByteArray := prog_5_method_4_code
def yX3_hasLongRow : MethodName := ⟨RX3, "hasLongRow", "()Z"⟩
abbrev cX3_nameIn : ByteArray := prog_5_method_5_code
def yX3_nameIn : MethodName := ⟨RX3, "nameIn", "(II)I"⟩
abbrev cX3_look : ByteArray := prog_5_method_6_code
def yX3_look : MethodName := ⟨RX3, "look", "()V"⟩
abbrev cX3_lookAt : ByteArray := prog_5_method_7_code
def yX3_lookAt : MethodName := ⟨RX3, "lookAt", "(I)V"⟩
abbrev cX3_takeFrom : ByteArray := prog_5_method_8_code
def yX3_takeFrom : MethodName := ⟨RX3, "takeFrom", "(LTrailFinder$Share;II)V"⟩
abbrev cX3_within : ByteArray := prog_5_method_9_code
def yX3_within : MethodName := ⟨RX3, "within", "(II)I"⟩
abbrev cX3_putStretches : ByteArray := prog_5_method_10_code
def yX3_putStretches : MethodName := ⟨RX3, "putStretches", "(II)V"⟩
abbrev cX3_cutsTo : ByteArray := prog_5_method_11_code
def yX3_cutsTo : MethodName := ⟨RX3, "cutsTo", "()I"⟩
abbrev cX3_partByNear : ByteArray := prog_5_method_12_code
def yX3_partByNear : MethodName := ⟨RX3, "partByNear", "(I)V"⟩
abbrev cX3_closed : ByteArray := prog_5_method_13_code
def yX3_closed : MethodName := ⟨RX3, "closed", "(I[I)I"⟩
abbrev cX3_cutsToChoice : ByteArray := prog_5_method_14_code
def yX3_cutsToChoice : MethodName := ⟨RX3, "cutsToChoice", "()Z"⟩
abbrev cX3_cutsToRow : ByteArray := prog_5_method_15_code
def yX3_cutsToRow : MethodName := ⟨RX3, "cutsToRow", "()Z"⟩
abbrev cX3_orderByReach : ByteArray := prog_5_method_16_code
def yX3_orderByReach : MethodName := ⟨RX3, "orderByReach", "()V"⟩
abbrev cX3_reaches : ByteArray := prog_5_method_17_code
def yX3_reaches : MethodName := ⟨RX3, "reaches", "(II)Z"⟩
abbrev cX3_cutsToBeside : ByteArray := prog_5_method_18_code
def yX3_cutsToBeside : MethodName := ⟨RX3, "cutsToBeside", "()Z"⟩
abbrev cX3_cutsToLoop : ByteArray := prog_5_method_19_code
def yX3_cutsToLoop : MethodName := ⟨RX3, "cutsToLoop", "()Z"⟩
abbrev cX3_putAhead : ByteArray := prog_5_method_20_code
def yX3_putAhead : MethodName := ⟨RX3, "putAhead", "(I)V"⟩
abbrev cX3_goesTo : ByteArray := prog_5_method_21_code
def yX3_goesTo : MethodName := ⟨RX3, "goesTo", "(II)Z"⟩
abbrev cX3_someNotAll : ByteArray := prog_5_method_22_code
def yX3_someNotAll : MethodName := ⟨RX3, "someNotAll", "(II)Z"⟩
def RX4 : String := "TrailFinder$Spans"
def TX4 : u_T := fun k => match k with
  | _ => ("", "", "", false)
def tyX4 : Nat → FieldType := fun k => match k with
  | _ => .int
theorem nmX4 : ∀ a, a < 0 → ∀ b, b < 0 → a ≠ b → (TX4 a).2.1 ≠ (TX4 b).2.1 := by decide +kernel
theorem tyX4_ok : ∀ k, k < 0 → parseFieldDescriptor (TX4 k).2.2.1 = some (tyX4 k) := by decide +kernel
def RX5 : String := "TrailFinder"
def TX5 : u_T := fun k => match k with
  | 0 => ("TrailFinder", "cases", "[LTrailFinder$Case;", true)
  | 1 => ("TrailFinder", "opened", "I", false)
  | 2 => ("TrailFinder", "pieces", "[LTrailFinder$Piece;", true)
  | 3 => ("TrailFinder", "made", "I", false)
  | 4 => ("TrailFinder", "laying", "LTrailFinder$Laying;", true)
  | 5 => ("TrailFinder", "shares", "[LTrailFinder$Share;", true)
  | 6 => ("TrailFinder", "waits", "[I", true)
  | _ => ("TrailFinder", "waited", "[I", true)
def tyX5 : Nat → FieldType := fun k => match k with
  | 0 => .array (.object "TrailFinder$Case")
  | 1 => .int
  | 2 => .array (.object "TrailFinder$Piece")
  | 3 => .int
  | 4 => .object "TrailFinder$Laying"
  | 5 => .array (.object "TrailFinder$Share")
  | 6 => .array .int
  | _ => .array .int
theorem nmX5 : ∀ a, a < 8 → ∀ b, b < 8 → a ≠ b → (TX5 a).2.1 ≠ (TX5 b).2.1 := by decide +kernel
theorem tyX5_ok : ∀ k, k < 8 → parseFieldDescriptor (TX5 k).2.2.1 = some (tyX5 k) := by decide +kernel
abbrev cX5_init : ByteArray := prog_1_method_1_code
def yX5_init : MethodName := ⟨RX5, "<init>", "()V"⟩
abbrev cX5_open : ByteArray := prog_1_method_2_code
def yX5_open : MethodName := ⟨RX5, "open", "()I"⟩
abbrev cX5_add : ByteArray := prog_1_method_3_code
def yX5_add : MethodName := ⟨RX5, "add", "(IIIII)I"⟩
abbrev cX5_cut : ByteArray := prog_1_method_4_code
def yX5_cut : MethodName := ⟨RX5, "cut", "(I)I"⟩
abbrev cX5_drop : ByteArray := prog_1_method_5_code
def yX5_drop : MethodName := ⟨RX5, "drop", "(IZ)I"⟩
abbrev cX5_told : ByteArray := prog_1_method_6_code
def yX5_told : MethodName := ⟨RX5, "told", "(III)I"⟩
abbrev cX5_follows : ByteArray := prog_1_method_7_code
def yX5_follows : MethodName := ⟨RX5, "follows", "(II)I"⟩
abbrev cX5_stands : ByteArray := prog_1_method_8_code
def yX5_stands : MethodName := ⟨RX5, "stands", "(II)I"⟩
abbrev cX5_deed : ByteArray := prog_1_method_9_code
def yX5_deed : MethodName := ⟨RX5, "deed", "(I)I"⟩
abbrev cX5_join : ByteArray := prog_1_method_10_code
def yX5_join : MethodName := ⟨RX5, "join", "(III)I"⟩
abbrev cX5_more : ByteArray := prog_1_method_11_code
def yX5_more : MethodName := ⟨RX5, "more", "(II)I"⟩
abbrev cX5_piece : ByteArray := prog_1_method_12_code
def yX5_piece : MethodName := ⟨RX5, "piece", "(II)I"⟩
abbrev cX5_plain : ByteArray := prog_1_method_13_code
def yX5_plain : MethodName := ⟨RX5, "plain", "(I)I"⟩
abbrev cX5_like : ByteArray := prog_1_method_14_code
def yX5_like : MethodName := ⟨RX5, "like", "(II)I"⟩
abbrev cX5_find : ByteArray := prog_1_method_15_code
def yX5_find : MethodName := ⟨RX5, "find", "()I"⟩
abbrev cX5_price : ByteArray := prog_1_method_16_code
def yX5_price : MethodName := ⟨RX5, "price", "(II)I"⟩
abbrev cX5_both : ByteArray := prog_1_method_17_code
def yX5_both : MethodName := ⟨RX5, "both", "(II)I"⟩
abbrev cX5_shortest : ByteArray := prog_1_method_18_code
def yX5_shortest : MethodName := ⟨RX5, "shortest", "(I)I"⟩
abbrev cX5_fit : ByteArray := prog_1_method_19_code
def yX5_fit : MethodName := ⟨RX5, "fit", "(II)I"⟩
abbrev cX5_count : ByteArray := prog_1_method_24_code
def yX5_count : MethodName := ⟨RX5, "count", "(I)I"⟩
abbrev cX5_isName : ByteArray := prog_1_method_25_code
def yX5_isName : MethodName := ⟨RX5, "isName", "(I)Z"⟩
abbrev cX5_isHand : ByteArray := prog_1_method_26_code
def yX5_isHand : MethodName := ⟨RX5, "isHand", "(I)Z"⟩
abbrev cX5_isTime : ByteArray := prog_1_method_27_code
def yX5_isTime : MethodName := ⟨RX5, "isTime", "(I)Z"⟩
abbrev cX5_caseAt : ByteArray := prog_1_method_28_code
def yX5_caseAt : MethodName := ⟨RX5, "caseAt", "(I)LTrailFinder$Case;"⟩
abbrev cX5_inLog : ByteArray := prog_1_method_29_code
def yX5_inLog : MethodName := ⟨RX5, "inLog", "(I)LTrailFinder$Case;"⟩
abbrev cX5_pieceAt : ByteArray := prog_1_method_30_code
def yX5_pieceAt : MethodName := ⟨RX5, "pieceAt", "(I)LTrailFinder$Piece;"⟩
abbrev cX5_pairs : ByteArray := prog_1_method_31_code
def yX5_pairs : MethodName := ⟨RX5, "pairs", "(III)I"⟩
abbrev cX5_trailsInLog : ByteArray := prog_1_method_32_code
def yX5_trailsInLog : MethodName := ⟨RX5, "trailsInLog", "()I"⟩
abbrev cX5_deedsInLog : ByteArray := prog_1_method_33_code
def yX5_deedsInLog : MethodName := ⟨RX5, "deedsInLog", "()I"⟩
abbrev cX5_namesInLog : ByteArray := prog_1_method_34_code
def yX5_namesInLog : MethodName := ⟨RX5, "namesInLog", "()I"⟩
abbrev cX5_unlikeTrails : ByteArray := prog_1_method_35_code
def yX5_unlikeTrails : MethodName := ⟨RX5, "unlikeTrails", "()I"⟩
abbrev cX5_stoodAhead : ByteArray := prog_1_method_36_code
def yX5_stoodAhead : MethodName := ⟨RX5, "stoodAhead", "(II)Z"⟩
abbrev cX5_keep : ByteArray := prog_1_method_40_code
def yX5_keep : MethodName := ⟨RX5, "keep", "(LTrailFinder$Piece;I)I"⟩
abbrev cX5_enter : ByteArray := prog_1_method_41_code
def yX5_enter : MethodName := ⟨RX5, "enter", "(LTrailFinder$Piece;[LTrailFinder$Piece;II)I"⟩
abbrev cX5_silence : ByteArray := prog_1_method_42_code
def yX5_silence : MethodName := ⟨RX5, "silence", "()LTrailFinder$Piece;"⟩
abbrev cX5_deedOf : ByteArray := prog_1_method_43_code
def yX5_deedOf : MethodName := ⟨RX5, "deedOf", "(I)LTrailFinder$Piece;"⟩
abbrev cX5_two : ByteArray := prog_1_method_44_code
def yX5_two : MethodName := ⟨RX5, "two", "(ILTrailFinder$Piece;LTrailFinder$Piece;)LTrailFinder$Piece;"⟩
abbrev cX5_order : ByteArray := prog_1_method_45_code
def yX5_order : MethodName := ⟨RX5, "order", "(LTrailFinder$Piece;LTrailFinder$Piece;I)I"⟩
abbrev cX5_plainOf : ByteArray := prog_1_method_46_code
def yX5_plainOf : MethodName := ⟨RX5, "plainOf", "(LTrailFinder$Piece;I)LTrailFinder$Piece;"⟩
abbrev cX5_takeIn : ByteArray := prog_1_method_47_code
def yX5_takeIn : MethodName := ⟨RX5, "takeIn", "(Ljava/util/ArrayList;ILTrailFinder$Piece;)V"⟩
abbrev cX5_place : ByteArray := prog_1_method_48_code
def yX5_place : MethodName := ⟨RX5, "place", "(Ljava/util/ArrayList;ILTrailFinder$Piece;)V"⟩
abbrev cX5_found : ByteArray := prog_1_method_49_code
def yX5_found : MethodName := ⟨RX5, "found", "([LTrailFinder$Share;I)LTrailFinder$Piece;"⟩
abbrev cX5_foundOfFull : ByteArray := prog_1_method_50_code
def yX5_foundOfFull : MethodName := ⟨RX5, "foundOfFull", "([LTrailFinder$Share;I)LTrailFinder$Piece;"⟩
abbrev cX5_foundOfOneName : ByteArray := prog_1_method_51_code
def yX5_foundOfOneName : MethodName := ⟨RX5, "foundOfOneName", "(LTrailFinder$Share;)LTrailFinder$Piece;"⟩
abbrev cX5_flower : ByteArray := prog_1_method_52_code
def yX5_flower : MethodName := ⟨RX5, "flower", "(I)LTrailFinder$Piece;"⟩
def RX6 : String := "TrailFinderModel"
def TX6 : u_T := fun k => match k with
  | _ => ("", "", "", false)
def tyX6 : Nat → FieldType := fun k => match k with
  | _ => .int
theorem nmX6 : ∀ a, a < 0 → ∀ b, b < 0 → a ≠ b → (TX6 a).2.1 ≠ (TX6 b).2.1 := by decide +kernel
theorem tyX6_ok : ∀ k, k < 0 → parseFieldDescriptor (TX6 k).2.2.1 = some (tyX6 k) := by decide +kernel
def RJx145de : String := "java/io/Serializable"
def TJx145de : u_T := fun k => match k with
  | _ => ("", "", "", false)
def tyJx145de : Nat → FieldType := fun k => match k with
  | _ => .int
theorem nmJx145de : ∀ a, a < 0 → ∀ b, b < 0 → a ≠ b → (TJx145de a).2.1 ≠ (TJx145de b).2.1 := by decide +kernel
theorem tyJx145de_ok : ∀ k, k < 0 → parseFieldDescriptor (TJx145de k).2.2.1 = some (tyJx145de k) := by decide +kernel
def RJx8e188 : String := "java/lang/Cloneable"
def TJx8e188 : u_T := fun k => match k with
  | _ => ("", "", "", false)
def tyJx8e188 : Nat → FieldType := fun k => match k with
  | _ => .int
theorem nmJx8e188 : ∀ a, a < 0 → ∀ b, b < 0 → a ≠ b → (TJx8e188 a).2.1 ≠ (TJx8e188 b).2.1 := by decide +kernel
theorem tyJx8e188_ok : ∀ k, k < 0 → parseFieldDescriptor (TJx8e188 k).2.2.1 = some (tyJx8e188 k) := by decide +kernel
def RJ6 : String := "java/lang/Integer"
def TJ6 : u_T := fun k => match k with
  | _ => ("", "", "", false)
def tyJ6 : Nat → FieldType := fun k => match k with
  | _ => .int
theorem nmJ6 : ∀ a, a < 0 → ∀ b, b < 0 → a ≠ b → (TJ6 a).2.1 ≠ (TJ6 b).2.1 := by decide +kernel
theorem tyJ6_ok : ∀ k, k < 0 → parseFieldDescriptor (TJ6 k).2.2.1 = some (tyJ6 k) := by decide +kernel
abbrev cJ6_compare_7cf53 : ByteArray := prog_11_method_40_code
def yJ6_compare_7cf53 : MethodName := ⟨RJ6, "compare", "(II)I"⟩
abbrev cJ6_bitCount_0f7a4 : ByteArray := prog_11_method_49_code
def yJ6_bitCount_0f7a4 : MethodName := ⟨RJ6, "bitCount", "(I)I"⟩
def RJxab1ab : String := "java/lang/Iterable"
def TJxab1ab : u_T := fun k => match k with
  | _ => ("", "", "", false)
def tyJxab1ab : Nat → FieldType := fun k => match k with
  | _ => .int
theorem nmJxab1ab : ∀ a, a < 0 → ∀ b, b < 0 → a ≠ b → (TJxab1ab a).2.1 ≠ (TJxab1ab b).2.1 := by decide +kernel
theorem tyJxab1ab_ok : ∀ k, k < 0 → parseFieldDescriptor (TJxab1ab k).2.2.1 = some (tyJxab1ab k) := by decide +kernel
def RJ9 : String := "java/lang/Math"
def TJ9 : u_T := fun k => match k with
  | _ => ("", "", "", false)
def tyJ9 : Nat → FieldType := fun k => match k with
  | _ => .int
theorem nmJ9 : ∀ a, a < 0 → ∀ b, b < 0 → a ≠ b → (TJ9 a).2.1 ≠ (TJ9 b).2.1 := by decide +kernel
theorem tyJ9_ok : ∀ k, k < 0 → parseFieldDescriptor (TJ9 k).2.2.1 = some (tyJ9 k) := by decide +kernel
abbrev cJ9_max_7cf53 : ByteArray := prog_13_method_65_code
def yJ9_max_7cf53 : MethodName := ⟨RJ9, "max", "(II)I"⟩
abbrev cJ9_min_7cf53 : ByteArray := prog_13_method_69_code
def yJ9_min_7cf53 : MethodName := ⟨RJ9, "min", "(II)I"⟩
def RJ10 : String := "java/lang/System"
def TJ10 : u_T := fun k => match k with
  | _ => ("", "", "", false)
def tyJ10 : Nat → FieldType := fun k => match k with
  | _ => .int
theorem nmJ10 : ∀ a, a < 0 → ∀ b, b < 0 → a ≠ b → (TJ10 a).2.1 ≠ (TJ10 b).2.1 := by decide +kernel
theorem tyJ10_ok : ∀ k, k < 0 → parseFieldDescriptor (TJ10 k).2.2.1 = some (tyJ10 k) := by decide +kernel
def RJxa1e45 : String := "java/util/AbstractCollection"
def TJxa1e45 : u_T := fun k => match k with
  | _ => ("", "", "", false)
def tyJxa1e45 : Nat → FieldType := fun k => match k with
  | _ => .int
theorem nmJxa1e45 : ∀ a, a < 0 → ∀ b, b < 0 → a ≠ b → (TJxa1e45 a).2.1 ≠ (TJxa1e45 b).2.1 := by decide +kernel
theorem tyJxa1e45_ok : ∀ k, k < 0 → parseFieldDescriptor (TJxa1e45 k).2.2.1 = some (tyJxa1e45 k) := by decide +kernel
abbrev cJxa1e45_init_da8c8 : ByteArray := prog_15_method_1_code
def yJxa1e45_init_da8c8 : MethodName := ⟨RJxa1e45, "<init>", "()V"⟩
def RJxc12de : String := "java/util/AbstractList"
def TJxc12de : u_T := fun k => match k with
  | _ => ("", "", "", false)
def tyJxc12de : Nat → FieldType := fun k => match k with
  | _ => .int
theorem nmJxc12de : ∀ a, a < 0 → ∀ b, b < 0 → a ≠ b → (TJxc12de a).2.1 ≠ (TJxc12de b).2.1 := by decide +kernel
theorem tyJxc12de_ok : ∀ k, k < 0 → parseFieldDescriptor (TJxc12de k).2.2.1 = some (tyJxc12de k) := by decide +kernel
abbrev cJxc12de_init_da8c8 : ByteArray := prog_16_method_1_code
def yJxc12de_init_da8c8 : MethodName := ⟨RJxc12de, "<init>", "()V"⟩
def RJx4a65c : String := "java/util/ArrayList"
def TJx4a65c : u_T := fun k => match k with
  | 0 => ("java/util/AbstractList", "modCount", "I", false)
  | 1 => ("java/util/ArrayList", "elementData", "[Ljava/lang/Object;", false)
  | _ => ("java/util/ArrayList", "size", "I", false)
def tyJx4a65c : Nat → FieldType := fun k => match k with
  | 0 => .int
  | 1 => .array (.object "java/lang/Object")
  | _ => .int
theorem nmJx4a65c : ∀ a, a < 3 → ∀ b, b < 3 → a ≠ b → (TJx4a65c a).2.1 ≠ (TJx4a65c b).2.1 := by decide +kernel
theorem tyJx4a65c_ok : ∀ k, k < 3 → parseFieldDescriptor (TJx4a65c k).2.2.1 = some (tyJx4a65c k) := by decide +kernel
abbrev cJx4a65c_init_da8c8 : ByteArray := prog_17_method_2_code
def yJx4a65c_init_da8c8 : MethodName := ⟨RJx4a65c, "<init>", "()V"⟩
abbrev cJx4a65c_grow_92f84 : ByteArray := prog_17_method_6_code
def yJx4a65c_grow_92f84 : MethodName := ⟨RJx4a65c, "grow", "(I)[Ljava/lang/Object;"⟩
abbrev cJx4a65c_grow_d5877 : ByteArray := prog_17_method_7_code
def yJx4a65c_grow_d5877 : MethodName := ⟨RJx4a65c, "grow", "()[Ljava/lang/Object;"⟩
abbrev cJx4a65c_size_8abf5 : ByteArray := prog_17_method_8_code
def yJx4a65c_size_8abf5 : MethodName := ⟨RJx4a65c, "size", "()I"⟩
abbrev cJx4a65c_elementData_915e3 : ByteArray := prog_17_method_18_code
def yJx4a65c_elementData_915e3 : MethodName := ⟨RJx4a65c, "elementData", "(I)Ljava/lang/Object;"⟩
abbrev cJx4a65c_get_915e3 : ByteArray := prog_17_method_20_code
def yJx4a65c_get_915e3 : MethodName := ⟨RJx4a65c, "get", "(I)Ljava/lang/Object;"⟩
abbrev cJx4a65c_add_7a177 : ByteArray := prog_17_method_26_code
def yJx4a65c_add_7a177 : MethodName := ⟨RJx4a65c, "add", "(ILjava/lang/Object;)V"⟩
abbrev cJx4a65c_rangeCheckForAdd_d00df : ByteArray := prog_17_method_45_code
def yJx4a65c_rangeCheckForAdd_d00df : MethodName := ⟨RJx4a65c, "rangeCheckForAdd", "(I)V"⟩
def RJ7 : String := "java/util/Arrays"
def TJ7 : u_T := fun k => match k with
  | _ => ("", "", "", false)
def tyJ7 : Nat → FieldType := fun k => match k with
  | _ => .int
theorem nmJ7 : ∀ a, a < 0 → ∀ b, b < 0 → a ≠ b → (TJ7 a).2.1 ≠ (TJ7 b).2.1 := by decide +kernel
theorem tyJ7_ok : ∀ k, k < 0 → parseFieldDescriptor (TJ7 k).2.2.1 = some (tyJ7 k) := by decide +kernel
abbrev cJ7_fill_53178 : ByteArray := prog_18_method_103_code
def yJ7_fill_53178 : MethodName := ⟨RJ7, "fill", "([II)V"⟩
abbrev cJ7_copyOf_1904c : ByteArray := prog_18_method_119_code
def yJ7_copyOf_1904c : MethodName := ⟨RJ7, "copyOf", "([Ljava/lang/Object;I)[Ljava/lang/Object;"⟩
abbrev cJ7_copyOf_6403c : ByteArray := prog_18_method_120_code
def yJ7_copyOf_6403c : MethodName := ⟨RJ7, "copyOf", "([Ljava/lang/Object;ILjava/lang/Class;)[Ljava/lang/Object;"⟩
def RJx5ef63 : String := "java/util/Collection"
def TJx5ef63 : u_T := fun k => match k with
  | _ => ("", "", "", false)
def tyJx5ef63 : Nat → FieldType := fun k => match k with
  | _ => .int
theorem nmJx5ef63 : ∀ a, a < 0 → ∀ b, b < 0 → a ≠ b → (TJx5ef63 a).2.1 ≠ (TJx5ef63 b).2.1 := by decide +kernel
theorem tyJx5ef63_ok : ∀ k, k < 0 → parseFieldDescriptor (TJx5ef63 k).2.2.1 = some (tyJx5ef63 k) := by decide +kernel
def RJxbd725 : String := "java/util/List"
def TJxbd725 : u_T := fun k => match k with
  | _ => ("", "", "", false)
def tyJxbd725 : Nat → FieldType := fun k => match k with
  | _ => .int
theorem nmJxbd725 : ∀ a, a < 0 → ∀ b, b < 0 → a ≠ b → (TJxbd725 a).2.1 ≠ (TJxbd725 b).2.1 := by decide +kernel
theorem tyJxbd725_ok : ∀ k, k < 0 → parseFieldDescriptor (TJxbd725 k).2.2.1 = some (tyJxbd725 k) := by decide +kernel
def RJ15 : String := "java/util/Objects"
def TJ15 : u_T := fun k => match k with
  | _ => ("", "", "", false)
def tyJ15 : Nat → FieldType := fun k => match k with
  | _ => .int
theorem nmJ15 : ∀ a, a < 0 → ∀ b, b < 0 → a ≠ b → (TJ15 a).2.1 ≠ (TJ15 b).2.1 := by decide +kernel
theorem tyJ15_ok : ∀ k, k < 0 → parseFieldDescriptor (TJ15 k).2.2.1 = some (tyJ15 k) := by decide +kernel
abbrev cJ15_checkIndex_7cf53 : ByteArray := prog_21_method_17_code
def yJ15_checkIndex_7cf53 : MethodName := ⟨RJ15, "checkIndex", "(II)I"⟩
def RJxf0a74 : String := "java/util/RandomAccess"
def TJxf0a74 : u_T := fun k => match k with
  | _ => ("", "", "", false)
def tyJxf0a74 : Nat → FieldType := fun k => match k with
  | _ => .int
theorem nmJxf0a74 : ∀ a, a < 0 → ∀ b, b < 0 → a ≠ b → (TJxf0a74 a).2.1 ≠ (TJxf0a74 b).2.1 := by decide +kernel
theorem tyJxf0a74_ok : ∀ k, k < 0 → parseFieldDescriptor (TJxf0a74 k).2.2.1 = some (tyJxf0a74 k) := by decide +kernel
def RJxa66e6 : String := "java/util/SequencedCollection"
def TJxa66e6 : u_T := fun k => match k with
  | _ => ("", "", "", false)
def tyJxa66e6 : Nat → FieldType := fun k => match k with
  | _ => .int
theorem nmJxa66e6 : ∀ a, a < 0 → ∀ b, b < 0 → a ≠ b → (TJxa66e6 a).2.1 ≠ (TJxa66e6 b).2.1 := by decide +kernel
theorem tyJxa66e6_ok : ∀ k, k < 0 → parseFieldDescriptor (TJxa66e6 k).2.2.1 = some (tyJxa66e6 k) := by decide +kernel
def RJ8 : String := "jdk/internal/util/ArraysSupport"
def TJ8 : u_T := fun k => match k with
  | _ => ("", "", "", false)
def tyJ8 : Nat → FieldType := fun k => match k with
  | _ => .int
theorem nmJ8 : ∀ a, a < 0 → ∀ b, b < 0 → a ≠ b → (TJ8 a).2.1 ≠ (TJ8 b).2.1 := by decide +kernel
theorem tyJ8_ok : ∀ k, k < 0 → parseFieldDescriptor (TJ8 k).2.2.1 = some (tyJ8 k) := by decide +kernel
abbrev cJ8_newLength_cabcc : ByteArray := prog_24_method_27_code
def yJ8_newLength_cabcc : MethodName := ⟨RJ8, "newLength", "(III)I"⟩
abbrev cJ8_hugeLength_7cf53 : ByteArray := prog_24_method_28_code
def yJ8_hugeLength_7cf53 : MethodName := ⟨RJ8, "hugeLength", "(II)I"⟩
def RJ3 : String := "jdk/internal/util/Preconditions"
def TJ3 : u_T := fun k => match k with
  | _ => ("", "", "", false)
def tyJ3 : Nat → FieldType := fun k => match k with
  | _ => .int
theorem nmJ3 : ∀ a, a < 0 → ∀ b, b < 0 → a ≠ b → (TJ3 a).2.1 ≠ (TJ3 b).2.1 := by decide +kernel
theorem tyJ3_ok : ∀ k, k < 0 → parseFieldDescriptor (TJ3 k).2.2.1 = some (tyJ3 k) := by decide +kernel
abbrev cJ3_checkIndex_8e157 : ByteArray := prog_25_method_11_code
def yJ3_checkIndex_8e157 : MethodName := ⟨RJ3, "checkIndex", "(IILjava/util/function/BiFunction;)I"⟩
def RL : String := "TrailFinderLaw"
abbrev cL_cell : ByteArray := method_2_code
def yL_cell : MethodName := ⟨RL, "cell", "([II)I"⟩
abbrev cL_some : ByteArray := method_3_code
def yL_some : MethodName := ⟨RL, "some", "(II)I"⟩
abbrev cL_act : ByteArray := method_4_code
def yL_act : MethodName := ⟨RL, "act", "(LTrailFinder;I)I"⟩
abbrev cL_asked : ByteArray := method_5_code
def yL_asked : MethodName := ⟨RL, "asked", "(LTrailFinder;I)Z"⟩
abbrev cL_law : ByteArray := code
def yL_law : MethodName := ⟨RL, "law", "([I)Z"⟩
abbrev vwCl : List vw_C := [(RJx4a65c, TJx4a65c, 3), (RX0, TX0, 3), (RX1, TX1, 7), (RX2, TX2, 7), (RX3, TX3, 11), (RX5, TX5, 8), (RX5, TX5, 8)]
def zf (ci : Nat) : List Bool := match ci with
  | 0 => [false, true, false]
  | 1 => [true, false, false]
  | 2 => [true, false, false, true, true, false, false]
  | 3 => [false, false, true, false, false, false, true]
  | 4 => [true, false, false, false, false, true, true, true, true, true, false]
  | 5 => [true, false, true, false, true, true, true, true]
  | 6 => [true, false, true, false, true, true, true, true]
  | _ => []
