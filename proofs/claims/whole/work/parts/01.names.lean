-- ===== PART A: goes FIRST, ahead of the names: the tables' words, and 'selects' of the private methods out of them =====
/-- a private method of a class that the tables say can be made, by its rows of tables_1 -/
def lw_okq (q : MethodName × Nat) : Prop := (q.1.cls ≠ "java/lang/invoke/MethodHandle" ∧ q.1.cls ≠ "java/lang/invoke/VarHandle") ∧ Cond.instantiable q.1.cls q.2 ∈ tables_1 ∧ Cond.privateMethod q.1 ∈ tables_1 ∧ Cond.instanceMethod q.1 ∈ tables_1
theorem lw_p0 : lw_okq (⟨"DrawBureau$Couples", "isSingle", "(I)Z"⟩, 4) := ⟨⟨by decide +kernel, by decide +kernel⟩, List.mem_of_getElem? (i := 26) (by decide +kernel), List.mem_of_getElem? (i := 180) (by decide +kernel), List.mem_of_getElem? (i := 181) (by decide +kernel)⟩
theorem lw_p1 : lw_okq (⟨"DrawBureau$FullTable", "lesserSlot", "(II)I"⟩, 5) := ⟨⟨by decide +kernel, by decide +kernel⟩, List.mem_of_getElem? (i := 46) (by decide +kernel), List.mem_of_getElem? (i := 204) (by decide +kernel), List.mem_of_getElem? (i := 205) (by decide +kernel)⟩
theorem lw_p2 : lw_okq (⟨"DrawBureau$FullTable", "rivalSlot", "(II)I"⟩, 5) := ⟨⟨by decide +kernel, by decide +kernel⟩, List.mem_of_getElem? (i := 46) (by decide +kernel), List.mem_of_getElem? (i := 208) (by decide +kernel), List.mem_of_getElem? (i := 209) (by decide +kernel)⟩
theorem lw_p3 : lw_okq (⟨"DrawBureau$FullTable", "wrapped", "(I)I"⟩, 5) := ⟨⟨by decide +kernel, by decide +kernel⟩, List.mem_of_getElem? (i := 46) (by decide +kernel), List.mem_of_getElem? (i := 212) (by decide +kernel), List.mem_of_getElem? (i := 213) (by decide +kernel)⟩
theorem lw_p4 : lw_okq (⟨"DrawBureau$FullTable", "isHome", "(II)Z"⟩, 5) := ⟨⟨by decide +kernel, by decide +kernel⟩, List.mem_of_getElem? (i := 46) (by decide +kernel), List.mem_of_getElem? (i := 216) (by decide +kernel), List.mem_of_getElem? (i := 217) (by decide +kernel)⟩
theorem lw_p5 : lw_okq (⟨"DrawBureau$FullTable", "isInTable", "(LDrawBureau$Couples;I)Z"⟩, 5) := ⟨⟨by decide +kernel, by decide +kernel⟩, List.mem_of_getElem? (i := 46) (by decide +kernel), List.mem_of_getElem? (i := 242) (by decide +kernel), List.mem_of_getElem? (i := 243) (by decide +kernel)⟩
theorem lw_p6 : lw_okq (⟨"DrawBureau$FullTable", "clashesOf", "(II)I"⟩, 5) := ⟨⟨by decide +kernel, by decide +kernel⟩, List.mem_of_getElem? (i := 46) (by decide +kernel), List.mem_of_getElem? (i := 254) (by decide +kernel), List.mem_of_getElem? (i := 255) (by decide +kernel)⟩
theorem lw_p7 : lw_okq (⟨"DrawBureau$FullTable", "leastFrom", "(III)I"⟩, 5) := ⟨⟨by decide +kernel, by decide +kernel⟩, List.mem_of_getElem? (i := 46) (by decide +kernel), List.mem_of_getElem? (i := 262) (by decide +kernel), List.mem_of_getElem? (i := 263) (by decide +kernel)⟩
theorem lw_p8 : lw_okq (⟨"DrawBureau$PairedRounds", "reckon", "()V"⟩, 12) := ⟨⟨by decide +kernel, by decide +kernel⟩, List.mem_of_getElem? (i := 68) (by decide +kernel), List.mem_of_getElem? (i := 277) (by decide +kernel), List.mem_of_getElem? (i := 278) (by decide +kernel)⟩
theorem lw_p9 : lw_okq (⟨"DrawBureau$PairedRounds", "cellOf", "(II)I"⟩, 12) := ⟨⟨by decide +kernel, by decide +kernel⟩, List.mem_of_getElem? (i := 68) (by decide +kernel), List.mem_of_getElem? (i := 281) (by decide +kernel), List.mem_of_getElem? (i := 282) (by decide +kernel)⟩
theorem lw_p10 : lw_okq (⟨"DrawBureau$PairedRounds", "isPlayer", "(I)Z"⟩, 12) := ⟨⟨by decide +kernel, by decide +kernel⟩, List.mem_of_getElem? (i := 68) (by decide +kernel), List.mem_of_getElem? (i := 308) (by decide +kernel), List.mem_of_getElem? (i := 309) (by decide +kernel)⟩
theorem lw_p11 : lw_okq (⟨"DrawBureau$PairedRounds", "isRound", "(I)Z"⟩, 12) := ⟨⟨by decide +kernel, by decide +kernel⟩, List.mem_of_getElem? (i := 68) (by decide +kernel), List.mem_of_getElem? (i := 312) (by decide +kernel), List.mem_of_getElem? (i := 313) (by decide +kernel)⟩
theorem lw_p12 : lw_okq (⟨"DrawBureau$PairedRounds", "isGone", "(I)Z"⟩, 12) := ⟨⟨by decide +kernel, by decide +kernel⟩, List.mem_of_getElem? (i := 68) (by decide +kernel), List.mem_of_getElem? (i := 332) (by decide +kernel), List.mem_of_getElem? (i := 333) (by decide +kernel)⟩
theorem lw_p13 : lw_okq (⟨"DrawBureau$PairedRounds", "rankOf", "(I)J"⟩, 12) := ⟨⟨by decide +kernel, by decide +kernel⟩, List.mem_of_getElem? (i := 68) (by decide +kernel), List.mem_of_getElem? (i := 344) (by decide +kernel), List.mem_of_getElem? (i := 345) (by decide +kernel)⟩
theorem lw_p14 : lw_okq (⟨"DrawBureau$PairedRounds", "directOf", "(I)I"⟩, 12) := ⟨⟨by decide +kernel, by decide +kernel⟩, List.mem_of_getElem? (i := 68) (by decide +kernel), List.mem_of_getElem? (i := 348) (by decide +kernel), List.mem_of_getElem? (i := 349) (by decide +kernel)⟩
theorem lw_p15 : lw_okq (⟨"DrawBureau$PairedRounds", "bookedRival", "(II)I"⟩, 12) := ⟨⟨by decide +kernel, by decide +kernel⟩, List.mem_of_getElem? (i := 68) (by decide +kernel), List.mem_of_getElem? (i := 352) (by decide +kernel), List.mem_of_getElem? (i := 353) (by decide +kernel)⟩
def lw_privs_1 : List (MethodName × Nat) := [(⟨"DrawBureau$Couples", "isSingle", "(I)Z"⟩, 4), (⟨"DrawBureau$FullTable", "lesserSlot", "(II)I"⟩, 5), (⟨"DrawBureau$FullTable", "rivalSlot", "(II)I"⟩, 5), (⟨"DrawBureau$FullTable", "wrapped", "(I)I"⟩, 5), (⟨"DrawBureau$FullTable", "isHome", "(II)Z"⟩, 5), (⟨"DrawBureau$FullTable", "isInTable", "(LDrawBureau$Couples;I)Z"⟩, 5), (⟨"DrawBureau$FullTable", "clashesOf", "(II)I"⟩, 5), (⟨"DrawBureau$FullTable", "leastFrom", "(III)I"⟩, 5), (⟨"DrawBureau$PairedRounds", "reckon", "()V"⟩, 12), (⟨"DrawBureau$PairedRounds", "cellOf", "(II)I"⟩, 12), (⟨"DrawBureau$PairedRounds", "isPlayer", "(I)Z"⟩, 12), (⟨"DrawBureau$PairedRounds", "isRound", "(I)Z"⟩, 12), (⟨"DrawBureau$PairedRounds", "isGone", "(I)Z"⟩, 12), (⟨"DrawBureau$PairedRounds", "rankOf", "(I)J"⟩, 12), (⟨"DrawBureau$PairedRounds", "directOf", "(I)I"⟩, 12), (⟨"DrawBureau$PairedRounds", "bookedRival", "(II)I"⟩, 12)]
theorem lw_r1 : ∀ q ∈ lw_privs_1, lw_okq q := List.forall_mem_cons.mpr ⟨lw_p0, List.forall_mem_cons.mpr ⟨lw_p1, List.forall_mem_cons.mpr ⟨lw_p2, List.forall_mem_cons.mpr ⟨lw_p3, List.forall_mem_cons.mpr ⟨lw_p4, List.forall_mem_cons.mpr ⟨lw_p5, List.forall_mem_cons.mpr ⟨lw_p6, List.forall_mem_cons.mpr ⟨lw_p7, List.forall_mem_cons.mpr ⟨lw_p8, List.forall_mem_cons.mpr ⟨lw_p9, List.forall_mem_cons.mpr ⟨lw_p10, List.forall_mem_cons.mpr ⟨lw_p11, List.forall_mem_cons.mpr ⟨lw_p12, List.forall_mem_cons.mpr ⟨lw_p13, List.forall_mem_cons.mpr ⟨lw_p14, List.forall_mem_cons.mpr ⟨lw_p15, fun _ h => absurd h List.not_mem_nil⟩⟩⟩⟩⟩⟩⟩⟩⟩⟩⟩⟩⟩⟩⟩⟩
theorem lw_p16 : lw_okq (⟨"DrawBureau$PairedRounds", "sumOf", "(I)I"⟩, 12) := ⟨⟨by decide +kernel, by decide +kernel⟩, List.mem_of_getElem? (i := 68) (by decide +kernel), List.mem_of_getElem? (i := 356) (by decide +kernel), List.mem_of_getElem? (i := 357) (by decide +kernel)⟩
theorem lw_p17 : lw_okq (⟨"DrawBureau$PairedRounds", "cutOf", "(I)I"⟩, 12) := ⟨⟨by decide +kernel, by decide +kernel⟩, List.mem_of_getElem? (i := 68) (by decide +kernel), List.mem_of_getElem? (i := 360) (by decide +kernel), List.mem_of_getElem? (i := 361) (by decide +kernel)⟩
theorem lw_p18 : lw_okq (⟨"DrawBureau$PairedRounds", "winsOf", "(I)I"⟩, 12) := ⟨⟨by decide +kernel, by decide +kernel⟩, List.mem_of_getElem? (i := 68) (by decide +kernel), List.mem_of_getElem? (i := 365) (by decide +kernel), List.mem_of_getElem? (i := 366) (by decide +kernel)⟩
theorem lw_p19 : lw_okq (⟨"DrawBureau$PairedRounds", "playersBefore", "(I)I"⟩, 12) := ⟨⟨by decide +kernel, by decide +kernel⟩, List.mem_of_getElem? (i := 68) (by decide +kernel), List.mem_of_getElem? (i := 369) (by decide +kernel), List.mem_of_getElem? (i := 370) (by decide +kernel)⟩
theorem lw_p20 : lw_okq (⟨"DrawBureau$Knockout", "isGame", "(II)Z"⟩, 4) := ⟨⟨by decide +kernel, by decide +kernel⟩, List.mem_of_getElem? (i := 137) (by decide +kernel), List.mem_of_getElem? (i := 389) (by decide +kernel), List.mem_of_getElem? (i := 390) (by decide +kernel)⟩
theorem lw_p21 : lw_okq (⟨"DrawBureau$Knockout", "gamesOf", "(I)I"⟩, 4) := ⟨⟨by decide +kernel, by decide +kernel⟩, List.mem_of_getElem? (i := 137) (by decide +kernel), List.mem_of_getElem? (i := 393) (by decide +kernel), List.mem_of_getElem? (i := 394) (by decide +kernel)⟩
theorem lw_p22 : lw_okq (⟨"DrawBureau$Knockout", "cellOf", "(II)I"⟩, 4) := ⟨⟨by decide +kernel, by decide +kernel⟩, List.mem_of_getElem? (i := 137) (by decide +kernel), List.mem_of_getElem? (i := 397) (by decide +kernel), List.mem_of_getElem? (i := 398) (by decide +kernel)⟩
theorem lw_p23 : lw_okq (⟨"java/lang/Throwable", "fillInStackTrace", "(I)Ljava/lang/Throwable;"⟩, 6) := ⟨⟨by decide +kernel, by decide +kernel⟩, List.mem_of_getElem? (i := 457) (by decide +kernel), List.mem_of_getElem? (i := 455) (by decide +kernel), List.mem_of_getElem? (i := 456) (by decide +kernel)⟩
theorem lw_p24 : lw_okq (⟨"DrawBureau$FullTable", "giveNames", "(LDrawBureau$Couples;)V"⟩, 5) := ⟨⟨by decide +kernel, by decide +kernel⟩, List.mem_of_getElem? (i := 46) (by decide +kernel), List.mem_of_getElem? (i := 512) (by decide +kernel), List.mem_of_getElem? (i := 513) (by decide +kernel)⟩
theorem lw_p25 : lw_okq (⟨"DrawBureau$FullTable", "seat", "(II)V"⟩, 5) := ⟨⟨by decide +kernel, by decide +kernel⟩, List.mem_of_getElem? (i := 46) (by decide +kernel), List.mem_of_getElem? (i := 516) (by decide +kernel), List.mem_of_getElem? (i := 517) (by decide +kernel)⟩
theorem lw_p26 : lw_okq (⟨"DrawBureau$FullTable", "homeRounds", "(I)I"⟩, 5) := ⟨⟨by decide +kernel, by decide +kernel⟩, List.mem_of_getElem? (i := 46) (by decide +kernel), List.mem_of_getElem? (i := 520) (by decide +kernel), List.mem_of_getElem? (i := 521) (by decide +kernel)⟩
theorem lw_p27 : lw_okq (⟨"DrawBureau$PairedRounds", "priceOf", "(II)J"⟩, 12) := ⟨⟨by decide +kernel, by decide +kernel⟩, List.mem_of_getElem? (i := 68) (by decide +kernel), List.mem_of_getElem? (i := 564) (by decide +kernel), List.mem_of_getElem? (i := 565) (by decide +kernel)⟩
theorem lw_p28 : lw_okq (⟨"DrawBureau$Matching", "leastOf", "(II)J"⟩, 6) := ⟨⟨by decide +kernel, by decide +kernel⟩, List.mem_of_getElem? (i := 74) (by decide +kernel), List.mem_of_getElem? (i := 584) (by decide +kernel), List.mem_of_getElem? (i := 585) (by decide +kernel)⟩
theorem lw_p29 : lw_okq (⟨"DrawBureau$Matching", "costWith", "(IIII)J"⟩, 6) := ⟨⟨by decide +kernel, by decide +kernel⟩, List.mem_of_getElem? (i := 74) (by decide +kernel), List.mem_of_getElem? (i := 593) (by decide +kernel), List.mem_of_getElem? (i := 594) (by decide +kernel)⟩
theorem lw_p30 : lw_okq (⟨"DrawBureau$Matching", "chooseMates", "(IJ)V"⟩, 6) := ⟨⟨by decide +kernel, by decide +kernel⟩, List.mem_of_getElem? (i := 74) (by decide +kernel), List.mem_of_getElem? (i := 597) (by decide +kernel), List.mem_of_getElem? (i := 598) (by decide +kernel)⟩
theorem lw_p31 : lw_okq (⟨"DrawBureau$PairedRounds", "addToRound", "(II)V"⟩, 12) := ⟨⟨by decide +kernel, by decide +kernel⟩, List.mem_of_getElem? (i := 68) (by decide +kernel), List.mem_of_getElem? (i := 626) (by decide +kernel), List.mem_of_getElem? (i := 627) (by decide +kernel)⟩
def lw_privs_2 : List (MethodName × Nat) := [(⟨"DrawBureau$PairedRounds", "sumOf", "(I)I"⟩, 12), (⟨"DrawBureau$PairedRounds", "cutOf", "(I)I"⟩, 12), (⟨"DrawBureau$PairedRounds", "winsOf", "(I)I"⟩, 12), (⟨"DrawBureau$PairedRounds", "playersBefore", "(I)I"⟩, 12), (⟨"DrawBureau$Knockout", "isGame", "(II)Z"⟩, 4), (⟨"DrawBureau$Knockout", "gamesOf", "(I)I"⟩, 4), (⟨"DrawBureau$Knockout", "cellOf", "(II)I"⟩, 4), (⟨"java/lang/Throwable", "fillInStackTrace", "(I)Ljava/lang/Throwable;"⟩, 6), (⟨"DrawBureau$FullTable", "giveNames", "(LDrawBureau$Couples;)V"⟩, 5), (⟨"DrawBureau$FullTable", "seat", "(II)V"⟩, 5), (⟨"DrawBureau$FullTable", "homeRounds", "(I)I"⟩, 5), (⟨"DrawBureau$PairedRounds", "priceOf", "(II)J"⟩, 12), (⟨"DrawBureau$Matching", "leastOf", "(II)J"⟩, 6), (⟨"DrawBureau$Matching", "costWith", "(IIII)J"⟩, 6), (⟨"DrawBureau$Matching", "chooseMates", "(IJ)V"⟩, 6), (⟨"DrawBureau$PairedRounds", "addToRound", "(II)V"⟩, 12)]
theorem lw_r2 : ∀ q ∈ lw_privs_2, lw_okq q := List.forall_mem_cons.mpr ⟨lw_p16, List.forall_mem_cons.mpr ⟨lw_p17, List.forall_mem_cons.mpr ⟨lw_p18, List.forall_mem_cons.mpr ⟨lw_p19, List.forall_mem_cons.mpr ⟨lw_p20, List.forall_mem_cons.mpr ⟨lw_p21, List.forall_mem_cons.mpr ⟨lw_p22, List.forall_mem_cons.mpr ⟨lw_p23, List.forall_mem_cons.mpr ⟨lw_p24, List.forall_mem_cons.mpr ⟨lw_p25, List.forall_mem_cons.mpr ⟨lw_p26, List.forall_mem_cons.mpr ⟨lw_p27, List.forall_mem_cons.mpr ⟨lw_p28, List.forall_mem_cons.mpr ⟨lw_p29, List.forall_mem_cons.mpr ⟨lw_p30, List.forall_mem_cons.mpr ⟨lw_p31, fun _ h => absurd h List.not_mem_nil⟩⟩⟩⟩⟩⟩⟩⟩⟩⟩⟩⟩⟩⟩⟩⟩
theorem lw_p32 : lw_okq (⟨"DrawBureau$PairedRounds", "isWhite", "(II)Z"⟩, 12) := ⟨⟨by decide +kernel, by decide +kernel⟩, List.mem_of_getElem? (i := 68) (by decide +kernel), List.mem_of_getElem? (i := 630) (by decide +kernel), List.mem_of_getElem? (i := 631) (by decide +kernel)⟩
theorem lw_p33 : lw_okq (⟨"DrawBureau$PairedRounds", "lesserPlayer", "(II)I"⟩, 12) := ⟨⟨by decide +kernel, by decide +kernel⟩, List.mem_of_getElem? (i := 68) (by decide +kernel), List.mem_of_getElem? (i := 650) (by decide +kernel), List.mem_of_getElem? (i := 651) (by decide +kernel)⟩
theorem lw_p34 : lw_okq (⟨"DrawBureau$Knockout", "spreadPlaces", "(I)V"⟩, 4) := ⟨⟨by decide +kernel, by decide +kernel⟩, List.mem_of_getElem? (i := 137) (by decide +kernel), List.mem_of_getElem? (i := 669) (by decide +kernel), List.mem_of_getElem? (i := 670) (by decide +kernel)⟩
theorem lw_p35 : lw_okq (⟨"DrawBureauModel", "slotOfGame", "(II)I"⟩, 27) := ⟨⟨by decide +kernel, by decide +kernel⟩, List.mem_of_getElem? (i := 673) (by decide +kernel), List.mem_of_getElem? (i := 789) (by decide +kernel), List.mem_of_getElem? (i := 790) (by decide +kernel)⟩
theorem lw_p36 : lw_okq (⟨"DrawBureauModel", "against", "(II)I"⟩, 27) := ⟨⟨by decide +kernel, by decide +kernel⟩, List.mem_of_getElem? (i := 673) (by decide +kernel), List.mem_of_getElem? (i := 793) (by decide +kernel), List.mem_of_getElem? (i := 794) (by decide +kernel)⟩
theorem lw_p37 : lw_okq (⟨"DrawBureauModel", "rest", "(I)I"⟩, 27) := ⟨⟨by decide +kernel, by decide +kernel⟩, List.mem_of_getElem? (i := 673) (by decide +kernel), List.mem_of_getElem? (i := 797) (by decide +kernel), List.mem_of_getElem? (i := 798) (by decide +kernel)⟩
theorem lw_p38 : lw_okq (⟨"DrawBureauModel", "isHome", "(II)Z"⟩, 27) := ⟨⟨by decide +kernel, by decide +kernel⟩, List.mem_of_getElem? (i := 673) (by decide +kernel), List.mem_of_getElem? (i := 805) (by decide +kernel), List.mem_of_getElem? (i := 806) (by decide +kernel)⟩
theorem lw_p39 : lw_okq (⟨"DrawBureauModel", "clashes", "([I)I"⟩, 27) := ⟨⟨by decide +kernel, by decide +kernel⟩, List.mem_of_getElem? (i := 673) (by decide +kernel), List.mem_of_getElem? (i := 813) (by decide +kernel), List.mem_of_getElem? (i := 814) (by decide +kernel)⟩
theorem lw_p40 : lw_okq (⟨"DrawBureauModel", "together", "(II)I"⟩, 27) := ⟨⟨by decide +kernel, by decide +kernel⟩, List.mem_of_getElem? (i := 673) (by decide +kernel), List.mem_of_getElem? (i := 817) (by decide +kernel), List.mem_of_getElem? (i := 818) (by decide +kernel)⟩
theorem lw_p41 : lw_okq (⟨"DrawBureauModel", "leastClashes", "()I"⟩, 27) := ⟨⟨by decide +kernel, by decide +kernel⟩, List.mem_of_getElem? (i := 673) (by decide +kernel), List.mem_of_getElem? (i := 821) (by decide +kernel), List.mem_of_getElem? (i := 822) (by decide +kernel)⟩
theorem lw_p42 : lw_okq (⟨"DrawBureauModel", "nextNaming", "()Z"⟩, 27) := ⟨⟨by decide +kernel, by decide +kernel⟩, List.mem_of_getElem? (i := 673) (by decide +kernel), List.mem_of_getElem? (i := 825) (by decide +kernel), List.mem_of_getElem? (i := 826) (by decide +kernel)⟩
theorem lw_p43 : lw_okq (⟨"DrawBureauModel", "isBooked", "(I)Z"⟩, 27) := ⟨⟨by decide +kernel, by decide +kernel⟩, List.mem_of_getElem? (i := 673) (by decide +kernel), List.mem_of_getElem? (i := 837) (by decide +kernel), List.mem_of_getElem? (i := 838) (by decide +kernel)⟩
theorem lw_p44 : lw_okq (⟨"DrawBureauModel", "pointsOf", "(I)I"⟩, 27) := ⟨⟨by decide +kernel, by decide +kernel⟩, List.mem_of_getElem? (i := 673) (by decide +kernel), List.mem_of_getElem? (i := 841) (by decide +kernel), List.mem_of_getElem? (i := 842) (by decide +kernel)⟩
theorem lw_p45 : lw_okq (⟨"DrawBureauModel", "needOf", "(I)I"⟩, 27) := ⟨⟨by decide +kernel, by decide +kernel⟩, List.mem_of_getElem? (i := 673) (by decide +kernel), List.mem_of_getElem? (i := 845) (by decide +kernel), List.mem_of_getElem? (i := 846) (by decide +kernel)⟩
theorem lw_p46 : lw_okq (⟨"DrawBureauModel", "search", "(I)V"⟩, 27) := ⟨⟨by decide +kernel, by decide +kernel⟩, List.mem_of_getElem? (i := 673) (by decide +kernel), List.mem_of_getElem? (i := 849) (by decide +kernel), List.mem_of_getElem? (i := 850) (by decide +kernel)⟩
theorem lw_p47 : lw_okq (⟨"DrawBureauModel", "mayMeet", "(III)Z"⟩, 27) := ⟨⟨by decide +kernel, by decide +kernel⟩, List.mem_of_getElem? (i := 673) (by decide +kernel), List.mem_of_getElem? (i := 857) (by decide +kernel), List.mem_of_getElem? (i := 858) (by decide +kernel)⟩
def lw_privs_3 : List (MethodName × Nat) := [(⟨"DrawBureau$PairedRounds", "isWhite", "(II)Z"⟩, 12), (⟨"DrawBureau$PairedRounds", "lesserPlayer", "(II)I"⟩, 12), (⟨"DrawBureau$Knockout", "spreadPlaces", "(I)V"⟩, 4), (⟨"DrawBureauModel", "slotOfGame", "(II)I"⟩, 27), (⟨"DrawBureauModel", "against", "(II)I"⟩, 27), (⟨"DrawBureauModel", "rest", "(I)I"⟩, 27), (⟨"DrawBureauModel", "isHome", "(II)Z"⟩, 27), (⟨"DrawBureauModel", "clashes", "([I)I"⟩, 27), (⟨"DrawBureauModel", "together", "(II)I"⟩, 27), (⟨"DrawBureauModel", "leastClashes", "()I"⟩, 27), (⟨"DrawBureauModel", "nextNaming", "()Z"⟩, 27), (⟨"DrawBureauModel", "isBooked", "(I)Z"⟩, 27), (⟨"DrawBureauModel", "pointsOf", "(I)I"⟩, 27), (⟨"DrawBureauModel", "needOf", "(I)I"⟩, 27), (⟨"DrawBureauModel", "search", "(I)V"⟩, 27), (⟨"DrawBureauModel", "mayMeet", "(III)Z"⟩, 27)]
theorem lw_r3 : ∀ q ∈ lw_privs_3, lw_okq q := List.forall_mem_cons.mpr ⟨lw_p32, List.forall_mem_cons.mpr ⟨lw_p33, List.forall_mem_cons.mpr ⟨lw_p34, List.forall_mem_cons.mpr ⟨lw_p35, List.forall_mem_cons.mpr ⟨lw_p36, List.forall_mem_cons.mpr ⟨lw_p37, List.forall_mem_cons.mpr ⟨lw_p38, List.forall_mem_cons.mpr ⟨lw_p39, List.forall_mem_cons.mpr ⟨lw_p40, List.forall_mem_cons.mpr ⟨lw_p41, List.forall_mem_cons.mpr ⟨lw_p42, List.forall_mem_cons.mpr ⟨lw_p43, List.forall_mem_cons.mpr ⟨lw_p44, List.forall_mem_cons.mpr ⟨lw_p45, List.forall_mem_cons.mpr ⟨lw_p46, List.forall_mem_cons.mpr ⟨lw_p47, fun _ h => absurd h List.not_mem_nil⟩⟩⟩⟩⟩⟩⟩⟩⟩⟩⟩⟩⟩⟩⟩⟩
theorem lw_p48 : lw_okq (⟨"DrawBureauModel", "with", "(III)J"⟩, 27) := ⟨⟨by decide +kernel, by decide +kernel⟩, List.mem_of_getElem? (i := 673) (by decide +kernel), List.mem_of_getElem? (i := 864) (by decide +kernel), List.mem_of_getElem? (i := 865) (by decide +kernel)⟩
theorem lw_p49 : lw_okq (⟨"DrawBureauModel", "met", "(II)Z"⟩, 27) := ⟨⟨by decide +kernel, by decide +kernel⟩, List.mem_of_getElem? (i := 673) (by decide +kernel), List.mem_of_getElem? (i := 868) (by decide +kernel), List.mem_of_getElem? (i := 869) (by decide +kernel)⟩
theorem lw_p50 : lw_okq (⟨"DrawBureauModel", "costOf", "(II)J"⟩, 27) := ⟨⟨by decide +kernel, by decide +kernel⟩, List.mem_of_getElem? (i := 673) (by decide +kernel), List.mem_of_getElem? (i := 872) (by decide +kernel), List.mem_of_getElem? (i := 873) (by decide +kernel)⟩
theorem lw_p51 : lw_okq (⟨"DrawBureauModel", "join", "(II)V"⟩, 27) := ⟨⟨by decide +kernel, by decide +kernel⟩, List.mem_of_getElem? (i := 673) (by decide +kernel), List.mem_of_getElem? (i := 882) (by decide +kernel), List.mem_of_getElem? (i := 883) (by decide +kernel)⟩
theorem lw_p52 : lw_okq (⟨"DrawBureauModel", "isThere", "(II)Z"⟩, 27) := ⟨⟨by decide +kernel, by decide +kernel⟩, List.mem_of_getElem? (i := 673) (by decide +kernel), List.mem_of_getElem? (i := 894) (by decide +kernel), List.mem_of_getElem? (i := 895) (by decide +kernel)⟩
theorem lw_p53 : lw_okq (⟨"DrawBureauModel", "scoreOf", "(II)I"⟩, 27) := ⟨⟨by decide +kernel, by decide +kernel⟩, List.mem_of_getElem? (i := 673) (by decide +kernel), List.mem_of_getElem? (i := 914) (by decide +kernel), List.mem_of_getElem? (i := 915) (by decide +kernel)⟩
theorem lw_p54 : lw_okq (⟨"DrawBureauModel", "counts", "(II)Z"⟩, 27) := ⟨⟨by decide +kernel, by decide +kernel⟩, List.mem_of_getElem? (i := 673) (by decide +kernel), List.mem_of_getElem? (i := 918) (by decide +kernel), List.mem_of_getElem? (i := 919) (by decide +kernel)⟩
theorem lw_p55 : lw_okq (⟨"DrawBureauModel", "isAhead", "(II)Z"⟩, 27) := ⟨⟨by decide +kernel, by decide +kernel⟩, List.mem_of_getElem? (i := 673) (by decide +kernel), List.mem_of_getElem? (i := 926) (by decide +kernel), List.mem_of_getElem? (i := 927) (by decide +kernel)⟩
theorem lw_p56 : lw_okq (⟨"DrawBureauModel", "isGame", "(II)Z"⟩, 27) := ⟨⟨by decide +kernel, by decide +kernel⟩, List.mem_of_getElem? (i := 673) (by decide +kernel), List.mem_of_getElem? (i := 938) (by decide +kernel), List.mem_of_getElem? (i := 939) (by decide +kernel)⟩
theorem lw_p57 : lw_okq (⟨"DrawBureauModel", "winnerOf", "(II)I"⟩, 27) := ⟨⟨by decide +kernel, by decide +kernel⟩, List.mem_of_getElem? (i := 673) (by decide +kernel), List.mem_of_getElem? (i := 942) (by decide +kernel), List.mem_of_getElem? (i := 943) (by decide +kernel)⟩
theorem lw_p58 : lw_okq (⟨"DrawBureauModel", "sideOf", "(III)I"⟩, 27) := ⟨⟨by decide +kernel, by decide +kernel⟩, List.mem_of_getElem? (i := 673) (by decide +kernel), List.mem_of_getElem? (i := 946) (by decide +kernel), List.mem_of_getElem? (i := 947) (by decide +kernel)⟩
def lw_privs_4 : List (MethodName × Nat) := [(⟨"DrawBureauModel", "with", "(III)J"⟩, 27), (⟨"DrawBureauModel", "met", "(II)Z"⟩, 27), (⟨"DrawBureauModel", "costOf", "(II)J"⟩, 27), (⟨"DrawBureauModel", "join", "(II)V"⟩, 27), (⟨"DrawBureauModel", "isThere", "(II)Z"⟩, 27), (⟨"DrawBureauModel", "scoreOf", "(II)I"⟩, 27), (⟨"DrawBureauModel", "counts", "(II)Z"⟩, 27), (⟨"DrawBureauModel", "isAhead", "(II)Z"⟩, 27), (⟨"DrawBureauModel", "isGame", "(II)Z"⟩, 27), (⟨"DrawBureauModel", "winnerOf", "(II)I"⟩, 27), (⟨"DrawBureauModel", "sideOf", "(III)I"⟩, 27)]
theorem lw_r4 : ∀ q ∈ lw_privs_4, lw_okq q := List.forall_mem_cons.mpr ⟨lw_p48, List.forall_mem_cons.mpr ⟨lw_p49, List.forall_mem_cons.mpr ⟨lw_p50, List.forall_mem_cons.mpr ⟨lw_p51, List.forall_mem_cons.mpr ⟨lw_p52, List.forall_mem_cons.mpr ⟨lw_p53, List.forall_mem_cons.mpr ⟨lw_p54, List.forall_mem_cons.mpr ⟨lw_p55, List.forall_mem_cons.mpr ⟨lw_p56, List.forall_mem_cons.mpr ⟨lw_p57, List.forall_mem_cons.mpr ⟨lw_p58, fun _ h => absurd h List.not_mem_nil⟩⟩⟩⟩⟩⟩⟩⟩⟩⟩⟩
def lw_privs : List (MethodName × Nat) := lw_privs_1 ++ (lw_privs_2 ++ (lw_privs_3 ++ (lw_privs_4)))
def lw_tbl : List Cond := k2_sels lw_privs ++ tables_1
theorem lw_privs_ok : ∀ q ∈ lw_privs, lw_okq q := by
  show ∀ q ∈ lw_privs_1 ++ (lw_privs_2 ++ (lw_privs_3 ++ (lw_privs_4))), lw_okq q
  exact List.forall_mem_append.mpr ⟨lw_r1, List.forall_mem_append.mpr ⟨lw_r2, List.forall_mem_append.mpr ⟨lw_r3, lw_r4⟩⟩⟩

/-! names and field tables of the seven classes whose objects the memory holds -/
def mT0 : u_T := fun k => match k with
  | 0 => ("DrawBureau$Couples", "firsts", "[I", true)
  | 1 => ("DrawBureau$Couples", "seconds", "[I", true)
  | 2 => ("DrawBureau$Couples", "count", "I", false)
  | _ => ("DrawBureau$Couples", "taken", "I", false)
def mTy0 : Nat → FieldType := fun k => match k with
  | 0 => .array .int
  | 1 => .array .int
  | 2 => .int
  | _ => .int
theorem mNm0 : ∀ a, a < 4 → ∀ b, b < 4 → a ≠ b → (mT0 a).2.1 ≠ (mT0 b).2.1 := by decide +kernel
theorem mTyOk0 : ∀ k, k < 4 → parseFieldDescriptor (mT0 k).2.2.1 = some (mTy0 k) := by decide +kernel
def mT1 : u_T := fun k => match k with
  | 0 => ("DrawBureau$FullTable", "teamOfSlot", "[I", true)
  | 1 => ("DrawBureau$FullTable", "slotOfTeam", "[I", true)
  | 2 => ("DrawBureau$FullTable", "homes", "[I", true)
  | 3 => ("DrawBureau$FullTable", "teams", "I", false)
  | _ => ("DrawBureau$FullTable", "rounds", "I", false)
def mTy1 : Nat → FieldType := fun k => match k with
  | 0 => .array .int
  | 1 => .array .int
  | 2 => .array .int
  | 3 => .int
  | _ => .int
theorem mNm1 : ∀ a, a < 5 → ∀ b, b < 5 → a ≠ b → (mT1 a).2.1 ≠ (mT1 b).2.1 := by decide +kernel
theorem mTyOk1 : ∀ k, k < 5 → parseFieldDescriptor (mT1 k).2.2.1 = some (mTy1 k) := by decide +kernel
def mT2 : u_T := fun k => match k with
  | 0 => ("DrawBureau$Knockout", "places", "[I", true)
  | 1 => ("DrawBureau$Knockout", "winners", "[I", true)
  | 2 => ("DrawBureau$Knockout", "count", "I", false)
  | _ => ("DrawBureau$Knockout", "rounds", "I", false)
def mTy2 : Nat → FieldType := fun k => match k with
  | 0 => .array .int
  | 1 => .array .int
  | 2 => .int
  | _ => .int
theorem mNm2 : ∀ a, a < 4 → ∀ b, b < 4 → a ≠ b → (mT2 a).2.1 ≠ (mT2 b).2.1 := by decide +kernel
theorem mTyOk2 : ∀ k, k < 4 → parseFieldDescriptor (mT2 k).2.2.1 = some (mTy2 k) := by decide +kernel
def mT3 : u_T := fun k => match k with
  | 0 => ("DrawBureau$Matching", "entered", "[I", true)
  | 1 => ("DrawBureau$Matching", "mates", "[I", true)
  | 2 => ("DrawBureau$Matching", "prices", "[J", true)
  | 3 => ("DrawBureau$Matching", "kept", "[J", true)
  | 4 => ("DrawBureau$Matching", "size", "I", false)
  | _ => ("DrawBureau$Matching", "total", "J", false)
def mTy3 : Nat → FieldType := fun k => match k with
  | 0 => .array .int
  | 1 => .array .int
  | 2 => .array .long
  | 3 => .array .long
  | 4 => .int
  | _ => .long
theorem mNm3 : ∀ a, a < 6 → ∀ b, b < 6 → a ≠ b → (mT3 a).2.1 ≠ (mT3 b).2.1 := by decide +kernel
theorem mTyOk3 : ∀ k, k < 6 → parseFieldDescriptor (mT3 k).2.2.1 = some (mTy3 k) := by decide +kernel
def mT4 : u_T := fun k => match k with
  | 0 => ("DrawBureau$PairedRounds", "rivals", "[I", true)
  | 1 => ("DrawBureau$PairedRounds", "colours", "[I", true)
  | 2 => ("DrawBureau$PairedRounds", "made", "[I", true)
  | 3 => ("DrawBureau$PairedRounds", "points", "[I", true)
  | 4 => ("DrawBureau$PairedRounds", "needs", "[I", true)
  | 5 => ("DrawBureau$PairedRounds", "met", "[I", true)
  | 6 => ("DrawBureau$PairedRounds", "ranks", "[J", true)
  | 7 => ("DrawBureau$PairedRounds", "matching", "LDrawBureau$Matching;", true)
  | 8 => ("DrawBureau$PairedRounds", "count", "I", false)
  | 9 => ("DrawBureau$PairedRounds", "rounds", "I", false)
  | 10 => ("DrawBureau$PairedRounds", "gone", "I", false)
  | _ => ("DrawBureau$PairedRounds", "latestCost", "J", false)
def mTy4 : Nat → FieldType := fun k => match k with
  | 0 => .array .int
  | 1 => .array .int
  | 2 => .array .int
  | 3 => .array .int
  | 4 => .array .int
  | 5 => .array .int
  | 6 => .array .long
  | 7 => .object "DrawBureau$Matching"
  | 8 => .int
  | 9 => .int
  | 10 => .int
  | _ => .long
theorem mNm4 : ∀ a, a < 12 → ∀ b, b < 12 → a ≠ b → (mT4 a).2.1 ≠ (mT4 b).2.1 := by decide +kernel
theorem mTyOk4 : ∀ k, k < 12 → parseFieldDescriptor (mT4 k).2.2.1 = some (mTy4 k) := by decide +kernel
def mT5 : u_T := fun k => match k with
  | 0 => ("DrawBureau", "wishes", "LDrawBureau$Couples;", true)
  | 1 => ("DrawBureau", "twinned", "LDrawBureau$Couples;", true)
  | 2 => ("DrawBureau", "fullTable", "LDrawBureau$FullTable;", true)
  | 3 => ("DrawBureau", "paired", "LDrawBureau$PairedRounds;", true)
  | _ => ("DrawBureau", "knockout", "LDrawBureau$Knockout;", true)
def mTy5 : Nat → FieldType := fun k => match k with
  | 0 => .object "DrawBureau$Couples"
  | 1 => .object "DrawBureau$Couples"
  | 2 => .object "DrawBureau$FullTable"
  | 3 => .object "DrawBureau$PairedRounds"
  | _ => .object "DrawBureau$Knockout"
theorem mNm5 : ∀ a, a < 5 → ∀ b, b < 5 → a ≠ b → (mT5 a).2.1 ≠ (mT5 b).2.1 := by decide +kernel
theorem mTyOk5 : ∀ k, k < 5 → parseFieldDescriptor (mT5 k).2.2.1 = some (mTy5 k) := by decide +kernel
def mT6 : u_T := fun k => match k with
  | 0 => ("DrawBureauModel", "thrown", "I", false)
  | 1 => ("DrawBureauModel", "wishOne", "[I", true)
  | 2 => ("DrawBureauModel", "wishTwo", "[I", true)
  | 3 => ("DrawBureauModel", "wishes", "I", false)
  | 4 => ("DrawBureauModel", "twinOne", "[I", true)
  | 5 => ("DrawBureauModel", "twinTwo", "[I", true)
  | 6 => ("DrawBureauModel", "twins", "I", false)
  | 7 => ("DrawBureauModel", "teams", "I", false)
  | 8 => ("DrawBureauModel", "halves", "I", false)
  | 9 => ("DrawBureauModel", "teamOf", "[I", true)
  | 10 => ("DrawBureauModel", "slotOf", "[I", true)
  | 11 => ("DrawBureauModel", "naming", "[I", true)
  | 12 => ("DrawBureauModel", "players", "I", false)
  | 13 => ("DrawBureauModel", "rounds", "I", false)
  | 14 => ("DrawBureauModel", "isIn", "[Z", true)
  | 15 => ("DrawBureauModel", "opponents", "[I", true)
  | 16 => ("DrawBureauModel", "colours", "[I", true)
  | 17 => ("DrawBureauModel", "made", "[I", true)
  | 18 => ("DrawBureauModel", "costs", "[I", true)
  | 19 => ("DrawBureauModel", "best", "[J", true)
  | 20 => ("DrawBureauModel", "points", "[I", true)
  | 21 => ("DrawBureauModel", "needs", "[I", true)
  | 22 => ("DrawBureauModel", "order", "[I", true)
  | 23 => ("DrawBureauModel", "entries", "I", false)
  | 24 => ("DrawBureauModel", "depth", "I", false)
  | 25 => ("DrawBureauModel", "places", "[I", true)
  | _ => ("DrawBureauModel", "winners", "[I", true)
def mTy6 : Nat → FieldType := fun k => match k with
  | 0 => .int
  | 1 => .array .int
  | 2 => .array .int
  | 3 => .int
  | 4 => .array .int
  | 5 => .array .int
  | 6 => .int
  | 7 => .int
  | 8 => .int
  | 9 => .array .int
  | 10 => .array .int
  | 11 => .array .int
  | 12 => .int
  | 13 => .int
  | 14 => .array .boolean
  | 15 => .array .int
  | 16 => .array .int
  | 17 => .array .int
  | 18 => .array .int
  | 19 => .array .long
  | 20 => .array .int
  | 21 => .array .int
  | 22 => .array .int
  | 23 => .int
  | 24 => .int
  | 25 => .array .int
  | _ => .array .int
theorem mNm6 : ∀ a, a < 27 → ∀ b, b < 27 → a ≠ b → (mT6 a).2.1 ≠ (mT6 b).2.1 := by decide +kernel
theorem mTyOk6 : ∀ k, k < 27 → parseFieldDescriptor (mT6 k).2.2.1 = some (mTy6 k) := by decide +kernel
abbrev mClasses : List vw_C := [("DrawBureau$Couples", mT0, 4), ("DrawBureau$FullTable", mT1, 5), ("DrawBureau$Knockout", mT2, 4), ("DrawBureau$Matching", mT3, 6), ("DrawBureau$PairedRounds", mT4, 12), ("DrawBureau", mT5, 5), ("DrawBureauModel", mT6, 27)]
set_option maxRecDepth 20000 in
theorem mIn0 : ∀ w ∈ u_ws "DrawBureau$Couples" mT0 4, w ∈ lw_tbl := by
  have h : (u_ws "DrawBureau$Couples" mT0 4) = ([94, 96, 98, 100] : List Nat).filterMap (fun i => lw_tbl[i]?) := by decide +kernel
  intro w hw
  rw [h] at hw
  obtain ⟨i, -, hi⟩ := List.mem_filterMap.mp hw
  exact List.mem_of_getElem? hi
set_option maxRecDepth 20000 in
theorem mIn1 : ∀ w ∈ u_ws "DrawBureau$FullTable" mT1 5, w ∈ lw_tbl := by
  have h : (u_ws "DrawBureau$FullTable" mT1 5) = ([115, 117, 119, 121, 123] : List Nat).filterMap (fun i => lw_tbl[i]?) := by decide +kernel
  intro w hw
  rw [h] at hw
  obtain ⟨i, -, hi⟩ := List.mem_filterMap.mp hw
  exact List.mem_of_getElem? hi
set_option maxRecDepth 20000 in
theorem mIn2 : ∀ w ∈ u_ws "DrawBureau$Knockout" mT2 4, w ∈ lw_tbl := by
  have h : (u_ws "DrawBureau$Knockout" mT2 4) = ([205, 207, 209, 211] : List Nat).filterMap (fun i => lw_tbl[i]?) := by decide +kernel
  intro w hw
  rw [h] at hw
  obtain ⟨i, -, hi⟩ := List.mem_filterMap.mp hw
  exact List.mem_of_getElem? hi
set_option maxRecDepth 20000 in
theorem mIn3 : ∀ w ∈ u_ws "DrawBureau$Matching" mT3 6, w ∈ lw_tbl := by
  have h : (u_ws "DrawBureau$Matching" mT3 6) = ([144, 146, 148, 150, 152, 154] : List Nat).filterMap (fun i => lw_tbl[i]?) := by decide +kernel
  intro w hw
  rw [h] at hw
  obtain ⟨i, -, hi⟩ := List.mem_filterMap.mp hw
  exact List.mem_of_getElem? hi
set_option maxRecDepth 20000 in
theorem mIn4 : ∀ w ∈ u_ws "DrawBureau$PairedRounds" mT4 12, w ∈ lw_tbl := by
  have h : (u_ws "DrawBureau$PairedRounds" mT4 12) = ([170, 172, 174, 176, 178, 180, 182, 184, 186, 188, 190, 192] : List Nat).filterMap (fun i => lw_tbl[i]?) := by decide +kernel
  intro w hw
  rw [h] at hw
  obtain ⟨i, -, hi⟩ := List.mem_filterMap.mp hw
  exact List.mem_of_getElem? hi
set_option maxRecDepth 20000 in
theorem mIn5 : ∀ w ∈ u_ws "DrawBureau" mT5 5, w ∈ lw_tbl := by
  have h : (u_ws "DrawBureau" mT5 5) = ([219, 221, 223, 225, 227] : List Nat).filterMap (fun i => lw_tbl[i]?) := by decide +kernel
  intro w hw
  rw [h] at hw
  obtain ⟨i, -, hi⟩ := List.mem_filterMap.mp hw
  exact List.mem_of_getElem? hi
set_option maxRecDepth 20000 in
theorem mIn6 : ∀ w ∈ u_ws "DrawBureauModel" mT6 27, w ∈ lw_tbl := by
  have h : (u_ws "DrawBureauModel" mT6 27) = ([765, 767, 769, 771, 773, 775, 777, 779, 781, 783, 785, 787, 789, 791, 793, 795, 797, 799, 801, 803, 805, 807, 809, 811, 813, 815, 817] : List Nat).filterMap (fun i => lw_tbl[i]?) := by decide +kernel
  intro w hw
  rw [h] at hw
  obtain ⟨i, -, hi⟩ := List.mem_filterMap.mp hw
  exact List.mem_of_getElem? hi
