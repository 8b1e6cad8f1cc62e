section
-- ===== PART A: goes FIRST, ahead of the names: the tables' words, and 'selects' of the private methods out of them =====
/-- a private method of a class that the tables say can be made, by its rows of tables_1 -/
def lw_okq (q : MethodName × Nat) : Prop := (q.1.cls ≠ "java/lang/invoke/MethodHandle" ∧ q.1.cls ≠ "java/lang/invoke/VarHandle") ∧ Cond.instantiable q.1.cls q.2 ∈ tables_1 ∧ Cond.privateMethod q.1 ∈ tables_1 ∧ Cond.instanceMethod q.1 ∈ tables_1
theorem lw_p0 : lw_okq (⟨"SpeechKeeper", "merged", "()LSpeechKeeper$Merge;"⟩, 14) := ⟨⟨by decide +kernel, by decide +kernel⟩, List.mem_of_getElem? (i := 26) (by decide +kernel), List.mem_of_getElem? (i := 319) (by decide +kernel), List.mem_of_getElem? (i := 320) (by decide +kernel)⟩
theorem lw_p1 : lw_okq (⟨"SpeechKeeper$Laying", "addFirst", "(J)V"⟩, 7) := ⟨⟨by decide +kernel, by decide +kernel⟩, List.mem_of_getElem? (i := 159) (by decide +kernel), List.mem_of_getElem? (i := 347) (by decide +kernel), List.mem_of_getElem? (i := 348) (by decide +kernel)⟩
theorem lw_p2 : lw_okq (⟨"SpeechKeeper$Laying", "addSecond", "(J)V"⟩, 7) := ⟨⟨by decide +kernel, by decide +kernel⟩, List.mem_of_getElem? (i := 159) (by decide +kernel), List.mem_of_getElem? (i := 351) (by decide +kernel), List.mem_of_getElem? (i := 352) (by decide +kernel)⟩
theorem lw_p3 : lw_okq (⟨"SpeechKeeper$Laying", "findLongest", "()V"⟩, 7) := ⟨⟨by decide +kernel, by decide +kernel⟩, List.mem_of_getElem? (i := 159) (by decide +kernel), List.mem_of_getElem? (i := 359) (by decide +kernel), List.mem_of_getElem? (i := 360) (by decide +kernel)⟩
theorem lw_p4 : lw_okq (⟨"SpeechKeeper$Laying", "sameAtFront", "()I"⟩, 7) := ⟨⟨by decide +kernel, by decide +kernel⟩, List.mem_of_getElem? (i := 159) (by decide +kernel), List.mem_of_getElem? (i := 363) (by decide +kernel), List.mem_of_getElem? (i := 364) (by decide +kernel)⟩
theorem lw_p5 : lw_okq (⟨"SpeechKeeper$Laying", "longestFrom", "(II)I"⟩, 7) := ⟨⟨by decide +kernel, by decide +kernel⟩, List.mem_of_getElem? (i := 159) (by decide +kernel), List.mem_of_getElem? (i := 367) (by decide +kernel), List.mem_of_getElem? (i := 368) (by decide +kernel)⟩
theorem lw_p6 : lw_okq (⟨"SpeechKeeper$Merge", "findChanges", "(LSpeechKeeper$Table;II)V"⟩, 4) := ⟨⟨by decide +kernel, by decide +kernel⟩, List.mem_of_getElem? (i := 187) (by decide +kernel), List.mem_of_getElem? (i := 373) (by decide +kernel), List.mem_of_getElem? (i := 374) (by decide +kernel)⟩
theorem lw_p7 : lw_okq (⟨"SpeechKeeper$Merge", "findBlocks", "()V"⟩, 4) := ⟨⟨by decide +kernel, by decide +kernel⟩, List.mem_of_getElem? (i := 187) (by decide +kernel), List.mem_of_getElem? (i := 396) (by decide +kernel), List.mem_of_getElem? (i := 397) (by decide +kernel)⟩
theorem lw_p8 : lw_okq (⟨"SpeechKeeper$Merge", "isZeroNext", "(II)Z"⟩, 4) := ⟨⟨by decide +kernel, by decide +kernel⟩, List.mem_of_getElem? (i := 187) (by decide +kernel), List.mem_of_getElem? (i := 404) (by decide +kernel), List.mem_of_getElem? (i := 405) (by decide +kernel)⟩
theorem lw_p9 : lw_okq (⟨"SpeechKeeper$Merge", "addToBlock", "(II)V"⟩, 4) := ⟨⟨by decide +kernel, by decide +kernel⟩, List.mem_of_getElem? (i := 187) (by decide +kernel), List.mem_of_getElem? (i := 412) (by decide +kernel), List.mem_of_getElem? (i := 413) (by decide +kernel)⟩
theorem lw_p10 : lw_okq (⟨"SpeechKeeper$Merge", "findSides", "(I)V"⟩, 4) := ⟨⟨by decide +kernel, by decide +kernel⟩, List.mem_of_getElem? (i := 187) (by decide +kernel), List.mem_of_getElem? (i := 421) (by decide +kernel), List.mem_of_getElem? (i := 422) (by decide +kernel)⟩
theorem lw_p11 : lw_okq (⟨"SpeechKeeper$Merge", "kindOf", "(ILSpeechKeeper$Text;LSpeechKeeper$Text;)I"⟩, 4) := ⟨⟨by decide +kernel, by decide +kernel⟩, List.mem_of_getElem? (i := 187) (by decide +kernel), List.mem_of_getElem? (i := 425) (by decide +kernel), List.mem_of_getElem? (i := 426) (by decide +kernel)⟩
theorem lw_p12 : lw_okq (⟨"SpeechKeeper$Merge", "hasEqualSides", "(ILSpeechKeeper$Text;LSpeechKeeper$Text;)Z"⟩, 4) := ⟨⟨by decide +kernel, by decide +kernel⟩, List.mem_of_getElem? (i := 187) (by decide +kernel), List.mem_of_getElem? (i := 429) (by decide +kernel), List.mem_of_getElem? (i := 430) (by decide +kernel)⟩
theorem lw_p13 : lw_okq (⟨"SpeechKeeper$Joint", "wordsBesideClashes", "()I"⟩, 6) := ⟨⟨by decide +kernel, by decide +kernel⟩, List.mem_of_getElem? (i := 227) (by decide +kernel), List.mem_of_getElem? (i := 453) (by decide +kernel), List.mem_of_getElem? (i := 454) (by decide +kernel)⟩
theorem lw_p14 : lw_okq (⟨"SpeechKeeper$Joint", "wordsOf", "(II)I"⟩, 6) := ⟨⟨by decide +kernel, by decide +kernel⟩, List.mem_of_getElem? (i := 227) (by decide +kernel), List.mem_of_getElem? (i := 464) (by decide +kernel), List.mem_of_getElem? (i := 465) (by decide +kernel)⟩
theorem lw_p15 : lw_okq (⟨"SpeechKeeper$Joint", "wordsOfSide", "(II)I"⟩, 6) := ⟨⟨by decide +kernel, by decide +kernel⟩, List.mem_of_getElem? (i := 227) (by decide +kernel), List.mem_of_getElem? (i := 468) (by decide +kernel), List.mem_of_getElem? (i := 469) (by decide +kernel)⟩
def lw_privs_1 : List (MethodName × Nat) := [(⟨"SpeechKeeper", "merged", "()LSpeechKeeper$Merge;"⟩, 14), (⟨"SpeechKeeper$Laying", "addFirst", "(J)V"⟩, 7), (⟨"SpeechKeeper$Laying", "addSecond", "(J)V"⟩, 7), (⟨"SpeechKeeper$Laying", "findLongest", "()V"⟩, 7), (⟨"SpeechKeeper$Laying", "sameAtFront", "()I"⟩, 7), (⟨"SpeechKeeper$Laying", "longestFrom", "(II)I"⟩, 7), (⟨"SpeechKeeper$Merge", "findChanges", "(LSpeechKeeper$Table;II)V"⟩, 4), (⟨"SpeechKeeper$Merge", "findBlocks", "()V"⟩, 4), (⟨"SpeechKeeper$Merge", "isZeroNext", "(II)Z"⟩, 4), (⟨"SpeechKeeper$Merge", "addToBlock", "(II)V"⟩, 4), (⟨"SpeechKeeper$Merge", "findSides", "(I)V"⟩, 4), (⟨"SpeechKeeper$Merge", "kindOf", "(ILSpeechKeeper$Text;LSpeechKeeper$Text;)I"⟩, 4), (⟨"SpeechKeeper$Merge", "hasEqualSides", "(ILSpeechKeeper$Text;LSpeechKeeper$Text;)Z"⟩, 4), (⟨"SpeechKeeper$Joint", "wordsBesideClashes", "()I"⟩, 6), (⟨"SpeechKeeper$Joint", "wordsOf", "(II)I"⟩, 6), (⟨"SpeechKeeper$Joint", "wordsOfSide", "(II)I"⟩, 6)]
theorem lw_r1 : ∀ q ∈ lw_privs_1, lw_okq q := List.forall_mem_cons.mpr ⟨lw_p0, List.forall_mem_cons.mpr ⟨lw_p1, List.forall_mem_cons.mpr ⟨lw_p2, List.forall_mem_cons.mpr ⟨lw_p3, List.forall_mem_cons.mpr ⟨lw_p4, List.forall_mem_cons.mpr ⟨lw_p5, List.forall_mem_cons.mpr ⟨lw_p6, List.forall_mem_cons.mpr ⟨lw_p7, List.forall_mem_cons.mpr ⟨lw_p8, List.forall_mem_cons.mpr ⟨lw_p9, List.forall_mem_cons.mpr ⟨lw_p10, List.forall_mem_cons.mpr ⟨lw_p11, List.forall_mem_cons.mpr ⟨lw_p12, List.forall_mem_cons.mpr ⟨lw_p13, List.forall_mem_cons.mpr ⟨lw_p14, List.forall_mem_cons.mpr ⟨lw_p15, fun _ h => absurd h List.not_mem_nil⟩⟩⟩⟩⟩⟩⟩⟩⟩⟩⟩⟩⟩⟩⟩⟩
theorem lw_p16 : lw_okq (⟨"SpeechKeeper$Joint", "isClash", "(I)Z"⟩, 6) := ⟨⟨by decide +kernel, by decide +kernel⟩, List.mem_of_getElem? (i := 227) (by decide +kernel), List.mem_of_getElem? (i := 477) (by decide +kernel), List.mem_of_getElem? (i := 478) (by decide +kernel)⟩
theorem lw_p17 : lw_okq (⟨"SpeechKeeper$Joint", "placedFor", "(II)I"⟩, 6) := ⟨⟨by decide +kernel, by decide +kernel⟩, List.mem_of_getElem? (i := 227) (by decide +kernel), List.mem_of_getElem? (i := 481) (by decide +kernel), List.mem_of_getElem? (i := 482) (by decide +kernel)⟩
theorem lw_p18 : lw_okq (⟨"SpeechKeeper$Joint", "linesBesideClashes", "()I"⟩, 6) := ⟨⟨by decide +kernel, by decide +kernel⟩, List.mem_of_getElem? (i := 227) (by decide +kernel), List.mem_of_getElem? (i := 494) (by decide +kernel), List.mem_of_getElem? (i := 495) (by decide +kernel)⟩
theorem lw_p19 : lw_okq (⟨"SpeechKeeper$Joint", "linesOf", "(II)I"⟩, 6) := ⟨⟨by decide +kernel, by decide +kernel⟩, List.mem_of_getElem? (i := 227) (by decide +kernel), List.mem_of_getElem? (i := 498) (by decide +kernel), List.mem_of_getElem? (i := 499) (by decide +kernel)⟩
theorem lw_p20 : lw_okq (⟨"SpeechKeeper$Joint", "addChoices", "(I)V"⟩, 6) := ⟨⟨by decide +kernel, by decide +kernel⟩, List.mem_of_getElem? (i := 227) (by decide +kernel), List.mem_of_getElem? (i := 505) (by decide +kernel), List.mem_of_getElem? (i := 506) (by decide +kernel)⟩
theorem lw_p21 : lw_okq (⟨"SpeechKeeper", "textOf", "(I)LSpeechKeeper$Text;"⟩, 14) := ⟨⟨by decide +kernel, by decide +kernel⟩, List.mem_of_getElem? (i := 26) (by decide +kernel), List.mem_of_getElem? (i := 514) (by decide +kernel), List.mem_of_getElem? (i := 515) (by decide +kernel)⟩
theorem lw_p22 : lw_okq (⟨"SpeechKeeper$Joint", "addSide", "(II)V"⟩, 6) := ⟨⟨by decide +kernel, by decide +kernel⟩, List.mem_of_getElem? (i := 227) (by decide +kernel), List.mem_of_getElem? (i := 542) (by decide +kernel), List.mem_of_getElem? (i := 543) (by decide +kernel)⟩
theorem lw_p23 : lw_okq (⟨"SpeechKeeper$Joint", "readBaseAuthors", "(I)V"⟩, 6) := ⟨⟨by decide +kernel, by decide +kernel⟩, List.mem_of_getElem? (i := 227) (by decide +kernel), List.mem_of_getElem? (i := 546) (by decide +kernel), List.mem_of_getElem? (i := 547) (by decide +kernel)⟩
theorem lw_p24 : lw_okq (⟨"SpeechKeeper$Joint", "writeAuthors", "(II)V"⟩, 6) := ⟨⟨by decide +kernel, by decide +kernel⟩, List.mem_of_getElem? (i := 227) (by decide +kernel), List.mem_of_getElem? (i := 574) (by decide +kernel), List.mem_of_getElem? (i := 575) (by decide +kernel)⟩
theorem lw_p25 : lw_okq (⟨"SpeechKeeper", "openClashes", "()I"⟩, 14) := ⟨⟨by decide +kernel, by decide +kernel⟩, List.mem_of_getElem? (i := 26) (by decide +kernel), List.mem_of_getElem? (i := 583) (by decide +kernel), List.mem_of_getElem? (i := 584) (by decide +kernel)⟩
theorem lw_p26 : lw_okq (⟨"SpeechKeeper", "recordEdit", "()V"⟩, 14) := ⟨⟨by decide +kernel, by decide +kernel⟩, List.mem_of_getElem? (i := 26) (by decide +kernel), List.mem_of_getElem? (i := 591) (by decide +kernel), List.mem_of_getElem? (i := 592) (by decide +kernel)⟩
theorem lw_p27 : lw_okq (⟨"SpeechKeeper", "outdate", "()V"⟩, 14) := ⟨⟨by decide +kernel, by decide +kernel⟩, List.mem_of_getElem? (i := 26) (by decide +kernel), List.mem_of_getElem? (i := 618) (by decide +kernel), List.mem_of_getElem? (i := 619) (by decide +kernel)⟩
theorem lw_p28 : lw_okq (⟨"SpeechKeeper", "numberOf", "(I)I"⟩, 14) := ⟨⟨by decide +kernel, by decide +kernel⟩, List.mem_of_getElem? (i := 26) (by decide +kernel), List.mem_of_getElem? (i := 652) (by decide +kernel), List.mem_of_getElem? (i := 653) (by decide +kernel)⟩
theorem lw_p29 : lw_okq (⟨"SpeechKeeper", "numberOfBlock", "(II)I"⟩, 14) := ⟨⟨by decide +kernel, by decide +kernel⟩, List.mem_of_getElem? (i := 26) (by decide +kernel), List.mem_of_getElem? (i := 678) (by decide +kernel), List.mem_of_getElem? (i := 679) (by decide +kernel)⟩
theorem lw_p30 : lw_okq (⟨"java/lang/Throwable", "fillInStackTrace", "(I)Ljava/lang/Throwable;"⟩, 6) := ⟨⟨by decide +kernel, by decide +kernel⟩, List.mem_of_getElem? (i := 731) (by decide +kernel), List.mem_of_getElem? (i := 729) (by decide +kernel), List.mem_of_getElem? (i := 730) (by decide +kernel)⟩
theorem lw_p31 : lw_okq (⟨"SpeechKeeper$Reader", "begin", "(I)V"⟩, 8) := ⟨⟨by decide +kernel, by decide +kernel⟩, List.mem_of_getElem? (i := 34) (by decide +kernel), List.mem_of_getElem? (i := 764) (by decide +kernel), List.mem_of_getElem? (i := 765) (by decide +kernel)⟩
def lw_privs_2 : List (MethodName × Nat) := [(⟨"SpeechKeeper$Joint", "isClash", "(I)Z"⟩, 6), (⟨"SpeechKeeper$Joint", "placedFor", "(II)I"⟩, 6), (⟨"SpeechKeeper$Joint", "linesBesideClashes", "()I"⟩, 6), (⟨"SpeechKeeper$Joint", "linesOf", "(II)I"⟩, 6), (⟨"SpeechKeeper$Joint", "addChoices", "(I)V"⟩, 6), (⟨"SpeechKeeper", "textOf", "(I)LSpeechKeeper$Text;"⟩, 14), (⟨"SpeechKeeper$Joint", "addSide", "(II)V"⟩, 6), (⟨"SpeechKeeper$Joint", "readBaseAuthors", "(I)V"⟩, 6), (⟨"SpeechKeeper$Joint", "writeAuthors", "(II)V"⟩, 6), (⟨"SpeechKeeper", "openClashes", "()I"⟩, 14), (⟨"SpeechKeeper", "recordEdit", "()V"⟩, 14), (⟨"SpeechKeeper", "outdate", "()V"⟩, 14), (⟨"SpeechKeeper", "numberOf", "(I)I"⟩, 14), (⟨"SpeechKeeper", "numberOfBlock", "(II)I"⟩, 14), (⟨"java/lang/Throwable", "fillInStackTrace", "(I)Ljava/lang/Throwable;"⟩, 6), (⟨"SpeechKeeper$Reader", "begin", "(I)V"⟩, 8)]
theorem lw_r2 : ∀ q ∈ lw_privs_2, lw_okq q := List.forall_mem_cons.mpr ⟨lw_p16, List.forall_mem_cons.mpr ⟨lw_p17, List.forall_mem_cons.mpr ⟨lw_p18, List.forall_mem_cons.mpr ⟨lw_p19, List.forall_mem_cons.mpr ⟨lw_p20, List.forall_mem_cons.mpr ⟨lw_p21, List.forall_mem_cons.mpr ⟨lw_p22, List.forall_mem_cons.mpr ⟨lw_p23, List.forall_mem_cons.mpr ⟨lw_p24, List.forall_mem_cons.mpr ⟨lw_p25, List.forall_mem_cons.mpr ⟨lw_p26, List.forall_mem_cons.mpr ⟨lw_p27, List.forall_mem_cons.mpr ⟨lw_p28, List.forall_mem_cons.mpr ⟨lw_p29, List.forall_mem_cons.mpr ⟨lw_p30, List.forall_mem_cons.mpr ⟨lw_p31, fun _ h => absurd h List.not_mem_nil⟩⟩⟩⟩⟩⟩⟩⟩⟩⟩⟩⟩⟩⟩⟩⟩
theorem lw_p32 : lw_okq (⟨"SpeechKeeper$Reader", "nextToken", "()V"⟩, 8) := ⟨⟨by decide +kernel, by decide +kernel⟩, List.mem_of_getElem? (i := 34) (by decide +kernel), List.mem_of_getElem? (i := 770) (by decide +kernel), List.mem_of_getElem? (i := 771) (by decide +kernel)⟩
theorem lw_p33 : lw_okq (⟨"SpeechKeeper$Reader", "byteAt", "(I)I"⟩, 8) := ⟨⟨by decide +kernel, by decide +kernel⟩, List.mem_of_getElem? (i := 34) (by decide +kernel), List.mem_of_getElem? (i := 774) (by decide +kernel), List.mem_of_getElem? (i := 775) (by decide +kernel)⟩
theorem lw_p34 : lw_okq (⟨"SpeechKeeper$Reader", "isLetter", "(I)Z"⟩, 8) := ⟨⟨by decide +kernel, by decide +kernel⟩, List.mem_of_getElem? (i := 34) (by decide +kernel), List.mem_of_getElem? (i := 778) (by decide +kernel), List.mem_of_getElem? (i := 779) (by decide +kernel)⟩
theorem lw_p35 : lw_okq (⟨"SpeechKeeper$Reader", "takeLetters", "()V"⟩, 8) := ⟨⟨by decide +kernel, by decide +kernel⟩, List.mem_of_getElem? (i := 34) (by decide +kernel), List.mem_of_getElem? (i := 782) (by decide +kernel), List.mem_of_getElem? (i := 783) (by decide +kernel)⟩
theorem lw_p36 : lw_okq (⟨"SpeechKeeper$Reader", "isKeyword", "(Ljava/lang/String;)Z"⟩, 8) := ⟨⟨by decide +kernel, by decide +kernel⟩, List.mem_of_getElem? (i := 34) (by decide +kernel), List.mem_of_getElem? (i := 790) (by decide +kernel), List.mem_of_getElem? (i := 791) (by decide +kernel)⟩
theorem lw_p37 : lw_okq (⟨"SpeechKeeper$Reader", "readLines", "(LSpeechKeeper$Text;)I"⟩, 8) := ⟨⟨by decide +kernel, by decide +kernel⟩, List.mem_of_getElem? (i := 34) (by decide +kernel), List.mem_of_getElem? (i := 843) (by decide +kernel), List.mem_of_getElem? (i := 844) (by decide +kernel)⟩
theorem lw_p38 : lw_okq (⟨"SpeechKeeper$Reader", "readWords", "(LSpeechKeeper$Text;)I"⟩, 8) := ⟨⟨by decide +kernel, by decide +kernel⟩, List.mem_of_getElem? (i := 34) (by decide +kernel), List.mem_of_getElem? (i := 848) (by decide +kernel), List.mem_of_getElem? (i := 849) (by decide +kernel)⟩
theorem lw_p39 : lw_okq (⟨"SpeechKeeper$Reader", "errorOf", "(I)I"⟩, 8) := ⟨⟨by decide +kernel, by decide +kernel⟩, List.mem_of_getElem? (i := 34) (by decide +kernel), List.mem_of_getElem? (i := 852) (by decide +kernel), List.mem_of_getElem? (i := 853) (by decide +kernel)⟩
theorem lw_p40 : lw_okq (⟨"SpeechKeeper$Text", "shiftLines", "(II)V"⟩, 4) := ⟨⟨by decide +kernel, by decide +kernel⟩, List.mem_of_getElem? (i := 72) (by decide +kernel), List.mem_of_getElem? (i := 1038) (by decide +kernel), List.mem_of_getElem? (i := 1039) (by decide +kernel)⟩
theorem lw_p41 : lw_okq (⟨"SpeechKeeper", "readTyped", "(I)V"⟩, 14) := ⟨⟨by decide +kernel, by decide +kernel⟩, List.mem_of_getElem? (i := 26) (by decide +kernel), List.mem_of_getElem? (i := 1049) (by decide +kernel), List.mem_of_getElem? (i := 1050) (by decide +kernel)⟩
theorem lw_p42 : lw_okq (⟨"SpeechKeeper", "reportLine", "(LSpeechKeeper$Text;IZ)V"⟩, 14) := ⟨⟨by decide +kernel, by decide +kernel⟩, List.mem_of_getElem? (i := 26) (by decide +kernel), List.mem_of_getElem? (i := 1141) (by decide +kernel), List.mem_of_getElem? (i := 1142) (by decide +kernel)⟩
theorem lw_p43 : lw_okq (⟨"SpeechKeeper", "reportWord", "(J)V"⟩, 14) := ⟨⟨by decide +kernel, by decide +kernel⟩, List.mem_of_getElem? (i := 26) (by decide +kernel), List.mem_of_getElem? (i := 1145) (by decide +kernel), List.mem_of_getElem? (i := 1146) (by decide +kernel)⟩
theorem lw_p44 : lw_okq (⟨"SpeechKeeper", "addReported", "(I)V"⟩, 14) := ⟨⟨by decide +kernel, by decide +kernel⟩, List.mem_of_getElem? (i := 26) (by decide +kernel), List.mem_of_getElem? (i := 1149) (by decide +kernel), List.mem_of_getElem? (i := 1150) (by decide +kernel)⟩
theorem lw_p45 : lw_okq (⟨"SpeechKeeperModel", "putsFour", "(I)V"⟩, 53) := ⟨⟨by decide +kernel, by decide +kernel⟩, List.mem_of_getElem? (i := 1187) (by decide +kernel), List.mem_of_getElem? (i := 1361) (by decide +kernel), List.mem_of_getElem? (i := 1362) (by decide +kernel)⟩
theorem lw_p46 : lw_okq (⟨"SpeechKeeperModel", "fails", "(Z)Z"⟩, 53) := ⟨⟨by decide +kernel, by decide +kernel⟩, List.mem_of_getElem? (i := 1187) (by decide +kernel), List.mem_of_getElem? (i := 1372) (by decide +kernel), List.mem_of_getElem? (i := 1373) (by decide +kernel)⟩
theorem lw_p47 : lw_okq (⟨"SpeechKeeperModel", "scans", "()V"⟩, 53) := ⟨⟨by decide +kernel, by decide +kernel⟩, List.mem_of_getElem? (i := 1187) (by decide +kernel), List.mem_of_getElem? (i := 1376) (by decide +kernel), List.mem_of_getElem? (i := 1377) (by decide +kernel)⟩
def lw_privs_3 : List (MethodName × Nat) := [(⟨"SpeechKeeper$Reader", "nextToken", "()V"⟩, 8), (⟨"SpeechKeeper$Reader", "byteAt", "(I)I"⟩, 8), (⟨"SpeechKeeper$Reader", "isLetter", "(I)Z"⟩, 8), (⟨"SpeechKeeper$Reader", "takeLetters", "()V"⟩, 8), (⟨"SpeechKeeper$Reader", "isKeyword", "(Ljava/lang/String;)Z"⟩, 8), (⟨"SpeechKeeper$Reader", "readLines", "(LSpeechKeeper$Text;)I"⟩, 8), (⟨"SpeechKeeper$Reader", "readWords", "(LSpeechKeeper$Text;)I"⟩, 8), (⟨"SpeechKeeper$Reader", "errorOf", "(I)I"⟩, 8), (⟨"SpeechKeeper$Text", "shiftLines", "(II)V"⟩, 4), (⟨"SpeechKeeper", "readTyped", "(I)V"⟩, 14), (⟨"SpeechKeeper", "reportLine", "(LSpeechKeeper$Text;IZ)V"⟩, 14), (⟨"SpeechKeeper", "reportWord", "(J)V"⟩, 14), (⟨"SpeechKeeper", "addReported", "(I)V"⟩, 14), (⟨"SpeechKeeperModel", "putsFour", "(I)V"⟩, 53), (⟨"SpeechKeeperModel", "fails", "(Z)Z"⟩, 53), (⟨"SpeechKeeperModel", "scans", "()V"⟩, 53)]
theorem lw_r3 : ∀ q ∈ lw_privs_3, lw_okq q := List.forall_mem_cons.mpr ⟨lw_p32, List.forall_mem_cons.mpr ⟨lw_p33, List.forall_mem_cons.mpr ⟨lw_p34, List.forall_mem_cons.mpr ⟨lw_p35, List.forall_mem_cons.mpr ⟨lw_p36, List.forall_mem_cons.mpr ⟨lw_p37, List.forall_mem_cons.mpr ⟨lw_p38, List.forall_mem_cons.mpr ⟨lw_p39, List.forall_mem_cons.mpr ⟨lw_p40, List.forall_mem_cons.mpr ⟨lw_p41, List.forall_mem_cons.mpr ⟨lw_p42, List.forall_mem_cons.mpr ⟨lw_p43, List.forall_mem_cons.mpr ⟨lw_p44, List.forall_mem_cons.mpr ⟨lw_p45, List.forall_mem_cons.mpr ⟨lw_p46, List.forall_mem_cons.mpr ⟨lw_p47, fun _ h => absurd h List.not_mem_nil⟩⟩⟩⟩⟩⟩⟩⟩⟩⟩⟩⟩⟩⟩⟩⟩
theorem lw_p48 : lw_okq (⟨"SpeechKeeperModel", "byteAt", "(I)I"⟩, 53) := ⟨⟨by decide +kernel, by decide +kernel⟩, List.mem_of_getElem? (i := 1187) (by decide +kernel), List.mem_of_getElem? (i := 1380) (by decide +kernel), List.mem_of_getElem? (i := 1381) (by decide +kernel)⟩
theorem lw_p49 : lw_okq (⟨"SpeechKeeperModel", "readsSetup", "()V"⟩, 53) := ⟨⟨by decide +kernel, by decide +kernel⟩, List.mem_of_getElem? (i := 1187) (by decide +kernel), List.mem_of_getElem? (i := 1386) (by decide +kernel), List.mem_of_getElem? (i := 1387) (by decide +kernel)⟩
theorem lw_p50 : lw_okq (⟨"SpeechKeeperModel", "isWord", "(Ljava/lang/String;)Z"⟩, 53) := ⟨⟨by decide +kernel, by decide +kernel⟩, List.mem_of_getElem? (i := 1187) (by decide +kernel), List.mem_of_getElem? (i := 1391) (by decide +kernel), List.mem_of_getElem? (i := 1392) (by decide +kernel)⟩
theorem lw_p51 : lw_okq (⟨"SpeechKeeperModel", "isGood", "()Z"⟩, 53) := ⟨⟨by decide +kernel, by decide +kernel⟩, List.mem_of_getElem? (i := 1187) (by decide +kernel), List.mem_of_getElem? (i := 1395) (by decide +kernel), List.mem_of_getElem? (i := 1396) (by decide +kernel)⟩
theorem lw_p52 : lw_okq (⟨"SpeechKeeperModel", "must", "(ZI)V"⟩, 53) := ⟨⟨by decide +kernel, by decide +kernel⟩, List.mem_of_getElem? (i := 1187) (by decide +kernel), List.mem_of_getElem? (i := 1401) (by decide +kernel), List.mem_of_getElem? (i := 1402) (by decide +kernel)⟩
theorem lw_p53 : lw_okq (⟨"SpeechKeeperModel", "readsLines", "(I)V"⟩, 53) := ⟨⟨by decide +kernel, by decide +kernel⟩, List.mem_of_getElem? (i := 1187) (by decide +kernel), List.mem_of_getElem? (i := 1405) (by decide +kernel), List.mem_of_getElem? (i := 1406) (by decide +kernel)⟩
theorem lw_p54 : lw_okq (⟨"SpeechKeeperModel", "goesOn", "()V"⟩, 53) := ⟨⟨by decide +kernel, by decide +kernel⟩, List.mem_of_getElem? (i := 1187) (by decide +kernel), List.mem_of_getElem? (i := 1409) (by decide +kernel), List.mem_of_getElem? (i := 1410) (by decide +kernel)⟩
theorem lw_p55 : lw_okq (⟨"SpeechKeeperModel", "isSign", "(I)Z"⟩, 53) := ⟨⟨by decide +kernel, by decide +kernel⟩, List.mem_of_getElem? (i := 1187) (by decide +kernel), List.mem_of_getElem? (i := 1413) (by decide +kernel), List.mem_of_getElem? (i := 1414) (by decide +kernel)⟩
theorem lw_p56 : lw_okq (⟨"SpeechKeeperModel", "readsLine", "(II)V"⟩, 53) := ⟨⟨by decide +kernel, by decide +kernel⟩, List.mem_of_getElem? (i := 1187) (by decide +kernel), List.mem_of_getElem? (i := 1417) (by decide +kernel), List.mem_of_getElem? (i := 1418) (by decide +kernel)⟩
theorem lw_p57 : lw_okq (⟨"SpeechKeeperModel", "wordFrom", "(II)J"⟩, 53) := ⟨⟨by decide +kernel, by decide +kernel⟩, List.mem_of_getElem? (i := 1187) (by decide +kernel), List.mem_of_getElem? (i := 1424) (by decide +kernel), List.mem_of_getElem? (i := 1425) (by decide +kernel)⟩
theorem lw_p58 : lw_okq (⟨"SpeechKeeperModel", "linesOf", "(I)I"⟩, 53) := ⟨⟨by decide +kernel, by decide +kernel⟩, List.mem_of_getElem? (i := 1187) (by decide +kernel), List.mem_of_getElem? (i := 1429) (by decide +kernel), List.mem_of_getElem? (i := 1430) (by decide +kernel)⟩
theorem lw_p59 : lw_okq (⟨"SpeechKeeperModel", "copiesText", "(II)V"⟩, 53) := ⟨⟨by decide +kernel, by decide +kernel⟩, List.mem_of_getElem? (i := 1187) (by decide +kernel), List.mem_of_getElem? (i := 1433) (by decide +kernel), List.mem_of_getElem? (i := 1434) (by decide +kernel)⟩
theorem lw_p60 : lw_okq (⟨"SpeechKeeperModel", "clearsText", "(I)V"⟩, 53) := ⟨⟨by decide +kernel, by decide +kernel⟩, List.mem_of_getElem? (i := 1187) (by decide +kernel), List.mem_of_getElem? (i := 1438) (by decide +kernel), List.mem_of_getElem? (i := 1439) (by decide +kernel)⟩
theorem lw_p61 : lw_okq (⟨"SpeechKeeperModel", "laysAll", "()V"⟩, 53) := ⟨⟨by decide +kernel, by decide +kernel⟩, List.mem_of_getElem? (i := 1187) (by decide +kernel), List.mem_of_getElem? (i := 1450) (by decide +kernel), List.mem_of_getElem? (i := 1451) (by decide +kernel)⟩
theorem lw_p62 : lw_okq (⟨"SpeechKeeperModel", "laysBlocks", "()V"⟩, 53) := ⟨⟨by decide +kernel, by decide +kernel⟩, List.mem_of_getElem? (i := 1187) (by decide +kernel), List.mem_of_getElem? (i := 1454) (by decide +kernel), List.mem_of_getElem? (i := 1455) (by decide +kernel)⟩
theorem lw_p63 : lw_okq (⟨"SpeechKeeperModel", "laysChanges", "(I)V"⟩, 53) := ⟨⟨by decide +kernel, by decide +kernel⟩, List.mem_of_getElem? (i := 1187) (by decide +kernel), List.mem_of_getElem? (i := 1458) (by decide +kernel), List.mem_of_getElem? (i := 1459) (by decide +kernel)⟩
def lw_privs_4 : List (MethodName × Nat) := [(⟨"SpeechKeeperModel", "byteAt", "(I)I"⟩, 53), (⟨"SpeechKeeperModel", "readsSetup", "()V"⟩, 53), (⟨"SpeechKeeperModel", "isWord", "(Ljava/lang/String;)Z"⟩, 53), (⟨"SpeechKeeperModel", "isGood", "()Z"⟩, 53), (⟨"SpeechKeeperModel", "must", "(ZI)V"⟩, 53), (⟨"SpeechKeeperModel", "readsLines", "(I)V"⟩, 53), (⟨"SpeechKeeperModel", "goesOn", "()V"⟩, 53), (⟨"SpeechKeeperModel", "isSign", "(I)Z"⟩, 53), (⟨"SpeechKeeperModel", "readsLine", "(II)V"⟩, 53), (⟨"SpeechKeeperModel", "wordFrom", "(II)J"⟩, 53), (⟨"SpeechKeeperModel", "linesOf", "(I)I"⟩, 53), (⟨"SpeechKeeperModel", "copiesText", "(II)V"⟩, 53), (⟨"SpeechKeeperModel", "clearsText", "(I)V"⟩, 53), (⟨"SpeechKeeperModel", "laysAll", "()V"⟩, 53), (⟨"SpeechKeeperModel", "laysBlocks", "()V"⟩, 53), (⟨"SpeechKeeperModel", "laysChanges", "(I)V"⟩, 53)]
theorem lw_r4 : ∀ q ∈ lw_privs_4, lw_okq q := List.forall_mem_cons.mpr ⟨lw_p48, List.forall_mem_cons.mpr ⟨lw_p49, List.forall_mem_cons.mpr ⟨lw_p50, List.forall_mem_cons.mpr ⟨lw_p51, List.forall_mem_cons.mpr ⟨lw_p52, List.forall_mem_cons.mpr ⟨lw_p53, List.forall_mem_cons.mpr ⟨lw_p54, List.forall_mem_cons.mpr ⟨lw_p55, List.forall_mem_cons.mpr ⟨lw_p56, List.forall_mem_cons.mpr ⟨lw_p57, List.forall_mem_cons.mpr ⟨lw_p58, List.forall_mem_cons.mpr ⟨lw_p59, List.forall_mem_cons.mpr ⟨lw_p60, List.forall_mem_cons.mpr ⟨lw_p61, List.forall_mem_cons.mpr ⟨lw_p62, List.forall_mem_cons.mpr ⟨lw_p63, fun _ h => absurd h List.not_mem_nil⟩⟩⟩⟩⟩⟩⟩⟩⟩⟩⟩⟩⟩⟩⟩⟩
theorem lw_p64 : lw_okq (⟨"SpeechKeeperModel", "takesLines", "(II)V"⟩, 53) := ⟨⟨by decide +kernel, by decide +kernel⟩, List.mem_of_getElem? (i := 1187) (by decide +kernel), List.mem_of_getElem? (i := 1462) (by decide +kernel), List.mem_of_getElem? (i := 1463) (by decide +kernel)⟩
theorem lw_p65 : lw_okq (⟨"SpeechKeeperModel", "numberOf", "(II)I"⟩, 53) := ⟨⟨by decide +kernel, by decide +kernel⟩, List.mem_of_getElem? (i := 1187) (by decide +kernel), List.mem_of_getElem? (i := 1466) (by decide +kernel), List.mem_of_getElem? (i := 1467) (by decide +kernel)⟩
theorem lw_p66 : lw_okq (⟨"SpeechKeeperModel", "areEqual", "(IIII)Z"⟩, 53) := ⟨⟨by decide +kernel, by decide +kernel⟩, List.mem_of_getElem? (i := 1187) (by decide +kernel), List.mem_of_getElem? (i := 1470) (by decide +kernel), List.mem_of_getElem? (i := 1471) (by decide +kernel)⟩
theorem lw_p67 : lw_okq (⟨"SpeechKeeperModel", "wordOf", "(III)J"⟩, 53) := ⟨⟨by decide +kernel, by decide +kernel⟩, List.mem_of_getElem? (i := 1187) (by decide +kernel), List.mem_of_getElem? (i := 1474) (by decide +kernel), List.mem_of_getElem? (i := 1475) (by decide +kernel)⟩
theorem lw_p68 : lw_okq (⟨"SpeechKeeperModel", "laysPairs", "()I"⟩, 53) := ⟨⟨by decide +kernel, by decide +kernel⟩, List.mem_of_getElem? (i := 1187) (by decide +kernel), List.mem_of_getElem? (i := 1478) (by decide +kernel), List.mem_of_getElem? (i := 1479) (by decide +kernel)⟩
theorem lw_p69 : lw_okq (⟨"SpeechKeeperModel", "laysTable", "()V"⟩, 53) := ⟨⟨by decide +kernel, by decide +kernel⟩, List.mem_of_getElem? (i := 1187) (by decide +kernel), List.mem_of_getElem? (i := 1482) (by decide +kernel), List.mem_of_getElem? (i := 1483) (by decide +kernel)⟩
theorem lw_p70 : lw_okq (⟨"SpeechKeeperModel", "addsChange", "(IIIII)V"⟩, 53) := ⟨⟨by decide +kernel, by decide +kernel⟩, List.mem_of_getElem? (i := 1187) (by decide +kernel), List.mem_of_getElem? (i := 1487) (by decide +kernel), List.mem_of_getElem? (i := 1488) (by decide +kernel)⟩
theorem lw_p71 : lw_okq (⟨"SpeechKeeperModel", "labels", "()V"⟩, 53) := ⟨⟨by decide +kernel, by decide +kernel⟩, List.mem_of_getElem? (i := 1187) (by decide +kernel), List.mem_of_getElem? (i := 1491) (by decide +kernel), List.mem_of_getElem? (i := 1492) (by decide +kernel)⟩
theorem lw_p72 : lw_okq (⟨"SpeechKeeperModel", "doMeet", "(II)Z"⟩, 53) := ⟨⟨by decide +kernel, by decide +kernel⟩, List.mem_of_getElem? (i := 1187) (by decide +kernel), List.mem_of_getElem? (i := 1495) (by decide +kernel), List.mem_of_getElem? (i := 1496) (by decide +kernel)⟩
theorem lw_p73 : lw_okq (⟨"SpeechKeeperModel", "isInside", "(II)Z"⟩, 53) := ⟨⟨by decide +kernel, by decide +kernel⟩, List.mem_of_getElem? (i := 1187) (by decide +kernel), List.mem_of_getElem? (i := 1500) (by decide +kernel), List.mem_of_getElem? (i := 1501) (by decide +kernel)⟩
theorem lw_p74 : lw_okq (⟨"SpeechKeeperModel", "isChange", "(I)Z"⟩, 53) := ⟨⟨by decide +kernel, by decide +kernel⟩, List.mem_of_getElem? (i := 1187) (by decide +kernel), List.mem_of_getElem? (i := 1504) (by decide +kernel), List.mem_of_getElem? (i := 1505) (by decide +kernel)⟩
theorem lw_p75 : lw_okq (⟨"SpeechKeeperModel", "addsBlock", "(I)V"⟩, 53) := ⟨⟨by decide +kernel, by decide +kernel⟩, List.mem_of_getElem? (i := 1187) (by decide +kernel), List.mem_of_getElem? (i := 1508) (by decide +kernel), List.mem_of_getElem? (i := 1509) (by decide +kernel)⟩
theorem lw_p76 : lw_okq (⟨"SpeechKeeperModel", "boundOf", "(IZ)I"⟩, 53) := ⟨⟨by decide +kernel, by decide +kernel⟩, List.mem_of_getElem? (i := 1187) (by decide +kernel), List.mem_of_getElem? (i := 1512) (by decide +kernel), List.mem_of_getElem? (i := 1513) (by decide +kernel)⟩
theorem lw_p77 : lw_okq (⟨"SpeechKeeperModel", "laysKind", "(I)V"⟩, 53) := ⟨⟨by decide +kernel, by decide +kernel⟩, List.mem_of_getElem? (i := 1187) (by decide +kernel), List.mem_of_getElem? (i := 1516) (by decide +kernel), List.mem_of_getElem? (i := 1517) (by decide +kernel)⟩
theorem lw_p78 : lw_okq (⟨"SpeechKeeperModel", "laysSide", "(II)V"⟩, 53) := ⟨⟨by decide +kernel, by decide +kernel⟩, List.mem_of_getElem? (i := 1187) (by decide +kernel), List.mem_of_getElem? (i := 1520) (by decide +kernel), List.mem_of_getElem? (i := 1521) (by decide +kernel)⟩
theorem lw_p79 : lw_okq (⟨"SpeechKeeperModel", "isOf", "(II)Z"⟩, 53) := ⟨⟨by decide +kernel, by decide +kernel⟩, List.mem_of_getElem? (i := 1187) (by decide +kernel), List.mem_of_getElem? (i := 1524) (by decide +kernel), List.mem_of_getElem? (i := 1525) (by decide +kernel)⟩
def lw_privs_5 : List (MethodName × Nat) := [(⟨"SpeechKeeperModel", "takesLines", "(II)V"⟩, 53), (⟨"SpeechKeeperModel", "numberOf", "(II)I"⟩, 53), (⟨"SpeechKeeperModel", "areEqual", "(IIII)Z"⟩, 53), (⟨"SpeechKeeperModel", "wordOf", "(III)J"⟩, 53), (⟨"SpeechKeeperModel", "laysPairs", "()I"⟩, 53), (⟨"SpeechKeeperModel", "laysTable", "()V"⟩, 53), (⟨"SpeechKeeperModel", "addsChange", "(IIIII)V"⟩, 53), (⟨"SpeechKeeperModel", "labels", "()V"⟩, 53), (⟨"SpeechKeeperModel", "doMeet", "(II)Z"⟩, 53), (⟨"SpeechKeeperModel", "isInside", "(II)Z"⟩, 53), (⟨"SpeechKeeperModel", "isChange", "(I)Z"⟩, 53), (⟨"SpeechKeeperModel", "addsBlock", "(I)V"⟩, 53), (⟨"SpeechKeeperModel", "boundOf", "(IZ)I"⟩, 53), (⟨"SpeechKeeperModel", "laysKind", "(I)V"⟩, 53), (⟨"SpeechKeeperModel", "laysSide", "(II)V"⟩, 53), (⟨"SpeechKeeperModel", "isOf", "(II)Z"⟩, 53)]
theorem lw_r5 : ∀ q ∈ lw_privs_5, lw_okq q := List.forall_mem_cons.mpr ⟨lw_p64, List.forall_mem_cons.mpr ⟨lw_p65, List.forall_mem_cons.mpr ⟨lw_p66, List.forall_mem_cons.mpr ⟨lw_p67, List.forall_mem_cons.mpr ⟨lw_p68, List.forall_mem_cons.mpr ⟨lw_p69, List.forall_mem_cons.mpr ⟨lw_p70, List.forall_mem_cons.mpr ⟨lw_p71, List.forall_mem_cons.mpr ⟨lw_p72, List.forall_mem_cons.mpr ⟨lw_p73, List.forall_mem_cons.mpr ⟨lw_p74, List.forall_mem_cons.mpr ⟨lw_p75, List.forall_mem_cons.mpr ⟨lw_p76, List.forall_mem_cons.mpr ⟨lw_p77, List.forall_mem_cons.mpr ⟨lw_p78, List.forall_mem_cons.mpr ⟨lw_p79, fun _ h => absurd h List.not_mem_nil⟩⟩⟩⟩⟩⟩⟩⟩⟩⟩⟩⟩⟩⟩⟩⟩
theorem lw_p80 : lw_okq (⟨"SpeechKeeperModel", "addsSide", "(IIII)V"⟩, 53) := ⟨⟨by decide +kernel, by decide +kernel⟩, List.mem_of_getElem? (i := 1187) (by decide +kernel), List.mem_of_getElem? (i := 1528) (by decide +kernel), List.mem_of_getElem? (i := 1529) (by decide +kernel)⟩
theorem lw_p81 : lw_okq (⟨"SpeechKeeperModel", "changesIn", "(II)I"⟩, 53) := ⟨⟨by decide +kernel, by decide +kernel⟩, List.mem_of_getElem? (i := 1187) (by decide +kernel), List.mem_of_getElem? (i := 1532) (by decide +kernel), List.mem_of_getElem? (i := 1533) (by decide +kernel)⟩
theorem lw_p82 : lw_okq (⟨"SpeechKeeperModel", "areSides", "()Z"⟩, 53) := ⟨⟨by decide +kernel, by decide +kernel⟩, List.mem_of_getElem? (i := 1187) (by decide +kernel), List.mem_of_getElem? (i := 1536) (by decide +kernel), List.mem_of_getElem? (i := 1537) (by decide +kernel)⟩
theorem lw_p83 : lw_okq (⟨"SpeechKeeperModel", "wordsOfSide", "(I)I"⟩, 53) := ⟨⟨by decide +kernel, by decide +kernel⟩, List.mem_of_getElem? (i := 1187) (by decide +kernel), List.mem_of_getElem? (i := 1540) (by decide +kernel), List.mem_of_getElem? (i := 1541) (by decide +kernel)⟩
theorem lw_p84 : lw_okq (⟨"SpeechKeeperModel", "wordsIn", "(II)I"⟩, 53) := ⟨⟨by decide +kernel, by decide +kernel⟩, List.mem_of_getElem? (i := 1187) (by decide +kernel), List.mem_of_getElem? (i := 1544) (by decide +kernel), List.mem_of_getElem? (i := 1545) (by decide +kernel)⟩
theorem lw_p85 : lw_okq (⟨"SpeechKeeperModel", "addsBase", "(II)V"⟩, 53) := ⟨⟨by decide +kernel, by decide +kernel⟩, List.mem_of_getElem? (i := 1187) (by decide +kernel), List.mem_of_getElem? (i := 1548) (by decide +kernel), List.mem_of_getElem? (i := 1549) (by decide +kernel)⟩
theorem lw_p86 : lw_okq (⟨"SpeechKeeperModel", "addsLine", "(II)V"⟩, 53) := ⟨⟨by decide +kernel, by decide +kernel⟩, List.mem_of_getElem? (i := 1187) (by decide +kernel), List.mem_of_getElem? (i := 1552) (by decide +kernel), List.mem_of_getElem? (i := 1553) (by decide +kernel)⟩
theorem lw_p87 : lw_okq (⟨"SpeechKeeperModel", "authorOf", "(III)I"⟩, 53) := ⟨⟨by decide +kernel, by decide +kernel⟩, List.mem_of_getElem? (i := 1187) (by decide +kernel), List.mem_of_getElem? (i := 1556) (by decide +kernel), List.mem_of_getElem? (i := 1557) (by decide +kernel)⟩
theorem lw_p88 : lw_okq (⟨"SpeechKeeperModel", "addsBlockText", "(I)V"⟩, 53) := ⟨⟨by decide +kernel, by decide +kernel⟩, List.mem_of_getElem? (i := 1187) (by decide +kernel), List.mem_of_getElem? (i := 1560) (by decide +kernel), List.mem_of_getElem? (i := 1561) (by decide +kernel)⟩
theorem lw_p89 : lw_okq (⟨"SpeechKeeperModel", "decisionOf", "(I)I"⟩, 53) := ⟨⟨by decide +kernel, by decide +kernel⟩, List.mem_of_getElem? (i := 1187) (by decide +kernel), List.mem_of_getElem? (i := 1564) (by decide +kernel), List.mem_of_getElem? (i := 1565) (by decide +kernel)⟩
theorem lw_p90 : lw_okq (⟨"SpeechKeeperModel", "addsWhole", "(III)V"⟩, 53) := ⟨⟨by decide +kernel, by decide +kernel⟩, List.mem_of_getElem? (i := 1187) (by decide +kernel), List.mem_of_getElem? (i := 1568) (by decide +kernel), List.mem_of_getElem? (i := 1569) (by decide +kernel)⟩
theorem lw_p91 : lw_okq (⟨"SpeechKeeperModel", "takesBaseWords", "(II)V"⟩, 53) := ⟨⟨by decide +kernel, by decide +kernel⟩, List.mem_of_getElem? (i := 1187) (by decide +kernel), List.mem_of_getElem? (i := 1572) (by decide +kernel), List.mem_of_getElem? (i := 1573) (by decide +kernel)⟩
theorem lw_p92 : lw_okq (⟨"SpeechKeeperModel", "sizeOf", "(I)I"⟩, 53) := ⟨⟨by decide +kernel, by decide +kernel⟩, List.mem_of_getElem? (i := 1187) (by decide +kernel), List.mem_of_getElem? (i := 1577) (by decide +kernel), List.mem_of_getElem? (i := 1578) (by decide +kernel)⟩
theorem lw_p93 : lw_okq (⟨"SpeechKeeperModel", "ofKind", "(I)I"⟩, 53) := ⟨⟨by decide +kernel, by decide +kernel⟩, List.mem_of_getElem? (i := 1187) (by decide +kernel), List.mem_of_getElem? (i := 1581) (by decide +kernel), List.mem_of_getElem? (i := 1582) (by decide +kernel)⟩
theorem lw_p94 : lw_okq (⟨"SpeechKeeperModel", "openOnes", "()I"⟩, 53) := ⟨⟨by decide +kernel, by decide +kernel⟩, List.mem_of_getElem? (i := 1187) (by decide +kernel), List.mem_of_getElem? (i := 1585) (by decide +kernel), List.mem_of_getElem? (i := 1586) (by decide +kernel)⟩
theorem lw_p95 : lw_okq (⟨"SpeechKeeperModel", "isLine", "(II)Z"⟩, 53) := ⟨⟨by decide +kernel, by decide +kernel⟩, List.mem_of_getElem? (i := 1187) (by decide +kernel), List.mem_of_getElem? (i := 1597) (by decide +kernel), List.mem_of_getElem? (i := 1598) (by decide +kernel)⟩
def lw_privs_6 : List (MethodName × Nat) := [(⟨"SpeechKeeperModel", "addsSide", "(IIII)V"⟩, 53), (⟨"SpeechKeeperModel", "changesIn", "(II)I"⟩, 53), (⟨"SpeechKeeperModel", "areSides", "()Z"⟩, 53), (⟨"SpeechKeeperModel", "wordsOfSide", "(I)I"⟩, 53), (⟨"SpeechKeeperModel", "wordsIn", "(II)I"⟩, 53), (⟨"SpeechKeeperModel", "addsBase", "(II)V"⟩, 53), (⟨"SpeechKeeperModel", "addsLine", "(II)V"⟩, 53), (⟨"SpeechKeeperModel", "authorOf", "(III)I"⟩, 53), (⟨"SpeechKeeperModel", "addsBlockText", "(I)V"⟩, 53), (⟨"SpeechKeeperModel", "decisionOf", "(I)I"⟩, 53), (⟨"SpeechKeeperModel", "addsWhole", "(III)V"⟩, 53), (⟨"SpeechKeeperModel", "takesBaseWords", "(II)V"⟩, 53), (⟨"SpeechKeeperModel", "sizeOf", "(I)I"⟩, 53), (⟨"SpeechKeeperModel", "ofKind", "(I)I"⟩, 53), (⟨"SpeechKeeperModel", "openOnes", "()I"⟩, 53), (⟨"SpeechKeeperModel", "isLine", "(II)Z"⟩, 53)]
theorem lw_r6 : ∀ q ∈ lw_privs_6, lw_okq q := List.forall_mem_cons.mpr ⟨lw_p80, List.forall_mem_cons.mpr ⟨lw_p81, List.forall_mem_cons.mpr ⟨lw_p82, List.forall_mem_cons.mpr ⟨lw_p83, List.forall_mem_cons.mpr ⟨lw_p84, List.forall_mem_cons.mpr ⟨lw_p85, List.forall_mem_cons.mpr ⟨lw_p86, List.forall_mem_cons.mpr ⟨lw_p87, List.forall_mem_cons.mpr ⟨lw_p88, List.forall_mem_cons.mpr ⟨lw_p89, List.forall_mem_cons.mpr ⟨lw_p90, List.forall_mem_cons.mpr ⟨lw_p91, List.forall_mem_cons.mpr ⟨lw_p92, List.forall_mem_cons.mpr ⟨lw_p93, List.forall_mem_cons.mpr ⟨lw_p94, List.forall_mem_cons.mpr ⟨lw_p95, fun _ h => absurd h List.not_mem_nil⟩⟩⟩⟩⟩⟩⟩⟩⟩⟩⟩⟩⟩⟩⟩⟩
theorem lw_p96 : lw_okq (⟨"SpeechKeeperModel", "refuses", "(ZI)Z"⟩, 53) := ⟨⟨by decide +kernel, by decide +kernel⟩, List.mem_of_getElem? (i := 1187) (by decide +kernel), List.mem_of_getElem? (i := 1601) (by decide +kernel), List.mem_of_getElem? (i := 1602) (by decide +kernel)⟩
theorem lw_p97 : lw_okq (⟨"SpeechKeeperModel", "lettersOf", "(II)I"⟩, 53) := ⟨⟨by decide +kernel, by decide +kernel⟩, List.mem_of_getElem? (i := 1187) (by decide +kernel), List.mem_of_getElem? (i := 1605) (by decide +kernel), List.mem_of_getElem? (i := 1606) (by decide +kernel)⟩
theorem lw_p98 : lw_okq (⟨"SpeechKeeperModel", "isWordOf", "(III)Z"⟩, 53) := ⟨⟨by decide +kernel, by decide +kernel⟩, List.mem_of_getElem? (i := 1187) (by decide +kernel), List.mem_of_getElem? (i := 1616) (by decide +kernel), List.mem_of_getElem? (i := 1617) (by decide +kernel)⟩
theorem lw_p99 : lw_okq (⟨"SpeechKeeperModel", "noChange", "(II)Z"⟩, 53) := ⟨⟨by decide +kernel, by decide +kernel⟩, List.mem_of_getElem? (i := 1187) (by decide +kernel), List.mem_of_getElem? (i := 1631) (by decide +kernel), List.mem_of_getElem? (i := 1632) (by decide +kernel)⟩
theorem lw_p100 : lw_okq (⟨"SpeechKeeperModel", "noBlock", "(I)Z"⟩, 53) := ⟨⟨by decide +kernel, by decide +kernel⟩, List.mem_of_getElem? (i := 1187) (by decide +kernel), List.mem_of_getElem? (i := 1647) (by decide +kernel), List.mem_of_getElem? (i := 1648) (by decide +kernel)⟩
theorem lw_p101 : lw_okq (⟨"SpeechKeeperModel", "ofBlock", "(II)I"⟩, 53) := ⟨⟨by decide +kernel, by decide +kernel⟩, List.mem_of_getElem? (i := 1187) (by decide +kernel), List.mem_of_getElem? (i := 1652) (by decide +kernel), List.mem_of_getElem? (i := 1653) (by decide +kernel)⟩
theorem lw_p102 : lw_okq (⟨"SpeechKeeperModel", "takesWords", "(IIII)V"⟩, 53) := ⟨⟨by decide +kernel, by decide +kernel⟩, List.mem_of_getElem? (i := 1187) (by decide +kernel), List.mem_of_getElem? (i := 1660) (by decide +kernel), List.mem_of_getElem? (i := 1661) (by decide +kernel)⟩
theorem lw_p103 : lw_okq (⟨"SpeechKeeperModel", "areLetters", "(I)Z"⟩, 53) := ⟨⟨by decide +kernel, by decide +kernel⟩, List.mem_of_getElem? (i := 1187) (by decide +kernel), List.mem_of_getElem? (i := 1669) (by decide +kernel), List.mem_of_getElem? (i := 1670) (by decide +kernel)⟩
theorem lw_p104 : lw_okq (⟨"SpeechKeeperModel", "timesOf", "(IJ)I"⟩, 53) := ⟨⟨by decide +kernel, by decide +kernel⟩, List.mem_of_getElem? (i := 1187) (by decide +kernel), List.mem_of_getElem? (i := 1673) (by decide +kernel), List.mem_of_getElem? (i := 1674) (by decide +kernel)⟩
theorem lw_p105 : lw_okq (⟨"SpeechKeeperModel", "allWords", "(I)I"⟩, 53) := ⟨⟨by decide +kernel, by decide +kernel⟩, List.mem_of_getElem? (i := 1187) (by decide +kernel), List.mem_of_getElem? (i := 1681) (by decide +kernel), List.mem_of_getElem? (i := 1682) (by decide +kernel)⟩
theorem lw_p106 : lw_okq (⟨"SpeechKeeperModel", "noLine", "(II)Z"⟩, 53) := ⟨⟨by decide +kernel, by decide +kernel⟩, List.mem_of_getElem? (i := 1187) (by decide +kernel), List.mem_of_getElem? (i := 1697) (by decide +kernel), List.mem_of_getElem? (i := 1698) (by decide +kernel)⟩
theorem lw_p107 : lw_okq (⟨"SpeechKeeperModel", "takesOut", "(II)V"⟩, 53) := ⟨⟨by decide +kernel, by decide +kernel⟩, List.mem_of_getElem? (i := 1187) (by decide +kernel), List.mem_of_getElem? (i := 1701) (by decide +kernel), List.mem_of_getElem? (i := 1702) (by decide +kernel)⟩
theorem lw_p108 : lw_okq (⟨"SpeechKeeperModel", "findsMate", "(I)Z"⟩, 53) := ⟨⟨by decide +kernel, by decide +kernel⟩, List.mem_of_getElem? (i := 1187) (by decide +kernel), List.mem_of_getElem? (i := 1709) (by decide +kernel), List.mem_of_getElem? (i := 1710) (by decide +kernel)⟩
theorem lw_p109 : lw_okq (⟨"SpeechKeeperModel", "areBound", "(II)Z"⟩, 53) := ⟨⟨by decide +kernel, by decide +kernel⟩, List.mem_of_getElem? (i := 1187) (by decide +kernel), List.mem_of_getElem? (i := 1713) (by decide +kernel), List.mem_of_getElem? (i := 1714) (by decide +kernel)⟩
theorem lw_p110 : lw_okq (⟨"SpeechKeeperModel", "changesMates", "(II)V"⟩, 53) := ⟨⟨by decide +kernel, by decide +kernel⟩, List.mem_of_getElem? (i := 1187) (by decide +kernel), List.mem_of_getElem? (i := 1717) (by decide +kernel), List.mem_of_getElem? (i := 1718) (by decide +kernel)⟩
theorem lw_p111 : lw_okq (⟨"SpeechKeeperModel", "fixedOnes", "(Z)I"⟩, 53) := ⟨⟨by decide +kernel, by decide +kernel⟩, List.mem_of_getElem? (i := 1187) (by decide +kernel), List.mem_of_getElem? (i := 1725) (by decide +kernel), List.mem_of_getElem? (i := 1726) (by decide +kernel)⟩
def lw_privs_7 : List (MethodName × Nat) := [(⟨"SpeechKeeperModel", "refuses", "(ZI)Z"⟩, 53), (⟨"SpeechKeeperModel", "lettersOf", "(II)I"⟩, 53), (⟨"SpeechKeeperModel", "isWordOf", "(III)Z"⟩, 53), (⟨"SpeechKeeperModel", "noChange", "(II)Z"⟩, 53), (⟨"SpeechKeeperModel", "noBlock", "(I)Z"⟩, 53), (⟨"SpeechKeeperModel", "ofBlock", "(II)I"⟩, 53), (⟨"SpeechKeeperModel", "takesWords", "(IIII)V"⟩, 53), (⟨"SpeechKeeperModel", "areLetters", "(I)Z"⟩, 53), (⟨"SpeechKeeperModel", "timesOf", "(IJ)I"⟩, 53), (⟨"SpeechKeeperModel", "allWords", "(I)I"⟩, 53), (⟨"SpeechKeeperModel", "noLine", "(II)Z"⟩, 53), (⟨"SpeechKeeperModel", "takesOut", "(II)V"⟩, 53), (⟨"SpeechKeeperModel", "findsMate", "(I)Z"⟩, 53), (⟨"SpeechKeeperModel", "areBound", "(II)Z"⟩, 53), (⟨"SpeechKeeperModel", "changesMates", "(II)V"⟩, 53), (⟨"SpeechKeeperModel", "fixedOnes", "(Z)I"⟩, 53)]
theorem lw_r7 : ∀ q ∈ lw_privs_7, lw_okq q := List.forall_mem_cons.mpr ⟨lw_p96, List.forall_mem_cons.mpr ⟨lw_p97, List.forall_mem_cons.mpr ⟨lw_p98, List.forall_mem_cons.mpr ⟨lw_p99, List.forall_mem_cons.mpr ⟨lw_p100, List.forall_mem_cons.mpr ⟨lw_p101, List.forall_mem_cons.mpr ⟨lw_p102, List.forall_mem_cons.mpr ⟨lw_p103, List.forall_mem_cons.mpr ⟨lw_p104, List.forall_mem_cons.mpr ⟨lw_p105, List.forall_mem_cons.mpr ⟨lw_p106, List.forall_mem_cons.mpr ⟨lw_p107, List.forall_mem_cons.mpr ⟨lw_p108, List.forall_mem_cons.mpr ⟨lw_p109, List.forall_mem_cons.mpr ⟨lw_p110, List.forall_mem_cons.mpr ⟨lw_p111, fun _ h => absurd h List.not_mem_nil⟩⟩⟩⟩⟩⟩⟩⟩⟩⟩⟩⟩⟩⟩⟩⟩
theorem lw_p112 : lw_okq (⟨"SpeechKeeperModel", "wordsBetween", "(II)I"⟩, 53) := ⟨⟨by decide +kernel, by decide +kernel⟩, List.mem_of_getElem? (i := 1187) (by decide +kernel), List.mem_of_getElem? (i := 1729) (by decide +kernel), List.mem_of_getElem? (i := 1730) (by decide +kernel)⟩
theorem lw_p113 : lw_okq (⟨"SpeechKeeperModel", "wordsBy", "(II)I"⟩, 53) := ⟨⟨by decide +kernel, by decide +kernel⟩, List.mem_of_getElem? (i := 1187) (by decide +kernel), List.mem_of_getElem? (i := 1733) (by decide +kernel), List.mem_of_getElem? (i := 1734) (by decide +kernel)⟩
theorem lw_p114 : lw_okq (⟨"SpeechKeeperModel", "linesBy", "(II)I"⟩, 53) := ⟨⟨by decide +kernel, by decide +kernel⟩, List.mem_of_getElem? (i := 1187) (by decide +kernel), List.mem_of_getElem? (i := 1737) (by decide +kernel), List.mem_of_getElem? (i := 1738) (by decide +kernel)⟩
theorem lw_p115 : lw_okq (⟨"SpeechKeeperModel", "decidesBest", "(I)V"⟩, 53) := ⟨⟨by decide +kernel, by decide +kernel⟩, List.mem_of_getElem? (i := 1187) (by decide +kernel), List.mem_of_getElem? (i := 1745) (by decide +kernel), List.mem_of_getElem? (i := 1746) (by decide +kernel)⟩
theorem lw_p116 : lw_okq (⟨"SpeechKeeperModel", "areNone", "(I)Z"⟩, 53) := ⟨⟨by decide +kernel, by decide +kernel⟩, List.mem_of_getElem? (i := 1187) (by decide +kernel), List.mem_of_getElem? (i := 1753) (by decide +kernel), List.mem_of_getElem? (i := 1754) (by decide +kernel)⟩
theorem lw_p117 : lw_okq (⟨"SpeechKeeperModel", "areLine", "(I)Z"⟩, 53) := ⟨⟨by decide +kernel, by decide +kernel⟩, List.mem_of_getElem? (i := 1187) (by decide +kernel), List.mem_of_getElem? (i := 1757) (by decide +kernel), List.mem_of_getElem? (i := 1758) (by decide +kernel)⟩
theorem lw_p118 : lw_okq (⟨"SpeechKeeperModel", "changesText", "()V"⟩, 53) := ⟨⟨by decide +kernel, by decide +kernel⟩, List.mem_of_getElem? (i := 1187) (by decide +kernel), List.mem_of_getElem? (i := 1761) (by decide +kernel), List.mem_of_getElem? (i := 1762) (by decide +kernel)⟩
theorem lw_p119 : lw_okq (⟨"SpeechKeeperModel", "keeps", "()V"⟩, 53) := ⟨⟨by decide +kernel, by decide +kernel⟩, List.mem_of_getElem? (i := 1187) (by decide +kernel), List.mem_of_getElem? (i := 1765) (by decide +kernel), List.mem_of_getElem? (i := 1766) (by decide +kernel)⟩
theorem lw_p120 : lw_okq (⟨"SpeechKeeperModel", "putsIn", "(II)V"⟩, 53) := ⟨⟨by decide +kernel, by decide +kernel⟩, List.mem_of_getElem? (i := 1187) (by decide +kernel), List.mem_of_getElem? (i := 1769) (by decide +kernel), List.mem_of_getElem? (i := 1770) (by decide +kernel)⟩
theorem lw_p121 : lw_okq (⟨"SpeechKeeperModel", "putsWords", "(III)V"⟩, 53) := ⟨⟨by decide +kernel, by decide +kernel⟩, List.mem_of_getElem? (i := 1187) (by decide +kernel), List.mem_of_getElem? (i := 1773) (by decide +kernel), List.mem_of_getElem? (i := 1774) (by decide +kernel)⟩
theorem lw_p122 : lw_okq (⟨"SpeechKeeperModel", "changesOf", "(I)I"⟩, 53) := ⟨⟨by decide +kernel, by decide +kernel⟩, List.mem_of_getElem? (i := 1187) (by decide +kernel), List.mem_of_getElem? (i := 1793) (by decide +kernel), List.mem_of_getElem? (i := 1794) (by decide +kernel)⟩
theorem lw_p123 : lw_okq (⟨"SpeechKeeperModel", "writes", "(I)V"⟩, 53) := ⟨⟨by decide +kernel, by decide +kernel⟩, List.mem_of_getElem? (i := 1187) (by decide +kernel), List.mem_of_getElem? (i := 1821) (by decide +kernel), List.mem_of_getElem? (i := 1822) (by decide +kernel)⟩
theorem lw_p124 : lw_okq (⟨"SpeechKeeperModel", "writesWord", "(III)V"⟩, 53) := ⟨⟨by decide +kernel, by decide +kernel⟩, List.mem_of_getElem? (i := 1187) (by decide +kernel), List.mem_of_getElem? (i := 1825) (by decide +kernel), List.mem_of_getElem? (i := 1826) (by decide +kernel)⟩
theorem lw_p125 : lw_okq (⟨"SpeechKeeperModel", "checked", "(JII)J"⟩, 53) := ⟨⟨by decide +kernel, by decide +kernel⟩, List.mem_of_getElem? (i := 1187) (by decide +kernel), List.mem_of_getElem? (i := 1850) (by decide +kernel), List.mem_of_getElem? (i := 1851) (by decide +kernel)⟩
def lw_privs_8 : List (MethodName × Nat) := [(⟨"SpeechKeeperModel", "wordsBetween", "(II)I"⟩, 53), (⟨"SpeechKeeperModel", "wordsBy", "(II)I"⟩, 53), (⟨"SpeechKeeperModel", "linesBy", "(II)I"⟩, 53), (⟨"SpeechKeeperModel", "decidesBest", "(I)V"⟩, 53), (⟨"SpeechKeeperModel", "areNone", "(I)Z"⟩, 53), (⟨"SpeechKeeperModel", "areLine", "(I)Z"⟩, 53), (⟨"SpeechKeeperModel", "changesText", "()V"⟩, 53), (⟨"SpeechKeeperModel", "keeps", "()V"⟩, 53), (⟨"SpeechKeeperModel", "putsIn", "(II)V"⟩, 53), (⟨"SpeechKeeperModel", "putsWords", "(III)V"⟩, 53), (⟨"SpeechKeeperModel", "changesOf", "(I)I"⟩, 53), (⟨"SpeechKeeperModel", "writes", "(I)V"⟩, 53), (⟨"SpeechKeeperModel", "writesWord", "(III)V"⟩, 53), (⟨"SpeechKeeperModel", "checked", "(JII)J"⟩, 53)]
theorem lw_r8 : ∀ q ∈ lw_privs_8, lw_okq q := List.forall_mem_cons.mpr ⟨lw_p112, List.forall_mem_cons.mpr ⟨lw_p113, List.forall_mem_cons.mpr ⟨lw_p114, List.forall_mem_cons.mpr ⟨lw_p115, List.forall_mem_cons.mpr ⟨lw_p116, List.forall_mem_cons.mpr ⟨lw_p117, List.forall_mem_cons.mpr ⟨lw_p118, List.forall_mem_cons.mpr ⟨lw_p119, List.forall_mem_cons.mpr ⟨lw_p120, List.forall_mem_cons.mpr ⟨lw_p121, List.forall_mem_cons.mpr ⟨lw_p122, List.forall_mem_cons.mpr ⟨lw_p123, List.forall_mem_cons.mpr ⟨lw_p124, List.forall_mem_cons.mpr ⟨lw_p125, fun _ h => absurd h List.not_mem_nil⟩⟩⟩⟩⟩⟩⟩⟩⟩⟩⟩⟩⟩⟩
def lw_privs : List (MethodName × Nat) := lw_privs_1 ++ (lw_privs_2 ++ (lw_privs_3 ++ (lw_privs_4 ++ (lw_privs_5 ++ (lw_privs_6 ++ (lw_privs_7 ++ (lw_privs_8)))))))
def lw_tbl : List Cond := k2_sels lw_privs ++ tables_1
theorem lw_privs_ok : ∀ q ∈ lw_privs, lw_okq q := by
  show ∀ q ∈ lw_privs_1 ++ (lw_privs_2 ++ (lw_privs_3 ++ (lw_privs_4 ++ (lw_privs_5 ++ (lw_privs_6 ++ (lw_privs_7 ++ (lw_privs_8))))))), lw_okq q
  exact List.forall_mem_append.mpr ⟨lw_r1, List.forall_mem_append.mpr ⟨lw_r2, List.forall_mem_append.mpr ⟨lw_r3, List.forall_mem_append.mpr ⟨lw_r4, List.forall_mem_append.mpr ⟨lw_r5, List.forall_mem_append.mpr ⟨lw_r6, List.forall_mem_append.mpr ⟨lw_r7, lw_r8⟩⟩⟩⟩⟩⟩⟩
/-- the streams that the claim lets the run draw from -/
abbrev lw_cs : List Choice := [Jvm.Choice.named "NaN.bits"]
theorem lw_bits : nanBits ∈ lw_cs := by first | decide | exact List.mem_cons_self | simp [lw_cs, nanBits]
-- ===== end of PART A; then your names; then what follows =====
end
section
/-! ===== BEGIN words of one list among another's, by their places ===== -/
theorem goodIn_r {big : List Cond} (ws : List Cond) (ps : List Nat) (hp : ws = ps.filterMap (fun i => big[i]?)) (h : ws.all goodWord = true) : GoodIn big ws := by
  intro w hw
  have h1 := List.all_eq_true.mp h w hw
  rw [hp] at hw
  obtain ⟨i, -, hi⟩ := List.mem_filterMap.mp hw
  have hm : w ∈ big := by first | exact List.mem_of_getElem? hi | exact List.getElem?_mem hi
  exact ⟨hm, good_of_word h1⟩
theorem goodIn_app {big a b : List Cond} (ha : GoodIn big a) (hb : GoodIn big b) : GoodIn big (a ++ b) := fun w h => (List.mem_append.mp h).elim (ha w) (hb w)
theorem goodIn_ca {big a b : List Cond} {c : Cond} (ha : GoodIn big (c :: a)) (hb : GoodIn big b) : GoodIn big (c :: (a ++ b)) := fun w h => (List.mem_cons.mp h).elim (fun e => ha w (List.mem_cons.mpr (Or.inl e))) (fun h => (List.mem_append.mp h).elim (fun h => ha w (List.mem_cons.mpr (Or.inr h))) (hb w))
theorem goodIn_sub {big ws : List Cond} (hm : ∀ w ∈ ws, w ∈ big) (h : ws.all goodWord = true) : GoodIn big ws := fun w hw => ⟨hm w hw, good_of_word (List.all_eq_true.mp h w hw)⟩
/-! ===== END ===== -/

/-! ===== BEGIN exceptions that leave a method, and their catching by the caller (launches without stack traces) ===== -/
section VXA
/-! The laws vx_back, vx_callV, vx_callS, vx_callSW, vx_throw0, vx_throwS follow proofs of the library, with one case more: JvmDerived/Free/Laws.lean (Back.of_free), Shelf42/LK1.lean (callV, callS), Shelf/KitTraced.lean (throwNew0V, throwNewS). -/
/-- where a method has thrown q: the class by its name, the cell, what was written, the world -/
def vx_T (XC : String → State → State → Prop) (st : State) (q : Addr) (t : State) (mc ms : Nat) (free : Addr → Prop) : Prop :=
  ∃ (E : String) (ce : Cell) (L : List Loc), XC E st t ∧ t.heap[q]? = some ce ∧ ce.vm = .none ∧ st.vm.findClass E = some ce.cls ∧ st.WarmedH t.vm ∧ st.sameButNew ({ t with vm := st.vm } : State) L mc ms ∧ ∀ z ∈ L, free z.base
def vx_Q (Qc : Array Value → State → Outcome → State → Prop) (XC : String → State → State → Prop) (mc ms : Nat) (free : Addr → Prop) : Array Value → State → Outcome → State → Prop := fun a st o t =>
  (Qc a st o t ∧ ∃ L, FrameEnd st o t L mc ms ∧ ∀ q ∈ L, free q.base) ∨ ∃ q, o = .threw q ∧ vx_T XC st q t mc ms free
/-- a callee that returns or throws -/
def vx_Met (l : Launch) (y : MethodName) (ws : List Cond) (rm : Room) (Pc : Array Value → State → Prop) (Qc : Array Value → State → Outcome → State → Prop) (XC : String → State → State → Prop) (mc ms : Nat) (free : Addr → Prop) : Prop :=
  MetFree l y (headSpec ws rm) Pc (fun _ _ _ _ _ => True) (vx_Q Qc XC mc ms free)
def vx_Post (XC : String → State → State → Prop) (mc ms : Nat) (free : Addr → Prop) : Pt → Array Value → Addr → Pt → Prop := fun A a q B =>
  ∃ (g : JFrame) (mk : MethodId) (t : State) (L : List Loc) (E : String) (ce : Cell), B.U.heap = t.heap ∧ B.U.vm = t.vm ∧ XC E (A.U.calling g mk a) t ∧ t.heap[q]? = some ce ∧ ce.vm = .none ∧ A.U.vm.findClass E = some ce.cls ∧ B.locs = A.locs ++ L ∧ (∀ z ∈ L, free z.base) ∧ B.cells = A.cells + mc ∧ B.slots = A.slots + ms
def vx_Back (l : Launch) (R : Room) (p : Program) (e : Env) (below : List Frame) (s : State) (sargs : Array Value) (y : MethodName) (len W9 : Nat)
    (Pre : Pt → Array Value → Prop) (Post : Pt → Array Value → Option Value → Pt → Prop) (PostX : Pt → Array Value → Addr → Pt → Prop) : Prop :=
  ∀ (m : MethodId) (meth : Method) (c : Code) (A : Pt) (g : JFrame) (ig : Instr) (mk : MethodId) (a : Array Value),
    Stand p l e R s m sargs below meth c A.U A.locs A.cells A.slots → g.method = m → g.locals.size = c.maxLocals → decode c.code g.pc = .ok (ig, len) →
    2 * g.monitorRoom + (g.stack.map fun v => v.category).sum ≤ W9 → A.U.methodNamed? y = some mk → Pre A a →
    (∃ (v : Option Value) (B : Pt), Stand p l e R s m sargs below meth c B.U B.locs B.cells B.slots ∧ Post A a v B ∧
      Steps p.tables e below (doInvoke e (A.U.setTop g) [] mk a).1 (B.U.setTop { g with pc := g.pc + len, stack := v.toList ++ g.stack })) ∨
    (∃ (q : Addr) (B : Pt), Stand p l e R s m sargs below meth c B.U B.locs B.cells B.slots ∧ PostX A a q B ∧
      Steps p.tables e below (doInvoke e (A.U.setTop g) [] mk a).1 ((B.U.setTop g).pushFrame (.throwing q)))
section Payer
variable {l : Launch} {R : Room} {p : Program} {e : Env} {below : List Frame} {s : State} {sargs : Array Value} {y : MethodName} {len W9 : Nat}
theorem vx_back {ws : List Cond} {rm : Room} {Pc : Array Value → State → Prop} {Qc : Array Value → State → Outcome → State → Prop} {XC : String → State → State → Prop} {mc ms : Nat} {free : Addr → Prop} {bytes : ByteArray} {maxL : Nat} {ret : Option FieldType}
    (hM : vx_Met l y ws rm Pc Qc XC mc ms free) (hblind : FrameBlind Pc) (hrc : rm.cells = mc) (hrs : rm.slots = ms)
    (hframes : rm.frames + 1 ≤ R.frames) (hlocals : W9 + (maxL + 11) + rm.locals ≤ R.locals)
    (hws : ∀ w ∈ ws, ∀ a' U, s.WarmedH U.vm → w.before a' U = true) (hcode : Cond.code y bytes maxL ret ∈ ws) (hinit : ∀ a' U, s.WarmedH U.vm → (Cond.initialized y.cls).before a' U = true) :
    vx_Back l R p e below s sargs y len W9 (PreOf R mc ms Pc) (PostOf Qc mc ms free) (vx_Post XC mc ms free) := by
  intro m meth c A g ig mk a X hg hsize hdg hW hn hp
  have h1 : (headSpec ws rm).pre.before a A.U = true := atoms_intro fun w hw => hws w hw _ _ X.warmed
  have h2 : (Cond.code y bytes maxL ret).before a A.U = true := hws _ hcode _ _ X.warmed
  have h3 : (Cond.initialized y.cls).before a A.U = true := hinit _ _ X.warmed
  have h4 : A.cells + (headSpec ws rm).room.cells ≤ R.cells := by rw [show (headSpec ws rm).room.cells = mc from hrc]; exact hp.1
  have h5 : A.slots + (headSpec ws rm).room.slots ≤ R.slots := by rw [show (headSpec ws rm).room.slots = ms from hrs]; exact hp.2.1
  have hPc : Pc a (A.U.calling g mk a) := hblind _ _ _ _ hp.2.2
  obtain ⟨U, Ls, c0, s0⟩ := A
  dsimp only [Pt.U, Pt.locs, Pt.cells, Pt.slots] at h1 h2 h3 h4 h5 X hn hPc ⊢
  obtain ⟨methY, cY, hmY, hcY, -, hlY, -, -, -, -⟩ := Cond.code_spec hn h2
  obtain ⟨kY, hkY, -⟩ := className_of_methodNamed hn
  have hinitY : kY.init = .initialized := Cond.initialized_spec (findClass_of_methodNamed hn) hkY h3
  have h : At U g.method c below := by rw [hg]; exact X.here
  have hlocals9 : W9 + (maxL + 11) + (headSpec ws rm).room.locals ≤ R.locals := hlocals
  have happ : (headSpec ws rm).appliesLoose y e.platform (U.calling g mk a) = true :=
    Spec.appliesLoose_calling (g := g) h hdg hn hkY hinitY
      (X.room_calling (g := g) (R' := (headSpec ws rm).room) hsize hmY hcY hframes (by rw [hlY]; omega) h4 h5) h1
  obtain ⟨mid, hmid⟩ := h.above
  have hfr : (U.setTop g).frames = (.java g :: mid) ++ below := by rw [State.frames_setTop' g h.top, hmid]; rfl
  obtain ⟨o, s₂, hsteps, -, hend, hq⟩ := Steps.callFree hM p X.admits X.cas X.clock (acts := []) hfr happ hPc trivial
  have hq' : vx_Q Qc XC mc ms free a (U.calling g mk a) o s₂ := hq
  rw [State.frames_setTop' g h.top] at hend
  obtain ⟨g₀, hg0⟩ := Option.isSome_iff_exists.mp h.top
  obtain ⟨r, hr⟩ := State.topJava?_eq_some.mp hg0
  have hr' : (({ U with heap := s₂.heap, slotsUsed := s₂.slotsUsed } : State).setVm s₂.vm).frames = .java g₀ :: r := hr
  rcases hq' with ⟨hqc, L, hfe, hL⟩ | ⟨q, rfl, E, ce, L, hx, hce, hcv, hcl, hW₂, hsm, hL⟩
  · obtain ⟨⟨v, rfl⟩, hW₂, e2, q2, q3, q4, q5, q6⟩ := id hfe
    have e3 : s₂ = ({ (U.calling g mk a).setFrames s₂.frames with heap := s₂.heap, slotsUsed := s₂.slotsUsed } : State).setVm s₂.vm := by
      have : s₂ = ({ s₂ with vm := (U.calling g mk a).vm } : State).setVm s₂.vm := rfl
      rw [e2] at this
      exact this
    obtain ⟨c₂, i₂, len₂, hc₂, hd₂, hf₂⟩ := hend
    have hW' : U.WarmedH s₂.vm := hW₂
    have hcc : c₂ = c := by
      have h1 : s₂.code? g.method = U.code? g.method := by
        rw [State.code?_eq, State.code?_eq, hW'.alike.method?]
      exact Option.some.inj (hc₂.symm.trans (h1.trans h.code))
    subst hcc
    have hlen : len₂ = len := by rw [hdg] at hd₂; cases hd₂; rfl
    subst hlen
    have hs₂ : s₂ = (({ U with heap := s₂.heap, slotsUsed := s₂.slotsUsed } : State).setVm s₂.vm).setTop { g with pc := g.pc + len₂, stack := v.toList ++ g.stack } := by
      refine e3.trans ?_
      rw [hf₂, State.calling_eq h.top, State.setFrames_setFrames, State.setTop_of_frames _ hr', hr]
      rfl
    have hsame : U.sameButNew ({ U with heap := s₂.heap, slotsUsed := s₂.slotsUsed } : State) L mc ms := by
      refine ⟨?_, q2, q3, q4, q5, q6⟩
      obtain ⟨t, ht, -⟩ := State.frames_cons hr
      show ({ U with heap := s₂.heap, slotsUsed := s₂.slotsUsed } : State) = { U.setFrames U.frames with heap := s₂.heap, slotsUsed := s₂.slotsUsed }
      rw [State.setFrames_self ht]
    subst hg
    refine Or.inl ⟨v, ⟨(({ U with heap := s₂.heap, slotsUsed := s₂.slotsUsed } : State).setVm s₂.vm), Ls ++ L, c0 + mc, s0 + ms⟩,
      ⟨X.admits, X.cas, X.clock, X.frames, X.room, X.hears, X.method, X.code, (X.here.setHeapUsed s₂.heap s₂.slotsUsed).setVm hW'.alike, X.tail, State.WarmedH.trans X.warmed hW', X.limits, X.bytes, X.same.trans (hsame.setVm s.vm)⟩,
      ⟨g, mk, s₂, L, rfl, rfl, hqc, rfl, hL, rfl, rfl⟩, ?_⟩
    show Steps p.tables e below _ ((({ U with heap := s₂.heap, slotsUsed := s₂.slotsUsed } : State).setVm s₂.vm).setTop { g with pc := g.pc + len₂, stack := v.toList ++ g.stack })
    rw [← hs₂]
    exact hsteps
  · obtain ⟨e2, q2, q3, q4, q5, q6⟩ := id hsm
    have e3 : s₂ = ({ (U.calling g mk a).setFrames s₂.frames with heap := s₂.heap, slotsUsed := s₂.slotsUsed } : State).setVm s₂.vm := by
      have : s₂ = ({ s₂ with vm := (U.calling g mk a).vm } : State).setVm s₂.vm := rfl
      rw [e2] at this
      exact this
    have hf₂ : s₂.frames = .throwing q :: .java g :: U.frames.tail := hend
    have hW' : U.WarmedH s₂.vm := hW₂
    have hs₂ : s₂ = ((({ U with heap := s₂.heap, slotsUsed := s₂.slotsUsed } : State).setVm s₂.vm).setTop g).pushFrame (.throwing q) := by
      refine e3.trans ?_
      rw [hf₂, State.calling_eq h.top, State.setFrames_setFrames, State.pushFrame, State.frames_setTop _ hr', State.setTop_of_frames _ hr', State.setFrames_setFrames, hr]
      rfl
    have hsame : U.sameButNew ({ U with heap := s₂.heap, slotsUsed := s₂.slotsUsed } : State) L mc ms := by
      refine ⟨?_, q2, q3, q4, q5, q6⟩
      obtain ⟨t, ht, -⟩ := State.frames_cons hr
      show ({ U with heap := s₂.heap, slotsUsed := s₂.slotsUsed } : State) = { U.setFrames U.frames with heap := s₂.heap, slotsUsed := s₂.slotsUsed }
      rw [State.setFrames_self ht]
    subst hg
    refine Or.inr ⟨q, ⟨(({ U with heap := s₂.heap, slotsUsed := s₂.slotsUsed } : State).setVm s₂.vm), Ls ++ L, c0 + mc, s0 + ms⟩,
      ⟨X.admits, X.cas, X.clock, X.frames, X.room, X.hears, X.method, X.code, (X.here.setHeapUsed s₂.heap s₂.slotsUsed).setVm hW'.alike, X.tail, State.WarmedH.trans X.warmed hW', X.limits, X.bytes, X.same.trans (hsame.setVm s.vm)⟩,
      ⟨g, mk, s₂, L, E, ce, rfl, rfl, hx, hce, hcv, hcl, rfl, hL, rfl, rfl⟩, ?_⟩
    show Steps p.tables e below _ (((({ U with heap := s₂.heap, slotsUsed := s₂.slotsUsed } : State).setVm s₂.vm).setTop g).pushFrame (.throwing q))
    rw [← hs₂]
    exact hsteps
end Payer
section Calls
variable {p : Program} {l : Launch} {e : Env} {R : Room} {s : State} {m : MethodId} {args : Array Value} {below : List Frame} {meth : Method} {c : Code} {T : State} {locs : List Loc} {cells slots : Nat}
theorem vx_callV (X : Stand p l e R s m args below meth c T locs cells slots) (hexec : p.tables.exec = Jvm.exec) {own C : String} {index : Nat} {y : MethodName} {bytes : ByteArray} {maxL : Nat} {ret : Option FieldType}
    (hown : s.vm.findClass own = some m.cls) (hlink : (Cond.methodLink own index y).before args s = true) (hinst : (Cond.instanceMethod y).before args s = true) (hsel : (Cond.selects C y y).before args s = true)
    (hcode : (Cond.code y bytes maxL ret).before args s = true) (hy : y.cls ≠ "java/lang/invoke/MethodHandle" ∧ y.cls ≠ "java/lang/invoke/VarHandle")
    {W9 : Nat} {Pre : Pt → Array Value → Prop} {Post : Pt → Array Value → Option Value → Pt → Prop} {PostX : Pt → Array Value → Addr → Pt → Prop} (hK : vx_Back l R p e below s args y 3 W9 Pre Post PostX)
    {b : Addr} {cellB : Cell} (hcell : T.heap[b]? = some cellB) (hobj : cellB.vm.isStatics = false) (hcls : s.vm.findClass C = some cellB.cls)
    {g : JFrame} (hg : g.method = m) (hsize : g.locals.size = c.maxLocals) {argsL rest : List Value} (hlen : ∀ sig, parseMethodDescriptor y.desc = some sig → argsL.length = sig.parameters.length)
    (hstack : g.stack = argsL.reverse ++ .ref b :: rest) (hW : 2 * g.monitorRoom + (rest.map fun v => v.category).sum ≤ W9) (hdg : decode c.code g.pc = .ok (.invokevirtual index, 3))
    (hpre : ∀ vm₁, s.WarmedH vm₁ → Pre ⟨T.setVm vm₁, locs, cells, slots⟩ (Value.ref b :: argsL).toArray) :
    (∃ (v : Option Value) (vm₁ : Vm) (B : Pt), s.WarmedH vm₁ ∧ Stand p l e R s m args below meth c B.U B.locs B.cells B.slots ∧ Post ⟨T.setVm vm₁, locs, cells, slots⟩ (Value.ref b :: argsL).toArray v B ∧
      ∀ target, Steps p.tables e below (B.U.setTop { g with pc := g.pc + 3, stack := v.toList ++ rest }) target → Steps p.tables e below (T.setTop g) target) ∨
    (∃ (q : Addr) (vm₁ : Vm) (B : Pt), s.WarmedH vm₁ ∧ Stand p l e R s m args below meth c B.U B.locs B.cells B.slots ∧ PostX ⟨T.setVm vm₁, locs, cells, slots⟩ (Value.ref b :: argsL).toArray q B ∧
      Steps p.tables e below (T.setTop g) ((B.U.setTop { g with stack := rest }).pushFrame (.throwing q))) := by
  obtain ⟨mk, methM, hnamed, hmethM, hstM, habM⟩ := Cond.instanceMethod_spec hinst
  obtain ⟨methM', cM, hmethM', -, -, -, -, -, -, hsigM⟩ := Cond.code_spec hnamed hcode
  cases hmethM.symm.trans hmethM'
  obtain ⟨c2, r2, m2, q1, q2, q3, q4, kP, hkP, hkPi⟩ := Cond.selects_spec hsel
  cases hcls.symm.trans q1
  cases (State.methodFound?_of_named hnamed hy).symm.trans q2
  cases hnamed.symm.trans q3
  have hselP : selectMethod e.platform s.vm cellB.cls mk = .method mk := by rw [Launch.admits_selectMethod X.admits]; exact q4
  obtain ⟨vm₁, X₁, hstep₁⟩ := X.invokevirtual hexec hown hlink hnamed hmethM hstM hkP hkPi hy (a := b) (cell := cellB) hcell
    (fun z h => by rw [h] at hobj; cases hobj) hselP hmethM habM hkP hkPi (g := g) hg (argsL := argsL) (rest := rest) (hlen _ hsigM) hstack hdg
  rcases hK m meth c ⟨T.setVm vm₁, locs, cells, slots⟩ { g with stack := rest } (.invokevirtual index) mk (Value.ref b :: argsL).toArray X₁ hg hsize hdg hW (X₁.named hnamed) (hpre vm₁ X₁.warmed) with ⟨v, B, X', hpost, hsteps⟩ | ⟨q, B, X', hpost, hsteps⟩
  · exact Or.inl ⟨v, vm₁, B, X₁.warmed, X', hpost, fun target h => hstep₁ _ fun acts => by rw [doInvoke_state]; exact hsteps.trans h⟩
  · exact Or.inr ⟨q, vm₁, B, X₁.warmed, X', hpost, hstep₁ _ fun acts => by rw [doInvoke_state]; exact hsteps⟩
theorem vx_callS (X : Stand p l e R s m args below meth c T locs cells slots) (hexec : p.tables.exec = Jvm.exec) {own : String} {index : Nat} {y : MethodName} {bytes : ByteArray} {maxL : Nat} {ret : Option FieldType}
    (hown : s.vm.findClass own = some m.cls) (hlink : (Cond.methodLink own index y).before args s = true) (hstat : (Cond.static y).before args s = true) (hinit : (Cond.initialized y.cls).before args s = true)
    (hcode : (Cond.code y bytes maxL ret).before args s = true) (hy : y.cls ≠ "java/lang/invoke/MethodHandle" ∧ y.cls ≠ "java/lang/invoke/VarHandle")
    {W9 : Nat} {Pre : Pt → Array Value → Prop} {Post : Pt → Array Value → Option Value → Pt → Prop} {PostX : Pt → Array Value → Addr → Pt → Prop} (hK : vx_Back l R p e below s args y 3 W9 Pre Post PostX)
    {g : JFrame} (hg : g.method = m) (hsize : g.locals.size = c.maxLocals) {argsL rest : List Value} (hlen : ∀ sig, parseMethodDescriptor y.desc = some sig → argsL.length = sig.parameters.length)
    (hstack : g.stack = argsL.reverse ++ rest) (hW : 2 * g.monitorRoom + (rest.map fun v => v.category).sum ≤ W9) (hdg : decode c.code g.pc = .ok (.invokestatic index, 3))
    (hpre : ∀ vm₁, s.WarmedH vm₁ → Pre ⟨T.setVm vm₁, locs, cells, slots⟩ argsL.toArray) :
    (∃ (v : Option Value) (vm₁ : Vm) (B : Pt), s.WarmedH vm₁ ∧ Stand p l e R s m args below meth c B.U B.locs B.cells B.slots ∧ Post ⟨T.setVm vm₁, locs, cells, slots⟩ argsL.toArray v B ∧
      ∀ target, Steps p.tables e below (B.U.setTop { g with pc := g.pc + 3, stack := v.toList ++ rest }) target → Steps p.tables e below (T.setTop g) target) ∨
    (∃ (q : Addr) (vm₁ : Vm) (B : Pt), s.WarmedH vm₁ ∧ Stand p l e R s m args below meth c B.U B.locs B.cells B.slots ∧ PostX ⟨T.setVm vm₁, locs, cells, slots⟩ argsL.toArray q B ∧
      Steps p.tables e below (T.setTop g) ((B.U.setTop { g with stack := rest }).pushFrame (.throwing q))) := by
  obtain ⟨mk, hnamed⟩ := Cond.code_named hcode
  obtain ⟨methM, cM, hmethM, -, -, -, -, -, -, hsigM⟩ := Cond.code_spec hnamed hcode
  have hstatic : methM.isStatic = true := Cond.static_spec hnamed hmethM hstat
  obtain ⟨kP, hkP, -⟩ := className_of_methodNamed hnamed
  have hinitP : kP.init = .initialized := Cond.initialized_spec (findClass_of_methodNamed hnamed) hkP hinit
  obtain ⟨vm₁, X₁, hstep₁⟩ := X.invokestatic hexec hown hlink hnamed hmethM hstatic hkP hinitP hy (g := g) hg (argsL := argsL) (rest := rest) (hlen _ hsigM) hstack hdg
  rcases hK m meth c ⟨T.setVm vm₁, locs, cells, slots⟩ { g with stack := rest } (.invokestatic index) mk argsL.toArray X₁ hg hsize hdg hW (X₁.named hnamed) (hpre vm₁ X₁.warmed) with ⟨v, B, X', hpost, hsteps⟩ | ⟨q, B, X', hpost, hsteps⟩
  · exact Or.inl ⟨v, vm₁, B, X₁.warmed, X', hpost, fun target h => hstep₁ _ fun acts => by rw [doInvoke_state]; exact hsteps.trans h⟩
  · exact Or.inr ⟨q, vm₁, B, X₁.warmed, X', hpost, hstep₁ _ fun acts => by rw [doInvoke_state]; exact hsteps⟩
end Calls
theorem vx_cls {s : State} {T : State} {vm₁ : Vm} {E : String} {k : ClassId} (hW : s.WarmedH vm₁) (h : (T.setVm vm₁).vm.findClass E = some k) : s.vm.findClass E = some k := by
  have h1 : vm₁.findClass E = some k := h
  rw [hW.alike.findClass] at h1
  exact h1
/-- the method's frame g, with q thrown over it -/
def vx_W (p : Program) (l : Launch) (e : Env) (R : Room) (s : State) (m : MethodId) (args : Array Value) (below : List Frame) (meth : Method) (c : Code) (H : Heap) (locs : List Loc) (cells slots : Nat) (Q : State → Prop) (g : JFrame) (q : Addr) : Prop :=
  ∀ T : State, T.heap = H → Stand p l e R s m args below meth c T locs cells slots → ∃ t, Steps p.tables e below ((T.setTop g).pushFrame (.throwing q)) t ∧ Q t
def vx_Run (p : Program) (l : Launch) (e : Env) (R : Room) (s : State) (m : MethodId) (args : Array Value) (below : List Frame) (meth : Method) (c : Code) (H : Heap) (locs : List Loc) (cells slots mc ms : Nat) (g : JFrame) (rest : List Value) (Qa : State → Outcome → State → Prop) (XC : String → State → State → Prop) (free : Addr → Prop) : Prop :=
  ∀ T : State, T.heap = H → Stand p l e R s m args below meth c T locs cells slots →
    (∃ (v : Option Value) (st₀ t T' : State) (L : List Loc), st₀.heap = H ∧ Stand p l e R s m args below meth c T' (locs ++ L) (cells + mc) (slots + ms) ∧ (∀ q ∈ L, free q.base) ∧ T'.heap = t.heap ∧ T'.vm = t.vm ∧ Qa st₀ (.returned v) t ∧
      Goes p e below T g T' { g with pc := g.pc + 3, stack := v.toList ++ rest }) ∨
    (∃ (q : Addr) (st₀ t T' : State) (L : List Loc) (E : String) (ce : Cell), st₀.heap = H ∧ Stand p l e R s m args below meth c T' (locs ++ L) (cells + mc) (slots + ms) ∧ (∀ z ∈ L, free z.base) ∧ T'.heap = t.heap ∧ T'.vm = t.vm ∧ XC E st₀ t ∧ t.heap[q]? = some ce ∧ ce.vm = .none ∧ s.vm.findClass E = some ce.cls ∧
      Steps p.tables e below (T.setTop g) ((T'.setTop { g with stack := rest }).pushFrame (.throwing q)))
def vx_X {S : Type} (px : S → Prop) (B : String → S → State → Prop) (A : Nat → Prop) : String → State → State → Prop := fun E st t => ∃ u : S, px u ∧ B E u t ∧ va_F A st t
section Runs
variable {p : Program} {l : Launch} {e : Env} {R : Room} {s : State} {m : MethodId} {args : Array Value} {below : List Frame} {meth : Method} {c : Code} {H : Heap} {locs : List Loc} {cells slots : Nat}
variable {y : MethodName} {bytes cc : ByteArray} {maxL nL mc ms n index : Nat} {ret : Option FieldType} {ws : List Cond} {rm : Room} {Pc : Array Value → State → Prop} {Qc : Array Value → State → Outcome → State → Prop} {XC : String → State → State → Prop} {free : Addr → Prop} {Ts : List Cond} {own C : String} {b : Addr} {As rest : List Value} {g : JFrame}
theorem vx_callBack (cb : CallB R s args own index y bytes maxL ret ws rm mc ms n) (hM : vx_Met l y ws rm Pc Qc XC mc ms free) (hbl : FrameBlind Pc) : vx_Back l R p e below s args y 3 8 (PreOf R mc ms Pc) (PostOf Qc mc ms free) (vx_Post XC mc ms free) := by
  obtain ⟨hrc, hrs, hfr, hlo, hws, hcw, -, hini, -⟩ := cb
  exact vx_back (bytes := bytes) (maxL := maxL) (ret := ret) hM hbl hrc hrs hfr hlo hws hcw (fun a' U hW => word_at hW (Or.inl (by first | rfl | simp [Cond.onTables, Cond.keeps, Cond.steady])) hini)
theorem vx_runV (S : CallFix p m c cc nL s args Ts own) (hM : vx_Met l y ws rm Pc Qc XC mc ms free) (cw : CallW R s args own C index y bytes maxL ret ws rm mc ms n) (hp : PreV s H C b Pc As)
    (hg : g.method = m) (hn : As.length = n) (hsize : g.locals.size = nL) (hstack : g.stack = As.reverse ++ .ref b :: rest) (hW : 2 * g.monitorRoom + (rest.map fun v => v.category).sum ≤ 8) (hdg : decode cc g.pc = .ok (.invokevirtual index, 3)) (hf : cells + mc ≤ R.cells ∧ slots + ms ≤ R.slots) :
    vx_Run p l e R s m args below meth c H locs cells slots mc ms g rest (Qc (Value.ref b :: As).toArray) XC free := by
  have hK : vx_Back l R p e below s args y 3 8 (PreOf R mc ms Pc) (PostOf Qc mc ms free) (vx_Post XC mc ms free) := vx_callBack cw.1 hM hp.1
  obtain ⟨⟨-, -, -, -, -, -, hcode, -, hy, hlen, hl⟩, hin, hse⟩ := cw
  obtain ⟨hx, hb, hml, ho, -⟩ := S
  obtain ⟨-, ⟨cellB, hcB, hoB, hclB⟩, hPc⟩ := hp
  intro T hT X
  rcases vx_callV X hx (C := C) (bytes := bytes) (maxL := maxL) (ret := ret) ho hl hin hse hcode hy hK (by rw [hT]; exact hcB) hoB hclB hg (hsize.trans hml.symm) (argsL := As) (rest := rest) (fun sig h => hn.trans (hlen sig h)) hstack hW (by rw [hb]; exact hdg)
    (fun vm₁ hW₁ => ⟨hf.1, hf.2, hPc (T.setVm vm₁) hT hW₁⟩) with ⟨v, vm₁, ⟨U', l2, c2, s2⟩, hW₁, X', ⟨g', mk, t, L, e1, e2, hq, h1, hL, h2, h3⟩, st⟩ | ⟨q, vm₁, ⟨U', l2, c2, s2⟩, hW₁, X', ⟨g', mk, t, L, E, ce, e1, e2, hq, hce, hcv, hcl, h1, hL, h2, h3⟩, st⟩
  · dsimp only [Pt.U, Pt.locs, Pt.cells, Pt.slots] at X' e1 e2 h1 h2 h3 st
    subst h1; subst h2; subst h3
    exact Or.inl ⟨v, (T.setVm vm₁).calling g' mk (Value.ref b :: As).toArray, t, U', L, hT, X', hL, e1, e2, hq, st⟩
  · dsimp only [Pt.U, Pt.locs, Pt.cells, Pt.slots] at X' e1 e2 h1 h2 h3 st hcl
    subst h1; subst h2; subst h3
    exact Or.inr ⟨q, (T.setVm vm₁).calling g' mk (Value.ref b :: As).toArray, t, U', L, E, ce, hT, X', hL, e1, e2, hq, hce, hcv, vx_cls hW₁ hcl, st⟩
theorem vx_runS (S : CallFix p m c cc nL s args Ts own) (hM : vx_Met l y ws rm Pc Qc XC mc ms free) (cw : CallB R s args own index y bytes maxL ret ws rm mc ms n ∧ (Cond.static y).before args s = true) (hp : PreS s H Pc As)
    (hg : g.method = m) (hn : As.length = n) (hsize : g.locals.size = nL) (hstack : g.stack = As.reverse ++ rest) (hW : 2 * g.monitorRoom + (rest.map fun v => v.category).sum ≤ 8) (hdg : decode cc g.pc = .ok (.invokestatic index, 3)) (hf : cells + mc ≤ R.cells ∧ slots + ms ≤ R.slots) :
    vx_Run p l e R s m args below meth c H locs cells slots mc ms g rest (Qc As.toArray) XC free := by
  have hK : vx_Back l R p e below s args y 3 8 (PreOf R mc ms Pc) (PostOf Qc mc ms free) (vx_Post XC mc ms free) := vx_callBack cw.1 hM hp.1
  obtain ⟨⟨-, -, -, -, -, -, hcode, hini, hy, hlen, hl⟩, hstt⟩ := cw
  obtain ⟨hx, hb, hml, ho, -⟩ := S
  intro T hT X
  rcases vx_callS X hx (bytes := bytes) (maxL := maxL) (ret := ret) ho hl hstt hini hcode hy hK hg (hsize.trans hml.symm) (argsL := As) (rest := rest) (fun sig h => hn.trans (hlen sig h)) hstack hW (by rw [hb]; exact hdg)
    (fun vm₁ hW₁ => ⟨hf.1, hf.2, hp.2 (T.setVm vm₁) hT hW₁⟩) with ⟨v, vm₁, ⟨U', l2, c2, s2⟩, hW₁, X', ⟨g', mk, t, L, e1, e2, hq, h1, hL, h2, h3⟩, st⟩ | ⟨q, vm₁, ⟨U', l2, c2, s2⟩, hW₁, X', ⟨g', mk, t, L, E, ce, e1, e2, hq, hce, hcv, hcl, h1, hL, h2, h3⟩, st⟩
  · dsimp only [Pt.U, Pt.locs, Pt.cells, Pt.slots] at X' e1 e2 h1 h2 h3 st
    subst h1; subst h2; subst h3
    exact Or.inl ⟨v, (T.setVm vm₁).calling g' mk As.toArray, t, U', L, hT, X', hL, e1, e2, hq, st⟩
  · dsimp only [Pt.U, Pt.locs, Pt.cells, Pt.slots] at X' e1 e2 h1 h2 h3 st hcl
    subst h1; subst h2; subst h3
    exact Or.inr ⟨q, (T.setVm vm₁).calling g' mk As.toArray, t, U', L, E, ce, hT, X', hL, e1, e2, hq, hce, hcv, vx_cls hW₁ hcl, st⟩
end Runs
section Rows
variable {p : Program} {l : Launch} {e : Env} {R : Room} {s : State} {m : MethodId} {args : Array Value} {below : List Frame} {meth : Method} {c : Code} {H : Heap} {locs : List Loc} {cells slots : Nat} {Q : State → Prop}
variable {mc ms : Nat} {free : Addr → Prop} {A0 A1 : Nat → Prop} {H0 : Heap} {a : Array Value} {pc : Nat} {ls : Array Slot} {st0 rest : List Value}
theorem vx_keep {st₀ t T' : State} {L : List Loc} (h0 : st₀.heap = H) (e1 : T'.heap = t.heap) (hS : va_S A0 H0 H locs) (hA : ∀ q, q < H.size → A1 q → A0 q) (hf : ∀ q, free q → A0 q) (hL : ∀ q ∈ L, free q.base) (hF : va_F A1 st₀ t) :
    H.size ≤ T'.heap.size ∧ (∀ q : Nat, q < H.size → ¬ A1 q → T'.heap[q]? = H[q]?) ∧ va_S A0 H0 T'.heap (locs ++ L) := by
  obtain ⟨hz, hk⟩ := hF
  rw [h0] at hz hk
  exact ⟨by rw [e1]; exact hz, fun q h1 h2 => by rw [e1]; exact hk q h1 h2,
    ⟨Nat.le_trans hS.1 (by rw [e1]; exact hz), fun q h1 h2 => by rw [e1, hk q (Nat.lt_of_lt_of_le h1 hS.1) (fun z => h2 (hA q (Nat.lt_of_lt_of_le h1 hS.1) z))]; exact hS.2.1 q h1 h2, fun q hq => by
      rcases List.mem_append.mp hq with h | h
      · exact hS.2.2 q h
      · exact hf _ (hL q h)⟩⟩
theorem vx_calli {S SX : Type} {post : Int32 → S → Prop} {px : SX → Prop} {B : S → State → Prop} {BX : String → SX → State → Prop} {AX : Nat → Prop} (hr : vx_Run p l e R s m args below meth c H locs cells slots mc ms (F0 m pc ls st0) rest (va_Qi post B A1 a) (vx_X px BX AX) free) (hS : va_S A0 H0 H locs) (hA : ∀ q, q < H.size → A1 q → A0 q) (hf : ∀ q, free q → A0 q) (hAX : ∀ q, q < H.size → AX q → A0 q)
    (kx : ∀ (E : String) (ce : Cell) (q9 : Addr) (u : SX) (t : State) (H1 : Heap) (locs1 : List Loc), t.heap = H1 → s.vm.Alike t.vm → px u → BX E u t → H.size ≤ H1.size → (∀ q : Nat, q < H.size → ¬ AX q → H1[q]? = H[q]?) → va_S A0 H0 H1 locs1 → H1[q9]? = some ce → ce.vm = .none → s.vm.findClass E = some ce.cls → vx_W p l e R s m args below meth c H1 locs1 (cells + mc) (slots + ms) Q (F0 m pc ls rest) q9)
    (kk : ∀ (r : Int32) (u : S) (t : State) (H1 : Heap) (locs1 : List Loc), t.heap = H1 → s.vm.Alike t.vm → post r u → B u t → H.size ≤ H1.size → (∀ q : Nat, q < H.size → ¬ A1 q → H1[q]? = H[q]?) → va_S A0 H0 H1 locs1 → W p l e R s m args below meth c H1 locs1 (cells + mc) (slots + ms) Q (F0 m (pc + 3) ls (.int r :: rest))) : W p l e R s m args below meth c H locs cells slots Q (F0 m pc ls st0) := by
  intro T hT X
  rcases hr T hT X with ⟨v, st₀, t, T', L, h0, X', hL, e1, e2, ⟨⟨r, u, hv, hp, hb⟩, hF⟩, st⟩ | ⟨q, st₀, t, T', L, E, ce, h0, X', hL, e1, e2, ⟨u, hp, hb, hF⟩, hce, hcv, hcl, st⟩
  · cases hv
    obtain ⟨k1, k2, k3⟩ := vx_keep h0 e1 hS hA hf hL hF
    obtain ⟨t2, a1, b1⟩ := kk r u t T'.heap (locs ++ L) e1.symm (by rw [← e2]; exact X'.warmed.alike) hp hb k1 k2 k3 T' rfl X'
    exact ⟨t2, st t2 a1, b1⟩
  · obtain ⟨k1, k2, k3⟩ := vx_keep h0 e1 hS hAX hf hL hF
    obtain ⟨t2, a1, b1⟩ := kx E ce q u t T'.heap (locs ++ L) e1.symm (by rw [← e2]; exact X'.warmed.alike) hp hb k1 k2 k3 (by rw [e1]; exact hce) hcv hcl T' rfl X'
    exact ⟨t2, st.trans a1, b1⟩
theorem vx_calll {S SX : Type} {post : Int64 → S → Prop} {px : SX → Prop} {B : S → State → Prop} {BX : String → SX → State → Prop} {AX : Nat → Prop} (hr : vx_Run p l e R s m args below meth c H locs cells slots mc ms (F0 m pc ls st0) rest (va_Ql post B A1 a) (vx_X px BX AX) free) (hS : va_S A0 H0 H locs) (hA : ∀ q, q < H.size → A1 q → A0 q) (hf : ∀ q, free q → A0 q) (hAX : ∀ q, q < H.size → AX q → A0 q)
    (kx : ∀ (E : String) (ce : Cell) (q9 : Addr) (u : SX) (t : State) (H1 : Heap) (locs1 : List Loc), t.heap = H1 → s.vm.Alike t.vm → px u → BX E u t → H.size ≤ H1.size → (∀ q : Nat, q < H.size → ¬ AX q → H1[q]? = H[q]?) → va_S A0 H0 H1 locs1 → H1[q9]? = some ce → ce.vm = .none → s.vm.findClass E = some ce.cls → vx_W p l e R s m args below meth c H1 locs1 (cells + mc) (slots + ms) Q (F0 m pc ls rest) q9)
    (kk : ∀ (r : Int64) (u : S) (t : State) (H1 : Heap) (locs1 : List Loc), t.heap = H1 → s.vm.Alike t.vm → post r u → B u t → H.size ≤ H1.size → (∀ q : Nat, q < H.size → ¬ A1 q → H1[q]? = H[q]?) → va_S A0 H0 H1 locs1 → W p l e R s m args below meth c H1 locs1 (cells + mc) (slots + ms) Q (F0 m (pc + 3) ls (.long r :: rest))) : W p l e R s m args below meth c H locs cells slots Q (F0 m pc ls st0) := by
  intro T hT X
  rcases hr T hT X with ⟨v, st₀, t, T', L, h0, X', hL, e1, e2, ⟨⟨r, u, hv, hp, hb⟩, hF⟩, st⟩ | ⟨q, st₀, t, T', L, E, ce, h0, X', hL, e1, e2, ⟨u, hp, hb, hF⟩, hce, hcv, hcl, st⟩
  · cases hv
    obtain ⟨k1, k2, k3⟩ := vx_keep h0 e1 hS hA hf hL hF
    obtain ⟨t2, a1, b1⟩ := kk r u t T'.heap (locs ++ L) e1.symm (by rw [← e2]; exact X'.warmed.alike) hp hb k1 k2 k3 T' rfl X'
    exact ⟨t2, st t2 a1, b1⟩
  · obtain ⟨k1, k2, k3⟩ := vx_keep h0 e1 hS hAX hf hL hF
    obtain ⟨t2, a1, b1⟩ := kx E ce q u t T'.heap (locs ++ L) e1.symm (by rw [← e2]; exact X'.warmed.alike) hp hb k1 k2 k3 (by rw [e1]; exact hce) hcv hcl T' rfl X'
    exact ⟨t2, st.trans a1, b1⟩
theorem vx_callf {S SX : Type} {post : UInt32 → S → Prop} {px : SX → Prop} {B : S → State → Prop} {BX : String → SX → State → Prop} {AX : Nat → Prop} (hr : vx_Run p l e R s m args below meth c H locs cells slots mc ms (F0 m pc ls st0) rest (va_Qf post B A1 a) (vx_X px BX AX) free) (hS : va_S A0 H0 H locs) (hA : ∀ q, q < H.size → A1 q → A0 q) (hf : ∀ q, free q → A0 q) (hAX : ∀ q, q < H.size → AX q → A0 q)
    (kx : ∀ (E : String) (ce : Cell) (q9 : Addr) (u : SX) (t : State) (H1 : Heap) (locs1 : List Loc), t.heap = H1 → s.vm.Alike t.vm → px u → BX E u t → H.size ≤ H1.size → (∀ q : Nat, q < H.size → ¬ AX q → H1[q]? = H[q]?) → va_S A0 H0 H1 locs1 → H1[q9]? = some ce → ce.vm = .none → s.vm.findClass E = some ce.cls → vx_W p l e R s m args below meth c H1 locs1 (cells + mc) (slots + ms) Q (F0 m pc ls rest) q9)
    (kk : ∀ (r : UInt32) (u : S) (t : State) (H1 : Heap) (locs1 : List Loc), t.heap = H1 → s.vm.Alike t.vm → post r u → B u t → H.size ≤ H1.size → (∀ q : Nat, q < H.size → ¬ A1 q → H1[q]? = H[q]?) → va_S A0 H0 H1 locs1 → W p l e R s m args below meth c H1 locs1 (cells + mc) (slots + ms) Q (F0 m (pc + 3) ls (.float r :: rest))) : W p l e R s m args below meth c H locs cells slots Q (F0 m pc ls st0) := by
  intro T hT X
  rcases hr T hT X with ⟨v, st₀, t, T', L, h0, X', hL, e1, e2, ⟨⟨r, u, hv, hp, hb⟩, hF⟩, st⟩ | ⟨q, st₀, t, T', L, E, ce, h0, X', hL, e1, e2, ⟨u, hp, hb, hF⟩, hce, hcv, hcl, st⟩
  · cases hv
    obtain ⟨k1, k2, k3⟩ := vx_keep h0 e1 hS hA hf hL hF
    obtain ⟨t2, a1, b1⟩ := kk r u t T'.heap (locs ++ L) e1.symm (by rw [← e2]; exact X'.warmed.alike) hp hb k1 k2 k3 T' rfl X'
    exact ⟨t2, st t2 a1, b1⟩
  · obtain ⟨k1, k2, k3⟩ := vx_keep h0 e1 hS hAX hf hL hF
    obtain ⟨t2, a1, b1⟩ := kx E ce q u t T'.heap (locs ++ L) e1.symm (by rw [← e2]; exact X'.warmed.alike) hp hb k1 k2 k3 (by rw [e1]; exact hce) hcv hcl T' rfl X'
    exact ⟨t2, st.trans a1, b1⟩
theorem vx_calld {S SX : Type} {post : UInt64 → S → Prop} {px : SX → Prop} {B : S → State → Prop} {BX : String → SX → State → Prop} {AX : Nat → Prop} (hr : vx_Run p l e R s m args below meth c H locs cells slots mc ms (F0 m pc ls st0) rest (va_Qd post B A1 a) (vx_X px BX AX) free) (hS : va_S A0 H0 H locs) (hA : ∀ q, q < H.size → A1 q → A0 q) (hf : ∀ q, free q → A0 q) (hAX : ∀ q, q < H.size → AX q → A0 q)
    (kx : ∀ (E : String) (ce : Cell) (q9 : Addr) (u : SX) (t : State) (H1 : Heap) (locs1 : List Loc), t.heap = H1 → s.vm.Alike t.vm → px u → BX E u t → H.size ≤ H1.size → (∀ q : Nat, q < H.size → ¬ AX q → H1[q]? = H[q]?) → va_S A0 H0 H1 locs1 → H1[q9]? = some ce → ce.vm = .none → s.vm.findClass E = some ce.cls → vx_W p l e R s m args below meth c H1 locs1 (cells + mc) (slots + ms) Q (F0 m pc ls rest) q9)
    (kk : ∀ (r : UInt64) (u : S) (t : State) (H1 : Heap) (locs1 : List Loc), t.heap = H1 → s.vm.Alike t.vm → post r u → B u t → H.size ≤ H1.size → (∀ q : Nat, q < H.size → ¬ A1 q → H1[q]? = H[q]?) → va_S A0 H0 H1 locs1 → W p l e R s m args below meth c H1 locs1 (cells + mc) (slots + ms) Q (F0 m (pc + 3) ls (.double r :: rest))) : W p l e R s m args below meth c H locs cells slots Q (F0 m pc ls st0) := by
  intro T hT X
  rcases hr T hT X with ⟨v, st₀, t, T', L, h0, X', hL, e1, e2, ⟨⟨r, u, hv, hp, hb⟩, hF⟩, st⟩ | ⟨q, st₀, t, T', L, E, ce, h0, X', hL, e1, e2, ⟨u, hp, hb, hF⟩, hce, hcv, hcl, st⟩
  · cases hv
    obtain ⟨k1, k2, k3⟩ := vx_keep h0 e1 hS hA hf hL hF
    obtain ⟨t2, a1, b1⟩ := kk r u t T'.heap (locs ++ L) e1.symm (by rw [← e2]; exact X'.warmed.alike) hp hb k1 k2 k3 T' rfl X'
    exact ⟨t2, st t2 a1, b1⟩
  · obtain ⟨k1, k2, k3⟩ := vx_keep h0 e1 hS hAX hf hL hF
    obtain ⟨t2, a1, b1⟩ := kx E ce q u t T'.heap (locs ++ L) e1.symm (by rw [← e2]; exact X'.warmed.alike) hp hb k1 k2 k3 (by rw [e1]; exact hce) hcv hcl T' rfl X'
    exact ⟨t2, st.trans a1, b1⟩
theorem vx_callv {S SX : Type} {post : S → Prop} {px : SX → Prop} {B : S → State → Prop} {BX : String → SX → State → Prop} {AX : Nat → Prop} (hr : vx_Run p l e R s m args below meth c H locs cells slots mc ms (F0 m pc ls st0) rest (va_Qv post B A1 a) (vx_X px BX AX) free) (hS : va_S A0 H0 H locs) (hA : ∀ q, q < H.size → A1 q → A0 q) (hf : ∀ q, free q → A0 q) (hAX : ∀ q, q < H.size → AX q → A0 q)
    (kx : ∀ (E : String) (ce : Cell) (q9 : Addr) (u : SX) (t : State) (H1 : Heap) (locs1 : List Loc), t.heap = H1 → s.vm.Alike t.vm → px u → BX E u t → H.size ≤ H1.size → (∀ q : Nat, q < H.size → ¬ AX q → H1[q]? = H[q]?) → va_S A0 H0 H1 locs1 → H1[q9]? = some ce → ce.vm = .none → s.vm.findClass E = some ce.cls → vx_W p l e R s m args below meth c H1 locs1 (cells + mc) (slots + ms) Q (F0 m pc ls rest) q9)
    (kk : ∀ (u : S) (t : State) (H1 : Heap) (locs1 : List Loc), t.heap = H1 → s.vm.Alike t.vm → post u → B u t → H.size ≤ H1.size → (∀ q : Nat, q < H.size → ¬ A1 q → H1[q]? = H[q]?) → va_S A0 H0 H1 locs1 → W p l e R s m args below meth c H1 locs1 (cells + mc) (slots + ms) Q (F0 m (pc + 3) ls (rest))) : W p l e R s m args below meth c H locs cells slots Q (F0 m pc ls st0) := by
  intro T hT X
  rcases hr T hT X with ⟨v, st₀, t, T', L, h0, X', hL, e1, e2, ⟨⟨u, hv, hp, hb⟩, hF⟩, st⟩ | ⟨q, st₀, t, T', L, E, ce, h0, X', hL, e1, e2, ⟨u, hp, hb, hF⟩, hce, hcv, hcl, st⟩
  · cases hv
    obtain ⟨k1, k2, k3⟩ := vx_keep h0 e1 hS hA hf hL hF
    obtain ⟨t2, a1, b1⟩ := kk u t T'.heap (locs ++ L) e1.symm (by rw [← e2]; exact X'.warmed.alike) hp hb k1 k2 k3 T' rfl X'
    exact ⟨t2, st t2 a1, b1⟩
  · obtain ⟨k1, k2, k3⟩ := vx_keep h0 e1 hS hAX hf hL hF
    obtain ⟨t2, a1, b1⟩ := kx E ce q u t T'.heap (locs ++ L) e1.symm (by rw [← e2]; exact X'.warmed.alike) hp hb k1 k2 k3 (by rw [e1]; exact hce) hcv hcl T' rfl X'
    exact ⟨t2, st.trans a1, b1⟩
/-- caught by the row x of this method's table; the rows ahead don't take it -/
theorem vx_catch {own name : String} {E : String} {ce : Cell} {q : Addr} (hown : s.vm.findClass own = some m.cls) (pre : List ExceptionTableEntry) (x : ExceptionTableEntry) (suf : List ExceptionTableEntry) (hsplit : c.exceptionTable.toList = pre ++ x :: suf)
    (hpass : ∀ z ∈ pre, covers z pc = false ∨ (z.catchType ≠ 0 ∧ ∃ nm : String, (Cond.classLink own z.catchType nm).before args s = true ∧ va_Nc E nm s)) (hx : covers x pc = true) (h0 : x.catchType ≠ 0)
    (hlink : (Cond.classLink own x.catchType name).before args s = true) (hcast : (Cond.castable E name).before args s = true) (hcell : H[q]? = some ce) (hv : ce.vm = .none) (hcl : s.vm.findClass E = some ce.cls)
    (kk : W p l e R s m args below meth c H locs cells slots Q (F0 m x.handlerPc ls [.ref q])) : vx_W p l e R s m args below meth c H locs cells slots Q (F0 m pc ls rest) q := by
  intro T hT X
  have hpl : e.platform.magicAccessors = ({} : Platform).magicAccessors := by rw [X.admits.platform]
  obtain ⟨c3, c4, hc3, hc4, hasg⟩ := Cond.castable_spec hcast
  cases Option.some.inj (hc3.symm.trans hcl)
  obtain ⟨c5, hc5, hcl5⟩ := Cond.classLink_spec hown hlink e.platform hpl
  cases Option.some.inj (hc4.symm.trans hc5)
  obtain ⟨vm', X', st⟩ := X.thenCaughtThrough q (g := F0 m pc ls rest) rfl (Steps.refl _) (by rw [hT]; exact hcell) (by rw [hv]; rfl) (by obtain ⟨k9, h9, -⟩ := Vm.findClass_spec hcl; exact ⟨k9, h9⟩) pre x suf hsplit
    (fun z hz => by
      rcases hpass z hz with h | ⟨hz0, nm, hl1, hn1⟩
      · exact Or.inl h
      · obtain ⟨c6, hc6, hcl6⟩ := Cond.classLink_spec hown hl1 e.platform hpl
        obtain ⟨a8, b8, h1, h2, h3⟩ := hn1
        cases Option.some.inj (h1.symm.trans hcl)
        cases Option.some.inj (h2.symm.trans hc6)
        exact Or.inr ⟨hz0, _, hcl6, h3⟩) hx (Or.inr ⟨h0, c4, hcl5, hasg⟩)
  obtain ⟨t, a1, b1⟩ := kk (T.setVm vm') hT X'
  exact ⟨t, st.trans a1, b1⟩
end Rows
section Ends
variable {p : Program} {l : Launch} {e : Env} {R : Room} {s : State} {m : MethodId} {args : Array Value} {below : List Frame} {meth : Method} {c : Code} {H : Heap} {locs : List Loc} {cells slots : Nat} {Q : State → Prop}
variable {mc ms : Nat} {free : Addr → Prop} {A0 A1 : Nat → Prop} {H0 : Heap} {a : Array Value} {ls : Array Slot} {st0 rest : List Value}
variable {Qc : Array Value → State → Outcome → State → Prop} {XC : String → State → State → Prop}
/-- what a body that may throw owes at its end -/
def vx_MQ (below : List Frame) (Qc : Array Value → State → Outcome → State → Prop) (XC : String → State → State → Prop) (a : Array Value) (s : State) (mc ms : Nat) (free : Addr → Prop) : State → Prop := fun t =>
  ∃ o, t.status = .running ∧ Ended t below o ∧ vx_Q Qc XC mc ms free a s o t
theorem vx_ret {g : JFrame} {mc ms : Nat} (k : W p l e R s m args below meth c H locs cells slots (MQ below Qc args s mc ms free) g) : W p l e R s m args below meth c H locs cells slots (vx_MQ below Qc XC args s mc ms free) g := by
  intro T hT X
  obtain ⟨t, a1, o, b1, b2, b3, b4⟩ := k T hT X
  exact ⟨t, a1, o, b1, b2, Or.inl ⟨b3, b4⟩⟩
/-- not caught here: it goes on to the caller -/
theorem vx_widen {g : JFrame} {q : Addr} {k n : Nat} (h1 : cells ≤ k) (h2 : slots ≤ n) (kk : vx_W p l e R s m args below meth c H locs k n Q g q) : vx_W p l e R s m args below meth c H locs cells slots Q g q := fun T hT X => kk T hT (stand_widen X h1 h2)
theorem vx_out {pc : Nat} {E : String} {ce : Cell} {q : Addr} {mc ms : Nat} (hout : ∀ x ∈ c.exceptionTable.toList, covers x pc = false) (hlocks : meth.locks = false) (hcell : H[q]? = some ce) (hv : ce.vm = .none) (hcl : s.vm.findClass E = some ce.cls)
    (hx : ∀ t : State, t.heap = H → s.vm.Alike t.vm → XC E s t) (hf : ∀ z ∈ locs, free z.base) (hc : cells ≤ mc) (hs : slots ≤ ms) :
    vx_W p l e R s m args below meth c H locs cells slots (vx_MQ below Qc XC args s mc ms free) (F0 m pc ls rest) q := by
  intro T hT X
  obtain ⟨st1, hrun, hend, hW, hsm⟩ := X.leaveThrown q (g := F0 m pc ls rest) rfl rfl rfl hout hlocks
  have hcell9 : (T.setFrames (.throwing q :: below)).heap[q]? = some ce := by
    show T.heap[q]? = some ce
    rw [hT]; exact hcell
  exact ⟨_, st1, .threw q, hrun, hend, Or.inr ⟨q, rfl, E, ce, locs, hx _ hT hW.alike, hcell9, hv, hcl, hW, hsm.mono hc hs, hf⟩⟩
theorem vx_frame {U : State} {k n : Nat} (h : s.sameButNew ({ U with vm := s.vm } : State) locs k n) : s.heap.size ≤ U.heap.size ∧ ∀ q : Nat, q < s.heap.size → (∀ z ∈ locs, z.base ≠ q) → U.heap[q]? = s.heap[q]? := by
  obtain ⟨-, h2, -, -, -, h6⟩ := h
  refine ⟨h2, fun q hq hz => ?_⟩
  obtain ⟨c9, e1, e2, e3, e4⟩ := h6 q _ (Array.getElem?_eq_getElem hq)
  have hs : c9.slots = (s.heap[q]).slots := Array.ext_getElem? fun i => e4 i fun hm => hz _ hm rfl
  have h9 : c9 = s.heap[q] := by
    rw [hs] at e2
    exact e2
  have e5 : U.heap[q]? = some c9 := e1
  rw [e5, h9, Array.getElem?_eq_getElem hq]
/-- the words of a throw but the four that speak of the heap -/
def vx_no (w : Cond) : Bool := decide (w ≠ .isRef (.static Bundle.tN "UNASSIGNED_STACK" Bundle.steD)) && decide (w ≠ .isRef (.static Bundle.tN "SUPPRESSED_SENTINEL" Bundle.listD)) && decide (w ≠ .laysStatic Bundle.tN "UNASSIGNED_STACK" Bundle.steD) && decide (w ≠ .laysStatic Bundle.tN "SUPPRESSED_SENTINEL" Bundle.listD)
def vx_at0 (own : String) (ic : Nat) (X : String) (names : List String) : List Cond := (Bundle.ownAtoms0 own ic X names).filter vx_no
def vx_atS (own : String) (ic : Nat) (X : String) (names : List String) : List Cond := (Bundle.ownAtoms own ic X names).filter vx_no
/-- a word that the tables alone decide, or a good one -/
def vx_ot (w : Cond) : Bool := w.onTables || goodWord w
theorem vx_ot_at {args a' : Array Value} {s U : State} {w : Cond} (hW : s.WarmedH U.vm) (hvm : s.vm = U.vm) (hg : vx_ot w = true) (h : w.before args s = true) : w.before a' U = true := by
  simp only [vx_ot, Bool.or_eq_true] at hg
  rcases hg with hg | hg
  · exact va_tabs hg hvm h
  · exact word_at hW (good_of_word hg) h
/-- a list's words: the good ones out of the method's own list, the others by premises of their own -/
theorem vx_hat {args : Array Value} {s : State} {L B : List Cond} (h1 : ∀ w ∈ L.filter goodWord, w.before args s = true) (h2 : ∀ w ∈ L.filter (fun w => !goodWord w), w ∈ B) (h3 : ∀ w ∈ B, w.before args s = true) : ∀ w ∈ L, w.before args s = true := by
  intro w hw
  by_cases g : goodWord w = true
  · exact h1 w (List.mem_filter.mpr ⟨hw, g⟩)
  · refine h3 w (h2 w (List.mem_filter.mpr ⟨hw, ?_⟩))
    show (!goodWord w) = true
    cases hgw : goodWord w
    · rfl
    · exact absurd hgw g
theorem vx_c {args : Array Value} {s : State} {w : Cond} {B : List Cond} (h : w.before args s = true) (t : ∀ w ∈ B, w.before args s = true) : ∀ w' ∈ w :: B, w'.before args s = true := fun w' h' => (List.mem_cons.mp h').elim (fun e => by rw [e]; exact h) (t w')
theorem vx_n {args : Array Value} {s : State} : ∀ w ∈ ([] : List Cond), w.before args s = true := fun _ h => nomatch h
theorem vx_own {args : Array Value} {s : State} {L : List Cond} (h1 : ∀ w ∈ L.filter vx_no, w.before args s = true)
    (hU : (Cond.isRef (.static Bundle.tN "UNASSIGNED_STACK" Bundle.steD)).before args s = true) (hN : (Cond.isRef (.static Bundle.tN "SUPPRESSED_SENTINEL" Bundle.listD)).before args s = true)
    (lU : (Cond.laysStatic Bundle.tN "UNASSIGNED_STACK" Bundle.steD).before args s = true) (lN : (Cond.laysStatic Bundle.tN "SUPPRESSED_SENTINEL" Bundle.listD).before args s = true) : ∀ w ∈ L, w.before args s = true := by
  intro w hw
  by_cases e1 : w = .isRef (.static Bundle.tN "UNASSIGNED_STACK" Bundle.steD)
  · rw [e1]; exact hU
  · by_cases e2 : w = .isRef (.static Bundle.tN "SUPPRESSED_SENTINEL" Bundle.listD)
    · rw [e2]; exact hN
    · by_cases e3 : w = .laysStatic Bundle.tN "UNASSIGNED_STACK" Bundle.steD
      · rw [e3]; exact lU
      · by_cases e4 : w = .laysStatic Bundle.tN "SUPPRESSED_SENTINEL" Bundle.listD
        · rw [e4]; exact lN
        · exact h1 w (List.mem_filter.mpr ⟨hw, by unfold vx_no; rw [decide_eq_true e1, decide_eq_true e2, decide_eq_true e3, decide_eq_true e4]; rfl⟩)
/-- where a static field lies, its class's statics cell in H -/
def vx_L (C n d : String) (A : Nat → Prop) (U : State) (H : Heap) : Prop := ∃ (c : ClassId) (k : Class) (i : Nat) (f : Field) (a : Nat) (cell : Cell), U.vm.findClass C = some c ∧ U.fieldFound? C n d = some (c, k, i, f) ∧ f.isStatic = true ∧ k.statics = some a ∧ H[a]? = some cell ∧ cell.vm.isStatics = true ∧ cell.cls = c ∧ f.slot < cell.slots.size ∧ k.staticTypes[f.slot]? = some f.type ∧ ¬ A a
theorem vx_L.moved {C n d : String} {A : Nat → Prop} {u U : State} {H : Heap} (hvm : u.vm.Alike U.vm) (h : vx_L C n d A u H) : vx_L C n d A U H := by
  obtain ⟨c, k, i, f, a, cell, h1, h2, h3, h4, h5, h6, h7, h8, h9, h10⟩ := h
  obtain ⟨k', hi', he⟩ := State.fieldFound?_setVm hvm h2
  exact ⟨c, k', i, f, a, cell, by rw [hvm.findClass]; exact h1, hi', h3, by rw [he]; exact h4, h5, h6, h7, h8, by rw [he]; exact h9, h10⟩
theorem vx_L.kept {C n d : String} {A : Nat → Prop} {U : State} {H H1 : Heap} (h : vx_L C n d A U H) (hq : ∀ a : Nat, a < H.size → ¬ A a → H1[a]? = H[a]?) : vx_L C n d A U H1 := by
  obtain ⟨c, k, i, f, a, cell, h1, h2, h3, h4, h5, h6, h7, h8, h9, h10⟩ := h
  exact ⟨c, k, i, f, a, cell, h1, h2, h3, h4, by rw [hq a (Array.getElem?_eq_some_iff.mp h5).1 h10]; exact h5, h6, h7, h8, h9, h10⟩
theorem vx_L.narrow {C n d : String} {A B : Nat → Prop} {U : State} {H : Heap} (h : vx_L C n d A U H) (hAB : ∀ q, B q → A q) : vx_L C n d B U H := by
  obtain ⟨c, k, i, f, a, cell, h1, h2, h3, h4, h5, h6, h7, h8, h9, h10⟩ := h
  exact ⟨c, k, i, f, a, cell, h1, h2, h3, h4, h5, h6, h7, h8, h9, fun z => h10 (hAB _ z)⟩
theorem vx_L.word {C n d : String} {A : Nat → Prop} {s : State} {args : Array Value} (h : vx_L C n d A s s.heap) : (Cond.laysStatic C n d).before args s = true := by
  obtain ⟨c, k, i, f, a, cell, h1, h2, h3, h4, h5, h6, h7, h8, h9, -⟩ := h
  show (Cond.laysStatic C n d).holds args s none s [] = true
  exact Cond.laysStatic_of h1 h2 h3 h4 h5 h6 h7 h8 h9
/-- .. and what it holds: null or some reference -/
def vx_Zq (C n d : String) (A : Nat → Prop) (U : State) (H : Heap) : Prop := va_Zq C n d A U H ∧ vx_L C n d A U H
theorem vx_Zq.moved {C n d : String} {A : Nat → Prop} {u U : State} {H : Heap} (hvm : u.vm.Alike U.vm) (h : vx_Zq C n d A u H) : vx_Zq C n d A U H := ⟨va_Zq.moved hvm h.1, vx_L.moved hvm h.2⟩
theorem vx_Zq.kept {C n d : String} {A : Nat → Prop} {U : State} {H H1 : Heap} (h : vx_Zq C n d A U H) (hq : ∀ a : Nat, a < H.size → ¬ A a → H1[a]? = H[a]?) : vx_Zq C n d A U H1 := ⟨va_Zq.kept h.1 hq, vx_L.kept h.2 hq⟩
theorem vx_Zq.narrow {C n d : String} {A B : Nat → Prop} {U : State} {H : Heap} (h : vx_Zq C n d A U H) (hAB : ∀ q, B q → A q) : vx_Zq C n d B U H := ⟨va_Zq.narrow h.1 hAB, vx_L.narrow h.2 hAB⟩
theorem vx_Zqof {args : Array Value} {s : State} {C n d : String} {A : Nat → Prop} (hl : (Cond.laysStatic C n d).before args s = true) (hini : (Cond.initialized C).before args s = true) (h : (Cond.isRef (.static C n d)).before args s = true) (hA : ∀ a : Nat, a < s.heap.size → ¬ A a) : vx_Zq C n d A s s.heap := by
  refine ⟨va_Zqof hl hini h hA, ?_⟩
  obtain ⟨c, k, i, f, a, cell, h1, h2, h3, h4, h5, h6, h7, h8, h9⟩ := Cond.laysStatic_spec hl
  exact ⟨c, k, i, f, a, cell, h1, h2, h3, h4, h5, h6, h7, h8, h9, hA a (Array.getElem?_eq_some_iff.mp h5).1⟩
theorem vx_isRef {C n d : String} {v : Value} {A : Nat → Prop} {s : State} {args : Array Value} (h : va_Z C n d v A s s.heap) (hv : v.isRef = true) : (Cond.isRef (.static C n d)).before args s = true := by
  obtain ⟨cf, kf, fi, f, a, cell, h1, h2, h3, h4, h5, h6, h7, -⟩ := h
  have he : (Term.static C n d).eval args s none [] s = some v := by
    simp [Term.eval, State.fieldNamed?, h1, h2, h4, h5, h6, h7]
  simp only [Cond.before, Cond.holds, Cond.value, he]
  cases v <;> simp_all [Value.isRef]
theorem vx_isRefq {C n d : String} {A : Nat → Prop} {s : State} {args : Array Value} (h : va_Zq C n d A s s.heap) : (Cond.isRef (.static C n d)).before args s = true := by
  rcases h with h | ⟨t, h⟩
  · exact vx_isRef h rfl
  · exact vx_isRef h rfl
/-- the same frame, seen from here: as if the method were called anew in this heap -/
theorem vx_rebase {T : State} (X : Stand p l e R s m args below meth c T locs cells slots) {R' : Room} (hf : R'.frames ≤ R.frames) (hl : R'.locals ≤ R.locals) (hc : cells + R'.cells ≤ R.cells) (hs : slots + R'.slots ≤ R.slots) :
    Stand p l e R' ((T.setVm s.vm).setFrames (.invoking m args :: below)) m args below meth c T [] 0 0 := by
  have htop : (T.setVm s.vm).topJava?.isSome := X.here.top
  have hF : ((T.setVm s.vm).setFrames (.invoking m args :: below)).frames = .invoking m args :: below := State.frames_setFrames _ (State.cur_lt_of_top htop)
  obtain ⟨g₀, hg0⟩ := Option.isSome_iff_exists.mp htop
  obtain ⟨r, hr⟩ := State.topJava?_eq_some.mp hg0
  have hl9 : e.platform.stackLimits (T.setVm s.vm).me = e.platform.stackLimits s.me := X.limits
  have hb9 : (T.setVm s.vm).me.stackBytes = s.me.stackBytes := X.bytes
  refine ⟨X.admits, X.cas, X.clock, hF, ?_, X.hears, X.method, X.code, X.here, X.tail, X.warmed, ?_, ?_, ?_⟩
  · have h := X.room
    have hU : ((T.setVm s.vm).setFrames (.invoking m args :: below)).localsInUse = s.localsInUse := by
      rw [State.localsInUse_invoking hF (meth := meth) (c := c) X.method X.code, State.localsInUse_invoking X.frames X.method X.code]
    simp only [State.hasRoom, Bool.and_eq_true, decide_eq_true_eq] at h ⊢
    obtain ⟨⟨⟨⟨h1, h2, h3, h4, h5, h6⟩, h7⟩, h8⟩, h9⟩ := h
    rw [X.frames, List.length_cons] at h2 h3
    have q1 := X.heapSize
    have q2 := X.used
    simp only [hF, hU, List.length_cons, State.stackLimits_setFrames, State.stackBytes_setFrames, hl9, hb9]
    refine ⟨⟨⟨⟨by omega, by omega, by omega, by omega, by omega, h6⟩, ?_⟩, ?_⟩, X.book⟩
    · show T.heap.size + R'.cells ≤ e.platform.maxCells
      omega
    · show T.slotsUsed + R'.slots ≤ e.platform.maxSlots
      omega
  · rw [State.stackLimits_setFrames]; rfl
  · rw [State.stackBytes_setFrames]; rfl
  · refine ⟨?_, Nat.le_refl _, Nat.le_refl _, ?_, ?_, fun a c9 h9 => ⟨c9, h9, rfl, rfl, fun _ _ => rfl⟩⟩
    · obtain ⟨t, ht, -⟩ := State.frames_cons hr
      show T.setVm s.vm = { ((T.setVm s.vm).setFrames (.invoking m args :: below)).setFrames (T.setVm s.vm).frames with heap := T.heap, slotsUsed := T.slotsUsed }
      rw [State.setFrames_setFrames, State.setFrames_self ht]
      rfl
    · show T.slotsUsed = T.slotsUsed + ((T.heap.toList.drop T.heap.size).map (·.slots.size)).sum
      rw [List.drop_eq_nil_of_le (Nat.le_of_eq Array.length_toList)]
      rfl
    · show ((T.heap.toList.drop T.heap.size).map (·.slots.size)).sum ≤ 0
      rw [List.drop_eq_nil_of_le (Nat.le_of_eq Array.length_toList)]
      exact Nat.le_refl _
/-- 'throw new E()': new; dup; invokespecial; athrow -/
theorem vx_throw0 {cc : ByteArray} {pc : Nat} (hexec : p.tables.exec = Jvm.exec) (hb : c.code = cc) (hl : l.stackTraces = false) {own cls : String} {names : List String} {ik ic mc ms : Nat} {A : Nat → Prop}
    (hown : s.vm.findClass own = some m.cls) (hcls : Bundle.fit cls = true) (hnames : ∀ n ∈ names, Bundle.fit n = true)
    (hk : (Cond.classLink own ik cls).before args s = true) (hini : (Cond.initialized cls).before args s = true) (hat : ∀ w ∈ vx_at0 own ic cls names, w.before args s = true)
    (hgood : ∀ w ∈ Cond.classLink own ik cls :: Cond.initialized cls :: vx_at0 own ic cls names, vx_ot w = true)
    (hU : vx_Zq Bundle.tN "UNASSIGNED_STACK" Bundle.steD A s s.heap) (hN : vx_Zq Bundle.tN "SUPPRESSED_SENTINEL" Bundle.listD A s s.heap) (hS : va_S A s.heap H locs) (hsize : ls.size = c.maxLocals)
    (d0 : decode cc pc = .ok (.new ik, 3)) (d3 : decode cc (pc + 3) = .ok (.dup, 1)) (d4 : decode cc (pc + 4) = .ok (.invokespecial ic, 3)) (d7 : decode cc (pc + 7) = .ok (.athrow, 1))
    (hout : ∀ x ∈ c.exceptionTable.toList, covers x (pc + 7) = false)
    (hRframes : names.length + 3 < R.frames) (hRlocals : (rest.map fun v => v.category).sum + (13 * (names.length + 1) + 42) ≤ R.locals) (hRcells : cells + 1 ≤ R.cells) (hRslots : slots + 6 ≤ R.slots) (hlocks : meth.locks = false)
    (hx : ∀ t : State, s.vm.Alike t.vm → H.size ≤ t.heap.size → (∀ q : Nat, q < H.size → t.heap[q]? = H[q]?) → XC cls s t)
    (hf : ∀ z ∈ locs, free z.base) (hc : cells + 1 ≤ mc) (hs : slots + 6 ≤ ms) :
    W p l e R s m args below meth c H locs cells slots (vx_MQ below Qc XC args s mc ms free) (F0 m pc ls rest) := by
  intro T hT X
  have htr : e.platform.stackTraces = false := (show e.platform.stackTraces = l.stackTraces by rw [X.admits.platform]).trans hl
  have Y := vx_rebase X (R' := { frames := R.frames, locals := R.locals, cells := 1, slots := 6 }) (Nat.le_refl _) (Nat.le_refl _) hRcells hRslots
  obtain ⟨s', hA⟩ : ∃ z, z = (T.setVm s.vm).setFrames (.invoking m args :: below) := ⟨_, rfl⟩
  rw [← hA] at Y
  have hvm : s'.vm = s.vm := by rw [hA]; rfl
  have hhp : s'.heap = H := by rw [hA]; exact hT
  have hW0 : s.WarmedH s'.vm := by rw [hvm]; exact State.WarmedH.refl s
  have hat' : ∀ w ∈ vx_at0 own ic cls names, w.before args s' = true := fun w hw => vx_ot_at hW0 hvm.symm (hgood w (List.mem_cons_of_mem _ (List.mem_cons_of_mem _ hw))) (hat w hw)
  have hk' : (Cond.classLink own ik cls).before args s' = true := vx_ot_at hW0 hvm.symm (hgood _ List.mem_cons_self) hk
  have hini' : (Cond.initialized cls).before args s' = true := vx_ot_at hW0 hvm.symm (hgood _ (List.mem_cons_of_mem _ List.mem_cons_self)) hini
  have hU' : vx_Zq Bundle.tN "UNASSIGNED_STACK" Bundle.steD A s' s'.heap := by rw [hhp]; exact vx_Zq.moved hW0.alike (hU.kept hS.2.1)
  have hN' : vx_Zq Bundle.tN "SUPPRESSED_SENTINEL" Bundle.listD A s' s'.heap := by rw [hhp]; exact vx_Zq.moved hW0.alike (hN.kept hS.2.1)
  have h : ∀ w ∈ Bundle.ownAtoms0 own ic cls names, w.before args s' = true := vx_own hat' (vx_isRefq hU'.1) (vx_isRefq hN'.1) hU'.2.word hN'.2.word
  have hown' : s'.vm.findClass own = some m.cls := by rw [hvm]; exact hown
  have hins : (Cond.instantiable cls 6).before args s' = true := h _ (by simp [Bundle.ownAtoms0])
  obtain ⟨vm₁, cX, kX, hfX, hkX, -, -, X₁, st1⟩ := Y.newCold hexec (own := own) (C := cls) (index := ik) (n := 6) hown' hk' hins hini'
    (g := F0 m pc ls rest) rfl (by rw [hb]; exact d0) (Nat.le_refl _) (Nat.le_refl _)
  generalize hT1 : (T.setVm vm₁).pushCell { cls := cX, slots := kX.instanceTypes.map defaultValue, vm := .none } = T1 at X₁ st1
  have hcat : (Value.ref T.heap.size).category = 1 := rfl
  have hcellA : T1.heap[T.heap.size]? = some (freshCell cX kX) := by rw [← hT1]; exact State.heap_pushCell_size _ _
  have d3' : decode c.code (pc + 3) = .ok (.dup, 1) := by rw [hb]; exact d3
  obtain ⟨U, hsteps, hrun, hend, hW, hsame, ce, hce, hO⟩ := X₁.ctorThrow0 hexec htr (own := own) (cls := cls) (names := names) (ic := ic) hown' hcls hnames h (fun x hx => nomatch hx) hfX hkX hcellA (by rw [hhp, hT]; exact Nat.le_refl _)
    (g := { method := m, pc := pc + 4, locals := ls, stack := .ref T.heap.size :: .ref T.heap.size :: rest, locked := none }) rfl hsize rfl rfl (rest := rest) rfl
    (by rw [hb]; exact d4) (by rw [hb]; exact d7) hout hRframes (by simp only [List.map_cons, List.sum_cons, hcat]; omega) hlocks
  obtain ⟨f1, f2⟩ := vx_frame hsame
  rw [hhp] at f1 f2
  have hWs : s.WarmedH U.vm := State.WarmedH.trans hW0 hW
  have hcl : s.vm.findClass cls = some ce.cls := by
    have h9 := hO.cls
    rw [hvm] at h9
    exact h9
  have hall : s.sameButNew ({ U with vm := s.vm } : State) locs mc ms := by
    subst hA
    obtain ⟨e1, e2⟩ := hsame
    rw [State.setFrames_setFrames] at e1
    have h2 : (T.setVm s.vm).sameButNew ({ U with vm := s.vm } : State) [] (0 + 1) (0 + 6) := ⟨e1, e2⟩
    have h3 := X.same.trans h2
    rw [List.append_nil] at h3
    exact h3.mono hc hs
  refine ⟨U, ?_, .threw T.heap.size, hrun, hend, Or.inr ⟨T.heap.size, rfl, cls, ce, locs, hx U hWs.alike f1 (fun q hq => f2 q hq (fun z hz => nomatch hz)), hce, hO.vm, hcl, hWs, hall, hf⟩⟩
  refine st1 _ ?_
  show Steps p.tables e below (T1.setTop { method := m, pc := pc + 3, locals := ls, stack := .ref T.heap.size :: rest, locked := none }) _
  jvm_step X₁.here [X₁.here.top, hexec, d3', Value.category]
  exact hsteps
/-- 'throw new E("text")': new; dup; ldc; invokespecial; athrow -/
theorem vx_throwS {cc : ByteArray} {pc : Nat} (hexec : p.tables.exec = Jvm.exec) (hb : c.code = cc) (hl : l.stackTraces = false) {own cls text : String} {names : List String} {ik is ic mc ms sa : Nat} {A : Nat → Prop}
    (hown : s.vm.findClass own = some m.cls) (hcls : Bundle.fit cls = true) (hnames : ∀ n ∈ names, Bundle.fit n = true)
    (hk : (Cond.classLink own ik cls).before args s = true) (hini : (Cond.initialized cls).before args s = true) (hstr : vk_R own is text sa s) (hat : ∀ w ∈ vx_atS own ic cls names, w.before args s = true)
    (hgood : ∀ w ∈ Cond.classLink own ik cls :: Cond.initialized cls :: vx_atS own ic cls names, vx_ot w = true)
    (hU : vx_Zq Bundle.tN "UNASSIGNED_STACK" Bundle.steD A s s.heap) (hN : vx_Zq Bundle.tN "SUPPRESSED_SENTINEL" Bundle.listD A s s.heap) (hS : va_S A s.heap H locs) (hsize : ls.size = c.maxLocals)
    (d0 : decode cc pc = .ok (.new ik, 3)) (d3 : decode cc (pc + 3) = .ok (.dup, 1)) (d4 : decode cc (pc + 4) = .ok (.ldc is, 2)) (d6 : decode cc (pc + 6) = .ok (.invokespecial ic, 3)) (d9 : decode cc (pc + 9) = .ok (.athrow, 1))
    (hout : ∀ x ∈ c.exceptionTable.toList, covers x (pc + 9) = false)
    (hRframes : names.length + 3 < R.frames) (hRlocals : (rest.map fun v => v.category).sum + (13 * (names.length + 1) + 43) ≤ R.locals) (hRcells : cells + 1 ≤ R.cells) (hRslots : slots + 6 ≤ R.slots) (hlocks : meth.locks = false)
    (hx : ∀ t : State, s.vm.Alike t.vm → H.size ≤ t.heap.size → (∀ q : Nat, q < H.size → t.heap[q]? = H[q]?) → XC cls s t)
    (hf : ∀ z ∈ locs, free z.base) (hc : cells + 1 ≤ mc) (hs : slots + 6 ≤ ms) :
    W p l e R s m args below meth c H locs cells slots (vx_MQ below Qc XC args s mc ms free) (F0 m pc ls rest) := by
  intro T hT X
  have htr : e.platform.stackTraces = false := (show e.platform.stackTraces = l.stackTraces by rw [X.admits.platform]).trans hl
  have Y := vx_rebase X (R' := { frames := R.frames, locals := R.locals, cells := 1, slots := 6 }) (Nat.le_refl _) (Nat.le_refl _) hRcells hRslots
  obtain ⟨s', hA⟩ : ∃ z, z = (T.setVm s.vm).setFrames (.invoking m args :: below) := ⟨_, rfl⟩
  rw [← hA] at Y
  have hvm : s'.vm = s.vm := by rw [hA]; rfl
  have hhp : s'.heap = H := by rw [hA]; exact hT
  have hW0 : s.WarmedH s'.vm := by rw [hvm]; exact State.WarmedH.refl s
  have hat' : ∀ w ∈ vx_atS own ic cls names, w.before args s' = true := fun w hw => vx_ot_at hW0 hvm.symm (hgood w (List.mem_cons_of_mem _ (List.mem_cons_of_mem _ hw))) (hat w hw)
  have hk' : (Cond.classLink own ik cls).before args s' = true := vx_ot_at hW0 hvm.symm (hgood _ List.mem_cons_self) hk
  have hini' : (Cond.initialized cls).before args s' = true := vx_ot_at hW0 hvm.symm (hgood _ (List.mem_cons_of_mem _ List.mem_cons_self)) hini
  have hU' : vx_Zq Bundle.tN "UNASSIGNED_STACK" Bundle.steD A s' s'.heap := by rw [hhp]; exact vx_Zq.moved hW0.alike (hU.kept hS.2.1)
  have hN' : vx_Zq Bundle.tN "SUPPRESSED_SENTINEL" Bundle.listD A s' s'.heap := by rw [hhp]; exact vx_Zq.moved hW0.alike (hN.kept hS.2.1)
  have h : ∀ w ∈ Bundle.ownAtoms own ic cls names, w.before args s' = true := vx_own hat' (vx_isRefq hU'.1) (vx_isRefq hN'.1) hU'.2.word hN'.2.word
  have hown' : s'.vm.findClass own = some m.cls := by rw [hvm]; exact hown
  have hins : (Cond.instantiable cls 6).before args s' = true := h _ (by simp [Bundle.ownAtoms])
  obtain ⟨vm₁, cX, kX, hfX, hkX, -, -, X₁, st1⟩ := Y.newCold hexec (own := own) (C := cls) (index := ik) (n := 6) hown' hk' hins hini'
    (g := F0 m pc ls rest) rfl (by rw [hb]; exact d0) (Nat.le_refl _) (Nat.le_refl _)
  generalize hT1 : (T.setVm vm₁).pushCell { cls := cX, slots := kX.instanceTypes.map defaultValue, vm := .none } = T1 at X₁ st1
  have hcat : (Value.ref T.heap.size).category = 1 := rfl
  have hcellA : T1.heap[T.heap.size]? = some (freshCell cX kX) := by rw [← hT1]; exact State.heap_pushCell_size _ _
  have d3' : decode c.code (pc + 3) = .ok (.dup, 1) := by rw [hb]; exact d3
  have d4' : decode c.code (pc + 4) = .ok (.ldc is, 2) := by rw [hb]; exact d4
  have hstr' : vk_R own is text sa s' := vk_R.warm hW0 hstr
  obtain ⟨U, hsteps, hrun, hend, hW, hsame, ce, hce, hO⟩ := X₁.ctorThrowS hexec htr (own := own) (cls := cls) (names := names) (ic := ic) hown' hcls hnames h (fun x hx => nomatch hx) hfX hkX hcellA (by rw [hhp, hT]; exact Nat.le_refl _) (msg := .ref sa) rfl
    (g := { method := m, pc := pc + 6, locals := ls, stack := .ref sa :: .ref T.heap.size :: .ref T.heap.size :: rest, locked := none }) rfl hsize rfl rfl (rest := rest) rfl
    (by rw [hb]; exact d6) (by rw [hb]; exact d9) hout hRframes (by simp only [List.map_cons, List.sum_cons, hcat]; omega) hlocks
  obtain ⟨f1, f2⟩ := vx_frame hsame
  rw [hhp] at f1 f2
  have hWs : s.WarmedH U.vm := State.WarmedH.trans hW0 hW
  have hcl : s.vm.findClass cls = some ce.cls := by
    have h9 := hO.cls
    rw [hvm] at h9
    exact h9
  have hall : s.sameButNew ({ U with vm := s.vm } : State) locs mc ms := by
    subst hA
    obtain ⟨e1, e2⟩ := hsame
    rw [State.setFrames_setFrames] at e1
    have h2 : (T.setVm s.vm).sameButNew ({ U with vm := s.vm } : State) [] (0 + 1) (0 + 6) := ⟨e1, e2⟩
    have h3 := X.same.trans h2
    rw [List.append_nil] at h3
    exact h3.mono hc hs
  refine ⟨U, ?_, .threw T.heap.size, hrun, hend, Or.inr ⟨T.heap.size, rfl, cls, ce, locs, hx U hWs.alike f1 (fun q hq => f2 q hq (fun z hz => nomatch hz)), hce, hO.vm, hcl, hWs, hall, hf⟩⟩
  refine st1 _ ?_
  show Steps p.tables e below (T1.setTop { method := m, pc := pc + 3, locals := ls, stack := .ref T.heap.size :: rest, locked := none }) _
  jvm_step X₁.here [X₁.here.top, hexec, d3', Value.category]
  exact X₁.ldcString hexec (own := own) (text := text) (index := is) (a := sa) hown' hstr'.1 hstr'.2
    (g := { method := m, pc := pc + 4, locals := ls, stack := .ref T.heap.size :: .ref T.heap.size :: rest, locked := none }) rfl d4' _ hsteps
/-- 'throw new E("text")', the text by a wide index -/
theorem vx_throwSW {cc : ByteArray} {pc : Nat} (hexec : p.tables.exec = Jvm.exec) (hb : c.code = cc) (hl : l.stackTraces = false) {own cls text : String} {names : List String} {ik is ic mc ms sa : Nat} {A : Nat → Prop}
    (hown : s.vm.findClass own = some m.cls) (hcls : Bundle.fit cls = true) (hnames : ∀ n ∈ names, Bundle.fit n = true)
    (hk : (Cond.classLink own ik cls).before args s = true) (hini : (Cond.initialized cls).before args s = true) (hstr : vk_R own is text sa s) (hat : ∀ w ∈ vx_atS own ic cls names, w.before args s = true)
    (hgood : ∀ w ∈ Cond.classLink own ik cls :: Cond.initialized cls :: vx_atS own ic cls names, vx_ot w = true)
    (hU : vx_Zq Bundle.tN "UNASSIGNED_STACK" Bundle.steD A s s.heap) (hN : vx_Zq Bundle.tN "SUPPRESSED_SENTINEL" Bundle.listD A s s.heap) (hS : va_S A s.heap H locs) (hsize : ls.size = c.maxLocals)
    (d0 : decode cc pc = .ok (.new ik, 3)) (d3 : decode cc (pc + 3) = .ok (.dup, 1)) (d4 : decode cc (pc + 4) = .ok (.ldc_w is, 3)) (d7 : decode cc (pc + 7) = .ok (.invokespecial ic, 3)) (d10 : decode cc (pc + 10) = .ok (.athrow, 1))
    (hout : ∀ x ∈ c.exceptionTable.toList, covers x (pc + 10) = false)
    (hRframes : names.length + 3 < R.frames) (hRlocals : (rest.map fun v => v.category).sum + (13 * (names.length + 1) + 43) ≤ R.locals) (hRcells : cells + 1 ≤ R.cells) (hRslots : slots + 6 ≤ R.slots) (hlocks : meth.locks = false)
    (hx : ∀ t : State, s.vm.Alike t.vm → H.size ≤ t.heap.size → (∀ q : Nat, q < H.size → t.heap[q]? = H[q]?) → XC cls s t)
    (hf : ∀ z ∈ locs, free z.base) (hc : cells + 1 ≤ mc) (hs : slots + 6 ≤ ms) :
    W p l e R s m args below meth c H locs cells slots (vx_MQ below Qc XC args s mc ms free) (F0 m pc ls rest) := by
  intro T hT X
  have htr : e.platform.stackTraces = false := (show e.platform.stackTraces = l.stackTraces by rw [X.admits.platform]).trans hl
  have Y := vx_rebase X (R' := { frames := R.frames, locals := R.locals, cells := 1, slots := 6 }) (Nat.le_refl _) (Nat.le_refl _) hRcells hRslots
  obtain ⟨s', hA⟩ : ∃ z, z = (T.setVm s.vm).setFrames (.invoking m args :: below) := ⟨_, rfl⟩
  rw [← hA] at Y
  have hvm : s'.vm = s.vm := by rw [hA]; rfl
  have hhp : s'.heap = H := by rw [hA]; exact hT
  have hW0 : s.WarmedH s'.vm := by rw [hvm]; exact State.WarmedH.refl s
  have hat' : ∀ w ∈ vx_atS own ic cls names, w.before args s' = true := fun w hw => vx_ot_at hW0 hvm.symm (hgood w (List.mem_cons_of_mem _ (List.mem_cons_of_mem _ hw))) (hat w hw)
  have hk' : (Cond.classLink own ik cls).before args s' = true := vx_ot_at hW0 hvm.symm (hgood _ List.mem_cons_self) hk
  have hini' : (Cond.initialized cls).before args s' = true := vx_ot_at hW0 hvm.symm (hgood _ (List.mem_cons_of_mem _ List.mem_cons_self)) hini
  have hU' : vx_Zq Bundle.tN "UNASSIGNED_STACK" Bundle.steD A s' s'.heap := by rw [hhp]; exact vx_Zq.moved hW0.alike (hU.kept hS.2.1)
  have hN' : vx_Zq Bundle.tN "SUPPRESSED_SENTINEL" Bundle.listD A s' s'.heap := by rw [hhp]; exact vx_Zq.moved hW0.alike (hN.kept hS.2.1)
  have h : ∀ w ∈ Bundle.ownAtoms own ic cls names, w.before args s' = true := vx_own hat' (vx_isRefq hU'.1) (vx_isRefq hN'.1) hU'.2.word hN'.2.word
  have hown' : s'.vm.findClass own = some m.cls := by rw [hvm]; exact hown
  have hins : (Cond.instantiable cls 6).before args s' = true := h _ (by simp [Bundle.ownAtoms])
  obtain ⟨vm₁, cX, kX, hfX, hkX, -, -, X₁, st1⟩ := Y.newCold hexec (own := own) (C := cls) (index := ik) (n := 6) hown' hk' hins hini'
    (g := F0 m pc ls rest) rfl (by rw [hb]; exact d0) (Nat.le_refl _) (Nat.le_refl _)
  generalize hT1 : (T.setVm vm₁).pushCell { cls := cX, slots := kX.instanceTypes.map defaultValue, vm := .none } = T1 at X₁ st1
  have hcat : (Value.ref T.heap.size).category = 1 := rfl
  have hcellA : T1.heap[T.heap.size]? = some (freshCell cX kX) := by rw [← hT1]; exact State.heap_pushCell_size _ _
  have d3' : decode c.code (pc + 3) = .ok (.dup, 1) := by rw [hb]; exact d3
  have d4' : decode c.code (pc + 4) = .ok (.ldc_w is, 3) := by rw [hb]; exact d4
  have hstr' : vk_R own is text sa s' := vk_R.warm hW0 hstr
  obtain ⟨U, hsteps, hrun, hend, hW, hsame, ce, hce, hO⟩ := X₁.ctorThrowS hexec htr (own := own) (cls := cls) (names := names) (ic := ic) hown' hcls hnames h (fun x hx => nomatch hx) hfX hkX hcellA (by rw [hhp, hT]; exact Nat.le_refl _) (msg := .ref sa) rfl
    (g := { method := m, pc := pc + 7, locals := ls, stack := .ref sa :: .ref T.heap.size :: .ref T.heap.size :: rest, locked := none }) rfl hsize rfl rfl (rest := rest) rfl
    (by rw [hb]; exact d7) (by rw [hb]; exact d10) hout hRframes (by simp only [List.map_cons, List.sum_cons, hcat]; omega) hlocks
  obtain ⟨f1, f2⟩ := vx_frame hsame
  rw [hhp] at f1 f2
  have hWs : s.WarmedH U.vm := State.WarmedH.trans hW0 hW
  have hcl : s.vm.findClass cls = some ce.cls := by
    have h9 := hO.cls
    rw [hvm] at h9
    exact h9
  have hall : s.sameButNew ({ U with vm := s.vm } : State) locs mc ms := by
    subst hA
    obtain ⟨e1, e2⟩ := hsame
    rw [State.setFrames_setFrames] at e1
    have h2 : (T.setVm s.vm).sameButNew ({ U with vm := s.vm } : State) [] (0 + 1) (0 + 6) := ⟨e1, e2⟩
    have h3 := X.same.trans h2
    rw [List.append_nil] at h3
    exact h3.mono hc hs
  refine ⟨U, ?_, .threw T.heap.size, hrun, hend, Or.inr ⟨T.heap.size, rfl, cls, ce, locs, hx U hWs.alike f1 (fun q hq => f2 q hq (fun z hz => nomatch hz)), hce, hO.vm, hcl, hWs, hall, hf⟩⟩
  refine st1 _ ?_
  show Steps p.tables e below (T1.setTop { method := m, pc := pc + 3, locals := ls, stack := .ref T.heap.size :: rest, locked := none }) _
  jvm_step X₁.here [X₁.here.top, hexec, d3', Value.category]
  exact X₁.ldcStringW hexec (own := own) (text := text) (index := is) (a := sa) hown' hstr'.1 hstr'.2
    (g := { method := m, pc := pc + 4, locals := ls, stack := .ref T.heap.size :: .ref T.heap.size :: rest, locked := none }) rfl d4' _ hsteps
end Ends
section Bodies
variable {l : Launch}
theorem vx_ofW {y : MethodName} {ws ws' : List Cond} {rm : Room} {Pc : Array Value → State → Prop} {Qc : Array Value → State → Outcome → State → Prop} {XC : String → State → State → Prop} {mc ms : Nat} {free : Addr → Prop} {cc : ByteArray} {maxL : Nat} {ret : Option FieldType}
    (hy : plainName y.cls = true) (hw : ws = Cond.code y cc maxL ret :: ws')
    (body : ∀ p e s m args below meth c s₁, BodyLoose p l y (headSpec ws rm) cc maxL ret e s m args below meth c s₁ → c.maxLocals = maxL → (∀ x ∈ c.exceptionTable.toList, False) → Pc args s →
      W p l e (headSpec ws rm).room s m args below meth c s.heap [] 0 0 (vx_MQ below Qc XC args s mc ms free) (entryFrame m args maxL)) : vx_Met l y ws rm Pc Qc XC mc ms free := by
  refine MetFree.of_bodyS (code := cc) (maxLocals := maxL) (ret := ret) hy ?_ ?_
  · intro args s m h hn
    obtain ⟨meth, c, h1, h2, h3, h4, h5, h6, -, -⟩ := Cond.code_spec hn (atoms_spec (ws := ws) h _ (by rw [hw]; exact List.mem_cons_self))
    exact ⟨meth, c, h1, h2, h3, h4, h5, h6⟩
  · intro p e s m args below meth c s₁ B hml hP _
    have hh0 : s₁.heap = s.heap := by rw [B.state]; rfl
    have ht : ∀ x ∈ c.exceptionTable.toList, False := by
      obtain ⟨meth9, c9, h1, h2, -, -, -, -, h7, -⟩ := Cond.code_spec B.named (atoms_spec (ws := ws) B.pre _ (by rw [hw]; exact List.mem_cons_self))
      cases Option.some.inj (h1.symm.trans B.method)
      cases Option.some.inj (h2.symm.trans (Stand.of_body B).code)
      intro x hx
      rw [Array.isEmpty_iff.mp h7] at hx
      cases hx
    obtain ⟨t, a1, o, b1, b2, b3⟩ := body p e s m args below meth c s₁ B hml ht hP s₁ hh0 (Stand.of_body B)
    exact ⟨t, o, a1, b1, b2, b3⟩
/-- the table of a body with handlers -/
theorem vx_table {p : Program} {x y : MethodName} {S : Spec} {cc bytes : ByteArray} {maxL maxL' : Nat} {ret ret' : Option FieldType} {e : Env} {s s₁ : State} {m : MethodId} {args : Array Value} {below : List Frame} {meth : Method} {c : Code} {hh : List (Nat × Nat × Nat × Nat)}
    (B : BodyLoose p l y S cc maxL ret e s m args below meth c s₁) (h : (Cond.codeWith y bytes maxL' ret' hh).before args s = true) : c.exceptionTable.toList = tableOf hh := by
  obtain ⟨m9, meth9, c9, hn9, h1, h2, -, -, h6, -⟩ := Cond.codeWith_spec h
  cases Option.some.inj (hn9.symm.trans B.named)
  cases Option.some.inj (h1.symm.trans B.method)
  cases Option.some.inj (h2.symm.trans (Stand.of_body B).code)
  rw [← h6, table_eq]
end Bodies
end VXA
/-! ===== END ===== -/
/-! ===== BEGIN a static call of a method with an exception table ===== -/
section VXS
variable {p : Program} {l : Launch} {e : Env} {R : Room} {s : State} {m : MethodId} {args : Array Value} {below : List Frame} {meth : Method} {c : Code} {T : State} {H : Heap} {locs : List Loc} {cells slots : Nat}
abbrev vx_CSW (R : Room) (s : State) (args : Array Value) (own : String) (index : Nat) (y : MethodName) (bytes : ByteArray) (maxL : Nat) (ret : Option FieldType) (hh : List (Nat × Nat × Nat × Nat)) (ws : List Cond) (rm : Room) (mc ms n : Nat) : Prop :=
  (rm.cells = mc ∧ rm.slots = ms ∧ rm.frames + 1 ≤ R.frames ∧ 8 + (maxL + 11) + rm.locals ≤ R.locals ∧ (∀ w ∈ ws, ∀ (a' : Array Value) (U : State), s.WarmedH U.vm → w.before a' U = true) ∧ Cond.codeWith y bytes maxL ret hh ∈ ws) ∧
  (Cond.codeWith y bytes maxL ret hh).before args s = true ∧ (Cond.initialized y.cls).before args s = true ∧ (y.cls ≠ "java/lang/invoke/MethodHandle" ∧ y.cls ≠ "java/lang/invoke/VarHandle") ∧
  (∀ sig, parseMethodDescriptor y.desc = some sig → n = sig.parameters.length) ∧ (Cond.methodLink own index y).before args s = true ∧ (Cond.static y).before args s = true
theorem vx_cwSW {own : String} {index maxL mc ms : Nat} {y : MethodName} {bytes : ByteArray} {ret : Option FieldType} {hh : List (Nat × Nat × Nat × Nat)} {Ts ws ws' : List Cond} {rm : Room} (n : Nat) (ht : ∀ w ∈ Ts, w.before args s = true) (hT : GoodIn Ts (va_wsS own index y ws)) (hw : ws = Cond.codeWith y bytes maxL ret hh :: ws') (hrc : rm.cells = mc) (hrs : rm.slots = ms)
    (hd : y.cls ≠ "java/lang/invoke/MethodHandle" ∧ y.cls ≠ "java/lang/invoke/VarHandle" ∧ (parseMethodDescriptor y.desc).map (fun d => d.parameters.length) = some n) (hR : rm.frames + 1 ≤ R.frames ∧ 8 + (maxL + 11) + rm.locals ≤ R.locals) :
    vx_CSW R s args own index y bytes maxL ret hh ws rm mc ms n := by
  have ok : ∀ w ∈ va_wsS own index y ws, w.before args s = true := fun w h => ht w (hT w h).1
  have hG : GoodIn Ts ws := fun w h => hT w (by unfold va_wsS; exact List.mem_append_right _ h)
  have hc : Cond.codeWith y bytes maxL ret hh ∈ ws := by rw [hw]; exact List.mem_cons_self
  refine ⟨⟨hrc, hrs, hR.1, hR.2, pay_in ht hG, hc⟩, ht _ (hG _ hc).1, ok _ (by simp [va_wsS]), ⟨hd.1, hd.2.1⟩, fun sig h => ?_, ok _ (by simp [va_wsS]), ok _ (by simp [va_wsS])⟩
  have h2 := hd.2.2
  rw [h] at h2
  exact (Option.some.inj h2).symm
theorem vx_callSW (X : Stand p l e R s m args below meth c T locs cells slots) (hexec : p.tables.exec = Jvm.exec) {own : String} {index : Nat} {y : MethodName} {bytes : ByteArray} {maxL : Nat} {ret : Option FieldType} {hh : List (Nat × Nat × Nat × Nat)}
    (hown : s.vm.findClass own = some m.cls) (hlink : (Cond.methodLink own index y).before args s = true) (hstat : (Cond.static y).before args s = true) (hinit : (Cond.initialized y.cls).before args s = true)
    (hcode : (Cond.codeWith y bytes maxL ret hh).before args s = true) (hy : y.cls ≠ "java/lang/invoke/MethodHandle" ∧ y.cls ≠ "java/lang/invoke/VarHandle")
    {W9 : Nat} {Pre : Pt → Array Value → Prop} {Post : Pt → Array Value → Option Value → Pt → Prop} (hK : Back l R p e below s args y 3 W9 Pre Post)
    {g : JFrame} (hg : g.method = m) (hsize : g.locals.size = c.maxLocals) {argsL rest : List Value} (hlen : ∀ sig, parseMethodDescriptor y.desc = some sig → argsL.length = sig.parameters.length)
    (hstack : g.stack = argsL.reverse ++ rest) (hW : 2 * g.monitorRoom + (rest.map fun v => v.category).sum ≤ W9) (hdg : decode c.code g.pc = .ok (.invokestatic index, 3))
    (hpre : ∀ vm₁, s.WarmedH vm₁ → Pre ⟨T.setVm vm₁, locs, cells, slots⟩ argsL.toArray) :
    ∃ (v : Option Value) (vm₁ : Vm) (B : Pt), s.WarmedH vm₁ ∧ Stand p l e R s m args below meth c B.U B.locs B.cells B.slots ∧ Post ⟨T.setVm vm₁, locs, cells, slots⟩ argsL.toArray v B ∧
      ∀ target, Steps p.tables e below (B.U.setTop { g with pc := g.pc + 3, stack := v.toList ++ rest }) target → Steps p.tables e below (T.setTop g) target := by
  obtain ⟨mk, methM, cM, hnamed, hmethM, -, -, -, -, -, -, hsigM⟩ := Cond.codeWith_spec hcode
  have hstatic : methM.isStatic = true := Cond.static_spec hnamed hmethM hstat
  obtain ⟨kP, hkP, -⟩ := className_of_methodNamed hnamed
  have hinitP : kP.init = .initialized := Cond.initialized_spec (findClass_of_methodNamed hnamed) hkP hinit
  obtain ⟨vm₁, X₁, hstep₁⟩ := X.invokestatic hexec hown hlink hnamed hmethM hstatic hkP hinitP hy (g := g) hg (argsL := argsL) (rest := rest) (hlen _ hsigM) hstack hdg
  obtain ⟨v, B, X', hpost, hsteps⟩ := hK m meth c ⟨T.setVm vm₁, locs, cells, slots⟩ { g with stack := rest } (.invokestatic index) mk argsL.toArray X₁ hg hsize hdg hW (X₁.named hnamed) (hpre vm₁ X₁.warmed)
  exact ⟨v, vm₁, B, X₁.warmed, X', hpost, fun target h => hstep₁ _ fun acts => by rw [doInvoke_state]; exact hsteps.trans h⟩
theorem vx_runSW {y : MethodName} {bytes cc : ByteArray} {maxL nL mc ms n index : Nat} {ret : Option FieldType} {hh : List (Nat × Nat × Nat × Nat)} {ws : List Cond} {rm : Room} {Pc : Array Value → State → Prop} {Qc : Array Value → State → Outcome → State → Prop} {free : Addr → Prop} {Ts : List Cond} {own : String} {As rest : List Value} {g : JFrame}
    (S : CallFix p m c cc nL s args Ts own) (hM : Met l y ws rm Pc Qc mc ms free) (cw : vx_CSW R s args own index y bytes maxL ret hh ws rm mc ms n) (hp : PreS s H Pc As)
    (hg : g.method = m) (hn : As.length = n) (hsize : g.locals.size = nL) (hstack : g.stack = As.reverse ++ rest) (hW : 2 * g.monitorRoom + (rest.map fun v => v.category).sum ≤ 8) (hdg : decode cc g.pc = .ok (.invokestatic index, 3)) (hf : cells + mc ≤ R.cells ∧ slots + ms ≤ R.slots) :
    va_Run p l e R s m args below meth c H locs cells slots mc ms g rest (Qc As.toArray) (free) := by
  obtain ⟨⟨hrc, hrs, hfr, hlo, hws, hcw⟩, hcode, hini, hy, hlen, hl, hstt⟩ := cw
  have hK : Back l R p e below s args y 3 8 (PreOf R mc ms Pc) (PostOf Qc mc ms free) := va_backW (hh := hh) (bytes := bytes) (maxL := maxL) (ret := ret) hM hp.1 hrc hrs hfr hlo hws hcw (fun a' U hW => word_at hW (Or.inl (by first | rfl | simp [Cond.onTables, Cond.keeps, Cond.steady])) hini)
  obtain ⟨hx, hb, hml, ho, -⟩ := S
  intro T hT X
  obtain ⟨v, vm₁, ⟨U', l2, c2, s2⟩, hW₁, X', ⟨g', mk, t, L, e1, e2, hq, h1, hL, h2, h3⟩, st⟩ := vx_callSW X hx (hh := hh) (bytes := bytes) (maxL := maxL) (ret := ret) ho hl hstt hini hcode hy hK hg (hsize.trans hml.symm) (argsL := As) (rest := rest) (fun sig h => hn.trans (hlen sig h)) hstack hW (by rw [hb]; exact hdg)
    (fun vm₁ hW₁ => ⟨hf.1, hf.2, hp.2 (T.setVm vm₁) hT hW₁⟩)
  dsimp only [Pt.U, Pt.locs, Pt.cells, Pt.slots] at X' e1 e2 h1 h2 h3 st
  subst h1; subst h2; subst h3
  exact ⟨v, (T.setVm vm₁).calling g' mk As.toArray, t, U', L, hT, X', hL, e1, e2, hq, st⟩
/-- not caught here, past rows that name other classes: it goes on to the caller -/
theorem vx_outP {p : Program} {l : Launch} {e : Env} {R : Room} {s : State} {m : MethodId} {args : Array Value} {below : List Frame} {meth : Method} {c : Code} {H : Heap} {locs : List Loc} {cells slots : Nat} {free : Addr → Prop} {ls : Array Slot} {rest : List Value} {Qc : Array Value → State → Outcome → State → Prop} {XC : String → State → State → Prop}
    {pc : Nat} {own E : String} {ce : Cell} {q : Addr} {mc ms : Nat} (hown : s.vm.findClass own = some m.cls) (hlocks : meth.locks = false)
    (hpass : ∀ z ∈ c.exceptionTable.toList, covers z pc = false ∨ (z.catchType ≠ 0 ∧ ∃ nm : String, (Cond.classLink own z.catchType nm).before args s = true ∧ va_Nc E nm s)) (hcell : H[q]? = some ce) (hv : ce.vm = .none) (hcl : s.vm.findClass E = some ce.cls)
    (hx : ∀ t : State, t.heap = H → s.vm.Alike t.vm → XC E s t) (hf : ∀ z ∈ locs, free z.base) (hc : cells ≤ mc) (hs : slots ≤ ms) :
    vx_W p l e R s m args below meth c H locs cells slots (vx_MQ below Qc XC args s mc ms free) (F0 m pc ls rest) q := by
  intro T hT X
  have hpl : e.platform.magicAccessors = ({} : Platform).magicAccessors := by rw [X.admits.platform]
  obtain ⟨vm', hW', X', st⟩ := X.outThrough hlocks q (g := F0 m pc ls rest) rfl rfl rfl (cell := ce) (by rw [hT]; exact hcell) (by rw [hv]; rfl)
    (by obtain ⟨k9, h9, -⟩ := Vm.findClass_spec hcl; exact ⟨k9, h9⟩) (fun z hz => by
      rcases hpass z hz with h | ⟨hz0, nm, hl1, hn1⟩
      · exact Or.inl h
      · obtain ⟨c6, hc6, hcl6⟩ := Cond.classLink_spec hown hl1 e.platform hpl
        obtain ⟨a8, b8, h1, h2, h3⟩ := hn1
        cases Option.some.inj (h1.symm.trans hcl)
        cases Option.some.inj (h2.symm.trans hc6)
        exact Or.inr ⟨hz0, _, hcl6, h3⟩)
  obtain ⟨g₀, hfr⟩ := X'.frames_eq
  have hcell9 : ((T.setVm vm').setFrames (.throwing q :: below)).heap[q]? = some ce := by
    show T.heap[q]? = some ce
    rw [hT]; exact hcell
  have hend : Ended ((T.setVm vm').setFrames (.throwing q :: below)) below (.threw q) := State.frames_setFrames _ (State.cur_lt_of_frames hfr)
  refine ⟨(T.setVm vm').setFrames (.throwing q :: below), ?_, .threw q, X'.here.running, hend, Or.inr ⟨q, rfl, E, ce, locs, hx _ hT (X'.ends _).1.alike, hcell9, hv, hcl, (X'.ends _).1, (X'.ends _).2.mono hc hs, hf⟩⟩
  rw [X.pushThrowing_eq]
  exact st
/-- a thing of a world lies in the heap -/
theorem vx_lt {D : va_G} {cl : List vw_C} {ws : va_W} {H1 : Heap} (h : va_P D cl ws H1) {k : Nat} {q : Nat × va_E} (hk : ws[k]? = some q) : q.1 < H1.size := (h k q hk).lt
end VXS
/-! ===== END ===== -/
/-! ===== BEGIN methods with a table of their own: called by a name, returning or throwing ===== -/
section VXH
/-! vx_backW, vx_callVX, vx_callSX, vx_callVW, vx_runVW, vx_runVX, vx_runSX, vx_ofWH follow the same proofs as their sisters above (Free/Laws.lean, Shelf42/LK1.lean); vx_outP calls Shelf42/NT130.lean (outThrough). -/
section
variable {l : Launch} {R : Room} {p : Program} {e : Env} {below : List Frame} {s : State} {sargs : Array Value} {y : MethodName} {len W9 : Nat}
theorem vx_backW {ws : List Cond} {rm : Room} {Pc : Array Value → State → Prop} {Qc : Array Value → State → Outcome → State → Prop} {XC : String → State → State → Prop} {mc ms : Nat} {free : Addr → Prop} {bytes : ByteArray} {maxL : Nat} {ret : Option FieldType} {hh : List (Nat × Nat × Nat × Nat)}
    (hM : vx_Met l y ws rm Pc Qc XC mc ms free) (hblind : FrameBlind Pc) (hrc : rm.cells = mc) (hrs : rm.slots = ms)
    (hframes : rm.frames + 1 ≤ R.frames) (hlocals : W9 + (maxL + 11) + rm.locals ≤ R.locals)
    (hws : ∀ w ∈ ws, ∀ a' U, s.WarmedH U.vm → w.before a' U = true) (hcode : Cond.codeWith y bytes maxL ret hh ∈ ws) (hinit : ∀ a' U, s.WarmedH U.vm → (Cond.initialized y.cls).before a' U = true) :
    vx_Back l R p e below s sargs y len W9 (PreOf R mc ms Pc) (PostOf Qc mc ms free) (vx_Post XC mc ms free) := by
  intro m meth c A g ig mk a X hg hsize hdg hW hn hp
  have h1 : (headSpec ws rm).pre.before a A.U = true := atoms_intro fun w hw => hws w hw _ _ X.warmed
  have h2 : (Cond.codeWith y bytes maxL ret hh).before a A.U = true := hws _ hcode _ _ X.warmed
  have h3 : (Cond.initialized y.cls).before a A.U = true := hinit _ _ X.warmed
  have h4 : A.cells + (headSpec ws rm).room.cells ≤ R.cells := by rw [show (headSpec ws rm).room.cells = mc from hrc]; exact hp.1
  have h5 : A.slots + (headSpec ws rm).room.slots ≤ R.slots := by rw [show (headSpec ws rm).room.slots = ms from hrs]; exact hp.2.1
  have hPc : Pc a (A.U.calling g mk a) := hblind _ _ _ _ hp.2.2
  obtain ⟨U, Ls, c0, s0⟩ := A
  dsimp only [Pt.U, Pt.locs, Pt.cells, Pt.slots] at h1 h2 h3 h4 h5 X hn hPc ⊢
  obtain ⟨m9, methY, cY, hn9, hmY, hcY, -, hlY, -⟩ := Cond.codeWith_spec h2
  cases Option.some.inj (hn9.symm.trans hn)
  obtain ⟨kY, hkY, -⟩ := className_of_methodNamed hn
  have hinitY : kY.init = .initialized := Cond.initialized_spec (findClass_of_methodNamed hn) hkY h3
  have h : At U g.method c below := by rw [hg]; exact X.here
  have hlocals9 : W9 + (maxL + 11) + (headSpec ws rm).room.locals ≤ R.locals := hlocals
  have happ : (headSpec ws rm).appliesLoose y e.platform (U.calling g mk a) = true :=
    Spec.appliesLoose_calling (g := g) h hdg hn hkY hinitY
      (X.room_calling (g := g) (R' := (headSpec ws rm).room) hsize hmY hcY hframes (by rw [hlY]; omega) h4 h5) h1
  obtain ⟨mid, hmid⟩ := h.above
  have hfr : (U.setTop g).frames = (.java g :: mid) ++ below := by rw [State.frames_setTop' g h.top, hmid]; rfl
  obtain ⟨o, s₂, hsteps, -, hend, hq⟩ := Steps.callFree hM p X.admits X.cas X.clock (acts := []) hfr happ hPc trivial
  have hq' : vx_Q Qc XC mc ms free a (U.calling g mk a) o s₂ := hq
  rw [State.frames_setTop' g h.top] at hend
  obtain ⟨g₀, hg0⟩ := Option.isSome_iff_exists.mp h.top
  obtain ⟨r, hr⟩ := State.topJava?_eq_some.mp hg0
  have hr' : (({ U with heap := s₂.heap, slotsUsed := s₂.slotsUsed } : State).setVm s₂.vm).frames = .java g₀ :: r := hr
  rcases hq' with ⟨hqc, L, hfe, hL⟩ | ⟨q, rfl, E, ce, L, hx, hce, hcv, hcl, hW₂, hsm, hL⟩
  · obtain ⟨⟨v, rfl⟩, hW₂, e2, q2, q3, q4, q5, q6⟩ := id hfe
    have e3 : s₂ = ({ (U.calling g mk a).setFrames s₂.frames with heap := s₂.heap, slotsUsed := s₂.slotsUsed } : State).setVm s₂.vm := by
      have : s₂ = ({ s₂ with vm := (U.calling g mk a).vm } : State).setVm s₂.vm := rfl
      rw [e2] at this
      exact this
    obtain ⟨c₂, i₂, len₂, hc₂, hd₂, hf₂⟩ := hend
    have hW' : U.WarmedH s₂.vm := hW₂
    have hcc : c₂ = c := by
      have h1 : s₂.code? g.method = U.code? g.method := by
        rw [State.code?_eq, State.code?_eq, hW'.alike.method?]
      exact Option.some.inj (hc₂.symm.trans (h1.trans h.code))
    subst hcc
    have hlen : len₂ = len := by rw [hdg] at hd₂; cases hd₂; rfl
    subst hlen
    have hs₂ : s₂ = (({ U with heap := s₂.heap, slotsUsed := s₂.slotsUsed } : State).setVm s₂.vm).setTop { g with pc := g.pc + len₂, stack := v.toList ++ g.stack } := by
      refine e3.trans ?_
      rw [hf₂, State.calling_eq h.top, State.setFrames_setFrames, State.setTop_of_frames _ hr', hr]
      rfl
    have hsame : U.sameButNew ({ U with heap := s₂.heap, slotsUsed := s₂.slotsUsed } : State) L mc ms := by
      refine ⟨?_, q2, q3, q4, q5, q6⟩
      obtain ⟨t, ht, -⟩ := State.frames_cons hr
      show ({ U with heap := s₂.heap, slotsUsed := s₂.slotsUsed } : State) = { U.setFrames U.frames with heap := s₂.heap, slotsUsed := s₂.slotsUsed }
      rw [State.setFrames_self ht]
    subst hg
    refine Or.inl ⟨v, ⟨(({ U with heap := s₂.heap, slotsUsed := s₂.slotsUsed } : State).setVm s₂.vm), Ls ++ L, c0 + mc, s0 + ms⟩,
      ⟨X.admits, X.cas, X.clock, X.frames, X.room, X.hears, X.method, X.code, (X.here.setHeapUsed s₂.heap s₂.slotsUsed).setVm hW'.alike, X.tail, State.WarmedH.trans X.warmed hW', X.limits, X.bytes, X.same.trans (hsame.setVm s.vm)⟩,
      ⟨g, mk, s₂, L, rfl, rfl, hqc, rfl, hL, rfl, rfl⟩, ?_⟩
    show Steps p.tables e below _ ((({ U with heap := s₂.heap, slotsUsed := s₂.slotsUsed } : State).setVm s₂.vm).setTop { g with pc := g.pc + len₂, stack := v.toList ++ g.stack })
    rw [← hs₂]
    exact hsteps
  · obtain ⟨e2, q2, q3, q4, q5, q6⟩ := id hsm
    have e3 : s₂ = ({ (U.calling g mk a).setFrames s₂.frames with heap := s₂.heap, slotsUsed := s₂.slotsUsed } : State).setVm s₂.vm := by
      have : s₂ = ({ s₂ with vm := (U.calling g mk a).vm } : State).setVm s₂.vm := rfl
      rw [e2] at this
      exact this
    have hf₂ : s₂.frames = .throwing q :: .java g :: U.frames.tail := hend
    have hW' : U.WarmedH s₂.vm := hW₂
    have hs₂ : s₂ = ((({ U with heap := s₂.heap, slotsUsed := s₂.slotsUsed } : State).setVm s₂.vm).setTop g).pushFrame (.throwing q) := by
      refine e3.trans ?_
      rw [hf₂, State.calling_eq h.top, State.setFrames_setFrames, State.pushFrame, State.frames_setTop _ hr', State.setTop_of_frames _ hr', State.setFrames_setFrames, hr]
      rfl
    have hsame : U.sameButNew ({ U with heap := s₂.heap, slotsUsed := s₂.slotsUsed } : State) L mc ms := by
      refine ⟨?_, q2, q3, q4, q5, q6⟩
      obtain ⟨t, ht, -⟩ := State.frames_cons hr
      show ({ U with heap := s₂.heap, slotsUsed := s₂.slotsUsed } : State) = { U.setFrames U.frames with heap := s₂.heap, slotsUsed := s₂.slotsUsed }
      rw [State.setFrames_self ht]
    subst hg
    refine Or.inr ⟨q, ⟨(({ U with heap := s₂.heap, slotsUsed := s₂.slotsUsed } : State).setVm s₂.vm), Ls ++ L, c0 + mc, s0 + ms⟩,
      ⟨X.admits, X.cas, X.clock, X.frames, X.room, X.hears, X.method, X.code, (X.here.setHeapUsed s₂.heap s₂.slotsUsed).setVm hW'.alike, X.tail, State.WarmedH.trans X.warmed hW', X.limits, X.bytes, X.same.trans (hsame.setVm s.vm)⟩,
      ⟨g, mk, s₂, L, E, ce, rfl, rfl, hx, hce, hcv, hcl, rfl, hL, rfl, rfl⟩, ?_⟩
    show Steps p.tables e below _ (((({ U with heap := s₂.heap, slotsUsed := s₂.slotsUsed } : State).setVm s₂.vm).setTop g).pushFrame (.throwing q))
    rw [← hs₂]
    exact hsteps
end
variable {p : Program} {l : Launch} {e : Env} {R : Room} {s : State} {m : MethodId} {args : Array Value} {below : List Frame} {meth : Method} {c : Code} {T : State} {H : Heap} {locs : List Loc} {cells slots : Nat}
theorem vx_callVX (X : Stand p l e R s m args below meth c T locs cells slots) (hexec : p.tables.exec = Jvm.exec) {own C : String} {index : Nat} {y : MethodName} {bytes : ByteArray} {maxL : Nat} {ret : Option FieldType} {hh : List (Nat × Nat × Nat × Nat)}
    (hown : s.vm.findClass own = some m.cls) (hlink : (Cond.methodLink own index y).before args s = true) (hinst : (Cond.instanceMethod y).before args s = true) (hsel : (Cond.selects C y y).before args s = true)
    (hcode : (Cond.codeWith y bytes maxL ret hh).before args s = true) (hy : y.cls ≠ "java/lang/invoke/MethodHandle" ∧ y.cls ≠ "java/lang/invoke/VarHandle")
    {W9 : Nat} {Pre : Pt → Array Value → Prop} {Post : Pt → Array Value → Option Value → Pt → Prop} {PostX : Pt → Array Value → Addr → Pt → Prop} (hK : vx_Back l R p e below s args y 3 W9 Pre Post PostX)
    {b : Addr} {cellB : Cell} (hcell : T.heap[b]? = some cellB) (hobj : cellB.vm.isStatics = false) (hcls : s.vm.findClass C = some cellB.cls)
    {g : JFrame} (hg : g.method = m) (hsize : g.locals.size = c.maxLocals) {argsL rest : List Value} (hlen : ∀ sig, parseMethodDescriptor y.desc = some sig → argsL.length = sig.parameters.length)
    (hstack : g.stack = argsL.reverse ++ .ref b :: rest) (hW : 2 * g.monitorRoom + (rest.map fun v => v.category).sum ≤ W9) (hdg : decode c.code g.pc = .ok (.invokevirtual index, 3))
    (hpre : ∀ vm₁, s.WarmedH vm₁ → Pre ⟨T.setVm vm₁, locs, cells, slots⟩ (Value.ref b :: argsL).toArray) :
    (∃ (v : Option Value) (vm₁ : Vm) (B : Pt), s.WarmedH vm₁ ∧ Stand p l e R s m args below meth c B.U B.locs B.cells B.slots ∧ Post ⟨T.setVm vm₁, locs, cells, slots⟩ (Value.ref b :: argsL).toArray v B ∧
      ∀ target, Steps p.tables e below (B.U.setTop { g with pc := g.pc + 3, stack := v.toList ++ rest }) target → Steps p.tables e below (T.setTop g) target) ∨
    (∃ (q : Addr) (vm₁ : Vm) (B : Pt), s.WarmedH vm₁ ∧ Stand p l e R s m args below meth c B.U B.locs B.cells B.slots ∧ PostX ⟨T.setVm vm₁, locs, cells, slots⟩ (Value.ref b :: argsL).toArray q B ∧
      Steps p.tables e below (T.setTop g) ((B.U.setTop { g with stack := rest }).pushFrame (.throwing q))) := by
  obtain ⟨mk, methM, hnamed, hmethM, hstM, habM⟩ := Cond.instanceMethod_spec hinst
  obtain ⟨m8, methM', cM, hn8, hmethM', -, -, -, -, -, -, hsigM⟩ := Cond.codeWith_spec hcode
  cases Option.some.inj (hn8.symm.trans hnamed)
  cases hmethM.symm.trans hmethM'
  obtain ⟨c2, r2, m2, q1, q2, q3, q4, kP, hkP, hkPi⟩ := Cond.selects_spec hsel
  cases hcls.symm.trans q1
  cases (State.methodFound?_of_named hnamed hy).symm.trans q2
  cases hnamed.symm.trans q3
  have hselP : selectMethod e.platform s.vm cellB.cls mk = .method mk := by rw [Launch.admits_selectMethod X.admits]; exact q4
  obtain ⟨vm₁, X₁, hstep₁⟩ := X.invokevirtual hexec hown hlink hnamed hmethM hstM hkP hkPi hy (a := b) (cell := cellB) hcell
    (fun z h => by rw [h] at hobj; cases hobj) hselP hmethM habM hkP hkPi (g := g) hg (argsL := argsL) (rest := rest) (hlen _ hsigM) hstack hdg
  rcases hK m meth c ⟨T.setVm vm₁, locs, cells, slots⟩ { g with stack := rest } (.invokevirtual index) mk (Value.ref b :: argsL).toArray X₁ hg hsize hdg hW (X₁.named hnamed) (hpre vm₁ X₁.warmed) with ⟨v, B, X', hpost, hsteps⟩ | ⟨q, B, X', hpost, hsteps⟩
  · exact Or.inl ⟨v, vm₁, B, X₁.warmed, X', hpost, fun target h => hstep₁ _ fun acts => by rw [doInvoke_state]; exact hsteps.trans h⟩
  · exact Or.inr ⟨q, vm₁, B, X₁.warmed, X', hpost, hstep₁ _ fun acts => by rw [doInvoke_state]; exact hsteps⟩
theorem vx_callSX (X : Stand p l e R s m args below meth c T locs cells slots) (hexec : p.tables.exec = Jvm.exec) {own : String} {index : Nat} {y : MethodName} {bytes : ByteArray} {maxL : Nat} {ret : Option FieldType} {hh : List (Nat × Nat × Nat × Nat)}
    (hown : s.vm.findClass own = some m.cls) (hlink : (Cond.methodLink own index y).before args s = true) (hstat : (Cond.static y).before args s = true) (hinit : (Cond.initialized y.cls).before args s = true)
    (hcode : (Cond.codeWith y bytes maxL ret hh).before args s = true) (hy : y.cls ≠ "java/lang/invoke/MethodHandle" ∧ y.cls ≠ "java/lang/invoke/VarHandle")
    {W9 : Nat} {Pre : Pt → Array Value → Prop} {Post : Pt → Array Value → Option Value → Pt → Prop} {PostX : Pt → Array Value → Addr → Pt → Prop} (hK : vx_Back l R p e below s args y 3 W9 Pre Post PostX)
    {g : JFrame} (hg : g.method = m) (hsize : g.locals.size = c.maxLocals) {argsL rest : List Value} (hlen : ∀ sig, parseMethodDescriptor y.desc = some sig → argsL.length = sig.parameters.length)
    (hstack : g.stack = argsL.reverse ++ rest) (hW : 2 * g.monitorRoom + (rest.map fun v => v.category).sum ≤ W9) (hdg : decode c.code g.pc = .ok (.invokestatic index, 3))
    (hpre : ∀ vm₁, s.WarmedH vm₁ → Pre ⟨T.setVm vm₁, locs, cells, slots⟩ argsL.toArray) :
    (∃ (v : Option Value) (vm₁ : Vm) (B : Pt), s.WarmedH vm₁ ∧ Stand p l e R s m args below meth c B.U B.locs B.cells B.slots ∧ Post ⟨T.setVm vm₁, locs, cells, slots⟩ argsL.toArray v B ∧
      ∀ target, Steps p.tables e below (B.U.setTop { g with pc := g.pc + 3, stack := v.toList ++ rest }) target → Steps p.tables e below (T.setTop g) target) ∨
    (∃ (q : Addr) (vm₁ : Vm) (B : Pt), s.WarmedH vm₁ ∧ Stand p l e R s m args below meth c B.U B.locs B.cells B.slots ∧ PostX ⟨T.setVm vm₁, locs, cells, slots⟩ argsL.toArray q B ∧
      Steps p.tables e below (T.setTop g) ((B.U.setTop { g with stack := rest }).pushFrame (.throwing q))) := by
  obtain ⟨mk, methM, cM, hnamed, hmethM, -, -, -, -, -, -, hsigM⟩ := Cond.codeWith_spec hcode
  have hstatic : methM.isStatic = true := Cond.static_spec hnamed hmethM hstat
  obtain ⟨kP, hkP, -⟩ := className_of_methodNamed hnamed
  have hinitP : kP.init = .initialized := Cond.initialized_spec (findClass_of_methodNamed hnamed) hkP hinit
  obtain ⟨vm₁, X₁, hstep₁⟩ := X.invokestatic hexec hown hlink hnamed hmethM hstatic hkP hinitP hy (g := g) hg (argsL := argsL) (rest := rest) (hlen _ hsigM) hstack hdg
  rcases hK m meth c ⟨T.setVm vm₁, locs, cells, slots⟩ { g with stack := rest } (.invokestatic index) mk argsL.toArray X₁ hg hsize hdg hW (X₁.named hnamed) (hpre vm₁ X₁.warmed) with ⟨v, B, X', hpost, hsteps⟩ | ⟨q, B, X', hpost, hsteps⟩
  · exact Or.inl ⟨v, vm₁, B, X₁.warmed, X', hpost, fun target h => hstep₁ _ fun acts => by rw [doInvoke_state]; exact hsteps.trans h⟩
  · exact Or.inr ⟨q, vm₁, B, X₁.warmed, X', hpost, hstep₁ _ fun acts => by rw [doInvoke_state]; exact hsteps⟩
theorem vx_callVW (X : Stand p l e R s m args below meth c T locs cells slots) (hexec : p.tables.exec = Jvm.exec) {own C : String} {index : Nat} {y : MethodName} {bytes : ByteArray} {maxL : Nat} {ret : Option FieldType} {hh : List (Nat × Nat × Nat × Nat)}
    (hown : s.vm.findClass own = some m.cls) (hlink : (Cond.methodLink own index y).before args s = true) (hinst : (Cond.instanceMethod y).before args s = true) (hsel : (Cond.selects C y y).before args s = true)
    (hcode : (Cond.codeWith y bytes maxL ret hh).before args s = true) (hy : y.cls ≠ "java/lang/invoke/MethodHandle" ∧ y.cls ≠ "java/lang/invoke/VarHandle")
    {W9 : Nat} {Pre : Pt → Array Value → Prop} {Post : Pt → Array Value → Option Value → Pt → Prop} (hK : Back l R p e below s args y 3 W9 Pre Post)
    {b : Addr} {cellB : Cell} (hcell : T.heap[b]? = some cellB) (hobj : cellB.vm.isStatics = false) (hcls : s.vm.findClass C = some cellB.cls)
    {g : JFrame} (hg : g.method = m) (hsize : g.locals.size = c.maxLocals) {argsL rest : List Value} (hlen : ∀ sig, parseMethodDescriptor y.desc = some sig → argsL.length = sig.parameters.length)
    (hstack : g.stack = argsL.reverse ++ .ref b :: rest) (hW : 2 * g.monitorRoom + (rest.map fun v => v.category).sum ≤ W9) (hdg : decode c.code g.pc = .ok (.invokevirtual index, 3))
    (hpre : ∀ vm₁, s.WarmedH vm₁ → Pre ⟨T.setVm vm₁, locs, cells, slots⟩ (Value.ref b :: argsL).toArray) :
    ∃ (v : Option Value) (vm₁ : Vm) (B : Pt), s.WarmedH vm₁ ∧ Stand p l e R s m args below meth c B.U B.locs B.cells B.slots ∧ Post ⟨T.setVm vm₁, locs, cells, slots⟩ (Value.ref b :: argsL).toArray v B ∧
      ∀ target, Steps p.tables e below (B.U.setTop { g with pc := g.pc + 3, stack := v.toList ++ rest }) target → Steps p.tables e below (T.setTop g) target := by
  obtain ⟨mk, methM, hnamed, hmethM, hstM, habM⟩ := Cond.instanceMethod_spec hinst
  obtain ⟨m8, methM', cM, hn8, hmethM', -, -, -, -, -, -, hsigM⟩ := Cond.codeWith_spec hcode
  cases Option.some.inj (hn8.symm.trans hnamed)
  cases hmethM.symm.trans hmethM'
  obtain ⟨c2, r2, m2, q1, q2, q3, q4, kP, hkP, hkPi⟩ := Cond.selects_spec hsel
  cases hcls.symm.trans q1
  cases (State.methodFound?_of_named hnamed hy).symm.trans q2
  cases hnamed.symm.trans q3
  have hselP : selectMethod e.platform s.vm cellB.cls mk = .method mk := by rw [Launch.admits_selectMethod X.admits]; exact q4
  obtain ⟨vm₁, X₁, hstep₁⟩ := X.invokevirtual hexec hown hlink hnamed hmethM hstM hkP hkPi hy (a := b) (cell := cellB) hcell
    (fun z h => by rw [h] at hobj; cases hobj) hselP hmethM habM hkP hkPi (g := g) hg (argsL := argsL) (rest := rest) (hlen _ hsigM) hstack hdg
  obtain ⟨v, B, X', hpost, hsteps⟩ := hK m meth c ⟨T.setVm vm₁, locs, cells, slots⟩ { g with stack := rest } (.invokevirtual index) mk (Value.ref b :: argsL).toArray X₁ hg hsize hdg hW (X₁.named hnamed) (hpre vm₁ X₁.warmed)
  exact ⟨v, vm₁, B, X₁.warmed, X', hpost, fun target h => hstep₁ _ fun acts => by rw [doInvoke_state]; exact hsteps.trans h⟩
abbrev vx_CVW (R : Room) (s : State) (args : Array Value) (own C : String) (index : Nat) (y : MethodName) (bytes : ByteArray) (maxL : Nat) (ret : Option FieldType) (hh : List (Nat × Nat × Nat × Nat)) (ws : List Cond) (rm : Room) (mc ms n : Nat) : Prop :=
  (rm.cells = mc ∧ rm.slots = ms ∧ rm.frames + 1 ≤ R.frames ∧ 8 + (maxL + 11) + rm.locals ≤ R.locals ∧ (∀ w ∈ ws, ∀ (a' : Array Value) (U : State), s.WarmedH U.vm → w.before a' U = true) ∧ Cond.codeWith y bytes maxL ret hh ∈ ws) ∧
  (Cond.codeWith y bytes maxL ret hh).before args s = true ∧ (Cond.initialized y.cls).before args s = true ∧ (y.cls ≠ "java/lang/invoke/MethodHandle" ∧ y.cls ≠ "java/lang/invoke/VarHandle") ∧
  (∀ sig, parseMethodDescriptor y.desc = some sig → n = sig.parameters.length) ∧ (Cond.methodLink own index y).before args s = true ∧ (Cond.instanceMethod y).before args s = true ∧ (Cond.selects C y y).before args s = true
theorem vx_cwVW {own C : String} {index maxL mc ms : Nat} {y : MethodName} {bytes : ByteArray} {ret : Option FieldType} {hh : List (Nat × Nat × Nat × Nat)} {Ts ws ws' : List Cond} {rm : Room} (n : Nat) (ht : ∀ w ∈ Ts, w.before args s = true) (hT : GoodIn Ts (wsV own index C y ws)) (hw : ws = Cond.codeWith y bytes maxL ret hh :: ws') (hrc : rm.cells = mc) (hrs : rm.slots = ms)
    (hd : y.cls = C ∧ y.cls ≠ "java/lang/invoke/MethodHandle" ∧ y.cls ≠ "java/lang/invoke/VarHandle" ∧ (parseMethodDescriptor y.desc).map (fun d => d.parameters.length) = some n) (hR : rm.frames + 1 ≤ R.frames ∧ 8 + (maxL + 11) + rm.locals ≤ R.locals) :
    vx_CVW R s args own C index y bytes maxL ret hh ws rm mc ms n := by
  obtain ⟨hC, hd⟩ := hd
  subst hC
  have ok : ∀ w ∈ wsV own index y.cls y ws, w.before args s = true := fun w h => ht w (hT w h).1
  have hG : GoodIn Ts ws := fun w h => hT w (by unfold wsV; exact List.mem_append_right _ h)
  have hc : Cond.codeWith y bytes maxL ret hh ∈ ws := by rw [hw]; exact List.mem_cons_self
  refine ⟨⟨hrc, hrs, hR.1, hR.2, pay_in ht hG, hc⟩, ht _ (hG _ hc).1, ok _ (by simp [wsV]), ⟨hd.1, hd.2.1⟩, fun sig h => ?_, ok _ (by simp [wsV]), ok _ (by simp [wsV]), ok _ (by simp [wsV])⟩
  have h2 := hd.2.2
  rw [h] at h2
  exact (Option.some.inj h2).symm
theorem vx_runVW {y : MethodName} {bytes cc : ByteArray} {maxL nL mc ms n index : Nat} {ret : Option FieldType} {hh : List (Nat × Nat × Nat × Nat)} {ws : List Cond} {rm : Room} {Pc : Array Value → State → Prop} {Qc : Array Value → State → Outcome → State → Prop} {free : Addr → Prop} {Ts : List Cond} {own C : String} {b : Addr} {As rest : List Value} {g : JFrame}
    (S : CallFix p m c cc nL s args Ts own) (hM : Met l y ws rm Pc Qc mc ms free) (cw : vx_CVW R s args own C index y bytes maxL ret hh ws rm mc ms n) (hp : PreV s H C b Pc As)
    (hg : g.method = m) (hn : As.length = n) (hsize : g.locals.size = nL) (hstack : g.stack = As.reverse ++ .ref b :: rest) (hW : 2 * g.monitorRoom + (rest.map fun v => v.category).sum ≤ 8) (hdg : decode cc g.pc = .ok (.invokevirtual index, 3)) (hf : cells + mc ≤ R.cells ∧ slots + ms ≤ R.slots) :
    va_Run p l e R s m args below meth c H locs cells slots mc ms g rest (Qc (Value.ref b :: As).toArray) free := by
  obtain ⟨⟨hrc, hrs, hfr, hlo, hws, hcw⟩, hcode, hini, hy, hlen, hl, hin, hse⟩ := cw
  have hK : Back l R p e below s args y 3 8 (PreOf R mc ms Pc) (PostOf Qc mc ms free) := va_backW (hh := hh) (bytes := bytes) (maxL := maxL) (ret := ret) hM hp.1 hrc hrs hfr hlo hws hcw (fun a' U hW => word_at hW (Or.inl (by first | rfl | simp [Cond.onTables, Cond.keeps, Cond.steady])) hini)
  obtain ⟨hx, hb, hml, ho, -⟩ := S
  obtain ⟨-, ⟨cellB, hcB, hoB, hclB⟩, hPc⟩ := hp
  intro T hT X
  obtain ⟨v, vm₁, ⟨U', l2, c2, s2⟩, hW₁, X', ⟨g', mk, t, L, e1, e2, hq, h1, hL, h2, h3⟩, st⟩ := vx_callVW X hx (C := C) (hh := hh) (bytes := bytes) (maxL := maxL) (ret := ret) ho hl hin hse hcode hy hK (by rw [hT]; exact hcB) hoB hclB hg (hsize.trans hml.symm) (argsL := As) (rest := rest) (fun sig h => hn.trans (hlen sig h)) hstack hW (by rw [hb]; exact hdg)
    (fun vm₁ hW₁ => ⟨hf.1, hf.2, hPc (T.setVm vm₁) hT hW₁⟩)
  dsimp only [Pt.U, Pt.locs, Pt.cells, Pt.slots] at X' e1 e2 h1 h2 h3 st
  subst h1; subst h2; subst h3
  exact ⟨v, (T.setVm vm₁).calling g' mk (Value.ref b :: As).toArray, t, U', L, hT, X', hL, e1, e2, hq, st⟩
section
variable {y : MethodName} {bytes cc : ByteArray} {maxL nL mc ms n index : Nat} {ret : Option FieldType} {ws : List Cond} {rm : Room} {Pc : Array Value → State → Prop} {Qc : Array Value → State → Outcome → State → Prop} {XC : String → State → State → Prop} {free : Addr → Prop} {Ts : List Cond} {own C : String} {b : Addr} {As rest : List Value} {g : JFrame}
theorem vx_runVX {hh : List (Nat × Nat × Nat × Nat)} (S : CallFix p m c cc nL s args Ts own) (hM : vx_Met l y ws rm Pc Qc XC mc ms free) (cw : vx_CVW R s args own C index y bytes maxL ret hh ws rm mc ms n) (hp : PreV s H C b Pc As)
    (hg : g.method = m) (hn : As.length = n) (hsize : g.locals.size = nL) (hstack : g.stack = As.reverse ++ .ref b :: rest) (hW : 2 * g.monitorRoom + (rest.map fun v => v.category).sum ≤ 8) (hdg : decode cc g.pc = .ok (.invokevirtual index, 3)) (hf : cells + mc ≤ R.cells ∧ slots + ms ≤ R.slots) :
    vx_Run p l e R s m args below meth c H locs cells slots mc ms g rest (Qc (Value.ref b :: As).toArray) XC free := by
  obtain ⟨⟨hrc, hrs, hfr, hlo, hws, hcw⟩, hcode, hini, hy, hlen, hl, hin, hse⟩ := cw
  have hK : vx_Back l R p e below s args y 3 8 (PreOf R mc ms Pc) (PostOf Qc mc ms free) (vx_Post XC mc ms free) := vx_backW (hh := hh) (bytes := bytes) (maxL := maxL) (ret := ret) hM hp.1 hrc hrs hfr hlo hws hcw (fun a' U hW => word_at hW (Or.inl (by first | rfl | simp [Cond.onTables, Cond.keeps, Cond.steady])) hini)
  obtain ⟨hx, hb, hml, ho, -⟩ := S
  obtain ⟨-, ⟨cellB, hcB, hoB, hclB⟩, hPc⟩ := hp
  intro T hT X
  rcases vx_callVX X hx (C := C) (hh := hh) (bytes := bytes) (maxL := maxL) (ret := ret) ho hl hin hse hcode hy hK (by rw [hT]; exact hcB) hoB hclB hg (hsize.trans hml.symm) (argsL := As) (rest := rest) (fun sig h => hn.trans (hlen sig h)) hstack hW (by rw [hb]; exact hdg)
    (fun vm₁ hW₁ => ⟨hf.1, hf.2, hPc (T.setVm vm₁) hT hW₁⟩) with ⟨v, vm₁, ⟨U', l2, c2, s2⟩, hW₁, X', ⟨g', mk, t, L, e1, e2, hq, h1, hL, h2, h3⟩, st⟩ | ⟨q, vm₁, ⟨U', l2, c2, s2⟩, hW₁, X', ⟨g', mk, t, L, E, ce, e1, e2, hq, hce, hcv, hcl, h1, hL, h2, h3⟩, st⟩
  · dsimp only [Pt.U, Pt.locs, Pt.cells, Pt.slots] at X' e1 e2 h1 h2 h3 st
    subst h1; subst h2; subst h3
    exact Or.inl ⟨v, (T.setVm vm₁).calling g' mk (Value.ref b :: As).toArray, t, U', L, hT, X', hL, e1, e2, hq, st⟩
  · dsimp only [Pt.U, Pt.locs, Pt.cells, Pt.slots] at X' e1 e2 h1 h2 h3 st hcl
    subst h1; subst h2; subst h3
    exact Or.inr ⟨q, (T.setVm vm₁).calling g' mk (Value.ref b :: As).toArray, t, U', L, E, ce, hT, X', hL, e1, e2, hq, hce, hcv, vx_cls hW₁ hcl, st⟩
theorem vx_runSX {hh : List (Nat × Nat × Nat × Nat)} (S : CallFix p m c cc nL s args Ts own) (hM : vx_Met l y ws rm Pc Qc XC mc ms free) (cw : vx_CSW R s args own index y bytes maxL ret hh ws rm mc ms n) (hp : PreS s H Pc As)
    (hg : g.method = m) (hn : As.length = n) (hsize : g.locals.size = nL) (hstack : g.stack = As.reverse ++ rest) (hW : 2 * g.monitorRoom + (rest.map fun v => v.category).sum ≤ 8) (hdg : decode cc g.pc = .ok (.invokestatic index, 3)) (hf : cells + mc ≤ R.cells ∧ slots + ms ≤ R.slots) :
    vx_Run p l e R s m args below meth c H locs cells slots mc ms g rest (Qc As.toArray) XC free := by
  obtain ⟨⟨hrc, hrs, hfr, hlo, hws, hcw⟩, hcode, hini, hy, hlen, hl, hstt⟩ := cw
  have hK : vx_Back l R p e below s args y 3 8 (PreOf R mc ms Pc) (PostOf Qc mc ms free) (vx_Post XC mc ms free) := vx_backW (hh := hh) (bytes := bytes) (maxL := maxL) (ret := ret) hM hp.1 hrc hrs hfr hlo hws hcw (fun a' U hW => word_at hW (Or.inl (by first | rfl | simp [Cond.onTables, Cond.keeps, Cond.steady])) hini)
  obtain ⟨hx, hb, hml, ho, -⟩ := S
  intro T hT X
  rcases vx_callSX X hx (hh := hh) (bytes := bytes) (maxL := maxL) (ret := ret) ho hl hstt hini hcode hy hK hg (hsize.trans hml.symm) (argsL := As) (rest := rest) (fun sig h => hn.trans (hlen sig h)) hstack hW (by rw [hb]; exact hdg)
    (fun vm₁ hW₁ => ⟨hf.1, hf.2, hp.2 (T.setVm vm₁) hT hW₁⟩) with ⟨v, vm₁, ⟨U', l2, c2, s2⟩, hW₁, X', ⟨g', mk, t, L, e1, e2, hq, h1, hL, h2, h3⟩, st⟩ | ⟨q, vm₁, ⟨U', l2, c2, s2⟩, hW₁, X', ⟨g', mk, t, L, E, ce, e1, e2, hq, hce, hcv, hcl, h1, hL, h2, h3⟩, st⟩
  · dsimp only [Pt.U, Pt.locs, Pt.cells, Pt.slots] at X' e1 e2 h1 h2 h3 st
    subst h1; subst h2; subst h3
    exact Or.inl ⟨v, (T.setVm vm₁).calling g' mk As.toArray, t, U', L, hT, X', hL, e1, e2, hq, st⟩
  · dsimp only [Pt.U, Pt.locs, Pt.cells, Pt.slots] at X' e1 e2 h1 h2 h3 st hcl
    subst h1; subst h2; subst h3
    exact Or.inr ⟨q, (T.setVm vm₁).calling g' mk As.toArray, t, U', L, E, ce, hT, X', hL, e1, e2, hq, hce, hcv, vx_cls hW₁ hcl, st⟩
end
end VXH
theorem vx_ofWH {l : Launch} {y : MethodName} {ws ws' : List Cond} {rm : Room} {Pc : Array Value → State → Prop} {Qc : Array Value → State → Outcome → State → Prop} {XC : String → State → State → Prop} {mc ms : Nat} {free : Addr → Prop} {cc : ByteArray} {maxL : Nat} {ret : Option FieldType} {hh : List (Nat × Nat × Nat × Nat)}
    (hy : plainName y.cls = true) (hw : ws = Cond.codeWith y cc maxL ret hh :: ws')
    (body : ∀ p e s m args below meth c s₁, BodyLoose p l y (headSpec ws rm) cc maxL ret e s m args below meth c s₁ → c.maxLocals = maxL → Pc args s →
      W p l e (headSpec ws rm).room s m args below meth c s.heap [] 0 0 (vx_MQ below Qc XC args s mc ms free) (entryFrame m args maxL)) : vx_Met l y ws rm Pc Qc XC mc ms free := by
  refine MetFree.of_bodyS (code := cc) (maxLocals := maxL) (ret := ret) hy ?_ ?_
  · intro args s m h hn
    obtain ⟨m9, meth, c, hn9, h1, h2, h3, h4, -, h5, h6, -⟩ := Cond.codeWith_spec (atoms_spec (ws := ws) h _ (by rw [hw]; exact List.mem_cons_self))
    cases hn.symm.trans hn9
    exact ⟨meth, c, h1, h2, h3, h4, h5, h6⟩
  · intro p e s m args below meth c s₁ B hml hP _
    have hh0 : s₁.heap = s.heap := by rw [B.state]; rfl
    obtain ⟨t, a1, o, b1, b2, b3⟩ := body p e s m args below meth c s₁ B hml hP s₁ hh0 (Stand.of_body B)
    exact ⟨t, o, a1, b1, b2, b3⟩
/-! ===== END ===== -/
/-! ===== BEGIN a constructor that throws (launches without stack traces) ===== -/
section VXIA
variable {p : Program} {l : Launch} {e : Env} {R : Room} {s : State} {m : MethodId} {args : Array Value} {below : List Frame} {meth : Method} {c : Code} {T : State} {locs : List Loc} {cells slots : Nat}
theorem vx_callI (X : Stand p l e R s m args below meth c T locs cells slots) (hexec : p.tables.exec = Jvm.exec) {own : String} {index : Nat} {y : MethodName} {bytes : ByteArray} {maxL : Nat}
    (hown : s.vm.findClass own = some m.cls) (hy1 : y.name = "<init>") (hlink : (Cond.methodLink own index y).before args s = true) (hinst : (Cond.instanceMethod y).before args s = true)
    (hcode : (Cond.code y bytes maxL none).before args s = true) (hy : y.cls ≠ "java/lang/invoke/MethodHandle" ∧ y.cls ≠ "java/lang/invoke/VarHandle")
    {W9 : Nat} {Pre : Pt → Array Value → Prop} {Post : Pt → Array Value → Option Value → Pt → Prop} {PostX : Pt → Array Value → Addr → Pt → Prop} (hK : vx_Back l R p e below s args y 3 W9 Pre Post PostX)
    {g : JFrame} (hg : g.method = m) (hsize : g.locals.size = c.maxLocals) {a : Addr} {argsL rest : List Value} (hlen : ∀ sig, parseMethodDescriptor y.desc = some sig → argsL.length = sig.parameters.length)
    (hstack : g.stack = argsL.reverse ++ .ref a :: rest) (hW : 2 * g.monitorRoom + (rest.map fun v => v.category).sum ≤ W9) (hdg : decode c.code g.pc = .ok (.invokespecial index, 3))
    (hpre : ∀ vm₁, s.WarmedH vm₁ → Pre ⟨T.setVm vm₁, locs, cells, slots⟩ (Value.ref a :: argsL).toArray) :
    (∃ (v : Option Value) (vm₁ : Vm) (B : Pt), s.WarmedH vm₁ ∧ Stand p l e R s m args below meth c B.U B.locs B.cells B.slots ∧ Post ⟨T.setVm vm₁, locs, cells, slots⟩ (Value.ref a :: argsL).toArray v B ∧
      ∀ target, Steps p.tables e below (B.U.setTop { g with pc := g.pc + 3, stack := v.toList ++ rest }) target → Steps p.tables e below (T.setTop g) target) ∨
    (∃ (q : Addr) (vm₁ : Vm) (B : Pt), s.WarmedH vm₁ ∧ Stand p l e R s m args below meth c B.U B.locs B.cells B.slots ∧ PostX ⟨T.setVm vm₁, locs, cells, slots⟩ (Value.ref a :: argsL).toArray q B ∧
      Steps p.tables e below (T.setTop g) ((B.U.setTop { g with stack := rest }).pushFrame (.throwing q))) := by
  subst hg
  have hpl : e.platform.magicAccessors = ({} : Platform).magicAccessors := by rw [X.admits.platform]
  obtain ⟨mk, methM, cM, kP, vm₁, hnamed, hmethM, hcodeM, -, hlocalsM, -, hkP, -, hW₁, hstep₁⟩ := Steps.initColdArgs (e := e) X.here hexec X.warmed hpl hown hy1 hy hlink hinst hcode (f := g) rfl hlen hstack hdg
  have X₁ := X.noted hW₁
  rcases hK g.method meth c ⟨T.setVm vm₁, locs, cells, slots⟩ { g with stack := rest } (.invokespecial index) mk (Value.ref a :: argsL).toArray X₁ rfl hsize hdg hW (X₁.named hnamed) (hpre vm₁ X₁.warmed) with ⟨v, B, X', hpost, hsteps⟩ | ⟨q, B, X', hpost, hsteps⟩
  · exact Or.inl ⟨v, vm₁, B, X₁.warmed, X', hpost, fun target h => hstep₁ _ fun acts => by rw [doInvoke_state]; exact hsteps.trans h⟩
  · exact Or.inr ⟨q, vm₁, B, X₁.warmed, X', hpost, hstep₁ _ fun acts => by rw [doInvoke_state]; exact hsteps⟩
end VXIA
section VXIB
variable {p : Program} {l : Launch} {e : Env} {R : Room} {s : State} {m : MethodId} {args : Array Value} {below : List Frame} {meth : Method} {c : Code} {H : Heap} {locs : List Loc} {cells slots : Nat}
variable {y : MethodName} {bytes cc : ByteArray} {maxL nL mc ms n index : Nat} {ret : Option FieldType} {ws : List Cond} {rm : Room} {Pc : Array Value → State → Prop} {Qc : Array Value → State → Outcome → State → Prop} {XC : String → State → State → Prop} {free : Addr → Prop} {Ts : List Cond} {own C : String} {b : Addr} {As rest : List Value} {g : JFrame}
theorem vx_runI (S : CallFix p m c cc nL s args Ts own) (hM : vx_Met l y ws rm Pc Qc XC mc ms free) (cw : CallB R s args own index y bytes maxL none ws rm mc ms n ∧ y.name = "<init>" ∧ (Cond.instanceMethod y).before args s = true) (hp : PreS s H Pc (.ref b :: As))
    (hg : g.method = m) (hn : As.length = n) (hsize : g.locals.size = nL) (hstack : g.stack = As.reverse ++ .ref b :: rest) (hW : 2 * g.monitorRoom + (rest.map fun v => v.category).sum ≤ 8) (hdg : decode cc g.pc = .ok (.invokespecial index, 3)) (hf : cells + mc ≤ R.cells ∧ slots + ms ≤ R.slots) :
    vx_Run p l e R s m args below meth c H locs cells slots mc ms g rest (Qc (Value.ref b :: As).toArray) XC free := by
  have hK : vx_Back l R p e below s args y 3 8 (PreOf R mc ms Pc) (PostOf Qc mc ms free) (vx_Post XC mc ms free) := vx_callBack cw.1 hM hp.1
  obtain ⟨⟨-, -, -, -, -, -, hcode, -, hy, hlen, hl⟩, hy1, hin⟩ := cw
  obtain ⟨hx, hb, hml, ho, -⟩ := S
  have hPc := hp.2
  intro T hT X
  rcases vx_callI X hx (bytes := bytes) (maxL := maxL) ho hy1 hl hin hcode hy hK hg (hsize.trans hml.symm) (a := b) (argsL := As) (rest := rest) (fun sig h => hn.trans (hlen sig h)) hstack hW (by rw [hb]; exact hdg)
    (fun vm₁ hW₁ => ⟨hf.1, hf.2, hPc (T.setVm vm₁) hT hW₁⟩) with ⟨v, vm₁, ⟨U', l2, c2, s2⟩, hW₁, X', ⟨g', mk, t, L, e1, e2, hq, h1, hL, h2, h3⟩, st⟩ | ⟨q, vm₁, ⟨U', l2, c2, s2⟩, hW₁, X', ⟨g', mk, t, L, E, ce, e1, e2, hq, hce, hcv, hcl, h1, hL, h2, h3⟩, st⟩
  · dsimp only [Pt.U, Pt.locs, Pt.cells, Pt.slots] at X' e1 e2 h1 h2 h3 st
    subst h1; subst h2; subst h3
    exact Or.inl ⟨v, (T.setVm vm₁).calling g' mk (Value.ref b :: As).toArray, t, U', L, hT, X', hL, e1, e2, hq, st⟩
  · dsimp only [Pt.U, Pt.locs, Pt.cells, Pt.slots] at X' e1 e2 h1 h2 h3 st hcl
    subst h1; subst h2; subst h3
    exact Or.inr ⟨q, (T.setVm vm₁).calling g' mk (Value.ref b :: As).toArray, t, U', L, E, ce, hT, X', hL, e1, e2, hq, hce, hcv, vx_cls hW₁ hcl, st⟩
end VXIB
/-! ===== END ===== -/
/-! ===== BEGIN a private constructor of a nest mate that throws ===== -/
section VXIC
variable {p : Program} {l : Launch} {e : Env} {R : Room} {s : State} {m : MethodId} {args : Array Value} {below : List Frame} {meth : Method} {c : Code} {T : State} {locs : List Loc} {cells slots : Nat}
theorem vx_callIN (X : Stand p l e R s m args below meth c T locs cells slots) (hexec : p.tables.exec = Jvm.exec) {own : String} {index : Nat} {host : String} {y : MethodName} {bytes : ByteArray} {maxL : Nat}
    (hown : s.vm.findClass own = some m.cls) (hy1 : y.name = "<init>") (hlink : (Cond.methodLinkNest own index y host).before args s = true) (hinst : (Cond.instanceMethod y).before args s = true)
    (hcode : (Cond.code y bytes maxL none).before args s = true) (hy : y.cls ≠ "java/lang/invoke/MethodHandle" ∧ y.cls ≠ "java/lang/invoke/VarHandle")
    {W9 : Nat} {Pre : Pt → Array Value → Prop} {Post : Pt → Array Value → Option Value → Pt → Prop} {PostX : Pt → Array Value → Addr → Pt → Prop} (hK : vx_Back l R p e below s args y 3 W9 Pre Post PostX)
    {g : JFrame} (hg : g.method = m) (hsize : g.locals.size = c.maxLocals) {a : Addr} {argsL rest : List Value} (hlen : ∀ sig, parseMethodDescriptor y.desc = some sig → argsL.length = sig.parameters.length)
    (hstack : g.stack = argsL.reverse ++ .ref a :: rest) (hW : 2 * g.monitorRoom + (rest.map fun v => v.category).sum ≤ W9) (hdg : decode c.code g.pc = .ok (.invokespecial index, 3))
    (hpre : ∀ vm₁, s.WarmedH vm₁ → Pre ⟨T.setVm vm₁, locs, cells, slots⟩ (Value.ref a :: argsL).toArray) :
    (∃ (v : Option Value) (vm₁ : Vm) (B : Pt), s.WarmedH vm₁ ∧ Stand p l e R s m args below meth c B.U B.locs B.cells B.slots ∧ Post ⟨T.setVm vm₁, locs, cells, slots⟩ (Value.ref a :: argsL).toArray v B ∧
      ∀ target, Steps p.tables e below (B.U.setTop { g with pc := g.pc + 3, stack := v.toList ++ rest }) target → Steps p.tables e below (T.setTop g) target) ∨
    (∃ (q : Addr) (vm₁ : Vm) (B : Pt), s.WarmedH vm₁ ∧ Stand p l e R s m args below meth c B.U B.locs B.cells B.slots ∧ PostX ⟨T.setVm vm₁, locs, cells, slots⟩ (Value.ref a :: argsL).toArray q B ∧
      Steps p.tables e below (T.setTop g) ((B.U.setTop { g with stack := rest }).pushFrame (.throwing q))) := by
  subst hg
  have hpl : e.platform.magicAccessors = ({} : Platform).magicAccessors := by rw [X.admits.platform]
  obtain ⟨mk, methM, cM, kP, vm₁, hnamed, hmethM, hcodeM, -, hlocalsM, -, hkP, -, hW₁, hstep₁⟩ := Steps.initColdArgsNest (e := e) X.here hexec X.warmed hpl hown hy1 hy hlink hinst hcode (f := g) rfl hlen hstack hdg
  have X₁ := X.noted hW₁
  rcases hK g.method meth c ⟨T.setVm vm₁, locs, cells, slots⟩ { g with stack := rest } (.invokespecial index) mk (Value.ref a :: argsL).toArray X₁ rfl hsize hdg hW (X₁.named hnamed) (hpre vm₁ X₁.warmed) with ⟨v, B, X', hpost, hsteps⟩ | ⟨q, B, X', hpost, hsteps⟩
  · exact Or.inl ⟨v, vm₁, B, X₁.warmed, X', hpost, fun target h => hstep₁ _ fun acts => by rw [doInvoke_state]; exact hsteps.trans h⟩
  · exact Or.inr ⟨q, vm₁, B, X₁.warmed, X', hpost, hstep₁ _ fun acts => by rw [doInvoke_state]; exact hsteps⟩
end VXIC
section VXID
variable {p : Program} {l : Launch} {e : Env} {R : Room} {s : State} {m : MethodId} {args : Array Value} {below : List Frame} {meth : Method} {c : Code} {H : Heap} {locs : List Loc} {cells slots : Nat}
theorem vx_runIN {y : MethodName} {bytes cc : ByteArray} {maxL nL mc ms n index : Nat} {ws : List Cond} {rm : Room} {Pc : Array Value → State → Prop} {Qc : Array Value → State → Outcome → State → Prop} {XC : String → State → State → Prop} {free : Addr → Prop} {Ts : List Cond} {own host : String} {b : Addr} {As rest : List Value} {g : JFrame}
    (S : CallFix p m c cc nL s args Ts own) (hM : vx_Met l y ws rm Pc Qc XC mc ms free) (cw : va_CN R s args own index y host bytes maxL none ws rm mc ms n ∧ y.name = "<init>" ∧ (Cond.instanceMethod y).before args s = true) (hp : PreS s H Pc (.ref b :: As))
    (hg : g.method = m) (hn : As.length = n) (hsize : g.locals.size = nL) (hstack : g.stack = As.reverse ++ .ref b :: rest) (hW : 2 * g.monitorRoom + (rest.map fun v => v.category).sum ≤ 8) (hdg : decode cc g.pc = .ok (.invokespecial index, 3)) (hf : cells + mc ≤ R.cells ∧ slots + ms ≤ R.slots) :
    vx_Run p l e R s m args below meth c H locs cells slots mc ms g rest (Qc (Value.ref b :: As).toArray) XC free := by
  obtain ⟨⟨⟨hrc, hrs, hfr, hlo, hws, hcw⟩, hcode, hini, hy, hlen, hl⟩, hx1, hx2⟩ := cw
  have hK : vx_Back l R p e below s args y 3 8 (PreOf R mc ms Pc) (PostOf Qc mc ms free) (vx_Post XC mc ms free) := vx_back (bytes := bytes) (maxL := maxL) (ret := none) hM hp.1 hrc hrs hfr hlo hws hcw (fun a' U hW => word_at hW (Or.inl (by first | rfl | simp [Cond.onTables, Cond.keeps, Cond.steady])) hini)
  obtain ⟨hx, hb, hml, ho, -⟩ := S
  have hPc := hp.2
  intro T hT X
  rcases vx_callIN X hx (bytes := bytes) (maxL := maxL) ho hx1 hl hx2 hcode hy hK hg (hsize.trans hml.symm) (a := b) (argsL := As) (rest := rest) (fun sig h => hn.trans (hlen sig h)) hstack hW (by rw [hb]; exact hdg)
    (fun vm₁ hW₁ => ⟨hf.1, hf.2, hPc (T.setVm vm₁) hT hW₁⟩) with ⟨v, vm₁, ⟨U', l2, c2, s2⟩, hW₁, X', ⟨g', mk, t, L, e1, e2, hq, h1, hL, h2, h3⟩, st⟩ | ⟨q, vm₁, ⟨U', l2, c2, s2⟩, hW₁, X', ⟨g', mk, t, L, E, ce, e1, e2, hq, hce, hcv, hcl, h1, hL, h2, h3⟩, st⟩
  · dsimp only [Pt.U, Pt.locs, Pt.cells, Pt.slots] at X' e1 e2 h1 h2 h3 st
    subst h1; subst h2; subst h3
    exact Or.inl ⟨v, (T.setVm vm₁).calling g' mk (Value.ref b :: As).toArray, t, U', L, hT, X', hL, e1, e2, hq, st⟩
  · dsimp only [Pt.U, Pt.locs, Pt.cells, Pt.slots] at X' e1 e2 h1 h2 h3 st hcl
    subst h1; subst h2; subst h3
    exact Or.inr ⟨q, (T.setVm vm₁).calling g' mk (Value.ref b :: As).toArray, t, U', L, E, ce, hT, X', hL, e1, e2, hq, hce, hcv, vx_cls hW₁ hcl, st⟩
end VXID
/-! ===== END ===== -/
end
section
/-! ===== the classes, out of the printed names ===== -/
def RX0 : String := "SpeechKeeper$History"
def TX0 : u_T := fun k => match k with
  | 0 => ("SpeechKeeper$History", "ring", "LSpeechKeeper$Shelf;", true)
  | 1 => ("SpeechKeeper$History", "next", "I", false)
  | _ => ("SpeechKeeper$History", "count", "I", false)
def tyX0 : Nat → FieldType := fun k => match k with
  | 0 => .object "SpeechKeeper$Shelf"
  | 1 => .int
  | _ => .int
abbrev wsX00 : List Cond := u_ws RX0 TX0 3
theorem nmX0 : ∀ a, a < 3 → ∀ b, b < 3 → a ≠ b → (TX0 a).2.1 ≠ (TX0 b).2.1 := by decide +kernel
theorem tyX0_ok : ∀ k, k < 3 → parseFieldDescriptor (TX0 k).2.2.1 = some (tyX0 k) := by decide +kernel
def RX1 : String := "SpeechKeeper$Joint"
def TX1 : u_T := fun k => match k with
  | 0 => ("SpeechKeeper$Joint", "text", "LSpeechKeeper$Text;", true)
  | 1 => ("SpeechKeeper$Joint", "state", "LSpeechKeeper$State;", true)
  | 2 => ("SpeechKeeper$Joint", "merge", "LSpeechKeeper$Merge;", true)
  | 3 => ("SpeechKeeper$Joint", "laying", "LSpeechKeeper$Laying;", true)
  | 4 => ("SpeechKeeper$Joint", "baseAuthors", "[I", true)
  | _ => ("SpeechKeeper$Joint", "most", "[I", true)
def tyX1 : Nat → FieldType := fun k => match k with
  | 0 => .object "SpeechKeeper$Text"
  | 1 => .object "SpeechKeeper$State"
  | 2 => .object "SpeechKeeper$Merge"
  | 3 => .object "SpeechKeeper$Laying"
  | 4 => .array .int
  | _ => .array .int
abbrev wsX10 : List Cond := u_ws RX1 TX1 6
theorem nmX1 : ∀ a, a < 6 → ∀ b, b < 6 → a ≠ b → (TX1 a).2.1 ≠ (TX1 b).2.1 := by decide +kernel
theorem tyX1_ok : ∀ k, k < 6 → parseFieldDescriptor (TX1 k).2.2.1 = some (tyX1 k) := by decide +kernel
def RX2 : String := "SpeechKeeper$Laying"
def TX2 : u_T := fun k => match k with
  | 0 => ("SpeechKeeper$Laying", "first", "[J", true)
  | 1 => ("SpeechKeeper$Laying", "second", "[J", true)
  | 2 => ("SpeechKeeper$Laying", "partners", "[I", true)
  | 3 => ("SpeechKeeper$Laying", "longest", "[I", true)
  | 4 => ("SpeechKeeper$Laying", "firsts", "I", false)
  | 5 => ("SpeechKeeper$Laying", "seconds", "I", false)
  | _ => ("SpeechKeeper$Laying", "pairs", "I", false)
def tyX2 : Nat → FieldType := fun k => match k with
  | 0 => .array .long
  | 1 => .array .long
  | 2 => .array .int
  | 3 => .array .int
  | 4 => .int
  | 5 => .int
  | _ => .int
abbrev wsX20 : List Cond := u_ws RX2 TX2 7
theorem nmX2 : ∀ a, a < 7 → ∀ b, b < 7 → a ≠ b → (TX2 a).2.1 ≠ (TX2 b).2.1 := by decide +kernel
theorem tyX2_ok : ∀ k, k < 7 → parseFieldDescriptor (TX2 k).2.2.1 = some (tyX2 k) := by decide +kernel
def RX3 : String := "SpeechKeeper$Merge"
def TX3 : u_T := fun k => match k with
  | 0 => ("SpeechKeeper$Merge", "zero", "LSpeechKeeper$Table;", true)
  | 1 => ("SpeechKeeper$Merge", "one", "LSpeechKeeper$Table;", true)
  | 2 => ("SpeechKeeper$Merge", "blocks", "LSpeechKeeper$Table;", true)
  | _ => ("SpeechKeeper$Merge", "laying", "LSpeechKeeper$Laying;", true)
def tyX3 : Nat → FieldType := fun k => match k with
  | 0 => .object "SpeechKeeper$Table"
  | 1 => .object "SpeechKeeper$Table"
  | 2 => .object "SpeechKeeper$Table"
  | _ => .object "SpeechKeeper$Laying"
abbrev wsX30 : List Cond := u_ws RX3 TX3 4
theorem nmX3 : ∀ a, a < 4 → ∀ b, b < 4 → a ≠ b → (TX3 a).2.1 ≠ (TX3 b).2.1 := by decide +kernel
theorem tyX3_ok : ∀ k, k < 4 → parseFieldDescriptor (TX3 k).2.2.1 = some (tyX3 k) := by decide +kernel
def RX4 : String := "SpeechKeeper$Reader"
def TX4 : u_T := fun k => match k with
  | 0 => ("SpeechKeeper$Reader", "bytes", "[B", true)
  | 1 => ("SpeechKeeper$Reader", "length", "I", false)
  | 2 => ("SpeechKeeper$Reader", "limit", "I", false)
  | 3 => ("SpeechKeeper$Reader", "place", "I", false)
  | 4 => ("SpeechKeeper$Reader", "token", "I", false)
  | 5 => ("SpeechKeeper$Reader", "tokenAt", "I", false)
  | 6 => ("SpeechKeeper$Reader", "word", "J", false)
  | _ => ("SpeechKeeper$Reader", "letters", "I", false)
def tyX4 : Nat → FieldType := fun k => match k with
  | 0 => .array .byte
  | 1 => .int
  | 2 => .int
  | 3 => .int
  | 4 => .int
  | 5 => .int
  | 6 => .long
  | _ => .int
abbrev wsX40 : List Cond := u_ws RX4 TX4 8
theorem nmX4 : ∀ a, a < 8 → ∀ b, b < 8 → a ≠ b → (TX4 a).2.1 ≠ (TX4 b).2.1 := by decide +kernel
theorem tyX4_ok : ∀ k, k < 8 → parseFieldDescriptor (TX4 k).2.2.1 = some (tyX4 k) := by decide +kernel
def RX5 : String := "SpeechKeeper$Shelf"
def TX5 : u_T := fun k => match k with
  | 0 => ("SpeechKeeper$Shelf", "states", "[LSpeechKeeper$State;", true)
  | _ => ("SpeechKeeper$Shelf", "filled", "[Z", true)
def tyX5 : Nat → FieldType := fun k => match k with
  | 0 => .array (.object "SpeechKeeper$State")
  | _ => .array .boolean
abbrev wsX50 : List Cond := u_ws RX5 TX5 2
theorem nmX5 : ∀ a, a < 2 → ∀ b, b < 2 → a ≠ b → (TX5 a).2.1 ≠ (TX5 b).2.1 := by decide +kernel
theorem tyX5_ok : ∀ k, k < 2 → parseFieldDescriptor (TX5 k).2.2.1 = some (tyX5 k) := by decide +kernel
def RX6 : String := "SpeechKeeper$State"
def TX6 : u_T := fun k => match k with
  | 0 => ("SpeechKeeper$State", "base", "LSpeechKeeper$Text;", true)
  | 1 => ("SpeechKeeper$State", "draftZero", "LSpeechKeeper$Text;", true)
  | 2 => ("SpeechKeeper$State", "draftOne", "LSpeechKeeper$Text;", true)
  | 3 => ("SpeechKeeper$State", "decisions", "[I", true)
  | _ => ("SpeechKeeper$State", "round", "I", false)
def tyX6 : Nat → FieldType := fun k => match k with
  | 0 => .object "SpeechKeeper$Text"
  | 1 => .object "SpeechKeeper$Text"
  | 2 => .object "SpeechKeeper$Text"
  | 3 => .array .int
  | _ => .int
abbrev wsX60 : List Cond := u_ws RX6 TX6 5
theorem nmX6 : ∀ a, a < 5 → ∀ b, b < 5 → a ≠ b → (TX6 a).2.1 ≠ (TX6 b).2.1 := by decide +kernel
theorem tyX6_ok : ∀ k, k < 5 → parseFieldDescriptor (TX6 k).2.2.1 = some (tyX6 k) := by decide +kernel
def RX7 : String := "SpeechKeeper$Table"
def TX7 : u_T := fun k => match k with
  | 0 => ("SpeechKeeper$Table", "width", "I", true)
  | 1 => ("SpeechKeeper$Table", "cells", "[I", true)
  | _ => ("SpeechKeeper$Table", "rows", "I", false)
def tyX7 : Nat → FieldType := fun k => match k with
  | 0 => .int
  | 1 => .array .int
  | _ => .int
abbrev wsX70 : List Cond := u_ws RX7 TX7 3
theorem nmX7 : ∀ a, a < 3 → ∀ b, b < 3 → a ≠ b → (TX7 a).2.1 ≠ (TX7 b).2.1 := by decide +kernel
theorem tyX7_ok : ∀ k, k < 3 → parseFieldDescriptor (TX7 k).2.2.1 = some (tyX7 k) := by decide +kernel
def RX8 : String := "SpeechKeeper$Text"
def TX8 : u_T := fun k => match k with
  | 0 => ("SpeechKeeper$Text", "words", "[J", true)
  | 1 => ("SpeechKeeper$Text", "authors", "[I", true)
  | 2 => ("SpeechKeeper$Text", "counts", "[I", true)
  | _ => ("SpeechKeeper$Text", "lines", "I", false)
def tyX8 : Nat → FieldType := fun k => match k with
  | 0 => .array .long
  | 1 => .array .int
  | 2 => .array .int
  | _ => .int
abbrev wsX80 : List Cond := u_ws RX8 TX8 4
theorem nmX8 : ∀ a, a < 4 → ∀ b, b < 4 → a ≠ b → (TX8 a).2.1 ≠ (TX8 b).2.1 := by decide +kernel
theorem tyX8_ok : ∀ k, k < 4 → parseFieldDescriptor (TX8 k).2.2.1 = some (tyX8 k) := by decide +kernel
def RX9 : String := "SpeechKeeper"
def TX9 : u_T := fun k => match k with
  | 0 => ("SpeechKeeper", "reader", "LSpeechKeeper$Reader;", true)
  | 1 => ("SpeechKeeper", "now", "LSpeechKeeper$State;", true)
  | 2 => ("SpeechKeeper", "spare", "LSpeechKeeper$State;", true)
  | 3 => ("SpeechKeeper", "typed", "LSpeechKeeper$Text;", true)
  | 4 => ("SpeechKeeper", "history", "LSpeechKeeper$History;", true)
  | 5 => ("SpeechKeeper", "slots", "LSpeechKeeper$Shelf;", true)
  | 6 => ("SpeechKeeper", "laying", "LSpeechKeeper$Laying;", true)
  | 7 => ("SpeechKeeper", "merge", "LSpeechKeeper$Merge;", true)
  | 8 => ("SpeechKeeper", "trial", "LSpeechKeeper$Merge;", true)
  | 9 => ("SpeechKeeper", "joint", "LSpeechKeeper$Joint;", true)
  | 10 => ("SpeechKeeper", "reported", "[B", true)
  | 11 => ("SpeechKeeper", "reportedBytes", "I", false)
  | 12 => ("SpeechKeeper", "isMerged", "Z", false)
  | _ => ("SpeechKeeper", "isJoined", "Z", false)
def tyX9 : Nat → FieldType := fun k => match k with
  | 0 => .object "SpeechKeeper$Reader"
  | 1 => .object "SpeechKeeper$State"
  | 2 => .object "SpeechKeeper$State"
  | 3 => .object "SpeechKeeper$Text"
  | 4 => .object "SpeechKeeper$History"
  | 5 => .object "SpeechKeeper$Shelf"
  | 6 => .object "SpeechKeeper$Laying"
  | 7 => .object "SpeechKeeper$Merge"
  | 8 => .object "SpeechKeeper$Merge"
  | 9 => .object "SpeechKeeper$Joint"
  | 10 => .array .byte
  | 11 => .int
  | 12 => .boolean
  | _ => .boolean
abbrev wsX90 : List Cond := u_ws RX9 TX9 14
theorem nmX9 : ∀ a, a < 14 → ∀ b, b < 14 → a ≠ b → (TX9 a).2.1 ≠ (TX9 b).2.1 := by decide +kernel
theorem tyX9_ok : ∀ k, k < 14 → parseFieldDescriptor (TX9 k).2.2.1 = some (tyX9 k) := by decide +kernel
def RX10 : String := "SpeechKeeperModel"
def TX10 : u_T := fun k => match k with
  | 0 => ("SpeechKeeperModel", "s", "[J", false)
  | 1 => ("SpeechKeeperModel", "now", "[J", true)
  | 2 => ("SpeechKeeperModel", "draft", "[J", true)
  | 3 => ("SpeechKeeperModel", "past", "[J", true)
  | 4 => ("SpeechKeeperModel", "kept", "[J", true)
  | 5 => ("SpeechKeeperModel", "isKept", "[Z", true)
  | 6 => ("SpeechKeeperModel", "changes", "I", false)
  | 7 => ("SpeechKeeperModel", "thrown", "I", false)
  | 8 => ("SpeechKeeperModel", "jointWord", "[J", true)
  | 9 => ("SpeechKeeperModel", "jointAuthor", "[I", true)
  | 10 => ("SpeechKeeperModel", "jointLines", "I", false)
  | 11 => ("SpeechKeeperModel", "first", "[J", true)
  | 12 => ("SpeechKeeperModel", "second", "[J", true)
  | 13 => ("SpeechKeeperModel", "table", "[I", true)
  | 14 => ("SpeechKeeperModel", "pairOf", "[I", true)
  | 15 => ("SpeechKeeperModel", "backOf", "[I", true)
  | 16 => ("SpeechKeeperModel", "firstMany", "I", false)
  | 17 => ("SpeechKeeperModel", "secondMany", "I", false)
  | 18 => ("SpeechKeeperModel", "changeFrom", "[I", true)
  | 19 => ("SpeechKeeperModel", "changeTo", "[I", true)
  | 20 => ("SpeechKeeperModel", "changeStart", "[I", true)
  | 21 => ("SpeechKeeperModel", "changeEnd", "[I", true)
  | 22 => ("SpeechKeeperModel", "label", "[I", true)
  | 23 => ("SpeechKeeperModel", "blockOf", "[I", true)
  | 24 => ("SpeechKeeperModel", "changeMany", "[I", true)
  | 25 => ("SpeechKeeperModel", "blockFrom", "[I", true)
  | 26 => ("SpeechKeeperModel", "blockTo", "[I", true)
  | 27 => ("SpeechKeeperModel", "blockLabel", "[I", true)
  | 28 => ("SpeechKeeperModel", "blockKind", "[I", true)
  | 29 => ("SpeechKeeperModel", "sideLines", "[I", true)
  | 30 => ("SpeechKeeperModel", "sideWords", "[I", true)
  | 31 => ("SpeechKeeperModel", "blocks", "I", false)
  | 32 => ("SpeechKeeperModel", "sideText", "[I", true)
  | 33 => ("SpeechKeeperModel", "sideLine", "[I", true)
  | 34 => ("SpeechKeeperModel", "sideMany", "[I", true)
  | 35 => ("SpeechKeeperModel", "oldAuthor", "[I", true)
  | 36 => ("SpeechKeeperModel", "buffer", "[I", true)
  | 37 => ("SpeechKeeperModel", "buffered", "I", false)
  | 38 => ("SpeechKeeperModel", "limit", "I", false)
  | 39 => ("SpeechKeeperModel", "position", "I", false)
  | 40 => ("SpeechKeeperModel", "from", "I", false)
  | 41 => ("SpeechKeeperModel", "kind", "I", false)
  | 42 => ("SpeechKeeperModel", "code", "I", false)
  | 43 => ("SpeechKeeperModel", "offset", "I", false)
  | 44 => ("SpeechKeeperModel", "mate", "[I", true)
  | 45 => ("SpeechKeeperModel", "through", "[I", true)
  | 46 => ("SpeechKeeperModel", "queue", "[I", true)
  | 47 => ("SpeechKeeperModel", "isSeen", "[Z", true)
  | 48 => ("SpeechKeeperModel", "best", "[I", true)
  | 49 => ("SpeechKeeperModel", "then", "[I", true)
  | 50 => ("SpeechKeeperModel", "held", "[J", true)
  | 51 => ("SpeechKeeperModel", "written", "[I", true)
  | _ => ("SpeechKeeperModel", "writtenLong", "I", false)
def tyX10 : Nat → FieldType := fun k => match k with
  | 0 => .array .long
  | 1 => .array .long
  | 2 => .array .long
  | 3 => .array .long
  | 4 => .array .long
  | 5 => .array .boolean
  | 6 => .int
  | 7 => .int
  | 8 => .array .long
  | 9 => .array .int
  | 10 => .int
  | 11 => .array .long
  | 12 => .array .long
  | 13 => .array .int
  | 14 => .array .int
  | 15 => .array .int
  | 16 => .int
  | 17 => .int
  | 18 => .array .int
  | 19 => .array .int
  | 20 => .array .int
  | 21 => .array .int
  | 22 => .array .int
  | 23 => .array .int
  | 24 => .array .int
  | 25 => .array .int
  | 26 => .array .int
  | 27 => .array .int
  | 28 => .array .int
  | 29 => .array .int
  | 30 => .array .int
  | 31 => .int
  | 32 => .array .int
  | 33 => .array .int
  | 34 => .array .int
  | 35 => .array .int
  | 36 => .array .int
  | 37 => .int
  | 38 => .int
  | 39 => .int
  | 40 => .int
  | 41 => .int
  | 42 => .int
  | 43 => .int
  | 44 => .array .int
  | 45 => .array .int
  | 46 => .array .int
  | 47 => .array .boolean
  | 48 => .array .int
  | 49 => .array .int
  | 50 => .array .long
  | 51 => .array .int
  | _ => .int
abbrev wsX100 : List Cond := u_ws RX10 TX10 53
theorem nmX10 : ∀ a, a < 53 → ∀ b, b < 53 → a ≠ b → (TX10 a).2.1 ≠ (TX10 b).2.1 := by decide +kernel
theorem tyX10_ok : ∀ k, k < 53 → parseFieldDescriptor (TX10 k).2.2.1 = some (tyX10 k) := by decide +kernel
abbrev vwCl : List vw_C := [(RX0, TX0, 3), (RX1, TX1, 6), (RX2, TX2, 7), (RX3, TX3, 4), (RX4, TX4, 8), (RX5, TX5, 2), (RX6, TX6, 5), (RX7, TX7, 3), (RX8, TX8, 4), (RX9, TX9, 14), (RX10, TX10, 53)]
end
section
/-! ===== a small abstract machine: ints as numbers or ranges, cells newest first; forced as it goes, so that the kernel runs it ===== -/
abbrev zV : Type := Nat × Nat × Nat
abbrev zA : Type := List (Nat × zV)
abbrev zC : Type := Nat × Nat × zV × zA
abbrev zW : Type := Nat × List zC × Nat × Nat
abbrev zE : Type := Nat × Nat × Nat × Nat × List Nat
abbrev zS : Type := List zE × zA × List zV × zW
abbrev zR : Type := Nat × zV × zW
abbrev zO : Type := zS ⊕ zR
noncomputable def zb {α : Type} (b : Bool) (t e : α) : α := Bool.rec e t b
noncomputable def zfN {α : Type} (n : Nat) (k : Nat → α) : α := Nat.rec (k (nat_lit 0)) (fun m _ => k (Nat.succ m)) n
noncomputable def zfV {α : Type} (v : zV) (k : zV → α) : α := Prod.rec (fun t q => Prod.rec (fun x y => k (t, x, y)) q) v
noncomputable def zget (l : zA) (k : Nat) (d : zV) : zV := List.rec (motive := fun _ => zV) d (fun h _ ih => zb (Nat.beq h.1 k) h.2 ih) l
noncomputable def zsetK {α : Type} (l : zA) (k : Nat) (v : zV) (c : zA → α) : α := List.rec (motive := fun _ => (zA → α) → α) (fun c => c [(k, v)]) (fun h t ih c => zb (Nat.beq h.1 k) (c ((k, v) :: t)) (ih (fun r => c (h :: r)))) l c
noncomputable def zcat2 (v : zV) : Bool := zb (Nat.beq v.1 (nat_lit 2)) true (zb (Nat.beq v.1 (nat_lit 3)) true (Nat.beq v.1 (nat_lit 7)))
noncomputable def zgone (i : Nat) (c2 : Bool) (h : Nat × zV) : Bool := zb (Nat.beq h.1 i) true (zb (Nat.beq (Nat.succ h.1) i) (zcat2 h.2) (zb c2 (Nat.beq h.1 (Nat.succ i)) false))
noncomputable def zremK {α : Type} (l : zA) (i : Nat) (c2 : Bool) (c : zA → α) : α := List.rec (motive := fun _ => (zA → α) → α) (fun c => c []) (fun h _ ih c => zb (zgone i c2 h) (ih c) (ih (fun r => c (h :: r)))) l c
noncomputable def znth (l : List zC) (p : Nat) : zC := List.rec (motive := fun _ => Nat → zC) (fun _ => ((nat_lit 999), (nat_lit 0), ((nat_lit 99), (nat_lit 0), (nat_lit 0)), [])) (fun h _ ih p => Nat.rec (motive := fun _ => zC) h (fun m _ => ih m) p) l p
noncomputable def zputK {α : Type} (l : List zC) (p : Nat) (x : zC) (c : List zC → α) : α := List.rec (motive := fun _ => Nat → (List zC → α) → α) (fun _ c => c []) (fun h t ih p c => Nat.rec (motive := fun _ => α) (c (x :: t)) (fun m _ => ih m (fun r => c (h :: r))) p) l p c
noncomputable def zcs (st : List zV) : Nat := List.rec (motive := fun _ => Nat) (nat_lit 0) (fun h _ ih => ih + (zb (zcat2 h) (nat_lit 2) (nat_lit 1))) st
/-- of a type: 0 int, 1 long, 2 float, 3 double, 4 reference -/
noncomputable def zis (t : Nat) (v : zV) : Bool :=
  zb (Nat.beq t (nat_lit 0)) (Nat.ble v.1 (nat_lit 1)) (zb (Nat.beq t (nat_lit 4)) (zb (Nat.beq v.1 (nat_lit 4)) true (zb (Nat.beq v.1 (nat_lit 5)) true (zb (Nat.beq v.1 (nat_lit 8)) true (Nat.beq v.1 (nat_lit 9))))) (zb (Nat.beq t (nat_lit 1)) (zb (Nat.beq v.1 (nat_lit 2)) true (Nat.beq v.1 (nat_lit 3))) (zb (Nat.beq t (nat_lit 2)) (Nat.beq v.1 (nat_lit 6)) (zb (Nat.beq t (nat_lit 3)) (Nat.beq v.1 (nat_lit 7)) false))))
noncomputable def zlo (v : zV) : Nat := zb (Nat.beq v.1 (nat_lit 0)) ((v.2.1 + (nat_lit 2147483648)) % (nat_lit 4294967296)) v.2.1
noncomputable def zhi (v : zV) : Nat := zb (Nat.beq v.1 (nat_lit 0)) ((v.2.1 + (nat_lit 2147483648)) % (nat_lit 4294967296)) v.2.2
noncomputable def zlo64 (v : zV) : Nat := zb (Nat.beq v.1 (nat_lit 2)) ((v.2.1 + (nat_lit 9223372036854775808)) % (nat_lit 18446744073709551616)) (v.2.1 + (nat_lit 9223372034707292160))
noncomputable def zhi64 (v : zV) : Nat := zb (Nat.beq v.1 (nat_lit 2)) ((v.2.1 + (nat_lit 9223372036854775808)) % (nat_lit 18446744073709551616)) (v.2.2 + (nat_lit 9223372034707292160))
/-- kept by a field or array of a small type -/
noncomputable def zsmall (ft : Nat) (u : zV) : Bool :=
  zb (Nat.beq ft (nat_lit 5)) (zb (Nat.beq u.1 (nat_lit 0)) (Nat.ble u.2.1 (nat_lit 1)) false)
    (zb (Nat.beq u.1 (nat_lit 0)) (zb (Nat.ble u.2.1 (nat_lit 127)) true (zb (Nat.ble (nat_lit 4294967168) u.2.1) (Nat.ble u.2.1 (nat_lit 4294967295)) false)) (zb (Nat.beq u.1 (nat_lit 1)) (zb (Nat.ble (nat_lit 2147483520) u.2.1) (Nat.ble u.2.2 (nat_lit 2147483775)) false) false))
noncomputable def zfit (ft : Nat) (u : zV) : Bool := zb (Nat.ble ft (nat_lit 4)) (zis ft u) (zsmall ft u)
noncomputable def zeq (u v : zV) : Bool := zb (Nat.beq u.1 v.1) (zb (Nat.beq u.2.1 v.2.1) (Nat.beq u.2.2 v.2.2) false) false
noncomputable def zR0 : zR := ((nat_lit 9), ((nat_lit 0), (nat_lit 0), (nat_lit 0)), ((nat_lit 0), [], (nat_lit 0), (nat_lit 0)))
noncomputable def zX : zO := Sum.inr zR0
noncomputable def zfindK (l : List zE) (t : Nat) (c : List zE → zO) : zO := List.rec (motive := fun _ => zO) zX (fun h r ih => zb (Nat.beq h.1 t) (c (h :: r)) ih) l
noncomputable def zfindS (l : List zE) (t : Nat) : List zE := List.rec (motive := fun _ => List zE) [] (fun h r ih => zb (Nat.beq h.1 t) (h :: r) ih) l
noncomputable def zgo (full : List zE) (t : Nat) (ls : zA) (st : List zV) (w : zW) : zO := zfindK full t (fun code => Sum.inl (code, ls, st, w))
/-- a comparison of two ints: 0 is it equal, 2 is it less -/
noncomputable def zcmpB (c a1 a2 b1 b2 : Nat) (k : Bool → zO) : zO :=
  zb (Nat.beq c (nat_lit 2)) (zb (Nat.ble (Nat.succ a2) b1) (k true) (zb (Nat.ble b2 a1) (k false) zX))
    (zb (Nat.ble (Nat.succ a2) b1) (k false) (zb (Nat.ble (Nat.succ b2) a1) (k false) (zb (Nat.beq a1 a2) (zb (Nat.beq b1 b2) (zb (Nat.beq a1 b1) (k true) zX) zX) zX)))
noncomputable def zcmp (c : Nat) (x y : zV) (k : Bool → zO) : zO :=
  zb (zis (nat_lit 0) x) (zb (zis (nat_lit 0) y)
    (zb (Nat.beq c (nat_lit 0)) (zcmpB (nat_lit 0) (zlo x) (zhi x) (zlo y) (zhi y) k)
    (zb (Nat.beq c (nat_lit 1)) (zcmpB (nat_lit 0) (zlo x) (zhi x) (zlo y) (zhi y) (fun b => k (not b)))
    (zb (Nat.beq c (nat_lit 2)) (zcmpB (nat_lit 2) (zlo x) (zhi x) (zlo y) (zhi y) k)
    (zb (Nat.beq c (nat_lit 3)) (zcmpB (nat_lit 2) (zlo x) (zhi x) (zlo y) (zhi y) (fun b => k (not b)))
    (zb (Nat.beq c (nat_lit 4)) (zcmpB (nat_lit 2) (zlo y) (zhi y) (zlo x) (zhi x) k)
    (zb (Nat.beq c (nat_lit 5)) (zcmpB (nat_lit 2) (zlo y) (zhi y) (zlo x) (zhi x) (fun b => k (not b))) zX)))))) zX) zX
noncomputable def zfC {α : Type} (c : zC) (k : Nat → Nat → zV → zA → α) : α := Prod.rec (fun kd q => Prod.rec (fun sz q => Prod.rec (fun d as => k kd sz d as) q) q) c
noncomputable def zfR {α : Type} (r : zR) (k : Nat → zV → Nat → List zC → Nat → Nat → α) : α := Prod.rec (fun kd q => Prod.rec (fun v q => Prod.rec (fun n q => Prod.rec (fun cs q => Prod.rec (fun nc ns => k kd v n cs nc ns) q) q) q) q) r
noncomputable def zfW {α : Type} (w : zW) (k : Nat → List zC → Nat → Nat → α) : α := Prod.rec (fun n q => Prod.rec (fun cs q => Prod.rec (fun nc ns => k n cs nc ns) q) q) w
noncomputable def zcellK (w : zW) (v : zV) (k : Nat → Nat → Nat → zV → zA → zO) : zO := zb (Nat.beq v.1 (nat_lit 4)) (zfN (w.1 - (Nat.succ v.2.1)) (fun p => zfC (znth w.2.1 p) (fun kd sz d as => k p kd sz d as))) zX
section ZOPS
variable (rest : List zE) (ls : zA) (st : List zV) (w : zW)
noncomputable def zoLoad (a b : Nat) : zO := zfV (zget ls a ((nat_lit 99), (nat_lit 0), (nat_lit 0))) (fun v => zb (zis b v) (Sum.inl (rest, ls, v :: st, w)) zX)
noncomputable def zoConst (l : List Nat) : zO := match l with
  | [t, x, y] => Sum.inl (rest, ls, (t, x, y) :: st, w)
  | _ => zX
noncomputable def zoStore (a b : Nat) : zO := match st with
  | v :: st' => zb (zis b v) (zremK ls a (zb (Nat.beq b (nat_lit 1)) true (Nat.beq b (nat_lit 3))) (fun ls' => Sum.inl (rest, (a, v) :: ls', st', w))) zX
  | [] => zX
noncomputable def zoInc (a : Nat) (l : List Nat) : zO := match l with
  | [x] => zfV (zget ls a ((nat_lit 99), (nat_lit 0), (nat_lit 0))) (fun v => zb (Nat.beq v.1 (nat_lit 0)) (zfN ((v.2.1 + x) % (nat_lit 4294967296)) (fun r => zremK ls a false (fun ls' => Sum.inl (rest, (a, ((nat_lit 0), r, (nat_lit 0))) :: ls', st, w)))) zX)
  | _ => zX
noncomputable def zar (a x y : Nat) (k : Nat → zO) : zO :=
  zb (Nat.beq a (nat_lit 0)) (zfN ((x + y) % (nat_lit 4294967296)) k)
  (zb (Nat.beq a (nat_lit 1)) (zfN ((x + ((nat_lit 4294967296) - (y % (nat_lit 4294967296)))) % (nat_lit 4294967296)) k)
  (zb (Nat.beq a (nat_lit 2)) (zfN ((x * y) % (nat_lit 4294967296)) k)
  (zb (Nat.beq a (nat_lit 3)) (zb (Nat.ble x (nat_lit 2147483647)) (zb (Nat.ble (nat_lit 1) y) (zb (Nat.ble y (nat_lit 2147483647)) (zfN (x / y) k) zX) zX) zX)
  (zb (Nat.beq a (nat_lit 4)) (zb (Nat.ble x (nat_lit 2147483647)) (zb (Nat.ble (nat_lit 1) y) (zb (Nat.ble y (nat_lit 2147483647)) (zfN (x % y) k) zX) zX) zX)
  (zb (Nat.beq a (nat_lit 5)) (zfN (x &&& y) k)
  (zb (Nat.beq a (nat_lit 6)) (zb (Nat.beq y (nat_lit 0)) (k x) zX) zX))))))
noncomputable def zoArith (a : Nat) : zO := match st with
  | y :: x :: st' =>
    zb (Nat.beq x.1 (nat_lit 0)) (zb (Nat.beq y.1 (nat_lit 0)) (zar a x.2.1 y.2.1 (fun r => Sum.inl (rest, ls, ((nat_lit 0), r, (nat_lit 0)) :: st', w)))
      (zb (zis (nat_lit 0) y) (zb (Nat.beq a (nat_lit 5)) (Sum.inl (rest, ls, ((nat_lit 1), (nat_lit 0), (nat_lit 4294967295)) :: st', w)) zX) zX))
    (zb (Nat.beq x.1 (nat_lit 2)) (zb (Nat.beq y.1 (nat_lit 2)) (zb (Nat.beq a (nat_lit 10)) (zfN ((x.2.1 + y.2.1) % (nat_lit 18446744073709551616)) (fun r => Sum.inl (rest, ls, ((nat_lit 2), r, (nat_lit 0)) :: st', w)))
      (zb (Nat.beq a (nat_lit 11)) (zfN ((x.2.1 * y.2.1) % (nat_lit 18446744073709551616)) (fun r => Sum.inl (rest, ls, ((nat_lit 2), r, (nat_lit 0)) :: st', w))) zX)) zX)
    (zb (zis (nat_lit 0) x) (zb (zis (nat_lit 0) y) (zb (Nat.beq a (nat_lit 5)) (Sum.inl (rest, ls, ((nat_lit 1), (nat_lit 0), (nat_lit 4294967295)) :: st', w)) (zb (Nat.beq a (nat_lit 7)) (Sum.inl (rest, ls, ((nat_lit 1), (nat_lit 0), (nat_lit 4294967295)) :: st', w)) zX)) zX) zX))
  | _ => zX
noncomputable def zoIf (full : List zE) (a b : Nat) : zO := match st with
  | x :: st' => zcmp b x ((nat_lit 0), (nat_lit 0), (nat_lit 0)) (fun t => zb t (zgo full a ls st' w) (Sum.inl (rest, ls, st', w)))
  | _ => zX
noncomputable def zoIcmp (full : List zE) (a b : Nat) : zO := match st with
  | y :: x :: st' => zcmp b x y (fun t => zb t (zgo full a ls st' w) (Sum.inl (rest, ls, st', w)))
  | _ => zX
noncomputable def zoGetf (a b : Nat) : zO := match st with
  | v :: st' => zcellK w v (fun _ kd _ d as => zb (Nat.beq kd a) (zfV (zget as b d) (fun u => Sum.inl (rest, ls, u :: st', w))) zX)
  | _ => zX
noncomputable def zoPutf (a b : Nat) (l : List Nat) : zO := match st with
  | u :: v :: st' => (match l with
    | [ft] => zcellK w v (fun p kd sz d as => zb (Nat.beq kd a) (zb (zfit ft u) (zsetK as b u (fun as => zputK w.2.1 p (kd, sz, d, as) (fun cs => Sum.inl (rest, ls, st', (w.1, cs, w.2.2.1, w.2.2.2))))) zX) zX)
    | _ => zX)
  | _ => zX
noncomputable def zkind (b kd : Nat) : Bool := zb (Nat.beq kd b) true (zb (Nat.beq b (nat_lit 101)) (Nat.beq kd (nat_lit 102)) false)
noncomputable def zscr (scr : List zV) (i : Nat) : zV := List.rec (motive := fun _ => Nat → zV) (fun _ => ((nat_lit 99), (nat_lit 0), (nat_lit 0))) (fun h _ ih p => Nat.rec (motive := fun _ => zV) h (fun m _ => ih m) p) scr i
noncomputable def zoAload (scr : List zV) (b : Nat) : zO := match st with
  | i :: v :: st' => zb (Nat.beq i.1 (nat_lit 0))
      (zb (Nat.beq v.1 (nat_lit 8)) (zb (Nat.beq b (nat_lit 100)) (zfV (zscr scr i.2.1) (fun u => zb (zis (nat_lit 0) u) (Sum.inl (rest, ls, u :: st', w)) zX)) zX)
        (zcellK w v (fun _ kd sz d as => zb (zkind b kd) (zb (Nat.ble (Nat.succ i.2.1) sz) (zfV (zget as i.2.1 d) (fun u => Sum.inl (rest, ls, u :: st', w))) zX) zX))) zX
  | _ => zX
noncomputable def zelem (kd : Nat) (u : zV) : Bool :=
  zb (Nat.beq kd (nat_lit 100)) (zis (nat_lit 0) u) (zb (Nat.beq kd (nat_lit 103)) (zis (nat_lit 1) u) (zb (Nat.beq kd (nat_lit 101)) (zsmall (nat_lit 6) u) (zb (Nat.beq kd (nat_lit 102)) (zsmall (nat_lit 5) u) (zb (Nat.beq kd (nat_lit 104)) (zis (nat_lit 3) u) (zb (Nat.beq kd (nat_lit 105)) (Nat.beq u.1 (nat_lit 4)) false)))))
noncomputable def zisState (w : zW) (u : zV) (k : zO) : zO := zcellK w u (fun _ kd _ _ _ => zb (Nat.beq kd (nat_lit 6)) k zX)
noncomputable def zoAstore (b : Nat) : zO := match st with
  | u :: i :: v :: st' => zb (Nat.beq i.1 (nat_lit 0))
      (zcellK w v (fun p kd sz d as => zb (zkind b kd) (zb (Nat.ble (Nat.succ i.2.1) sz) (zb (zelem kd u)
        ((fun k => zb (Nat.beq kd (nat_lit 105)) (zisState w u k) k)
          (zfV (zget as i.2.1 d) (fun q => zb (zeq q u) (Sum.inl (rest, ls, st', w))
            (zsetK as i.2.1 u (fun as => zputK w.2.1 p (kd, sz, d, as) (fun cs => Sum.inl (rest, ls, st', (w.1, cs, w.2.2.1, w.2.2.2))))))))
        zX) zX) zX)) zX
  | _ => zX
noncomputable def zoLen (scr : List zV) : zO := match st with
  | v :: st' => zb (Nat.beq v.1 (nat_lit 8)) (zfN scr.length (fun n => zb (Nat.beq n (nat_lit 0)) zX (Sum.inl (rest, ls, ((nat_lit 0), n, (nat_lit 0)) :: st', w))))
      (zcellK w v (fun _ kd sz _ _ => zb (Nat.ble (nat_lit 100) kd) (zfN sz (fun n => Sum.inl (rest, ls, ((nat_lit 0), n, (nat_lit 0)) :: st', w))) zX))
  | _ => zX
/-- the classes' objects when new: how many fields, what each holds -/
noncomputable def zobjK (objs : List (Nat × zA)) (a : Nat) (k : Nat → zA → zO) : zO := List.rec (motive := fun _ => Nat → zO) (fun _ => zX) (fun h _ ih p => Nat.rec (motive := fun _ => zO) (k h.1 h.2) (fun m _ => ih m) p) objs a
noncomputable def zoNew (objs : List (Nat × zA)) (a : Nat) : zO := zobjK objs a (fun N fs => zfN (Nat.succ w.1) (fun n => zfN (Nat.succ w.2.2.1) (fun nc => zfN (w.2.2.2 + N) (fun ns => Sum.inl (rest, ls, ((nat_lit 4), w.1, (nat_lit 0)) :: st, (n, (a, N, ((nat_lit 5), (nat_lit 0), (nat_lit 0)), fs) :: w.2.1, nc, ns))))))
noncomputable def zdf (a : Nat) : zV := zb (Nat.beq a (nat_lit 103)) ((nat_lit 2), (nat_lit 0), (nat_lit 0)) (zb (Nat.beq a (nat_lit 104)) ((nat_lit 7), (nat_lit 0), (nat_lit 0)) (zb (Nat.beq a (nat_lit 105)) ((nat_lit 5), (nat_lit 0), (nat_lit 0)) ((nat_lit 0), (nat_lit 0), (nat_lit 0))))
noncomputable def zoNewarr (a : Nat) : zO := match st with
  | v :: st' => zb (Nat.beq v.1 (nat_lit 0)) (zb (Nat.ble v.2.1 (nat_lit 60000)) (zfV (zdf a) (fun d => zfN (Nat.succ w.1) (fun n => zfN (Nat.succ w.2.2.1) (fun nc => zfN (w.2.2.2 + v.2.1) (fun ns => Sum.inl (rest, ls, ((nat_lit 4), w.1, (nat_lit 0)) :: st', (n, (a, v.2.1, d, []) :: w.2.1, nc, ns))))))) zX) zX
  | _ => zX
noncomputable def zpopK (n : Nat) (st : List zV) (acc : List zV) (k : List zV → List zV → zO) : zO := Nat.rec (motive := fun _ => List zV → List zV → zO) (fun st acc => k acc st) (fun _ ih st acc => List.rec (motive := fun _ => zO) zX (fun h t _ => ih t (h :: acc)) st) n st acc
noncomputable def zhand (full : List zE) (hs : List Nat) (v : zV) (w2 : zW) : zO := match hs with
  | e1 :: t1 :: hs1 => zb (Nat.beq e1 v.1) (zgo full t1 ls [((nat_lit 9), (nat_lit 0), (nat_lit 0))] w2) (match hs1 with
    | e2 :: t2 :: _ => zb (Nat.beq e2 v.1) (zgo full t2 ls [((nat_lit 9), (nat_lit 0), (nat_lit 0))] w2) zX
    | _ => zX)
  | _ => Sum.inr ((nat_lit 2), v, w2)
/-- the receiver: kind 0 a virtual call, 2 and 3 constructors, 1 and 4 static -/
noncomputable def zrecv (kd rc : Nat) (w : zW) (as : List zV) (k : zO) : zO := zb (Nat.beq kd (nat_lit 1)) k (zb (Nat.beq kd (nat_lit 4)) k (match as with
  | r :: _ => zcellK w r (fun _ ck _ _ _ => zb (Nat.beq kd (nat_lit 0)) (zb (Nat.beq ck rc) k zX) k)
  | [] => zX))
noncomputable def zoInvoke (rec : Nat → List zV → zW → zR) (full : List zE) (a b : Nat) (l : List Nat) : zO := match l with
  | kd :: rc :: hs => zpopK b st [] (fun as st' => zb (Nat.ble (zcs st') (nat_lit 8)) (zrecv kd rc w as
      (zfW w (fun n0 cs0 nc0 ns0 => zfR (rec a as (n0, cs0, (nat_lit 0), (nat_lit 0))) (fun rk v n cs mc ms => zfN (nc0 + mc) (fun nc => zfN (ns0 + ms) (fun ns =>
        zb (Nat.beq rk (nat_lit 0)) (Sum.inl (rest, ls, st', (n, cs, nc, ns)))
        (zb (Nat.beq rk (nat_lit 1)) (zfV v (fun v => Sum.inl (rest, ls, v :: st', (n, cs, nc, ns))))
        (zb (Nat.beq rk (nat_lit 2)) (zhand ls full hs v (n, cs, nc, ns)) zX)))))))) zX)
  | _ => zX
noncomputable def zoRet (b : Nat) : zO := zb (Nat.beq b (nat_lit 5)) (match st with
    | [] => Sum.inr ((nat_lit 0), ((nat_lit 0), (nat_lit 0), (nat_lit 0)), w)
    | _ => zX)
  (match st with
    | [v] => zb (zb (Nat.beq b (nat_lit 6)) (zsmall (nat_lit 5) v) (zis b v)) (Sum.inr ((nat_lit 1), v, w)) zX
    | _ => zX)
noncomputable def zoDup : zO := match st with
  | v :: st' => zb (zcat2 v) zX (Sum.inl (rest, ls, v :: v :: st', w))
  | _ => zX
noncomputable def zoPop : zO := match st with
  | v :: st' => zb (zcat2 v) zX (Sum.inl (rest, ls, st', w))
  | _ => zX
noncomputable def zoDup2 : zO := match st with
  | u :: v :: st' => zb (zcat2 u) zX (zb (zcat2 v) zX (Sum.inl (rest, ls, u :: v :: u :: v :: st', w)))
  | _ => zX
noncomputable def zoConv (a : Nat) : zO := match st with
  | v :: st' =>
    zb (Nat.beq a (nat_lit 0)) (zb (Nat.beq v.1 (nat_lit 0)) (zb (Nat.ble v.2.1 (nat_lit 2147483647)) (Sum.inl (rest, ls, ((nat_lit 2), v.2.1, (nat_lit 0)) :: st', w)) (zb (Nat.ble v.2.1 (nat_lit 4294967295)) (zfN (v.2.1 + (nat_lit 18446744069414584320)) (fun n => Sum.inl (rest, ls, ((nat_lit 2), n, (nat_lit 0)) :: st', w))) zX))
      (zb (Nat.beq v.1 (nat_lit 1)) (Sum.inl (rest, ls, ((nat_lit 3), v.2.1, v.2.2) :: st', w)) zX))
    (zb (Nat.beq a (nat_lit 1)) (zb (Nat.beq v.1 (nat_lit 2)) (zfN (v.2.1 % (nat_lit 4294967296)) (fun n => Sum.inl (rest, ls, ((nat_lit 0), n, (nat_lit 0)) :: st', w))) zX)
    (zb (Nat.beq a (nat_lit 2)) (zb (Nat.beq v.1 (nat_lit 1)) (Sum.inl (rest, ls, ((nat_lit 1), (nat_lit 2147483520), (nat_lit 2147483775)) :: st', w)) zX)
    (zb (Nat.beq a (nat_lit 3)) (zb (zeq v ((nat_lit 6), (nat_lit 0), (nat_lit 0))) (Sum.inl (rest, ls, ((nat_lit 7), (nat_lit 0), (nat_lit 0)) :: st', w)) zX) zX)))
  | _ => zX
noncomputable def zlcB (a1 a2 b1 b2 : Nat) (k : zV → zO) : zO :=
  zb (Nat.ble (Nat.succ a2) b1) (k ((nat_lit 0), (nat_lit 4294967295), (nat_lit 0))) (zb (Nat.ble (Nat.succ b2) a1) (k ((nat_lit 0), (nat_lit 1), (nat_lit 0)))
    (zb (zb (Nat.beq a1 a2) (zb (Nat.beq b1 b2) (Nat.beq a1 b1) false) false) (k ((nat_lit 0), (nat_lit 0), (nat_lit 0)))
    (zb (Nat.ble b2 a1) (k ((nat_lit 1), (nat_lit 2147483648), (nat_lit 2147483649))) (zb (Nat.ble a2 b1) (k ((nat_lit 1), (nat_lit 2147483647), (nat_lit 2147483648))) zX))))
noncomputable def zoLcmp : zO := match st with
  | y :: x :: st' => zb (zis (nat_lit 1) x) (zb (zis (nat_lit 1) y) (zlcB (zlo64 x) (zhi64 x) (zlo64 y) (zhi64 y) (fun v => Sum.inl (rest, ls, v :: st', w))) zX) zX
  | _ => zX
noncomputable def zoFcmp (b : Nat) : zO := match st with
  | y :: x :: st' => zb (zb (Nat.beq b (nat_lit 2)) (zb (zeq x ((nat_lit 6), (nat_lit 0), (nat_lit 0))) (zeq y ((nat_lit 6), (nat_lit 0), (nat_lit 0))) false) (zb (zeq x ((nat_lit 7), (nat_lit 0), (nat_lit 0))) (zeq y ((nat_lit 7), (nat_lit 0), (nat_lit 0))) false)) (Sum.inl (rest, ls, ((nat_lit 0), (nat_lit 0), (nat_lit 0)) :: st', w)) zX
  | _ => zX
noncomputable def zoNull (full : List zE) (a : Nat) : zO := match st with
  | v :: st' => zb (Nat.beq v.1 (nat_lit 5)) (zgo full a ls st' w) (zb (Nat.beq v.1 (nat_lit 4)) (Sum.inl (rest, ls, st', w)) zX)
  | _ => zX
noncomputable def ztgt (l : List Nat) (p d : Nat) : Nat := List.rec (motive := fun _ => Nat → Nat) (fun _ => d) (fun h _ ih p => Nat.rec (motive := fun _ => Nat) h (fun m _ => ih m) p) l p
noncomputable def zoSwitch (full : List zE) (a b : Nat) (l : List Nat) : zO := match st with
  | v :: st' => zb (Nat.beq v.1 (nat_lit 0)) (zb (Nat.ble v.2.1 (nat_lit 2147483647)) (zb (Nat.ble a v.2.1) (zfN (ztgt l (v.2.1 - a) b) (fun t => zgo full t ls st' w)) (zgo full b ls st' w)) zX) zX
  | _ => zX
noncomputable def zoThrow (D a : Nat) : zO := zb (Nat.ble (nat_lit 6) D) (zb (Nat.ble (zcs st) (nat_lit 8)) (zfN (Nat.succ w.2.2.1) (fun nc => zfN (w.2.2.2 + (nat_lit 6)) (fun ns => Sum.inr ((nat_lit 2), (a, (nat_lit 0), (nat_lit 0)), (w.1, w.2.1, nc, ns))))) zX) zX
noncomputable def zoInit : zO := match st with
  | v :: st' => zb (Nat.beq v.1 (nat_lit 4)) (zb (Nat.ble (zcs st') (nat_lit 8)) (Sum.inl (rest, ls, st', w)) zX) zX
  | _ => zX
noncomputable def zoMath (a : Nat) : zO := match st with
  | y :: x :: st' => zb (Nat.beq x.1 (nat_lit 0)) (zb (Nat.beq y.1 (nat_lit 0)) (zb (Nat.ble (zcs st') (nat_lit 8))
      (zb (Nat.beq a (nat_lit 0)) (zcmpB (nat_lit 2) (zlo x) (zhi x) (zlo y) (zhi y) (fun t => zb t (Sum.inl (rest, ls, y :: st', w)) (Sum.inl (rest, ls, x :: st', w))))
        (zcmpB (nat_lit 2) (zlo y) (zhi y) (zlo x) (zhi x) (fun t => zb t (Sum.inl (rest, ls, y :: st', w)) (Sum.inl (rest, ls, x :: st', w))))) zX) zX) zX
  | _ => zX
noncomputable def znil (l : zA) : Bool := List.rec (motive := fun _ => Bool) true (fun _ _ _ => false) l
noncomputable def zoCopy : zO := match st with
  | n :: dp :: d :: sp :: s :: st' => zb (Nat.beq n.1 (nat_lit 0)) (zb (Nat.beq dp.1 (nat_lit 0)) (zb (Nat.beq sp.1 (nat_lit 0)) (zb (Nat.ble (zcs st') (nat_lit 8))
      (zcellK w s (fun _ k0 n0 d0 a0 => zcellK w d (fun _ k1 n1 d1 a1 => zb (Nat.beq k0 k1) (zb (zb (Nat.beq k0 (nat_lit 100)) true (Nat.beq k0 (nat_lit 103))) (zb (Nat.ble (sp.2.1 + n.2.1) n0) (zb (Nat.ble (dp.2.1 + n.2.1) n1)
        (zb (zb (Nat.beq n.2.1 (nat_lit 0)) true (zb (znil a0) (zb (znil a1) (zeq d0 d1) false) false)) (Sum.inl (rest, ls, st', w)) zX) zX) zX) zX) zX))) zX) zX) zX) zX
  | _ => zX
end ZOPS
noncomputable def zdo (objs : List (Nat × zA)) (rec : Nat → List zV → zW → zR) (D : Nat) (full : List zE) (scr : List zV) (op a b : Nat) (l : List Nat) (rest : List zE) (ls : zA) (st : List zV) (w : zW) : zO :=
  zb (Nat.ble op (nat_lit 7))
    (zb (Nat.ble op (nat_lit 3)) (zb (Nat.ble op (nat_lit 1)) (zb (Nat.ble op (nat_lit 0)) (zoLoad rest ls st w a b) (zoConst rest ls st w l)) (zb (Nat.ble op (nat_lit 2)) (zoStore rest ls st w a b) (zoInc rest ls st w a l)))
      (zb (Nat.ble op (nat_lit 5)) (zb (Nat.ble op (nat_lit 4)) (zoArith rest ls st w a) (zoIf rest ls st w full a b)) (zb (Nat.ble op (nat_lit 6)) (zoIcmp rest ls st w full a b) (zgo full a ls st w))))
    (zb (Nat.ble op (nat_lit 15))
      (zb (Nat.ble op (nat_lit 11)) (zb (Nat.ble op (nat_lit 9)) (zb (Nat.ble op (nat_lit 8)) (zoGetf rest ls st w a b) (zoPutf rest ls st w a b l)) (zb (Nat.ble op (nat_lit 10)) (zoAload rest ls st w scr b) (zoAstore rest ls st w b)))
        (zb (Nat.ble op (nat_lit 13)) (zb (Nat.ble op (nat_lit 12)) (zoLen rest ls st w scr) (zoNew rest ls st w objs a)) (zb (Nat.ble op (nat_lit 14)) (zoNewarr rest ls st w a) (zoInvoke rest ls st w rec full a b l))))
      (zb (Nat.ble op (nat_lit 21))
        (zb (Nat.ble op (nat_lit 18)) (zb (Nat.ble op (nat_lit 16)) (zoRet st w b) (zb (Nat.ble op (nat_lit 17)) (zoDup rest ls st w) (zoPop rest ls st w))) (zb (Nat.ble op (nat_lit 19)) (zoDup2 rest ls st w) (zb (Nat.ble op (nat_lit 20)) (zoConv rest ls st w a) (zoLcmp rest ls st w))))
        (zb (Nat.ble op (nat_lit 24)) (zb (Nat.ble op (nat_lit 22)) (zoFcmp rest ls st w b) (zb (Nat.ble op (nat_lit 23)) (zoNull rest ls st w full a) (zoSwitch ls st w full a b l)))
          (zb (Nat.ble op (nat_lit 26)) (zb (Nat.ble op (nat_lit 25)) (zoThrow st w D a) (zoInit rest ls st w)) (zb (Nat.ble op (nat_lit 27)) (zoMath rest ls st w a) (zb (Nat.ble op (nat_lit 28)) (zoCopy rest ls st w) zX))))))
noncomputable def zstep (objs : List (Nat × zA)) (rec : Nat → List zV → zW → zR) (D : Nat) (full : List zE) (scr : List zV) (S : zS) : zO := match S with
  | ((_, op, a, b, l) :: rest, ls, st, w) => zdo objs rec D full scr op a b l rest ls st w
  | ([], _, _, _) => zX
noncomputable def zit (f : zS → zO) (k : Nat) : zS → zO := Nat.rec (motive := fun _ => zS → zO) f (fun _ ih s => Sum.rec (motive := fun _ => zO) (fun s' => ih s') (fun r => Sum.inr r) (ih s)) k
noncomputable def zend (o : zO) : zR := Sum.rec (motive := fun _ => zR) (fun _ => zR0) (fun r => r) o
noncomputable def zargsK (vs : List zV) (i : Nat) (k : zA → zR) : zR := List.rec (motive := fun _ => Nat → (zA → zR) → zR) (fun _ k => k []) (fun v _ ih i k => zb (zcat2 v) (zfN (Nat.succ (Nat.succ i)) (fun j => ih j (fun r => k ((i, v) :: r)))) (zfN (Nat.succ i) (fun j => ih j (fun r => k ((i, v) :: r))))) vs i k
noncomputable def zselK (codes : List (List zE)) (i : Nat) (k : List zE → zR) : zR := List.rec (motive := fun _ => Nat → zR) (fun _ => zR0) (fun h _ ih p => Nat.rec (motive := fun _ => zR) (k h) (fun m _ => ih m) p) codes i
noncomputable def zrun (objs : List (Nat × zA)) (codes : List (List zE)) (d : Nat) : Nat → List zV → zW → zR := Nat.rec (motive := fun _ => Nat → List zV → zW → zR) (fun _ _ _ => zR0)
  (fun n ih mi as w => zselK codes mi (fun code => zargsK as (nat_lit 0) (fun ls => zend (zit (zstep objs ih (Nat.succ n) code []) (nat_lit 16) (code, ls, [], w))))) d
/-! equality by the kernel's numbers -/
noncomputable def zeqL {α : Type} (f : α → α → Bool) (a b : List α) : Bool := List.rec (motive := fun _ => List α → Bool) (fun b => List.rec (motive := fun _ => Bool) true (fun _ _ _ => false) b) (fun h _ ih b => List.rec (motive := fun _ => Bool) false (fun h2 t2 _ => zb (f h h2) (ih t2) false) b) a b
theorem zb_and {a b : Bool} (h : zb a b false = true) : a = true ∧ b = true := by
  cases a
  · exact Bool.noConfusion h
  · exact ⟨rfl, h⟩
theorem zeqL_eq {α : Type} {f : α → α → Bool} (hf : ∀ x y, f x y = true → x = y) : ∀ a b : List α, zeqL f a b = true → a = b
  | [], [], _ => rfl
  | [], _ :: _, h => Bool.noConfusion h
  | _ :: _, [], h => Bool.noConfusion h
  | x :: a, y :: b, h => by
    obtain ⟨h1, h2⟩ := zb_and (show zb (f x y) (zeqL f a b) false = true from h)
    rw [hf x y h1, zeqL_eq hf a b h2]
noncomputable def zeqP {α β : Type} (f : α → α → Bool) (g : β → β → Bool) (x y : α × β) : Bool := zb (f x.1 y.1) (g x.2 y.2) false
theorem zeqP_eq {α β : Type} {f : α → α → Bool} {g : β → β → Bool} (hf : ∀ x y, f x y = true → x = y) (hg : ∀ x y, g x y = true → x = y) : ∀ x y : α × β, zeqP f g x y = true → x = y := fun x y h => by
  obtain ⟨h1, h2⟩ := zb_and h
  exact Prod.ext (hf _ _ h1) (hg _ _ h2)
theorem zeqN_eq : ∀ x y : Nat, Nat.beq x y = true → x = y := fun _ _ h => Nat.eq_of_beq_eq_true h
noncomputable def zeqV : zV → zV → Bool := zeqP Nat.beq (zeqP Nat.beq Nat.beq)
noncomputable def zeqA : zA → zA → Bool := zeqL (zeqP Nat.beq zeqV)
noncomputable def zeqW : zW → zW → Bool := zeqP Nat.beq (zeqP (zeqL (zeqP Nat.beq (zeqP Nat.beq (zeqP zeqV zeqA)))) (zeqP Nat.beq Nat.beq))
noncomputable def zeqE : zE → zE → Bool := zeqP Nat.beq (zeqP Nat.beq (zeqP Nat.beq (zeqP Nat.beq (zeqL Nat.beq))))
noncomputable def zeqS : zS → zS → Bool := zeqP (zeqL zeqE) (zeqP zeqA (zeqP (zeqL zeqV) zeqW))
theorem zeqV_eq : ∀ x y : zV, zeqV x y = true → x = y := zeqP_eq zeqN_eq (zeqP_eq zeqN_eq zeqN_eq)
theorem zeqA_eq : ∀ x y : zA, zeqA x y = true → x = y := zeqL_eq (zeqP_eq zeqN_eq zeqV_eq)
theorem zeqW_eq : ∀ x y : zW, zeqW x y = true → x = y := zeqP_eq zeqN_eq (zeqP_eq (zeqL_eq (zeqP_eq zeqN_eq (zeqP_eq zeqN_eq (zeqP_eq zeqV_eq zeqA_eq)))) (zeqP_eq zeqN_eq zeqN_eq))
theorem zeqS_eq : ∀ x y : zS, zeqS x y = true → x = y := zeqP_eq (zeqL_eq (zeqP_eq zeqN_eq (zeqP_eq zeqN_eq (zeqP_eq zeqN_eq (zeqP_eq zeqN_eq (zeqL_eq zeqN_eq)))))) (zeqP_eq zeqA_eq (zeqP_eq (zeqL_eq zeqV_eq) zeqW_eq))
noncomputable def zsame (o : zO) (s : zS) : Bool := Sum.rec (motive := fun _ => Bool) (fun x => zeqS x s) (fun _ => false) o
theorem zsame_eq {o : zO} {s : zS} (h : zsame o s = true) : o = Sum.inl s := by
  cases o with
  | inl x => rw [zeqS_eq x s h]
  | inr r => exact Bool.noConfusion h
end
section
/-! ===== the tables of the methods that the runs reach, by program ===== -/
/-- SpeechKeeperModel.isChange(int) -/
def zk_0 : List zE := [(nat_lit 0, nat_lit 0, nat_lit 1, nat_lit 0, []),
  (nat_lit 1, nat_lit 1, nat_lit 0, nat_lit 0, [nat_lit 0, nat_lit 21, nat_lit 0]),
  (nat_lit 3, nat_lit 4, nat_lit 4, nat_lit 0, []),
  (nat_lit 4, nat_lit 0, nat_lit 0, nat_lit 4, []),
  (nat_lit 5, nat_lit 8, nat_lit 10, nat_lit 24, []),
  (nat_lit 8, nat_lit 0, nat_lit 1, nat_lit 0, []),
  (nat_lit 9, nat_lit 1, nat_lit 0, nat_lit 0, [nat_lit 0, nat_lit 21, nat_lit 0]),
  (nat_lit 11, nat_lit 4, nat_lit 3, nat_lit 0, []),
  (nat_lit 12, nat_lit 10, nat_lit 0, nat_lit 100, []),
  (nat_lit 13, nat_lit 6, nat_lit 20, nat_lit 3, []),
  (nat_lit 16, nat_lit 99, nat_lit 0, nat_lit 0, []),
  (nat_lit 17, nat_lit 99, nat_lit 0, nat_lit 0, []),
  (nat_lit 20, nat_lit 1, nat_lit 0, nat_lit 0, [nat_lit 0, nat_lit 0, nat_lit 0]),
  (nat_lit 21, nat_lit 16, nat_lit 0, nat_lit 6, [])]
/-- SpeechKeeperModel.wordAt(int, int, int) -/
def zk_1 : List zE := [(nat_lit 0, nat_lit 1, nat_lit 0, nat_lit 0, [nat_lit 0, nat_lit 4, nat_lit 0]),
  (nat_lit 1, nat_lit 1, nat_lit 0, nat_lit 0, [nat_lit 0, nat_lit 160, nat_lit 0]),
  (nat_lit 4, nat_lit 0, nat_lit 0, nat_lit 0, []),
  (nat_lit 5, nat_lit 4, nat_lit 2, nat_lit 0, []),
  (nat_lit 6, nat_lit 4, nat_lit 0, nat_lit 0, []),
  (nat_lit 7, nat_lit 1, nat_lit 0, nat_lit 0, [nat_lit 0, nat_lit 8, nat_lit 0]),
  (nat_lit 9, nat_lit 0, nat_lit 1, nat_lit 0, []),
  (nat_lit 10, nat_lit 4, nat_lit 2, nat_lit 0, []),
  (nat_lit 11, nat_lit 4, nat_lit 0, nat_lit 0, []),
  (nat_lit 12, nat_lit 0, nat_lit 2, nat_lit 0, []),
  (nat_lit 13, nat_lit 4, nat_lit 0, nat_lit 0, []),
  (nat_lit 14, nat_lit 16, nat_lit 0, nat_lit 0, [])]
/-- SpeechKeeperModel.isIn(long, long, long) -/
def zk_2 : List zE := [(nat_lit 0, nat_lit 0, nat_lit 0, nat_lit 1, []),
  (nat_lit 1, nat_lit 0, nat_lit 2, nat_lit 1, []),
  (nat_lit 2, nat_lit 21, nat_lit 0, nat_lit 0, []),
  (nat_lit 3, nat_lit 5, nat_lit 17, nat_lit 2, []),
  (nat_lit 6, nat_lit 0, nat_lit 0, nat_lit 1, []),
  (nat_lit 7, nat_lit 0, nat_lit 4, nat_lit 1, []),
  (nat_lit 9, nat_lit 21, nat_lit 0, nat_lit 0, []),
  (nat_lit 10, nat_lit 5, nat_lit 17, nat_lit 4, []),
  (nat_lit 13, nat_lit 1, nat_lit 0, nat_lit 0, [nat_lit 0, nat_lit 1, nat_lit 0]),
  (nat_lit 14, nat_lit 7, nat_lit 18, nat_lit 0, []),
  (nat_lit 17, nat_lit 1, nat_lit 0, nat_lit 0, [nat_lit 0, nat_lit 0, nat_lit 0]),
  (nat_lit 18, nat_lit 16, nat_lit 0, nat_lit 6, [])]
/-- SpeechKeeperModel.copies(long[], int, long[], int) -/
def zk_3 : List zE := [(nat_lit 0, nat_lit 1, nat_lit 0, nat_lit 0, [nat_lit 0, nat_lit 0, nat_lit 0]),
  (nat_lit 1, nat_lit 2, nat_lit 4, nat_lit 0, []),
  (nat_lit 3, nat_lit 0, nat_lit 4, nat_lit 0, []),
  (nat_lit 5, nat_lit 1, nat_lit 0, nat_lit 0, [nat_lit 0, nat_lit 692, nat_lit 0]),
  (nat_lit 8, nat_lit 6, nat_lit 29, nat_lit 3, []),
  (nat_lit 11, nat_lit 0, nat_lit 2, nat_lit 4, []),
  (nat_lit 12, nat_lit 0, nat_lit 3, nat_lit 0, []),
  (nat_lit 13, nat_lit 0, nat_lit 4, nat_lit 0, []),
  (nat_lit 15, nat_lit 4, nat_lit 0, nat_lit 0, []),
  (nat_lit 16, nat_lit 0, nat_lit 0, nat_lit 4, []),
  (nat_lit 17, nat_lit 0, nat_lit 1, nat_lit 0, []),
  (nat_lit 18, nat_lit 0, nat_lit 4, nat_lit 0, []),
  (nat_lit 20, nat_lit 4, nat_lit 0, nat_lit 0, []),
  (nat_lit 21, nat_lit 10, nat_lit 0, nat_lit 103, []),
  (nat_lit 22, nat_lit 11, nat_lit 0, nat_lit 103, []),
  (nat_lit 23, nat_lit 3, nat_lit 4, nat_lit 0, [nat_lit 1]),
  (nat_lit 26, nat_lit 7, nat_lit 3, nat_lit 0, []),
  (nat_lit 29, nat_lit 16, nat_lit 0, nat_lit 5, [])]
/-- SpeechKeeperModel.laysPairs() -/
def zk_4 : List zE := [(nat_lit 0, nat_lit 0, nat_lit 0, nat_lit 4, []),
  (nat_lit 1, nat_lit 15, nat_lit 144, nat_lit 1, [nat_lit 0, nat_lit 10]),
  (nat_lit 4, nat_lit 1, nat_lit 0, nat_lit 0, [nat_lit 0, nat_lit 0, nat_lit 0]),
  (nat_lit 5, nat_lit 2, nat_lit 1, nat_lit 0, []),
  (nat_lit 6, nat_lit 0, nat_lit 1, nat_lit 0, []),
  (nat_lit 7, nat_lit 1, nat_lit 0, nat_lit 0, [nat_lit 0, nat_lit 164, nat_lit 0]),
  (nat_lit 10, nat_lit 6, nat_lit 33, nat_lit 3, []),
  (nat_lit 13, nat_lit 0, nat_lit 0, nat_lit 4, []),
  (nat_lit 14, nat_lit 8, nat_lit 10, nat_lit 14, []),
  (nat_lit 17, nat_lit 0, nat_lit 1, nat_lit 0, []),
  (nat_lit 18, nat_lit 1, nat_lit 0, nat_lit 0, [nat_lit 0, nat_lit 4294967295, nat_lit 0]),
  (nat_lit 19, nat_lit 11, nat_lit 0, nat_lit 100, []),
  (nat_lit 20, nat_lit 0, nat_lit 0, nat_lit 4, []),
  (nat_lit 21, nat_lit 8, nat_lit 10, nat_lit 15, []),
  (nat_lit 24, nat_lit 0, nat_lit 1, nat_lit 0, []),
  (nat_lit 25, nat_lit 1, nat_lit 0, nat_lit 0, [nat_lit 0, nat_lit 4294967295, nat_lit 0]),
  (nat_lit 26, nat_lit 11, nat_lit 0, nat_lit 100, []),
  (nat_lit 27, nat_lit 3, nat_lit 1, nat_lit 0, [nat_lit 1]),
  (nat_lit 30, nat_lit 7, nat_lit 6, nat_lit 0, []),
  (nat_lit 33, nat_lit 1, nat_lit 0, nat_lit 0, [nat_lit 0, nat_lit 0, nat_lit 0]),
  (nat_lit 34, nat_lit 2, nat_lit 1, nat_lit 0, []),
  (nat_lit 35, nat_lit 1, nat_lit 0, nat_lit 0, [nat_lit 0, nat_lit 0, nat_lit 0]),
  (nat_lit 36, nat_lit 2, nat_lit 2, nat_lit 0, []),
  (nat_lit 37, nat_lit 0, nat_lit 1, nat_lit 0, []),
  (nat_lit 38, nat_lit 0, nat_lit 0, nat_lit 4, []),
  (nat_lit 39, nat_lit 8, nat_lit 10, nat_lit 16, []),
  (nat_lit 42, nat_lit 6, nat_lit 170, nat_lit 3, []),
  (nat_lit 45, nat_lit 99, nat_lit 0, nat_lit 0, []),
  (nat_lit 46, nat_lit 99, nat_lit 0, nat_lit 0, []),
  (nat_lit 47, nat_lit 99, nat_lit 0, nat_lit 0, []),
  (nat_lit 50, nat_lit 99, nat_lit 0, nat_lit 0, []),
  (nat_lit 53, nat_lit 99, nat_lit 0, nat_lit 0, []),
  (nat_lit 56, nat_lit 99, nat_lit 0, nat_lit 0, []),
  (nat_lit 57, nat_lit 99, nat_lit 0, nat_lit 0, []),
  (nat_lit 58, nat_lit 99, nat_lit 0, nat_lit 0, []),
  (nat_lit 59, nat_lit 99, nat_lit 0, nat_lit 0, []),
  (nat_lit 60, nat_lit 99, nat_lit 0, nat_lit 0, []),
  (nat_lit 61, nat_lit 99, nat_lit 0, nat_lit 0, []),
  (nat_lit 62, nat_lit 99, nat_lit 0, nat_lit 0, []),
  (nat_lit 65, nat_lit 99, nat_lit 0, nat_lit 0, []),
  (nat_lit 66, nat_lit 99, nat_lit 0, nat_lit 0, []),
  (nat_lit 67, nat_lit 99, nat_lit 0, nat_lit 0, []),
  (nat_lit 68, nat_lit 99, nat_lit 0, nat_lit 0, []),
  (nat_lit 71, nat_lit 99, nat_lit 0, nat_lit 0, []),
  (nat_lit 72, nat_lit 99, nat_lit 0, nat_lit 0, []),
  (nat_lit 73, nat_lit 99, nat_lit 0, nat_lit 0, []),
  (nat_lit 74, nat_lit 99, nat_lit 0, nat_lit 0, []),
  (nat_lit 77, nat_lit 99, nat_lit 0, nat_lit 0, []),
  (nat_lit 78, nat_lit 99, nat_lit 0, nat_lit 0, []),
  (nat_lit 81, nat_lit 99, nat_lit 0, nat_lit 0, []),
  (nat_lit 82, nat_lit 99, nat_lit 0, nat_lit 0, []),
  (nat_lit 84, nat_lit 99, nat_lit 0, nat_lit 0, []),
  (nat_lit 85, nat_lit 99, nat_lit 0, nat_lit 0, []),
  (nat_lit 88, nat_lit 99, nat_lit 0, nat_lit 0, []),
  (nat_lit 89, nat_lit 99, nat_lit 0, nat_lit 0, []),
  (nat_lit 92, nat_lit 99, nat_lit 0, nat_lit 0, []),
  (nat_lit 93, nat_lit 99, nat_lit 0, nat_lit 0, []),
  (nat_lit 94, nat_lit 99, nat_lit 0, nat_lit 0, []),
  (nat_lit 95, nat_lit 99, nat_lit 0, nat_lit 0, []),
  (nat_lit 98, nat_lit 99, nat_lit 0, nat_lit 0, []),
  (nat_lit 99, nat_lit 99, nat_lit 0, nat_lit 0, []),
  (nat_lit 100, nat_lit 99, nat_lit 0, nat_lit 0, []),
  (nat_lit 101, nat_lit 99, nat_lit 0, nat_lit 0, []),
  (nat_lit 102, nat_lit 99, nat_lit 0, nat_lit 0, []),
  (nat_lit 105, nat_lit 99, nat_lit 0, nat_lit 0, []),
  (nat_lit 106, nat_lit 99, nat_lit 0, nat_lit 0, []),
  (nat_lit 109, nat_lit 99, nat_lit 0, nat_lit 0, []),
  (nat_lit 110, nat_lit 99, nat_lit 0, nat_lit 0, []),
  (nat_lit 112, nat_lit 99, nat_lit 0, nat_lit 0, []),
  (nat_lit 114, nat_lit 99, nat_lit 0, nat_lit 0, []),
  (nat_lit 117, nat_lit 99, nat_lit 0, nat_lit 0, []),
  (nat_lit 118, nat_lit 99, nat_lit 0, nat_lit 0, []),
  (nat_lit 121, nat_lit 99, nat_lit 0, nat_lit 0, []),
  (nat_lit 122, nat_lit 99, nat_lit 0, nat_lit 0, []),
  (nat_lit 123, nat_lit 99, nat_lit 0, nat_lit 0, []),
  (nat_lit 124, nat_lit 99, nat_lit 0, nat_lit 0, []),
  (nat_lit 125, nat_lit 99, nat_lit 0, nat_lit 0, []),
  (nat_lit 128, nat_lit 99, nat_lit 0, nat_lit 0, []),
  (nat_lit 129, nat_lit 99, nat_lit 0, nat_lit 0, []),
  (nat_lit 130, nat_lit 99, nat_lit 0, nat_lit 0, []),
  (nat_lit 131, nat_lit 99, nat_lit 0, nat_lit 0, []),
  (nat_lit 132, nat_lit 99, nat_lit 0, nat_lit 0, []),
  (nat_lit 134, nat_lit 99, nat_lit 0, nat_lit 0, []),
  (nat_lit 137, nat_lit 99, nat_lit 0, nat_lit 0, []),
  (nat_lit 139, nat_lit 99, nat_lit 0, nat_lit 0, []),
  (nat_lit 142, nat_lit 99, nat_lit 0, nat_lit 0, []),
  (nat_lit 143, nat_lit 99, nat_lit 0, nat_lit 0, []),
  (nat_lit 146, nat_lit 99, nat_lit 0, nat_lit 0, []),
  (nat_lit 147, nat_lit 99, nat_lit 0, nat_lit 0, []),
  (nat_lit 148, nat_lit 99, nat_lit 0, nat_lit 0, []),
  (nat_lit 149, nat_lit 99, nat_lit 0, nat_lit 0, []),
  (nat_lit 150, nat_lit 99, nat_lit 0, nat_lit 0, []),
  (nat_lit 152, nat_lit 99, nat_lit 0, nat_lit 0, []),
  (nat_lit 155, nat_lit 99, nat_lit 0, nat_lit 0, []),
  (nat_lit 157, nat_lit 99, nat_lit 0, nat_lit 0, []),
  (nat_lit 160, nat_lit 99, nat_lit 0, nat_lit 0, []),
  (nat_lit 161, nat_lit 99, nat_lit 0, nat_lit 0, []),
  (nat_lit 164, nat_lit 99, nat_lit 0, nat_lit 0, []),
  (nat_lit 165, nat_lit 99, nat_lit 0, nat_lit 0, []),
  (nat_lit 166, nat_lit 99, nat_lit 0, nat_lit 0, []),
  (nat_lit 167, nat_lit 99, nat_lit 0, nat_lit 0, []),
  (nat_lit 170, nat_lit 0, nat_lit 0, nat_lit 4, []),
  (nat_lit 171, nat_lit 8, nat_lit 10, nat_lit 13, []),
  (nat_lit 174, nat_lit 1, nat_lit 0, nat_lit 0, [nat_lit 0, nat_lit 0, nat_lit 0]),
  (nat_lit 175, nat_lit 10, nat_lit 0, nat_lit 100, []),
  (nat_lit 176, nat_lit 16, nat_lit 0, nat_lit 0, [])]
/-- SpeechKeeperModel.fails(boolean) -/
def zk_5 : List zE := [(nat_lit 0, nat_lit 0, nat_lit 0, nat_lit 4, []),
  (nat_lit 1, nat_lit 0, nat_lit 1, nat_lit 0, []),
  (nat_lit 2, nat_lit 5, nat_lit 9, nat_lit 0, []),
  (nat_lit 5, nat_lit 1, nat_lit 0, nat_lit 0, [nat_lit 0, nat_lit 1, nat_lit 0]),
  (nat_lit 6, nat_lit 7, nat_lit 10, nat_lit 0, []),
  (nat_lit 9, nat_lit 1, nat_lit 0, nat_lit 0, [nat_lit 0, nat_lit 0, nat_lit 0]),
  (nat_lit 10, nat_lit 9, nat_lit 10, nat_lit 7, [nat_lit 0]),
  (nat_lit 13, nat_lit 0, nat_lit 1, nat_lit 0, []),
  (nat_lit 14, nat_lit 16, nat_lit 0, nat_lit 6, [])]
/-- SpeechKeeper$History.<init>() -/
def zk_6 : List zE := [(nat_lit 0, nat_lit 0, nat_lit 0, nat_lit 4, []),
  (nat_lit 1, nat_lit 26, nat_lit 0, nat_lit 0, []),
  (nat_lit 4, nat_lit 0, nat_lit 0, nat_lit 4, []),
  (nat_lit 5, nat_lit 13, nat_lit 5, nat_lit 0, []),
  (nat_lit 8, nat_lit 17, nat_lit 0, nat_lit 0, []),
  (nat_lit 9, nat_lit 1, nat_lit 0, nat_lit 0, [nat_lit 0, nat_lit 8, nat_lit 0]),
  (nat_lit 11, nat_lit 15, nat_lit 41, nat_lit 2, [nat_lit 2, nat_lit 5]),
  (nat_lit 14, nat_lit 9, nat_lit 0, nat_lit 0, [nat_lit 4]),
  (nat_lit 17, nat_lit 16, nat_lit 0, nat_lit 5, [])]
/-- SpeechKeeper$History.count() -/
def zk_7 : List zE := [(nat_lit 0, nat_lit 0, nat_lit 0, nat_lit 4, []),
  (nat_lit 1, nat_lit 8, nat_lit 0, nat_lit 2, []),
  (nat_lit 4, nat_lit 16, nat_lit 0, nat_lit 0, [])]
/-- SpeechKeeper$History.record(SpeechKeeper$State) -/
def zk_8 : List zE := [(nat_lit 0, nat_lit 0, nat_lit 0, nat_lit 4, []),
  (nat_lit 1, nat_lit 8, nat_lit 0, nat_lit 0, []),
  (nat_lit 4, nat_lit 0, nat_lit 0, nat_lit 4, []),
  (nat_lit 5, nat_lit 8, nat_lit 0, nat_lit 1, []),
  (nat_lit 8, nat_lit 0, nat_lit 1, nat_lit 4, []),
  (nat_lit 9, nat_lit 15, nat_lit 43, nat_lit 3, [nat_lit 0, nat_lit 5]),
  (nat_lit 12, nat_lit 0, nat_lit 0, nat_lit 4, []),
  (nat_lit 13, nat_lit 0, nat_lit 0, nat_lit 4, []),
  (nat_lit 14, nat_lit 8, nat_lit 0, nat_lit 1, []),
  (nat_lit 17, nat_lit 1, nat_lit 0, nat_lit 0, [nat_lit 0, nat_lit 1, nat_lit 0]),
  (nat_lit 18, nat_lit 4, nat_lit 0, nat_lit 0, []),
  (nat_lit 19, nat_lit 1, nat_lit 0, nat_lit 0, [nat_lit 0, nat_lit 8, nat_lit 0]),
  (nat_lit 21, nat_lit 4, nat_lit 4, nat_lit 0, []),
  (nat_lit 22, nat_lit 9, nat_lit 0, nat_lit 1, [nat_lit 0]),
  (nat_lit 25, nat_lit 0, nat_lit 0, nat_lit 4, []),
  (nat_lit 26, nat_lit 0, nat_lit 0, nat_lit 4, []),
  (nat_lit 27, nat_lit 8, nat_lit 0, nat_lit 2, []),
  (nat_lit 30, nat_lit 1, nat_lit 0, nat_lit 0, [nat_lit 0, nat_lit 1, nat_lit 0]),
  (nat_lit 31, nat_lit 4, nat_lit 0, nat_lit 0, []),
  (nat_lit 32, nat_lit 1, nat_lit 0, nat_lit 0, [nat_lit 0, nat_lit 8, nat_lit 0]),
  (nat_lit 34, nat_lit 27, nat_lit 1, nat_lit 0, [nat_lit 31, nat_lit 0]),
  (nat_lit 37, nat_lit 9, nat_lit 0, nat_lit 2, [nat_lit 0]),
  (nat_lit 40, nat_lit 16, nat_lit 0, nat_lit 5, [])]
/-- SpeechKeeper$Joint.<init>(SpeechKeeper$State, SpeechKeeper$Merge, SpeechKeeper$Laying) -/
def zk_9 : List zE := [(nat_lit 0, nat_lit 0, nat_lit 0, nat_lit 4, []),
  (nat_lit 1, nat_lit 26, nat_lit 0, nat_lit 0, []),
  (nat_lit 4, nat_lit 0, nat_lit 0, nat_lit 4, []),
  (nat_lit 5, nat_lit 13, nat_lit 8, nat_lit 0, []),
  (nat_lit 8, nat_lit 17, nat_lit 0, nat_lit 0, []),
  (nat_lit 9, nat_lit 1, nat_lit 0, nat_lit 0, [nat_lit 0, nat_lit 60, nat_lit 0]),
  (nat_lit 11, nat_lit 15, nat_lit 51, nat_lit 2, [nat_lit 2, nat_lit 8]),
  (nat_lit 14, nat_lit 9, nat_lit 1, nat_lit 0, [nat_lit 4]),
  (nat_lit 17, nat_lit 0, nat_lit 0, nat_lit 4, []),
  (nat_lit 18, nat_lit 1, nat_lit 0, nat_lit 0, [nat_lit 0, nat_lit 160, nat_lit 0]),
  (nat_lit 21, nat_lit 14, nat_lit 100, nat_lit 0, []),
  (nat_lit 23, nat_lit 9, nat_lit 1, nat_lit 4, [nat_lit 4]),
  (nat_lit 26, nat_lit 0, nat_lit 0, nat_lit 4, []),
  (nat_lit 27, nat_lit 1, nat_lit 0, nat_lit 0, [nat_lit 0, nat_lit 21, nat_lit 0]),
  (nat_lit 29, nat_lit 14, nat_lit 100, nat_lit 0, []),
  (nat_lit 31, nat_lit 9, nat_lit 1, nat_lit 5, [nat_lit 4]),
  (nat_lit 34, nat_lit 0, nat_lit 0, nat_lit 4, []),
  (nat_lit 35, nat_lit 0, nat_lit 1, nat_lit 4, []),
  (nat_lit 36, nat_lit 9, nat_lit 1, nat_lit 1, [nat_lit 4]),
  (nat_lit 39, nat_lit 0, nat_lit 0, nat_lit 4, []),
  (nat_lit 40, nat_lit 0, nat_lit 2, nat_lit 4, []),
  (nat_lit 41, nat_lit 9, nat_lit 1, nat_lit 2, [nat_lit 4]),
  (nat_lit 44, nat_lit 0, nat_lit 0, nat_lit 4, []),
  (nat_lit 45, nat_lit 0, nat_lit 3, nat_lit 4, []),
  (nat_lit 46, nat_lit 9, nat_lit 1, nat_lit 3, [nat_lit 4]),
  (nat_lit 49, nat_lit 16, nat_lit 0, nat_lit 5, [])]
/-- SpeechKeeper$Joint.build() -/
def zk_10 : List zE := [(nat_lit 0, nat_lit 0, nat_lit 0, nat_lit 4, []),
  (nat_lit 1, nat_lit 8, nat_lit 1, nat_lit 0, []),
  (nat_lit 4, nat_lit 15, nat_lit 53, nat_lit 1, [nat_lit 0, nat_lit 8]),
  (nat_lit 7, nat_lit 1, nat_lit 0, nat_lit 0, [nat_lit 0, nat_lit 0, nat_lit 0]),
  (nat_lit 8, nat_lit 2, nat_lit 1, nat_lit 0, []),
  (nat_lit 9, nat_lit 1, nat_lit 0, nat_lit 0, [nat_lit 0, nat_lit 0, nat_lit 0]),
  (nat_lit 10, nat_lit 2, nat_lit 2, nat_lit 0, []),
  (nat_lit 11, nat_lit 0, nat_lit 2, nat_lit 0, []),
  (nat_lit 12, nat_lit 0, nat_lit 0, nat_lit 4, []),
  (nat_lit 13, nat_lit 8, nat_lit 1, nat_lit 2, []),
  (nat_lit 16, nat_lit 8, nat_lit 3, nat_lit 2, []),
  (nat_lit 19, nat_lit 15, nat_lit 50, nat_lit 1, [nat_lit 0, nat_lit 7]),
  (nat_lit 22, nat_lit 6, nat_lit 126, nat_lit 3, []),
  (nat_lit 25, nat_lit 99, nat_lit 0, nat_lit 0, []),
  (nat_lit 26, nat_lit 99, nat_lit 0, nat_lit 0, []),
  (nat_lit 27, nat_lit 99, nat_lit 0, nat_lit 0, []),
  (nat_lit 28, nat_lit 99, nat_lit 0, nat_lit 0, []),
  (nat_lit 31, nat_lit 99, nat_lit 0, nat_lit 0, []),
  (nat_lit 32, nat_lit 99, nat_lit 0, nat_lit 0, []),
  (nat_lit 35, nat_lit 99, nat_lit 0, nat_lit 0, []),
  (nat_lit 38, nat_lit 99, nat_lit 0, nat_lit 0, []),
  (nat_lit 39, nat_lit 99, nat_lit 0, nat_lit 0, []),
  (nat_lit 40, nat_lit 99, nat_lit 0, nat_lit 0, []),
  (nat_lit 43, nat_lit 99, nat_lit 0, nat_lit 0, []),
  (nat_lit 44, nat_lit 99, nat_lit 0, nat_lit 0, []),
  (nat_lit 47, nat_lit 99, nat_lit 0, nat_lit 0, []),
  (nat_lit 50, nat_lit 99, nat_lit 0, nat_lit 0, []),
  (nat_lit 51, nat_lit 99, nat_lit 0, nat_lit 0, []),
  (nat_lit 52, nat_lit 99, nat_lit 0, nat_lit 0, []),
  (nat_lit 55, nat_lit 99, nat_lit 0, nat_lit 0, []),
  (nat_lit 58, nat_lit 99, nat_lit 0, nat_lit 0, []),
  (nat_lit 59, nat_lit 99, nat_lit 0, nat_lit 0, []),
  (nat_lit 60, nat_lit 99, nat_lit 0, nat_lit 0, []),
  (nat_lit 63, nat_lit 99, nat_lit 0, nat_lit 0, []),
  (nat_lit 66, nat_lit 99, nat_lit 0, nat_lit 0, []),
  (nat_lit 67, nat_lit 99, nat_lit 0, nat_lit 0, []),
  (nat_lit 70, nat_lit 99, nat_lit 0, nat_lit 0, []),
  (nat_lit 73, nat_lit 99, nat_lit 0, nat_lit 0, []),
  (nat_lit 74, nat_lit 99, nat_lit 0, nat_lit 0, []),
  (nat_lit 75, nat_lit 99, nat_lit 0, nat_lit 0, []),
  (nat_lit 76, nat_lit 99, nat_lit 0, nat_lit 0, []),
  (nat_lit 79, nat_lit 99, nat_lit 0, nat_lit 0, []),
  (nat_lit 80, nat_lit 99, nat_lit 0, nat_lit 0, []),
  (nat_lit 83, nat_lit 99, nat_lit 0, nat_lit 0, []),
  (nat_lit 84, nat_lit 99, nat_lit 0, nat_lit 0, []),
  (nat_lit 87, nat_lit 99, nat_lit 0, nat_lit 0, []),
  (nat_lit 88, nat_lit 99, nat_lit 0, nat_lit 0, []),
  (nat_lit 89, nat_lit 99, nat_lit 0, nat_lit 0, []),
  (nat_lit 90, nat_lit 99, nat_lit 0, nat_lit 0, []),
  (nat_lit 93, nat_lit 99, nat_lit 0, nat_lit 0, []),
  (nat_lit 94, nat_lit 99, nat_lit 0, nat_lit 0, []),
  (nat_lit 95, nat_lit 99, nat_lit 0, nat_lit 0, []),
  (nat_lit 98, nat_lit 99, nat_lit 0, nat_lit 0, []),
  (nat_lit 99, nat_lit 99, nat_lit 0, nat_lit 0, []),
  (nat_lit 100, nat_lit 99, nat_lit 0, nat_lit 0, []),
  (nat_lit 101, nat_lit 99, nat_lit 0, nat_lit 0, []),
  (nat_lit 104, nat_lit 99, nat_lit 0, nat_lit 0, []),
  (nat_lit 105, nat_lit 99, nat_lit 0, nat_lit 0, []),
  (nat_lit 106, nat_lit 99, nat_lit 0, nat_lit 0, []),
  (nat_lit 109, nat_lit 99, nat_lit 0, nat_lit 0, []),
  (nat_lit 110, nat_lit 99, nat_lit 0, nat_lit 0, []),
  (nat_lit 111, nat_lit 99, nat_lit 0, nat_lit 0, []),
  (nat_lit 114, nat_lit 99, nat_lit 0, nat_lit 0, []),
  (nat_lit 115, nat_lit 99, nat_lit 0, nat_lit 0, []),
  (nat_lit 116, nat_lit 99, nat_lit 0, nat_lit 0, []),
  (nat_lit 117, nat_lit 99, nat_lit 0, nat_lit 0, []),
  (nat_lit 120, nat_lit 99, nat_lit 0, nat_lit 0, []),
  (nat_lit 123, nat_lit 99, nat_lit 0, nat_lit 0, []),
  (nat_lit 126, nat_lit 0, nat_lit 0, nat_lit 4, []),
  (nat_lit 127, nat_lit 8, nat_lit 1, nat_lit 0, []),
  (nat_lit 130, nat_lit 0, nat_lit 0, nat_lit 4, []),
  (nat_lit 131, nat_lit 8, nat_lit 1, nat_lit 1, []),
  (nat_lit 134, nat_lit 8, nat_lit 6, nat_lit 0, []),
  (nat_lit 137, nat_lit 0, nat_lit 1, nat_lit 0, []),
  (nat_lit 138, nat_lit 0, nat_lit 0, nat_lit 4, []),
  (nat_lit 139, nat_lit 8, nat_lit 1, nat_lit 1, []),
  (nat_lit 142, nat_lit 8, nat_lit 6, nat_lit 0, []),
  (nat_lit 145, nat_lit 15, nat_lit 55, nat_lit 1, [nat_lit 0, nat_lit 8]),
  (nat_lit 148, nat_lit 15, nat_lit 52, nat_lit 4, [nat_lit 0, nat_lit 8]),
  (nat_lit 151, nat_lit 16, nat_lit 0, nat_lit 5, [])]
/-- SpeechKeeper$Joint.greatestWords() -/
def zk_11 : List zE := [(nat_lit 0, nat_lit 0, nat_lit 0, nat_lit 4, []),
  (nat_lit 1, nat_lit 15, nat_lit 13, nat_lit 1, [nat_lit 0, nat_lit 1]),
  (nat_lit 4, nat_lit 2, nat_lit 1, nat_lit 0, []),
  (nat_lit 5, nat_lit 0, nat_lit 0, nat_lit 4, []),
  (nat_lit 6, nat_lit 8, nat_lit 1, nat_lit 5, []),
  (nat_lit 9, nat_lit 1, nat_lit 0, nat_lit 0, [nat_lit 0, nat_lit 4294967295, nat_lit 0]),
  (nat_lit 10, nat_lit 15, nat_lit 190, nat_lit 2, [nat_lit 1, nat_lit 99]),
  (nat_lit 13, nat_lit 0, nat_lit 1, nat_lit 0, []),
  (nat_lit 14, nat_lit 5, nat_lit 36, nat_lit 2, []),
  (nat_lit 17, nat_lit 0, nat_lit 1, nat_lit 0, []),
  (nat_lit 18, nat_lit 0, nat_lit 0, nat_lit 4, []),
  (nat_lit 19, nat_lit 8, nat_lit 1, nat_lit 5, []),
  (nat_lit 22, nat_lit 12, nat_lit 0, nat_lit 0, []),
  (nat_lit 23, nat_lit 6, nat_lit 36, nat_lit 3, []),
  (nat_lit 26, nat_lit 0, nat_lit 0, nat_lit 4, []),
  (nat_lit 27, nat_lit 8, nat_lit 1, nat_lit 5, []),
  (nat_lit 30, nat_lit 0, nat_lit 1, nat_lit 0, []),
  (nat_lit 31, nat_lit 0, nat_lit 0, nat_lit 4, []),
  (nat_lit 32, nat_lit 15, nat_lit 14, nat_lit 1, [nat_lit 0, nat_lit 1]),
  (nat_lit 35, nat_lit 11, nat_lit 0, nat_lit 100, []),
  (nat_lit 36, nat_lit 1, nat_lit 0, nat_lit 0, [nat_lit 0, nat_lit 0, nat_lit 0]),
  (nat_lit 37, nat_lit 2, nat_lit 2, nat_lit 0, []),
  (nat_lit 38, nat_lit 0, nat_lit 2, nat_lit 0, []),
  (nat_lit 39, nat_lit 0, nat_lit 0, nat_lit 4, []),
  (nat_lit 40, nat_lit 8, nat_lit 1, nat_lit 2, []),
  (nat_lit 43, nat_lit 8, nat_lit 3, nat_lit 2, []),
  (nat_lit 46, nat_lit 15, nat_lit 50, nat_lit 1, [nat_lit 0, nat_lit 7]),
  (nat_lit 49, nat_lit 6, nat_lit 71, nat_lit 3, []),
  (nat_lit 52, nat_lit 99, nat_lit 0, nat_lit 0, []),
  (nat_lit 53, nat_lit 99, nat_lit 0, nat_lit 0, []),
  (nat_lit 54, nat_lit 99, nat_lit 0, nat_lit 0, []),
  (nat_lit 57, nat_lit 99, nat_lit 0, nat_lit 0, []),
  (nat_lit 60, nat_lit 99, nat_lit 0, nat_lit 0, []),
  (nat_lit 61, nat_lit 99, nat_lit 0, nat_lit 0, []),
  (nat_lit 62, nat_lit 99, nat_lit 0, nat_lit 0, []),
  (nat_lit 65, nat_lit 99, nat_lit 0, nat_lit 0, []),
  (nat_lit 68, nat_lit 99, nat_lit 0, nat_lit 0, []),
  (nat_lit 71, nat_lit 1, nat_lit 0, nat_lit 0, [nat_lit 0, nat_lit 4294967295, nat_lit 0]),
  (nat_lit 72, nat_lit 2, nat_lit 2, nat_lit 0, []),
  (nat_lit 73, nat_lit 0, nat_lit 0, nat_lit 4, []),
  (nat_lit 74, nat_lit 8, nat_lit 1, nat_lit 5, []),
  (nat_lit 77, nat_lit 2, nat_lit 3, nat_lit 4, []),
  (nat_lit 78, nat_lit 0, nat_lit 3, nat_lit 4, []),
  (nat_lit 79, nat_lit 12, nat_lit 0, nat_lit 0, []),
  (nat_lit 80, nat_lit 2, nat_lit 4, nat_lit 0, []),
  (nat_lit 82, nat_lit 1, nat_lit 0, nat_lit 0, [nat_lit 0, nat_lit 0, nat_lit 0]),
  (nat_lit 83, nat_lit 2, nat_lit 5, nat_lit 0, []),
  (nat_lit 85, nat_lit 0, nat_lit 5, nat_lit 0, []),
  (nat_lit 87, nat_lit 0, nat_lit 4, nat_lit 0, []),
  (nat_lit 89, nat_lit 6, nat_lit 111, nat_lit 3, []),
  (nat_lit 92, nat_lit 0, nat_lit 3, nat_lit 4, []),
  (nat_lit 93, nat_lit 0, nat_lit 5, nat_lit 0, []),
  (nat_lit 95, nat_lit 10, nat_lit 0, nat_lit 100, []),
  (nat_lit 96, nat_lit 2, nat_lit 6, nat_lit 0, []),
  (nat_lit 98, nat_lit 0, nat_lit 2, nat_lit 0, []),
  (nat_lit 99, nat_lit 0, nat_lit 6, nat_lit 0, []),
  (nat_lit 101, nat_lit 27, nat_lit 0, nat_lit 0, [nat_lit 151, nat_lit 1]),
  (nat_lit 104, nat_lit 2, nat_lit 2, nat_lit 0, []),
  (nat_lit 105, nat_lit 3, nat_lit 5, nat_lit 0, [nat_lit 1]),
  (nat_lit 108, nat_lit 7, nat_lit 85, nat_lit 0, []),
  (nat_lit 111, nat_lit 0, nat_lit 2, nat_lit 0, []),
  (nat_lit 112, nat_lit 16, nat_lit 0, nat_lit 0, [])]
/-- SpeechKeeper$Joint.leastWords() -/
def zk_12 : List zE := [(nat_lit 0, nat_lit 0, nat_lit 0, nat_lit 4, []),
  (nat_lit 1, nat_lit 15, nat_lit 14, nat_lit 1, [nat_lit 0, nat_lit 1]),
  (nat_lit 4, nat_lit 2, nat_lit 1, nat_lit 0, []),
  (nat_lit 5, nat_lit 1, nat_lit 0, nat_lit 0, [nat_lit 0, nat_lit 0, nat_lit 0]),
  (nat_lit 6, nat_lit 2, nat_lit 2, nat_lit 0, []),
  (nat_lit 7, nat_lit 0, nat_lit 2, nat_lit 0, []),
  (nat_lit 8, nat_lit 0, nat_lit 0, nat_lit 4, []),
  (nat_lit 9, nat_lit 8, nat_lit 1, nat_lit 2, []),
  (nat_lit 12, nat_lit 8, nat_lit 3, nat_lit 2, []),
  (nat_lit 15, nat_lit 15, nat_lit 50, nat_lit 1, [nat_lit 0, nat_lit 7]),
  (nat_lit 18, nat_lit 6, nat_lit 66, nat_lit 3, []),
  (nat_lit 21, nat_lit 99, nat_lit 0, nat_lit 0, []),
  (nat_lit 22, nat_lit 99, nat_lit 0, nat_lit 0, []),
  (nat_lit 23, nat_lit 99, nat_lit 0, nat_lit 0, []),
  (nat_lit 26, nat_lit 99, nat_lit 0, nat_lit 0, []),
  (nat_lit 29, nat_lit 99, nat_lit 0, nat_lit 0, []),
  (nat_lit 30, nat_lit 99, nat_lit 0, nat_lit 0, []),
  (nat_lit 31, nat_lit 99, nat_lit 0, nat_lit 0, []),
  (nat_lit 32, nat_lit 99, nat_lit 0, nat_lit 0, []),
  (nat_lit 35, nat_lit 99, nat_lit 0, nat_lit 0, []),
  (nat_lit 36, nat_lit 99, nat_lit 0, nat_lit 0, []),
  (nat_lit 37, nat_lit 99, nat_lit 0, nat_lit 0, []),
  (nat_lit 38, nat_lit 99, nat_lit 0, nat_lit 0, []),
  (nat_lit 39, nat_lit 99, nat_lit 0, nat_lit 0, []),
  (nat_lit 40, nat_lit 99, nat_lit 0, nat_lit 0, []),
  (nat_lit 43, nat_lit 99, nat_lit 0, nat_lit 0, []),
  (nat_lit 46, nat_lit 99, nat_lit 0, nat_lit 0, []),
  (nat_lit 47, nat_lit 99, nat_lit 0, nat_lit 0, []),
  (nat_lit 48, nat_lit 99, nat_lit 0, nat_lit 0, []),
  (nat_lit 49, nat_lit 99, nat_lit 0, nat_lit 0, []),
  (nat_lit 50, nat_lit 99, nat_lit 0, nat_lit 0, []),
  (nat_lit 51, nat_lit 99, nat_lit 0, nat_lit 0, []),
  (nat_lit 52, nat_lit 99, nat_lit 0, nat_lit 0, []),
  (nat_lit 55, nat_lit 99, nat_lit 0, nat_lit 0, []),
  (nat_lit 58, nat_lit 99, nat_lit 0, nat_lit 0, []),
  (nat_lit 59, nat_lit 99, nat_lit 0, nat_lit 0, []),
  (nat_lit 60, nat_lit 99, nat_lit 0, nat_lit 0, []),
  (nat_lit 63, nat_lit 99, nat_lit 0, nat_lit 0, []),
  (nat_lit 66, nat_lit 0, nat_lit 1, nat_lit 0, []),
  (nat_lit 67, nat_lit 16, nat_lit 0, nat_lit 0, [])]
/-- SpeechKeeper$Joint.linesBesideClashes() -/
def zk_13 : List zE := [(nat_lit 0, nat_lit 0, nat_lit 0, nat_lit 4, []),
  (nat_lit 1, nat_lit 8, nat_lit 1, nat_lit 1, []),
  (nat_lit 4, nat_lit 8, nat_lit 6, nat_lit 0, []),
  (nat_lit 7, nat_lit 15, nat_lit 55, nat_lit 1, [nat_lit 0, nat_lit 8]),
  (nat_lit 10, nat_lit 2, nat_lit 1, nat_lit 0, []),
  (nat_lit 11, nat_lit 1, nat_lit 0, nat_lit 0, [nat_lit 0, nat_lit 0, nat_lit 0]),
  (nat_lit 12, nat_lit 2, nat_lit 2, nat_lit 0, []),
  (nat_lit 13, nat_lit 0, nat_lit 2, nat_lit 0, []),
  (nat_lit 14, nat_lit 0, nat_lit 0, nat_lit 4, []),
  (nat_lit 15, nat_lit 8, nat_lit 1, nat_lit 2, []),
  (nat_lit 18, nat_lit 8, nat_lit 3, nat_lit 2, []),
  (nat_lit 21, nat_lit 15, nat_lit 50, nat_lit 1, [nat_lit 0, nat_lit 7]),
  (nat_lit 24, nat_lit 6, nat_lit 68, nat_lit 3, []),
  (nat_lit 27, nat_lit 99, nat_lit 0, nat_lit 0, []),
  (nat_lit 28, nat_lit 99, nat_lit 0, nat_lit 0, []),
  (nat_lit 29, nat_lit 99, nat_lit 0, nat_lit 0, []),
  (nat_lit 30, nat_lit 99, nat_lit 0, nat_lit 0, []),
  (nat_lit 31, nat_lit 99, nat_lit 0, nat_lit 0, []),
  (nat_lit 34, nat_lit 99, nat_lit 0, nat_lit 0, []),
  (nat_lit 35, nat_lit 99, nat_lit 0, nat_lit 0, []),
  (nat_lit 36, nat_lit 99, nat_lit 0, nat_lit 0, []),
  (nat_lit 37, nat_lit 99, nat_lit 0, nat_lit 0, []),
  (nat_lit 38, nat_lit 99, nat_lit 0, nat_lit 0, []),
  (nat_lit 39, nat_lit 99, nat_lit 0, nat_lit 0, []),
  (nat_lit 42, nat_lit 99, nat_lit 0, nat_lit 0, []),
  (nat_lit 45, nat_lit 99, nat_lit 0, nat_lit 0, []),
  (nat_lit 46, nat_lit 99, nat_lit 0, nat_lit 0, []),
  (nat_lit 49, nat_lit 99, nat_lit 0, nat_lit 0, []),
  (nat_lit 50, nat_lit 99, nat_lit 0, nat_lit 0, []),
  (nat_lit 51, nat_lit 99, nat_lit 0, nat_lit 0, []),
  (nat_lit 52, nat_lit 99, nat_lit 0, nat_lit 0, []),
  (nat_lit 53, nat_lit 99, nat_lit 0, nat_lit 0, []),
  (nat_lit 54, nat_lit 99, nat_lit 0, nat_lit 0, []),
  (nat_lit 57, nat_lit 99, nat_lit 0, nat_lit 0, []),
  (nat_lit 60, nat_lit 99, nat_lit 0, nat_lit 0, []),
  (nat_lit 61, nat_lit 99, nat_lit 0, nat_lit 0, []),
  (nat_lit 62, nat_lit 99, nat_lit 0, nat_lit 0, []),
  (nat_lit 65, nat_lit 99, nat_lit 0, nat_lit 0, []),
  (nat_lit 68, nat_lit 0, nat_lit 1, nat_lit 0, []),
  (nat_lit 69, nat_lit 16, nat_lit 0, nat_lit 0, [])]
/-- SpeechKeeper$Joint.wordsBesideClashes() -/
def zk_14 : List zE := [(nat_lit 0, nat_lit 0, nat_lit 0, nat_lit 4, []),
  (nat_lit 1, nat_lit 8, nat_lit 1, nat_lit 1, []),
  (nat_lit 4, nat_lit 8, nat_lit 6, nat_lit 0, []),
  (nat_lit 7, nat_lit 1, nat_lit 0, nat_lit 0, [nat_lit 0, nat_lit 0, nat_lit 0]),
  (nat_lit 8, nat_lit 0, nat_lit 0, nat_lit 4, []),
  (nat_lit 9, nat_lit 8, nat_lit 1, nat_lit 1, []),
  (nat_lit 12, nat_lit 8, nat_lit 6, nat_lit 0, []),
  (nat_lit 15, nat_lit 15, nat_lit 55, nat_lit 1, [nat_lit 0, nat_lit 8]),
  (nat_lit 18, nat_lit 15, nat_lit 56, nat_lit 3, [nat_lit 0, nat_lit 8]),
  (nat_lit 21, nat_lit 2, nat_lit 1, nat_lit 0, []),
  (nat_lit 22, nat_lit 1, nat_lit 0, nat_lit 0, [nat_lit 0, nat_lit 0, nat_lit 0]),
  (nat_lit 23, nat_lit 2, nat_lit 2, nat_lit 0, []),
  (nat_lit 24, nat_lit 0, nat_lit 2, nat_lit 0, []),
  (nat_lit 25, nat_lit 0, nat_lit 0, nat_lit 4, []),
  (nat_lit 26, nat_lit 8, nat_lit 1, nat_lit 2, []),
  (nat_lit 29, nat_lit 8, nat_lit 3, nat_lit 2, []),
  (nat_lit 32, nat_lit 15, nat_lit 50, nat_lit 1, [nat_lit 0, nat_lit 7]),
  (nat_lit 35, nat_lit 6, nat_lit 79, nat_lit 3, []),
  (nat_lit 38, nat_lit 99, nat_lit 0, nat_lit 0, []),
  (nat_lit 39, nat_lit 99, nat_lit 0, nat_lit 0, []),
  (nat_lit 40, nat_lit 99, nat_lit 0, nat_lit 0, []),
  (nat_lit 41, nat_lit 99, nat_lit 0, nat_lit 0, []),
  (nat_lit 42, nat_lit 99, nat_lit 0, nat_lit 0, []),
  (nat_lit 45, nat_lit 99, nat_lit 0, nat_lit 0, []),
  (nat_lit 46, nat_lit 99, nat_lit 0, nat_lit 0, []),
  (nat_lit 47, nat_lit 99, nat_lit 0, nat_lit 0, []),
  (nat_lit 48, nat_lit 99, nat_lit 0, nat_lit 0, []),
  (nat_lit 49, nat_lit 99, nat_lit 0, nat_lit 0, []),
  (nat_lit 50, nat_lit 99, nat_lit 0, nat_lit 0, []),
  (nat_lit 53, nat_lit 99, nat_lit 0, nat_lit 0, []),
  (nat_lit 56, nat_lit 99, nat_lit 0, nat_lit 0, []),
  (nat_lit 57, nat_lit 99, nat_lit 0, nat_lit 0, []),
  (nat_lit 60, nat_lit 99, nat_lit 0, nat_lit 0, []),
  (nat_lit 61, nat_lit 99, nat_lit 0, nat_lit 0, []),
  (nat_lit 62, nat_lit 99, nat_lit 0, nat_lit 0, []),
  (nat_lit 63, nat_lit 99, nat_lit 0, nat_lit 0, []),
  (nat_lit 64, nat_lit 99, nat_lit 0, nat_lit 0, []),
  (nat_lit 65, nat_lit 99, nat_lit 0, nat_lit 0, []),
  (nat_lit 68, nat_lit 99, nat_lit 0, nat_lit 0, []),
  (nat_lit 71, nat_lit 99, nat_lit 0, nat_lit 0, []),
  (nat_lit 72, nat_lit 99, nat_lit 0, nat_lit 0, []),
  (nat_lit 73, nat_lit 99, nat_lit 0, nat_lit 0, []),
  (nat_lit 76, nat_lit 99, nat_lit 0, nat_lit 0, []),
  (nat_lit 79, nat_lit 0, nat_lit 1, nat_lit 0, []),
  (nat_lit 80, nat_lit 16, nat_lit 0, nat_lit 0, [])]
/-- SpeechKeeper$Laying.<init>() -/
def zk_15 : List zE := [(nat_lit 0, nat_lit 0, nat_lit 0, nat_lit 4, []),
  (nat_lit 1, nat_lit 26, nat_lit 0, nat_lit 0, []),
  (nat_lit 4, nat_lit 0, nat_lit 0, nat_lit 4, []),
  (nat_lit 5, nat_lit 1, nat_lit 0, nat_lit 0, [nat_lit 0, nat_lit 160, nat_lit 0]),
  (nat_lit 8, nat_lit 14, nat_lit 103, nat_lit 0, []),
  (nat_lit 10, nat_lit 9, nat_lit 2, nat_lit 0, [nat_lit 4]),
  (nat_lit 13, nat_lit 0, nat_lit 0, nat_lit 4, []),
  (nat_lit 14, nat_lit 1, nat_lit 0, nat_lit 0, [nat_lit 0, nat_lit 160, nat_lit 0]),
  (nat_lit 17, nat_lit 14, nat_lit 103, nat_lit 0, []),
  (nat_lit 19, nat_lit 9, nat_lit 2, nat_lit 1, [nat_lit 4]),
  (nat_lit 22, nat_lit 0, nat_lit 0, nat_lit 4, []),
  (nat_lit 23, nat_lit 1, nat_lit 0, nat_lit 0, [nat_lit 0, nat_lit 160, nat_lit 0]),
  (nat_lit 26, nat_lit 14, nat_lit 100, nat_lit 0, []),
  (nat_lit 28, nat_lit 9, nat_lit 2, nat_lit 2, [nat_lit 4]),
  (nat_lit 31, nat_lit 0, nat_lit 0, nat_lit 4, []),
  (nat_lit 32, nat_lit 1, nat_lit 0, nat_lit 0, [nat_lit 0, nat_lit 25600, nat_lit 0]),
  (nat_lit 35, nat_lit 14, nat_lit 100, nat_lit 0, []),
  (nat_lit 37, nat_lit 9, nat_lit 2, nat_lit 3, [nat_lit 4]),
  (nat_lit 40, nat_lit 16, nat_lit 0, nat_lit 5, [])]
/-- SpeechKeeper$Laying.clear() -/
def zk_16 : List zE := [(nat_lit 0, nat_lit 0, nat_lit 0, nat_lit 4, []),
  (nat_lit 1, nat_lit 1, nat_lit 0, nat_lit 0, [nat_lit 0, nat_lit 0, nat_lit 0]),
  (nat_lit 2, nat_lit 9, nat_lit 2, nat_lit 4, [nat_lit 0]),
  (nat_lit 5, nat_lit 0, nat_lit 0, nat_lit 4, []),
  (nat_lit 6, nat_lit 1, nat_lit 0, nat_lit 0, [nat_lit 0, nat_lit 0, nat_lit 0]),
  (nat_lit 7, nat_lit 9, nat_lit 2, nat_lit 5, [nat_lit 0]),
  (nat_lit 10, nat_lit 0, nat_lit 0, nat_lit 4, []),
  (nat_lit 11, nat_lit 1, nat_lit 0, nat_lit 0, [nat_lit 0, nat_lit 0, nat_lit 0]),
  (nat_lit 12, nat_lit 9, nat_lit 2, nat_lit 6, [nat_lit 0]),
  (nat_lit 15, nat_lit 16, nat_lit 0, nat_lit 5, [])]
/-- SpeechKeeper$Laying.findLongest() -/
def zk_17 : List zE := [(nat_lit 0, nat_lit 0, nat_lit 0, nat_lit 4, []),
  (nat_lit 1, nat_lit 15, nat_lit 20, nat_lit 1, [nat_lit 0, nat_lit 2]),
  (nat_lit 4, nat_lit 2, nat_lit 1, nat_lit 0, []),
  (nat_lit 5, nat_lit 0, nat_lit 0, nat_lit 4, []),
  (nat_lit 6, nat_lit 8, nat_lit 2, nat_lit 4, []),
  (nat_lit 9, nat_lit 1, nat_lit 0, nat_lit 0, [nat_lit 0, nat_lit 1, nat_lit 0]),
  (nat_lit 10, nat_lit 4, nat_lit 1, nat_lit 0, []),
  (nat_lit 11, nat_lit 2, nat_lit 2, nat_lit 0, []),
  (nat_lit 12, nat_lit 0, nat_lit 2, nat_lit 0, []),
  (nat_lit 13, nat_lit 0, nat_lit 1, nat_lit 0, []),
  (nat_lit 14, nat_lit 6, nat_lit 103, nat_lit 2, []),
  (nat_lit 17, nat_lit 99, nat_lit 0, nat_lit 0, []),
  (nat_lit 18, nat_lit 99, nat_lit 0, nat_lit 0, []),
  (nat_lit 21, nat_lit 99, nat_lit 0, nat_lit 0, []),
  (nat_lit 22, nat_lit 99, nat_lit 0, nat_lit 0, []),
  (nat_lit 23, nat_lit 99, nat_lit 0, nat_lit 0, []),
  (nat_lit 24, nat_lit 99, nat_lit 0, nat_lit 0, []),
  (nat_lit 25, nat_lit 99, nat_lit 0, nat_lit 0, []),
  (nat_lit 26, nat_lit 99, nat_lit 0, nat_lit 0, []),
  (nat_lit 29, nat_lit 99, nat_lit 0, nat_lit 0, []),
  (nat_lit 30, nat_lit 99, nat_lit 0, nat_lit 0, []),
  (nat_lit 33, nat_lit 99, nat_lit 0, nat_lit 0, []),
  (nat_lit 34, nat_lit 99, nat_lit 0, nat_lit 0, []),
  (nat_lit 37, nat_lit 99, nat_lit 0, nat_lit 0, []),
  (nat_lit 38, nat_lit 99, nat_lit 0, nat_lit 0, []),
  (nat_lit 39, nat_lit 99, nat_lit 0, nat_lit 0, []),
  (nat_lit 40, nat_lit 99, nat_lit 0, nat_lit 0, []),
  (nat_lit 41, nat_lit 99, nat_lit 0, nat_lit 0, []),
  (nat_lit 44, nat_lit 99, nat_lit 0, nat_lit 0, []),
  (nat_lit 45, nat_lit 99, nat_lit 0, nat_lit 0, []),
  (nat_lit 46, nat_lit 99, nat_lit 0, nat_lit 0, []),
  (nat_lit 47, nat_lit 99, nat_lit 0, nat_lit 0, []),
  (nat_lit 50, nat_lit 99, nat_lit 0, nat_lit 0, []),
  (nat_lit 51, nat_lit 99, nat_lit 0, nat_lit 0, []),
  (nat_lit 52, nat_lit 99, nat_lit 0, nat_lit 0, []),
  (nat_lit 53, nat_lit 99, nat_lit 0, nat_lit 0, []),
  (nat_lit 56, nat_lit 99, nat_lit 0, nat_lit 0, []),
  (nat_lit 57, nat_lit 99, nat_lit 0, nat_lit 0, []),
  (nat_lit 58, nat_lit 99, nat_lit 0, nat_lit 0, []),
  (nat_lit 59, nat_lit 99, nat_lit 0, nat_lit 0, []),
  (nat_lit 60, nat_lit 99, nat_lit 0, nat_lit 0, []),
  (nat_lit 61, nat_lit 99, nat_lit 0, nat_lit 0, []),
  (nat_lit 62, nat_lit 99, nat_lit 0, nat_lit 0, []),
  (nat_lit 63, nat_lit 99, nat_lit 0, nat_lit 0, []),
  (nat_lit 66, nat_lit 99, nat_lit 0, nat_lit 0, []),
  (nat_lit 67, nat_lit 99, nat_lit 0, nat_lit 0, []),
  (nat_lit 68, nat_lit 99, nat_lit 0, nat_lit 0, []),
  (nat_lit 71, nat_lit 99, nat_lit 0, nat_lit 0, []),
  (nat_lit 72, nat_lit 99, nat_lit 0, nat_lit 0, []),
  (nat_lit 73, nat_lit 99, nat_lit 0, nat_lit 0, []),
  (nat_lit 74, nat_lit 99, nat_lit 0, nat_lit 0, []),
  (nat_lit 75, nat_lit 99, nat_lit 0, nat_lit 0, []),
  (nat_lit 76, nat_lit 99, nat_lit 0, nat_lit 0, []),
  (nat_lit 79, nat_lit 99, nat_lit 0, nat_lit 0, []),
  (nat_lit 80, nat_lit 99, nat_lit 0, nat_lit 0, []),
  (nat_lit 81, nat_lit 99, nat_lit 0, nat_lit 0, []),
  (nat_lit 82, nat_lit 99, nat_lit 0, nat_lit 0, []),
  (nat_lit 83, nat_lit 99, nat_lit 0, nat_lit 0, []),
  (nat_lit 84, nat_lit 99, nat_lit 0, nat_lit 0, []),
  (nat_lit 87, nat_lit 99, nat_lit 0, nat_lit 0, []),
  (nat_lit 90, nat_lit 99, nat_lit 0, nat_lit 0, []),
  (nat_lit 91, nat_lit 99, nat_lit 0, nat_lit 0, []),
  (nat_lit 94, nat_lit 99, nat_lit 0, nat_lit 0, []),
  (nat_lit 97, nat_lit 99, nat_lit 0, nat_lit 0, []),
  (nat_lit 100, nat_lit 99, nat_lit 0, nat_lit 0, []),
  (nat_lit 103, nat_lit 16, nat_lit 0, nat_lit 5, [])]
/-- SpeechKeeper$Laying.lay() -/
def zk_18 : List zE := [(nat_lit 0, nat_lit 0, nat_lit 0, nat_lit 4, []),
  (nat_lit 1, nat_lit 15, nat_lit 17, nat_lit 1, [nat_lit 0, nat_lit 2]),
  (nat_lit 4, nat_lit 1, nat_lit 0, nat_lit 0, [nat_lit 0, nat_lit 0, nat_lit 0]),
  (nat_lit 5, nat_lit 2, nat_lit 1, nat_lit 0, []),
  (nat_lit 6, nat_lit 1, nat_lit 0, nat_lit 0, [nat_lit 0, nat_lit 0, nat_lit 0]),
  (nat_lit 7, nat_lit 2, nat_lit 2, nat_lit 0, []),
  (nat_lit 8, nat_lit 0, nat_lit 1, nat_lit 0, []),
  (nat_lit 9, nat_lit 0, nat_lit 0, nat_lit 4, []),
  (nat_lit 10, nat_lit 8, nat_lit 2, nat_lit 4, []),
  (nat_lit 13, nat_lit 6, nat_lit 97, nat_lit 3, []),
  (nat_lit 16, nat_lit 99, nat_lit 0, nat_lit 0, []),
  (nat_lit 17, nat_lit 99, nat_lit 0, nat_lit 0, []),
  (nat_lit 18, nat_lit 99, nat_lit 0, nat_lit 0, []),
  (nat_lit 21, nat_lit 99, nat_lit 0, nat_lit 0, []),
  (nat_lit 24, nat_lit 99, nat_lit 0, nat_lit 0, []),
  (nat_lit 25, nat_lit 99, nat_lit 0, nat_lit 0, []),
  (nat_lit 28, nat_lit 99, nat_lit 0, nat_lit 0, []),
  (nat_lit 29, nat_lit 99, nat_lit 0, nat_lit 0, []),
  (nat_lit 30, nat_lit 99, nat_lit 0, nat_lit 0, []),
  (nat_lit 31, nat_lit 99, nat_lit 0, nat_lit 0, []),
  (nat_lit 34, nat_lit 99, nat_lit 0, nat_lit 0, []),
  (nat_lit 35, nat_lit 99, nat_lit 0, nat_lit 0, []),
  (nat_lit 36, nat_lit 99, nat_lit 0, nat_lit 0, []),
  (nat_lit 37, nat_lit 99, nat_lit 0, nat_lit 0, []),
  (nat_lit 40, nat_lit 99, nat_lit 0, nat_lit 0, []),
  (nat_lit 41, nat_lit 99, nat_lit 0, nat_lit 0, []),
  (nat_lit 44, nat_lit 99, nat_lit 0, nat_lit 0, []),
  (nat_lit 45, nat_lit 99, nat_lit 0, nat_lit 0, []),
  (nat_lit 46, nat_lit 99, nat_lit 0, nat_lit 0, []),
  (nat_lit 47, nat_lit 99, nat_lit 0, nat_lit 0, []),
  (nat_lit 48, nat_lit 99, nat_lit 0, nat_lit 0, []),
  (nat_lit 49, nat_lit 99, nat_lit 0, nat_lit 0, []),
  (nat_lit 52, nat_lit 99, nat_lit 0, nat_lit 0, []),
  (nat_lit 53, nat_lit 99, nat_lit 0, nat_lit 0, []),
  (nat_lit 54, nat_lit 99, nat_lit 0, nat_lit 0, []),
  (nat_lit 57, nat_lit 99, nat_lit 0, nat_lit 0, []),
  (nat_lit 60, nat_lit 99, nat_lit 0, nat_lit 0, []),
  (nat_lit 63, nat_lit 99, nat_lit 0, nat_lit 0, []),
  (nat_lit 66, nat_lit 99, nat_lit 0, nat_lit 0, []),
  (nat_lit 67, nat_lit 99, nat_lit 0, nat_lit 0, []),
  (nat_lit 68, nat_lit 99, nat_lit 0, nat_lit 0, []),
  (nat_lit 69, nat_lit 99, nat_lit 0, nat_lit 0, []),
  (nat_lit 70, nat_lit 99, nat_lit 0, nat_lit 0, []),
  (nat_lit 71, nat_lit 99, nat_lit 0, nat_lit 0, []),
  (nat_lit 74, nat_lit 99, nat_lit 0, nat_lit 0, []),
  (nat_lit 75, nat_lit 99, nat_lit 0, nat_lit 0, []),
  (nat_lit 76, nat_lit 99, nat_lit 0, nat_lit 0, []),
  (nat_lit 77, nat_lit 99, nat_lit 0, nat_lit 0, []),
  (nat_lit 78, nat_lit 99, nat_lit 0, nat_lit 0, []),
  (nat_lit 79, nat_lit 99, nat_lit 0, nat_lit 0, []),
  (nat_lit 82, nat_lit 99, nat_lit 0, nat_lit 0, []),
  (nat_lit 85, nat_lit 99, nat_lit 0, nat_lit 0, []),
  (nat_lit 88, nat_lit 99, nat_lit 0, nat_lit 0, []),
  (nat_lit 91, nat_lit 99, nat_lit 0, nat_lit 0, []),
  (nat_lit 94, nat_lit 99, nat_lit 0, nat_lit 0, []),
  (nat_lit 97, nat_lit 16, nat_lit 0, nat_lit 5, [])]
/-- SpeechKeeper$Laying.pairs() -/
def zk_19 : List zE := [(nat_lit 0, nat_lit 0, nat_lit 0, nat_lit 4, []),
  (nat_lit 1, nat_lit 8, nat_lit 2, nat_lit 6, []),
  (nat_lit 4, nat_lit 16, nat_lit 0, nat_lit 0, [])]
/-- SpeechKeeper$Laying.sameAtFront() -/
def zk_20 : List zE := [(nat_lit 0, nat_lit 1, nat_lit 0, nat_lit 0, [nat_lit 0, nat_lit 0, nat_lit 0]),
  (nat_lit 1, nat_lit 2, nat_lit 1, nat_lit 0, []),
  (nat_lit 2, nat_lit 0, nat_lit 1, nat_lit 0, []),
  (nat_lit 3, nat_lit 0, nat_lit 0, nat_lit 4, []),
  (nat_lit 4, nat_lit 8, nat_lit 2, nat_lit 4, []),
  (nat_lit 7, nat_lit 6, nat_lit 40, nat_lit 3, []),
  (nat_lit 10, nat_lit 99, nat_lit 0, nat_lit 0, []),
  (nat_lit 11, nat_lit 99, nat_lit 0, nat_lit 0, []),
  (nat_lit 12, nat_lit 99, nat_lit 0, nat_lit 0, []),
  (nat_lit 15, nat_lit 99, nat_lit 0, nat_lit 0, []),
  (nat_lit 18, nat_lit 99, nat_lit 0, nat_lit 0, []),
  (nat_lit 19, nat_lit 99, nat_lit 0, nat_lit 0, []),
  (nat_lit 22, nat_lit 99, nat_lit 0, nat_lit 0, []),
  (nat_lit 23, nat_lit 99, nat_lit 0, nat_lit 0, []),
  (nat_lit 24, nat_lit 99, nat_lit 0, nat_lit 0, []),
  (nat_lit 25, nat_lit 99, nat_lit 0, nat_lit 0, []),
  (nat_lit 28, nat_lit 99, nat_lit 0, nat_lit 0, []),
  (nat_lit 29, nat_lit 99, nat_lit 0, nat_lit 0, []),
  (nat_lit 30, nat_lit 99, nat_lit 0, nat_lit 0, []),
  (nat_lit 31, nat_lit 99, nat_lit 0, nat_lit 0, []),
  (nat_lit 34, nat_lit 99, nat_lit 0, nat_lit 0, []),
  (nat_lit 37, nat_lit 99, nat_lit 0, nat_lit 0, []),
  (nat_lit 40, nat_lit 0, nat_lit 1, nat_lit 0, []),
  (nat_lit 41, nat_lit 16, nat_lit 0, nat_lit 0, [])]
/-- SpeechKeeper$Laying.takeLines(SpeechKeeper$Text, SpeechKeeper$Text) -/
def zk_21 : List zE := [(nat_lit 0, nat_lit 0, nat_lit 0, nat_lit 4, []),
  (nat_lit 1, nat_lit 15, nat_lit 16, nat_lit 1, [nat_lit 0, nat_lit 2]),
  (nat_lit 4, nat_lit 1, nat_lit 0, nat_lit 0, [nat_lit 0, nat_lit 0, nat_lit 0]),
  (nat_lit 5, nat_lit 2, nat_lit 3, nat_lit 0, []),
  (nat_lit 6, nat_lit 0, nat_lit 3, nat_lit 0, []),
  (nat_lit 7, nat_lit 0, nat_lit 1, nat_lit 4, []),
  (nat_lit 8, nat_lit 15, nat_lit 55, nat_lit 1, [nat_lit 0, nat_lit 8]),
  (nat_lit 11, nat_lit 6, nat_lit 31, nat_lit 3, []),
  (nat_lit 14, nat_lit 99, nat_lit 0, nat_lit 0, []),
  (nat_lit 15, nat_lit 99, nat_lit 0, nat_lit 0, []),
  (nat_lit 16, nat_lit 99, nat_lit 0, nat_lit 0, []),
  (nat_lit 17, nat_lit 99, nat_lit 0, nat_lit 0, []),
  (nat_lit 18, nat_lit 99, nat_lit 0, nat_lit 0, []),
  (nat_lit 21, nat_lit 99, nat_lit 0, nat_lit 0, []),
  (nat_lit 22, nat_lit 99, nat_lit 0, nat_lit 0, []),
  (nat_lit 25, nat_lit 99, nat_lit 0, nat_lit 0, []),
  (nat_lit 28, nat_lit 99, nat_lit 0, nat_lit 0, []),
  (nat_lit 31, nat_lit 1, nat_lit 0, nat_lit 0, [nat_lit 0, nat_lit 0, nat_lit 0]),
  (nat_lit 32, nat_lit 2, nat_lit 3, nat_lit 0, []),
  (nat_lit 33, nat_lit 0, nat_lit 3, nat_lit 0, []),
  (nat_lit 34, nat_lit 0, nat_lit 2, nat_lit 4, []),
  (nat_lit 35, nat_lit 15, nat_lit 55, nat_lit 1, [nat_lit 0, nat_lit 8]),
  (nat_lit 38, nat_lit 6, nat_lit 58, nat_lit 3, []),
  (nat_lit 41, nat_lit 99, nat_lit 0, nat_lit 0, []),
  (nat_lit 42, nat_lit 99, nat_lit 0, nat_lit 0, []),
  (nat_lit 43, nat_lit 99, nat_lit 0, nat_lit 0, []),
  (nat_lit 44, nat_lit 99, nat_lit 0, nat_lit 0, []),
  (nat_lit 45, nat_lit 99, nat_lit 0, nat_lit 0, []),
  (nat_lit 48, nat_lit 99, nat_lit 0, nat_lit 0, []),
  (nat_lit 49, nat_lit 99, nat_lit 0, nat_lit 0, []),
  (nat_lit 52, nat_lit 99, nat_lit 0, nat_lit 0, []),
  (nat_lit 55, nat_lit 99, nat_lit 0, nat_lit 0, []),
  (nat_lit 58, nat_lit 16, nat_lit 0, nat_lit 5, [])]
/-- SpeechKeeper$Merge.<init>(SpeechKeeper$Laying) -/
def zk_22 : List zE := [(nat_lit 0, nat_lit 0, nat_lit 0, nat_lit 4, []),
  (nat_lit 1, nat_lit 26, nat_lit 0, nat_lit 0, []),
  (nat_lit 4, nat_lit 0, nat_lit 0, nat_lit 4, []),
  (nat_lit 5, nat_lit 13, nat_lit 7, nat_lit 0, []),
  (nat_lit 8, nat_lit 17, nat_lit 0, nat_lit 0, []),
  (nat_lit 9, nat_lit 1, nat_lit 0, nat_lit 0, [nat_lit 0, nat_lit 21, nat_lit 0]),
  (nat_lit 11, nat_lit 1, nat_lit 0, nat_lit 0, [nat_lit 0, nat_lit 5, nat_lit 0]),
  (nat_lit 12, nat_lit 15, nat_lit 48, nat_lit 3, [nat_lit 2, nat_lit 7]),
  (nat_lit 15, nat_lit 9, nat_lit 3, nat_lit 0, [nat_lit 4]),
  (nat_lit 18, nat_lit 0, nat_lit 0, nat_lit 4, []),
  (nat_lit 19, nat_lit 13, nat_lit 7, nat_lit 0, []),
  (nat_lit 22, nat_lit 17, nat_lit 0, nat_lit 0, []),
  (nat_lit 23, nat_lit 1, nat_lit 0, nat_lit 0, [nat_lit 0, nat_lit 21, nat_lit 0]),
  (nat_lit 25, nat_lit 1, nat_lit 0, nat_lit 0, [nat_lit 0, nat_lit 5, nat_lit 0]),
  (nat_lit 26, nat_lit 15, nat_lit 48, nat_lit 3, [nat_lit 2, nat_lit 7]),
  (nat_lit 29, nat_lit 9, nat_lit 3, nat_lit 1, [nat_lit 4]),
  (nat_lit 32, nat_lit 0, nat_lit 0, nat_lit 4, []),
  (nat_lit 33, nat_lit 13, nat_lit 7, nat_lit 0, []),
  (nat_lit 36, nat_lit 17, nat_lit 0, nat_lit 0, []),
  (nat_lit 37, nat_lit 1, nat_lit 0, nat_lit 0, [nat_lit 0, nat_lit 42, nat_lit 0]),
  (nat_lit 39, nat_lit 1, nat_lit 0, nat_lit 0, [nat_lit 0, nat_lit 11, nat_lit 0]),
  (nat_lit 41, nat_lit 15, nat_lit 48, nat_lit 3, [nat_lit 2, nat_lit 7]),
  (nat_lit 44, nat_lit 9, nat_lit 3, nat_lit 2, [nat_lit 4]),
  (nat_lit 47, nat_lit 0, nat_lit 0, nat_lit 4, []),
  (nat_lit 48, nat_lit 0, nat_lit 1, nat_lit 4, []),
  (nat_lit 49, nat_lit 9, nat_lit 3, nat_lit 3, [nat_lit 4]),
  (nat_lit 52, nat_lit 16, nat_lit 0, nat_lit 5, [])]
/-- SpeechKeeper$Merge.addChange(SpeechKeeper$Table, int, int, int, int) -/
def zk_23 : List zE := [(nat_lit 0, nat_lit 0, nat_lit 1, nat_lit 0, []),
  (nat_lit 1, nat_lit 0, nat_lit 2, nat_lit 0, []),
  (nat_lit 2, nat_lit 6, nat_lit 12, nat_lit 1, []),
  (nat_lit 5, nat_lit 0, nat_lit 3, nat_lit 0, []),
  (nat_lit 6, nat_lit 0, nat_lit 4, nat_lit 0, []),
  (nat_lit 8, nat_lit 6, nat_lit 12, nat_lit 1, []),
  (nat_lit 11, nat_lit 16, nat_lit 0, nat_lit 5, []),
  (nat_lit 12, nat_lit 99, nat_lit 0, nat_lit 0, []),
  (nat_lit 13, nat_lit 99, nat_lit 0, nat_lit 0, []),
  (nat_lit 16, nat_lit 99, nat_lit 0, nat_lit 0, []),
  (nat_lit 18, nat_lit 99, nat_lit 0, nat_lit 0, []),
  (nat_lit 19, nat_lit 99, nat_lit 0, nat_lit 0, []),
  (nat_lit 21, nat_lit 99, nat_lit 0, nat_lit 0, []),
  (nat_lit 22, nat_lit 99, nat_lit 0, nat_lit 0, []),
  (nat_lit 23, nat_lit 99, nat_lit 0, nat_lit 0, []),
  (nat_lit 26, nat_lit 99, nat_lit 0, nat_lit 0, []),
  (nat_lit 27, nat_lit 99, nat_lit 0, nat_lit 0, []),
  (nat_lit 29, nat_lit 99, nat_lit 0, nat_lit 0, []),
  (nat_lit 30, nat_lit 99, nat_lit 0, nat_lit 0, []),
  (nat_lit 31, nat_lit 99, nat_lit 0, nat_lit 0, []),
  (nat_lit 34, nat_lit 99, nat_lit 0, nat_lit 0, []),
  (nat_lit 35, nat_lit 99, nat_lit 0, nat_lit 0, []),
  (nat_lit 37, nat_lit 99, nat_lit 0, nat_lit 0, []),
  (nat_lit 38, nat_lit 99, nat_lit 0, nat_lit 0, []),
  (nat_lit 39, nat_lit 99, nat_lit 0, nat_lit 0, []),
  (nat_lit 42, nat_lit 99, nat_lit 0, nat_lit 0, []),
  (nat_lit 43, nat_lit 99, nat_lit 0, nat_lit 0, []),
  (nat_lit 45, nat_lit 99, nat_lit 0, nat_lit 0, []),
  (nat_lit 46, nat_lit 99, nat_lit 0, nat_lit 0, []),
  (nat_lit 48, nat_lit 99, nat_lit 0, nat_lit 0, []),
  (nat_lit 51, nat_lit 99, nat_lit 0, nat_lit 0, [])]
/-- SpeechKeeper$Merge.blocksOf(int) -/
def zk_24 : List zE := [(nat_lit 0, nat_lit 1, nat_lit 0, nat_lit 0, [nat_lit 0, nat_lit 0, nat_lit 0]),
  (nat_lit 1, nat_lit 2, nat_lit 2, nat_lit 0, []),
  (nat_lit 2, nat_lit 1, nat_lit 0, nat_lit 0, [nat_lit 0, nat_lit 0, nat_lit 0]),
  (nat_lit 3, nat_lit 2, nat_lit 3, nat_lit 0, []),
  (nat_lit 4, nat_lit 0, nat_lit 3, nat_lit 0, []),
  (nat_lit 5, nat_lit 0, nat_lit 0, nat_lit 4, []),
  (nat_lit 6, nat_lit 8, nat_lit 3, nat_lit 2, []),
  (nat_lit 9, nat_lit 15, nat_lit 50, nat_lit 1, [nat_lit 0, nat_lit 7]),
  (nat_lit 12, nat_lit 6, nat_lit 37, nat_lit 3, []),
  (nat_lit 15, nat_lit 99, nat_lit 0, nat_lit 0, []),
  (nat_lit 16, nat_lit 99, nat_lit 0, nat_lit 0, []),
  (nat_lit 19, nat_lit 99, nat_lit 0, nat_lit 0, []),
  (nat_lit 20, nat_lit 99, nat_lit 0, nat_lit 0, []),
  (nat_lit 21, nat_lit 99, nat_lit 0, nat_lit 0, []),
  (nat_lit 24, nat_lit 99, nat_lit 0, nat_lit 0, []),
  (nat_lit 25, nat_lit 99, nat_lit 0, nat_lit 0, []),
  (nat_lit 28, nat_lit 99, nat_lit 0, nat_lit 0, []),
  (nat_lit 31, nat_lit 99, nat_lit 0, nat_lit 0, []),
  (nat_lit 34, nat_lit 99, nat_lit 0, nat_lit 0, []),
  (nat_lit 37, nat_lit 0, nat_lit 2, nat_lit 0, []),
  (nat_lit 38, nat_lit 16, nat_lit 0, nat_lit 0, [])]
/-- SpeechKeeper$Merge.changesOf(int) -/
def zk_25 : List zE := [(nat_lit 0, nat_lit 0, nat_lit 1, nat_lit 0, []),
  (nat_lit 1, nat_lit 5, nat_lit 11, nat_lit 1, []),
  (nat_lit 4, nat_lit 0, nat_lit 0, nat_lit 4, []),
  (nat_lit 5, nat_lit 8, nat_lit 3, nat_lit 0, []),
  (nat_lit 8, nat_lit 7, nat_lit 15, nat_lit 0, []),
  (nat_lit 11, nat_lit 0, nat_lit 0, nat_lit 4, []),
  (nat_lit 12, nat_lit 8, nat_lit 3, nat_lit 1, []),
  (nat_lit 15, nat_lit 16, nat_lit 0, nat_lit 4, [])]
/-- SpeechKeeper$Merge.find(SpeechKeeper$Text, SpeechKeeper$Text, SpeechKeeper$Text) -/
def zk_26 : List zE := [(nat_lit 0, nat_lit 0, nat_lit 0, nat_lit 4, []),
  (nat_lit 1, nat_lit 8, nat_lit 3, nat_lit 3, []),
  (nat_lit 4, nat_lit 0, nat_lit 1, nat_lit 4, []),
  (nat_lit 5, nat_lit 0, nat_lit 2, nat_lit 4, []),
  (nat_lit 6, nat_lit 15, nat_lit 21, nat_lit 3, [nat_lit 0, nat_lit 2]),
  (nat_lit 9, nat_lit 0, nat_lit 0, nat_lit 4, []),
  (nat_lit 10, nat_lit 8, nat_lit 3, nat_lit 3, []),
  (nat_lit 13, nat_lit 15, nat_lit 18, nat_lit 1, [nat_lit 0, nat_lit 2]),
  (nat_lit 16, nat_lit 0, nat_lit 0, nat_lit 4, []),
  (nat_lit 17, nat_lit 0, nat_lit 0, nat_lit 4, []),
  (nat_lit 18, nat_lit 8, nat_lit 3, nat_lit 0, []),
  (nat_lit 21, nat_lit 0, nat_lit 1, nat_lit 4, []),
  (nat_lit 22, nat_lit 15, nat_lit 55, nat_lit 1, [nat_lit 0, nat_lit 8]),
  (nat_lit 25, nat_lit 0, nat_lit 2, nat_lit 4, []),
  (nat_lit 26, nat_lit 15, nat_lit 55, nat_lit 1, [nat_lit 0, nat_lit 8]),
  (nat_lit 29, nat_lit 15, nat_lit 28, nat_lit 4, [nat_lit 0, nat_lit 3]),
  (nat_lit 32, nat_lit 0, nat_lit 0, nat_lit 4, []),
  (nat_lit 33, nat_lit 8, nat_lit 3, nat_lit 3, []),
  (nat_lit 36, nat_lit 0, nat_lit 1, nat_lit 4, []),
  (nat_lit 37, nat_lit 0, nat_lit 3, nat_lit 4, []),
  (nat_lit 38, nat_lit 15, nat_lit 21, nat_lit 3, [nat_lit 0, nat_lit 2]),
  (nat_lit 41, nat_lit 0, nat_lit 0, nat_lit 4, []),
  (nat_lit 42, nat_lit 8, nat_lit 3, nat_lit 3, []),
  (nat_lit 45, nat_lit 15, nat_lit 18, nat_lit 1, [nat_lit 0, nat_lit 2]),
  (nat_lit 48, nat_lit 0, nat_lit 0, nat_lit 4, []),
  (nat_lit 49, nat_lit 0, nat_lit 0, nat_lit 4, []),
  (nat_lit 50, nat_lit 8, nat_lit 3, nat_lit 1, []),
  (nat_lit 53, nat_lit 0, nat_lit 1, nat_lit 4, []),
  (nat_lit 54, nat_lit 15, nat_lit 55, nat_lit 1, [nat_lit 0, nat_lit 8]),
  (nat_lit 57, nat_lit 0, nat_lit 3, nat_lit 4, []),
  (nat_lit 58, nat_lit 15, nat_lit 55, nat_lit 1, [nat_lit 0, nat_lit 8]),
  (nat_lit 61, nat_lit 15, nat_lit 28, nat_lit 4, [nat_lit 0, nat_lit 3]),
  (nat_lit 64, nat_lit 0, nat_lit 0, nat_lit 4, []),
  (nat_lit 65, nat_lit 15, nat_lit 27, nat_lit 1, [nat_lit 0, nat_lit 3]),
  (nat_lit 68, nat_lit 0, nat_lit 0, nat_lit 4, []),
  (nat_lit 69, nat_lit 1, nat_lit 0, nat_lit 0, [nat_lit 0, nat_lit 0, nat_lit 0]),
  (nat_lit 70, nat_lit 15, nat_lit 29, nat_lit 2, [nat_lit 0, nat_lit 3]),
  (nat_lit 73, nat_lit 0, nat_lit 0, nat_lit 4, []),
  (nat_lit 74, nat_lit 1, nat_lit 0, nat_lit 0, [nat_lit 0, nat_lit 1, nat_lit 0]),
  (nat_lit 75, nat_lit 15, nat_lit 29, nat_lit 2, [nat_lit 0, nat_lit 3]),
  (nat_lit 78, nat_lit 1, nat_lit 0, nat_lit 0, [nat_lit 0, nat_lit 0, nat_lit 0]),
  (nat_lit 79, nat_lit 2, nat_lit 4, nat_lit 0, []),
  (nat_lit 81, nat_lit 0, nat_lit 4, nat_lit 0, []),
  (nat_lit 83, nat_lit 0, nat_lit 0, nat_lit 4, []),
  (nat_lit 84, nat_lit 8, nat_lit 3, nat_lit 2, []),
  (nat_lit 87, nat_lit 15, nat_lit 50, nat_lit 1, [nat_lit 0, nat_lit 7]),
  (nat_lit 90, nat_lit 6, nat_lit 117, nat_lit 3, []),
  (nat_lit 93, nat_lit 99, nat_lit 0, nat_lit 0, []),
  (nat_lit 94, nat_lit 99, nat_lit 0, nat_lit 0, []),
  (nat_lit 97, nat_lit 99, nat_lit 0, nat_lit 0, []),
  (nat_lit 99, nat_lit 99, nat_lit 0, nat_lit 0, []),
  (nat_lit 100, nat_lit 99, nat_lit 0, nat_lit 0, []),
  (nat_lit 101, nat_lit 99, nat_lit 0, nat_lit 0, []),
  (nat_lit 103, nat_lit 99, nat_lit 0, nat_lit 0, []),
  (nat_lit 104, nat_lit 99, nat_lit 0, nat_lit 0, []),
  (nat_lit 105, nat_lit 99, nat_lit 0, nat_lit 0, []),
  (nat_lit 108, nat_lit 99, nat_lit 0, nat_lit 0, []),
  (nat_lit 111, nat_lit 99, nat_lit 0, nat_lit 0, []),
  (nat_lit 114, nat_lit 99, nat_lit 0, nat_lit 0, []),
  (nat_lit 117, nat_lit 16, nat_lit 0, nat_lit 5, [])]
/-- SpeechKeeper$Merge.findBlocks() -/
def zk_27 : List zE := [(nat_lit 0, nat_lit 0, nat_lit 0, nat_lit 4, []),
  (nat_lit 1, nat_lit 8, nat_lit 3, nat_lit 2, []),
  (nat_lit 4, nat_lit 15, nat_lit 49, nat_lit 1, [nat_lit 0, nat_lit 7]),
  (nat_lit 7, nat_lit 1, nat_lit 0, nat_lit 0, [nat_lit 0, nat_lit 0, nat_lit 0]),
  (nat_lit 8, nat_lit 2, nat_lit 1, nat_lit 0, []),
  (nat_lit 9, nat_lit 1, nat_lit 0, nat_lit 0, [nat_lit 0, nat_lit 0, nat_lit 0]),
  (nat_lit 10, nat_lit 2, nat_lit 2, nat_lit 0, []),
  (nat_lit 11, nat_lit 0, nat_lit 1, nat_lit 0, []),
  (nat_lit 12, nat_lit 0, nat_lit 0, nat_lit 4, []),
  (nat_lit 13, nat_lit 8, nat_lit 3, nat_lit 0, []),
  (nat_lit 16, nat_lit 15, nat_lit 50, nat_lit 1, [nat_lit 0, nat_lit 7]),
  (nat_lit 19, nat_lit 6, nat_lit 33, nat_lit 2, []),
  (nat_lit 22, nat_lit 0, nat_lit 2, nat_lit 0, []),
  (nat_lit 23, nat_lit 0, nat_lit 0, nat_lit 4, []),
  (nat_lit 24, nat_lit 8, nat_lit 3, nat_lit 1, []),
  (nat_lit 27, nat_lit 15, nat_lit 50, nat_lit 1, [nat_lit 0, nat_lit 7]),
  (nat_lit 30, nat_lit 6, nat_lit 66, nat_lit 3, []),
  (nat_lit 33, nat_lit 99, nat_lit 0, nat_lit 0, []),
  (nat_lit 34, nat_lit 99, nat_lit 0, nat_lit 0, []),
  (nat_lit 35, nat_lit 99, nat_lit 0, nat_lit 0, []),
  (nat_lit 36, nat_lit 99, nat_lit 0, nat_lit 0, []),
  (nat_lit 39, nat_lit 99, nat_lit 0, nat_lit 0, []),
  (nat_lit 42, nat_lit 99, nat_lit 0, nat_lit 0, []),
  (nat_lit 43, nat_lit 99, nat_lit 0, nat_lit 0, []),
  (nat_lit 44, nat_lit 99, nat_lit 0, nat_lit 0, []),
  (nat_lit 45, nat_lit 99, nat_lit 0, nat_lit 0, []),
  (nat_lit 48, nat_lit 99, nat_lit 0, nat_lit 0, []),
  (nat_lit 51, nat_lit 99, nat_lit 0, nat_lit 0, []),
  (nat_lit 54, nat_lit 99, nat_lit 0, nat_lit 0, []),
  (nat_lit 55, nat_lit 99, nat_lit 0, nat_lit 0, []),
  (nat_lit 56, nat_lit 99, nat_lit 0, nat_lit 0, []),
  (nat_lit 57, nat_lit 99, nat_lit 0, nat_lit 0, []),
  (nat_lit 60, nat_lit 99, nat_lit 0, nat_lit 0, []),
  (nat_lit 63, nat_lit 99, nat_lit 0, nat_lit 0, []),
  (nat_lit 66, nat_lit 16, nat_lit 0, nat_lit 5, [])]
/-- SpeechKeeper$Merge.findChanges(SpeechKeeper$Table, int, int) -/
def zk_28 : List zE := [(nat_lit 0, nat_lit 0, nat_lit 1, nat_lit 4, []),
  (nat_lit 1, nat_lit 15, nat_lit 49, nat_lit 1, [nat_lit 0, nat_lit 7]),
  (nat_lit 4, nat_lit 1, nat_lit 0, nat_lit 0, [nat_lit 0, nat_lit 0, nat_lit 0]),
  (nat_lit 5, nat_lit 2, nat_lit 4, nat_lit 0, []),
  (nat_lit 7, nat_lit 1, nat_lit 0, nat_lit 0, [nat_lit 0, nat_lit 0, nat_lit 0]),
  (nat_lit 8, nat_lit 2, nat_lit 5, nat_lit 0, []),
  (nat_lit 10, nat_lit 1, nat_lit 0, nat_lit 0, [nat_lit 0, nat_lit 0, nat_lit 0]),
  (nat_lit 11, nat_lit 2, nat_lit 6, nat_lit 0, []),
  (nat_lit 13, nat_lit 0, nat_lit 6, nat_lit 0, []),
  (nat_lit 15, nat_lit 0, nat_lit 3, nat_lit 0, []),
  (nat_lit 16, nat_lit 6, nat_lit 66, nat_lit 3, []),
  (nat_lit 19, nat_lit 99, nat_lit 0, nat_lit 0, []),
  (nat_lit 20, nat_lit 99, nat_lit 0, nat_lit 0, []),
  (nat_lit 23, nat_lit 99, nat_lit 0, nat_lit 0, []),
  (nat_lit 25, nat_lit 99, nat_lit 0, nat_lit 0, []),
  (nat_lit 28, nat_lit 99, nat_lit 0, nat_lit 0, []),
  (nat_lit 30, nat_lit 99, nat_lit 0, nat_lit 0, []),
  (nat_lit 32, nat_lit 99, nat_lit 0, nat_lit 0, []),
  (nat_lit 33, nat_lit 99, nat_lit 0, nat_lit 0, []),
  (nat_lit 36, nat_lit 99, nat_lit 0, nat_lit 0, []),
  (nat_lit 37, nat_lit 99, nat_lit 0, nat_lit 0, []),
  (nat_lit 39, nat_lit 99, nat_lit 0, nat_lit 0, []),
  (nat_lit 41, nat_lit 99, nat_lit 0, nat_lit 0, []),
  (nat_lit 43, nat_lit 99, nat_lit 0, nat_lit 0, []),
  (nat_lit 45, nat_lit 99, nat_lit 0, nat_lit 0, []),
  (nat_lit 48, nat_lit 99, nat_lit 0, nat_lit 0, []),
  (nat_lit 50, nat_lit 99, nat_lit 0, nat_lit 0, []),
  (nat_lit 51, nat_lit 99, nat_lit 0, nat_lit 0, []),
  (nat_lit 52, nat_lit 99, nat_lit 0, nat_lit 0, []),
  (nat_lit 54, nat_lit 99, nat_lit 0, nat_lit 0, []),
  (nat_lit 56, nat_lit 99, nat_lit 0, nat_lit 0, []),
  (nat_lit 57, nat_lit 99, nat_lit 0, nat_lit 0, []),
  (nat_lit 58, nat_lit 99, nat_lit 0, nat_lit 0, []),
  (nat_lit 60, nat_lit 99, nat_lit 0, nat_lit 0, []),
  (nat_lit 63, nat_lit 99, nat_lit 0, nat_lit 0, []),
  (nat_lit 66, nat_lit 0, nat_lit 1, nat_lit 4, []),
  (nat_lit 67, nat_lit 0, nat_lit 4, nat_lit 0, []),
  (nat_lit 69, nat_lit 0, nat_lit 2, nat_lit 0, []),
  (nat_lit 70, nat_lit 0, nat_lit 5, nat_lit 0, []),
  (nat_lit 72, nat_lit 0, nat_lit 3, nat_lit 0, []),
  (nat_lit 73, nat_lit 15, nat_lit 23, nat_lit 5, [nat_lit 1, nat_lit 3]),
  (nat_lit 76, nat_lit 16, nat_lit 0, nat_lit 5, [])]
/-- SpeechKeeper$Merge.findSides(int) -/
def zk_29 : List zE := [(nat_lit 0, nat_lit 0, nat_lit 0, nat_lit 4, []),
  (nat_lit 1, nat_lit 0, nat_lit 1, nat_lit 0, []),
  (nat_lit 2, nat_lit 15, nat_lit 25, nat_lit 2, [nat_lit 0, nat_lit 3]),
  (nat_lit 5, nat_lit 2, nat_lit 2, nat_lit 4, []),
  (nat_lit 6, nat_lit 1, nat_lit 0, nat_lit 0, [nat_lit 0, nat_lit 0, nat_lit 0]),
  (nat_lit 7, nat_lit 2, nat_lit 3, nat_lit 0, []),
  (nat_lit 8, nat_lit 1, nat_lit 0, nat_lit 0, [nat_lit 0, nat_lit 0, nat_lit 0]),
  (nat_lit 9, nat_lit 2, nat_lit 4, nat_lit 0, []),
  (nat_lit 11, nat_lit 1, nat_lit 0, nat_lit 0, [nat_lit 0, nat_lit 0, nat_lit 0]),
  (nat_lit 12, nat_lit 2, nat_lit 5, nat_lit 0, []),
  (nat_lit 14, nat_lit 0, nat_lit 5, nat_lit 0, []),
  (nat_lit 16, nat_lit 0, nat_lit 0, nat_lit 4, []),
  (nat_lit 17, nat_lit 8, nat_lit 3, nat_lit 2, []),
  (nat_lit 20, nat_lit 15, nat_lit 50, nat_lit 1, [nat_lit 0, nat_lit 7]),
  (nat_lit 23, nat_lit 6, nat_lit 158, nat_lit 3, []),
  (nat_lit 26, nat_lit 99, nat_lit 0, nat_lit 0, []),
  (nat_lit 27, nat_lit 99, nat_lit 0, nat_lit 0, []),
  (nat_lit 29, nat_lit 99, nat_lit 0, nat_lit 0, []),
  (nat_lit 31, nat_lit 99, nat_lit 0, nat_lit 0, []),
  (nat_lit 32, nat_lit 99, nat_lit 0, nat_lit 0, []),
  (nat_lit 35, nat_lit 99, nat_lit 0, nat_lit 0, []),
  (nat_lit 38, nat_lit 99, nat_lit 0, nat_lit 0, []),
  (nat_lit 39, nat_lit 99, nat_lit 0, nat_lit 0, []),
  (nat_lit 41, nat_lit 99, nat_lit 0, nat_lit 0, []),
  (nat_lit 42, nat_lit 99, nat_lit 0, nat_lit 0, []),
  (nat_lit 45, nat_lit 99, nat_lit 0, nat_lit 0, []),
  (nat_lit 47, nat_lit 99, nat_lit 0, nat_lit 0, []),
  (nat_lit 50, nat_lit 99, nat_lit 0, nat_lit 0, []),
  (nat_lit 51, nat_lit 99, nat_lit 0, nat_lit 0, []),
  (nat_lit 52, nat_lit 99, nat_lit 0, nat_lit 0, []),
  (nat_lit 54, nat_lit 99, nat_lit 0, nat_lit 0, []),
  (nat_lit 55, nat_lit 99, nat_lit 0, nat_lit 0, []),
  (nat_lit 58, nat_lit 99, nat_lit 0, nat_lit 0, []),
  (nat_lit 59, nat_lit 99, nat_lit 0, nat_lit 0, []),
  (nat_lit 61, nat_lit 99, nat_lit 0, nat_lit 0, []),
  (nat_lit 62, nat_lit 99, nat_lit 0, nat_lit 0, []),
  (nat_lit 65, nat_lit 99, nat_lit 0, nat_lit 0, []),
  (nat_lit 66, nat_lit 99, nat_lit 0, nat_lit 0, []),
  (nat_lit 67, nat_lit 99, nat_lit 0, nat_lit 0, []),
  (nat_lit 68, nat_lit 99, nat_lit 0, nat_lit 0, []),
  (nat_lit 69, nat_lit 99, nat_lit 0, nat_lit 0, []),
  (nat_lit 70, nat_lit 99, nat_lit 0, nat_lit 0, []),
  (nat_lit 72, nat_lit 99, nat_lit 0, nat_lit 0, []),
  (nat_lit 73, nat_lit 99, nat_lit 0, nat_lit 0, []),
  (nat_lit 76, nat_lit 99, nat_lit 0, nat_lit 0, []),
  (nat_lit 77, nat_lit 99, nat_lit 0, nat_lit 0, []),
  (nat_lit 79, nat_lit 99, nat_lit 0, nat_lit 0, []),
  (nat_lit 80, nat_lit 99, nat_lit 0, nat_lit 0, []),
  (nat_lit 83, nat_lit 99, nat_lit 0, nat_lit 0, []),
  (nat_lit 84, nat_lit 99, nat_lit 0, nat_lit 0, []),
  (nat_lit 85, nat_lit 99, nat_lit 0, nat_lit 0, []),
  (nat_lit 86, nat_lit 99, nat_lit 0, nat_lit 0, []),
  (nat_lit 89, nat_lit 99, nat_lit 0, nat_lit 0, []),
  (nat_lit 92, nat_lit 99, nat_lit 0, nat_lit 0, []),
  (nat_lit 93, nat_lit 99, nat_lit 0, nat_lit 0, []),
  (nat_lit 96, nat_lit 99, nat_lit 0, nat_lit 0, []),
  (nat_lit 98, nat_lit 99, nat_lit 0, nat_lit 0, []),
  (nat_lit 99, nat_lit 99, nat_lit 0, nat_lit 0, []),
  (nat_lit 102, nat_lit 99, nat_lit 0, nat_lit 0, []),
  (nat_lit 104, nat_lit 99, nat_lit 0, nat_lit 0, []),
  (nat_lit 105, nat_lit 99, nat_lit 0, nat_lit 0, []),
  (nat_lit 108, nat_lit 99, nat_lit 0, nat_lit 0, []),
  (nat_lit 110, nat_lit 99, nat_lit 0, nat_lit 0, []),
  (nat_lit 112, nat_lit 99, nat_lit 0, nat_lit 0, []),
  (nat_lit 113, nat_lit 99, nat_lit 0, nat_lit 0, []),
  (nat_lit 114, nat_lit 99, nat_lit 0, nat_lit 0, []),
  (nat_lit 116, nat_lit 99, nat_lit 0, nat_lit 0, []),
  (nat_lit 118, nat_lit 99, nat_lit 0, nat_lit 0, []),
  (nat_lit 119, nat_lit 99, nat_lit 0, nat_lit 0, []),
  (nat_lit 122, nat_lit 99, nat_lit 0, nat_lit 0, []),
  (nat_lit 123, nat_lit 99, nat_lit 0, nat_lit 0, []),
  (nat_lit 126, nat_lit 99, nat_lit 0, nat_lit 0, []),
  (nat_lit 128, nat_lit 99, nat_lit 0, nat_lit 0, []),
  (nat_lit 129, nat_lit 99, nat_lit 0, nat_lit 0, []),
  (nat_lit 130, nat_lit 99, nat_lit 0, nat_lit 0, []),
  (nat_lit 131, nat_lit 99, nat_lit 0, nat_lit 0, []),
  (nat_lit 132, nat_lit 99, nat_lit 0, nat_lit 0, []),
  (nat_lit 135, nat_lit 99, nat_lit 0, nat_lit 0, []),
  (nat_lit 137, nat_lit 99, nat_lit 0, nat_lit 0, []),
  (nat_lit 138, nat_lit 99, nat_lit 0, nat_lit 0, []),
  (nat_lit 141, nat_lit 99, nat_lit 0, nat_lit 0, []),
  (nat_lit 143, nat_lit 99, nat_lit 0, nat_lit 0, []),
  (nat_lit 144, nat_lit 99, nat_lit 0, nat_lit 0, []),
  (nat_lit 145, nat_lit 99, nat_lit 0, nat_lit 0, []),
  (nat_lit 146, nat_lit 99, nat_lit 0, nat_lit 0, []),
  (nat_lit 148, nat_lit 99, nat_lit 0, nat_lit 0, []),
  (nat_lit 149, nat_lit 99, nat_lit 0, nat_lit 0, []),
  (nat_lit 152, nat_lit 99, nat_lit 0, nat_lit 0, []),
  (nat_lit 155, nat_lit 99, nat_lit 0, nat_lit 0, []),
  (nat_lit 158, nat_lit 16, nat_lit 0, nat_lit 5, [])]
/-- SpeechKeeper$Merge.leastBack() -/
def zk_30 : List zE := [(nat_lit 0, nat_lit 1, nat_lit 0, nat_lit 0, [nat_lit 0, nat_lit 0, nat_lit 0]),
  (nat_lit 1, nat_lit 2, nat_lit 1, nat_lit 0, []),
  (nat_lit 2, nat_lit 1, nat_lit 0, nat_lit 0, [nat_lit 0, nat_lit 0, nat_lit 0]),
  (nat_lit 3, nat_lit 2, nat_lit 2, nat_lit 0, []),
  (nat_lit 4, nat_lit 1, nat_lit 0, nat_lit 0, [nat_lit 0, nat_lit 0, nat_lit 0]),
  (nat_lit 5, nat_lit 2, nat_lit 3, nat_lit 0, []),
  (nat_lit 6, nat_lit 0, nat_lit 3, nat_lit 0, []),
  (nat_lit 7, nat_lit 0, nat_lit 0, nat_lit 4, []),
  (nat_lit 8, nat_lit 8, nat_lit 3, nat_lit 0, []),
  (nat_lit 11, nat_lit 15, nat_lit 50, nat_lit 1, [nat_lit 0, nat_lit 7]),
  (nat_lit 14, nat_lit 6, nat_lit 98, nat_lit 3, []),
  (nat_lit 17, nat_lit 99, nat_lit 0, nat_lit 0, []),
  (nat_lit 18, nat_lit 99, nat_lit 0, nat_lit 0, []),
  (nat_lit 21, nat_lit 99, nat_lit 0, nat_lit 0, []),
  (nat_lit 22, nat_lit 99, nat_lit 0, nat_lit 0, []),
  (nat_lit 25, nat_lit 99, nat_lit 0, nat_lit 0, []),
  (nat_lit 26, nat_lit 99, nat_lit 0, nat_lit 0, []),
  (nat_lit 27, nat_lit 99, nat_lit 0, nat_lit 0, []),
  (nat_lit 30, nat_lit 99, nat_lit 0, nat_lit 0, []),
  (nat_lit 31, nat_lit 99, nat_lit 0, nat_lit 0, []),
  (nat_lit 34, nat_lit 99, nat_lit 0, nat_lit 0, []),
  (nat_lit 35, nat_lit 99, nat_lit 0, nat_lit 0, []),
  (nat_lit 38, nat_lit 99, nat_lit 0, nat_lit 0, []),
  (nat_lit 39, nat_lit 99, nat_lit 0, nat_lit 0, []),
  (nat_lit 42, nat_lit 99, nat_lit 0, nat_lit 0, []),
  (nat_lit 43, nat_lit 99, nat_lit 0, nat_lit 0, []),
  (nat_lit 45, nat_lit 99, nat_lit 0, nat_lit 0, []),
  (nat_lit 46, nat_lit 99, nat_lit 0, nat_lit 0, []),
  (nat_lit 48, nat_lit 99, nat_lit 0, nat_lit 0, []),
  (nat_lit 50, nat_lit 99, nat_lit 0, nat_lit 0, []),
  (nat_lit 51, nat_lit 99, nat_lit 0, nat_lit 0, []),
  (nat_lit 54, nat_lit 99, nat_lit 0, nat_lit 0, []),
  (nat_lit 57, nat_lit 99, nat_lit 0, nat_lit 0, []),
  (nat_lit 60, nat_lit 99, nat_lit 0, nat_lit 0, []),
  (nat_lit 62, nat_lit 99, nat_lit 0, nat_lit 0, []),
  (nat_lit 65, nat_lit 99, nat_lit 0, nat_lit 0, []),
  (nat_lit 66, nat_lit 99, nat_lit 0, nat_lit 0, []),
  (nat_lit 67, nat_lit 99, nat_lit 0, nat_lit 0, []),
  (nat_lit 69, nat_lit 99, nat_lit 0, nat_lit 0, []),
  (nat_lit 72, nat_lit 99, nat_lit 0, nat_lit 0, []),
  (nat_lit 75, nat_lit 99, nat_lit 0, nat_lit 0, []),
  (nat_lit 78, nat_lit 99, nat_lit 0, nat_lit 0, []),
  (nat_lit 80, nat_lit 99, nat_lit 0, nat_lit 0, []),
  (nat_lit 81, nat_lit 99, nat_lit 0, nat_lit 0, []),
  (nat_lit 82, nat_lit 99, nat_lit 0, nat_lit 0, []),
  (nat_lit 83, nat_lit 99, nat_lit 0, nat_lit 0, []),
  (nat_lit 86, nat_lit 99, nat_lit 0, nat_lit 0, []),
  (nat_lit 89, nat_lit 99, nat_lit 0, nat_lit 0, []),
  (nat_lit 92, nat_lit 99, nat_lit 0, nat_lit 0, []),
  (nat_lit 95, nat_lit 99, nat_lit 0, nat_lit 0, []),
  (nat_lit 98, nat_lit 0, nat_lit 1, nat_lit 0, []),
  (nat_lit 99, nat_lit 16, nat_lit 0, nat_lit 0, [])]
/-- SpeechKeeper$Reader.<init>() -/
def zk_31 : List zE := [(nat_lit 0, nat_lit 0, nat_lit 0, nat_lit 4, []),
  (nat_lit 1, nat_lit 26, nat_lit 0, nat_lit 0, []),
  (nat_lit 4, nat_lit 0, nat_lit 0, nat_lit 4, []),
  (nat_lit 5, nat_lit 1, nat_lit 0, nat_lit 0, [nat_lit 0, nat_lit 700, nat_lit 0]),
  (nat_lit 8, nat_lit 14, nat_lit 101, nat_lit 0, []),
  (nat_lit 10, nat_lit 9, nat_lit 4, nat_lit 0, [nat_lit 4]),
  (nat_lit 13, nat_lit 16, nat_lit 0, nat_lit 5, [])]
/-- SpeechKeeper$Reader.addFour(int) -/
def zk_32 : List zE := [(nat_lit 0, nat_lit 1, nat_lit 0, nat_lit 0, [nat_lit 0, nat_lit 24, nat_lit 0]),
  (nat_lit 2, nat_lit 2, nat_lit 2, nat_lit 0, []),
  (nat_lit 3, nat_lit 0, nat_lit 2, nat_lit 0, []),
  (nat_lit 4, nat_lit 5, nat_lit 44, nat_lit 2, []),
  (nat_lit 7, nat_lit 0, nat_lit 0, nat_lit 4, []),
  (nat_lit 8, nat_lit 1, nat_lit 0, nat_lit 0, [nat_lit 0, nat_lit 1, nat_lit 0]),
  (nat_lit 9, nat_lit 15, nat_lit 36, nat_lit 2, [nat_lit 0, nat_lit 4]),
  (nat_lit 12, nat_lit 5, nat_lit 44, nat_lit 0, []),
  (nat_lit 15, nat_lit 0, nat_lit 0, nat_lit 4, []),
  (nat_lit 16, nat_lit 8, nat_lit 4, nat_lit 0, []),
  (nat_lit 19, nat_lit 0, nat_lit 0, nat_lit 4, []),
  (nat_lit 20, nat_lit 8, nat_lit 4, nat_lit 1, []),
  (nat_lit 23, nat_lit 0, nat_lit 1, nat_lit 0, []),
  (nat_lit 24, nat_lit 0, nat_lit 2, nat_lit 0, []),
  (nat_lit 25, nat_lit 4, nat_lit 7, nat_lit 0, []),
  (nat_lit 26, nat_lit 20, nat_lit 2, nat_lit 0, []),
  (nat_lit 27, nat_lit 11, nat_lit 0, nat_lit 101, []),
  (nat_lit 28, nat_lit 0, nat_lit 0, nat_lit 4, []),
  (nat_lit 29, nat_lit 17, nat_lit 0, nat_lit 0, []),
  (nat_lit 30, nat_lit 8, nat_lit 4, nat_lit 1, []),
  (nat_lit 33, nat_lit 1, nat_lit 0, nat_lit 0, [nat_lit 0, nat_lit 1, nat_lit 0]),
  (nat_lit 34, nat_lit 4, nat_lit 0, nat_lit 0, []),
  (nat_lit 35, nat_lit 9, nat_lit 4, nat_lit 1, [nat_lit 0]),
  (nat_lit 38, nat_lit 3, nat_lit 2, nat_lit 0, [nat_lit 4294967288]),
  (nat_lit 41, nat_lit 7, nat_lit 3, nat_lit 0, []),
  (nat_lit 44, nat_lit 16, nat_lit 0, nat_lit 5, [])]
/-- SpeechKeeper$Reader.begin(int) -/
def zk_33 : List zE := [(nat_lit 0, nat_lit 0, nat_lit 0, nat_lit 4, []),
  (nat_lit 1, nat_lit 0, nat_lit 1, nat_lit 0, []),
  (nat_lit 2, nat_lit 0, nat_lit 0, nat_lit 4, []),
  (nat_lit 3, nat_lit 8, nat_lit 4, nat_lit 1, []),
  (nat_lit 6, nat_lit 27, nat_lit 1, nat_lit 0, [nat_lit 90, nat_lit 4]),
  (nat_lit 9, nat_lit 9, nat_lit 4, nat_lit 2, [nat_lit 0]),
  (nat_lit 12, nat_lit 0, nat_lit 0, nat_lit 4, []),
  (nat_lit 13, nat_lit 1, nat_lit 0, nat_lit 0, [nat_lit 0, nat_lit 0, nat_lit 0]),
  (nat_lit 14, nat_lit 9, nat_lit 4, nat_lit 3, [nat_lit 0]),
  (nat_lit 17, nat_lit 16, nat_lit 0, nat_lit 5, [])]
/-- SpeechKeeper$Reader.empty() -/
def zk_34 : List zE := [(nat_lit 0, nat_lit 0, nat_lit 0, nat_lit 4, []),
  (nat_lit 1, nat_lit 1, nat_lit 0, nat_lit 0, [nat_lit 0, nat_lit 0, nat_lit 0]),
  (nat_lit 2, nat_lit 9, nat_lit 4, nat_lit 1, [nat_lit 0]),
  (nat_lit 5, nat_lit 16, nat_lit 0, nat_lit 5, [])]
/-- SpeechKeeper$Reader.errorOf(int) -/
def zk_35 : List zE := [(nat_lit 0, nat_lit 1, nat_lit 0, nat_lit 0, [nat_lit 0, nat_lit 8, nat_lit 0]),
  (nat_lit 2, nat_lit 0, nat_lit 0, nat_lit 4, []),
  (nat_lit 3, nat_lit 8, nat_lit 4, nat_lit 5, []),
  (nat_lit 6, nat_lit 4, nat_lit 2, nat_lit 0, []),
  (nat_lit 7, nat_lit 0, nat_lit 1, nat_lit 0, []),
  (nat_lit 8, nat_lit 4, nat_lit 0, nat_lit 0, []),
  (nat_lit 9, nat_lit 16, nat_lit 0, nat_lit 0, [])]
/-- SpeechKeeper$Reader.hasRoom(int) -/
def zk_36 : List zE := [(nat_lit 0, nat_lit 0, nat_lit 0, nat_lit 4, []),
  (nat_lit 1, nat_lit 8, nat_lit 4, nat_lit 1, []),
  (nat_lit 4, nat_lit 0, nat_lit 1, nat_lit 0, []),
  (nat_lit 5, nat_lit 4, nat_lit 0, nat_lit 0, []),
  (nat_lit 6, nat_lit 0, nat_lit 0, nat_lit 4, []),
  (nat_lit 7, nat_lit 8, nat_lit 4, nat_lit 0, []),
  (nat_lit 10, nat_lit 12, nat_lit 0, nat_lit 0, []),
  (nat_lit 11, nat_lit 6, nat_lit 18, nat_lit 4, []),
  (nat_lit 14, nat_lit 1, nat_lit 0, nat_lit 0, [nat_lit 0, nat_lit 1, nat_lit 0]),
  (nat_lit 15, nat_lit 7, nat_lit 19, nat_lit 0, []),
  (nat_lit 18, nat_lit 99, nat_lit 0, nat_lit 0, []),
  (nat_lit 19, nat_lit 16, nat_lit 0, nat_lit 6, [])]
/-- SpeechKeeper$Reader.isKeyword(java.lang.String) -/
def zk_37 : List zE := [(nat_lit 0, nat_lit 0, nat_lit 0, nat_lit 4, []),
  (nat_lit 1, nat_lit 8, nat_lit 4, nat_lit 4, []),
  (nat_lit 4, nat_lit 1, nat_lit 0, nat_lit 0, [nat_lit 0, nat_lit 1, nat_lit 0]),
  (nat_lit 5, nat_lit 6, nat_lit 19, nat_lit 1, []),
  (nat_lit 8, nat_lit 99, nat_lit 0, nat_lit 0, []),
  (nat_lit 9, nat_lit 99, nat_lit 0, nat_lit 0, []),
  (nat_lit 12, nat_lit 99, nat_lit 0, nat_lit 0, []),
  (nat_lit 13, nat_lit 99, nat_lit 0, nat_lit 0, []),
  (nat_lit 16, nat_lit 99, nat_lit 0, nat_lit 0, []),
  (nat_lit 19, nat_lit 1, nat_lit 0, nat_lit 0, [nat_lit 0, nat_lit 0, nat_lit 0]),
  (nat_lit 20, nat_lit 16, nat_lit 0, nat_lit 6, []),
  (nat_lit 21, nat_lit 99, nat_lit 0, nat_lit 0, []),
  (nat_lit 22, nat_lit 99, nat_lit 0, nat_lit 0, []),
  (nat_lit 23, nat_lit 99, nat_lit 0, nat_lit 0, []),
  (nat_lit 24, nat_lit 99, nat_lit 0, nat_lit 0, []),
  (nat_lit 25, nat_lit 99, nat_lit 0, nat_lit 0, []),
  (nat_lit 28, nat_lit 99, nat_lit 0, nat_lit 0, []),
  (nat_lit 31, nat_lit 99, nat_lit 0, nat_lit 0, []),
  (nat_lit 32, nat_lit 99, nat_lit 0, nat_lit 0, []),
  (nat_lit 35, nat_lit 99, nat_lit 0, nat_lit 0, []),
  (nat_lit 36, nat_lit 99, nat_lit 0, nat_lit 0, []),
  (nat_lit 39, nat_lit 99, nat_lit 0, nat_lit 0, []),
  (nat_lit 40, nat_lit 99, nat_lit 0, nat_lit 0, []),
  (nat_lit 41, nat_lit 99, nat_lit 0, nat_lit 0, []),
  (nat_lit 44, nat_lit 99, nat_lit 0, nat_lit 0, []),
  (nat_lit 46, nat_lit 99, nat_lit 0, nat_lit 0, []),
  (nat_lit 47, nat_lit 99, nat_lit 0, nat_lit 0, []),
  (nat_lit 48, nat_lit 99, nat_lit 0, nat_lit 0, []),
  (nat_lit 49, nat_lit 99, nat_lit 0, nat_lit 0, []),
  (nat_lit 52, nat_lit 99, nat_lit 0, nat_lit 0, []),
  (nat_lit 53, nat_lit 99, nat_lit 0, nat_lit 0, []),
  (nat_lit 54, nat_lit 99, nat_lit 0, nat_lit 0, []),
  (nat_lit 57, nat_lit 99, nat_lit 0, nat_lit 0, []),
  (nat_lit 60, nat_lit 99, nat_lit 0, nat_lit 0, []),
  (nat_lit 61, nat_lit 99, nat_lit 0, nat_lit 0, [])]
/-- SpeechKeeper$Reader.length() -/
def zk_38 : List zE := [(nat_lit 0, nat_lit 0, nat_lit 0, nat_lit 4, []),
  (nat_lit 1, nat_lit 8, nat_lit 4, nat_lit 1, []),
  (nat_lit 4, nat_lit 16, nat_lit 0, nat_lit 0, [])]
/-- SpeechKeeper$Reader.nextToken() -/
def zk_39 : List zE := [(nat_lit 0, nat_lit 0, nat_lit 0, nat_lit 4, []),
  (nat_lit 1, nat_lit 8, nat_lit 4, nat_lit 3, []),
  (nat_lit 4, nat_lit 0, nat_lit 0, nat_lit 4, []),
  (nat_lit 5, nat_lit 8, nat_lit 4, nat_lit 2, []),
  (nat_lit 8, nat_lit 6, nat_lit 50, nat_lit 3, []),
  (nat_lit 11, nat_lit 99, nat_lit 0, nat_lit 0, []),
  (nat_lit 12, nat_lit 99, nat_lit 0, nat_lit 0, []),
  (nat_lit 13, nat_lit 99, nat_lit 0, nat_lit 0, []),
  (nat_lit 16, nat_lit 99, nat_lit 0, nat_lit 0, []),
  (nat_lit 19, nat_lit 99, nat_lit 0, nat_lit 0, []),
  (nat_lit 21, nat_lit 99, nat_lit 0, nat_lit 0, []),
  (nat_lit 24, nat_lit 99, nat_lit 0, nat_lit 0, []),
  (nat_lit 25, nat_lit 99, nat_lit 0, nat_lit 0, []),
  (nat_lit 26, nat_lit 99, nat_lit 0, nat_lit 0, []),
  (nat_lit 29, nat_lit 99, nat_lit 0, nat_lit 0, []),
  (nat_lit 32, nat_lit 99, nat_lit 0, nat_lit 0, []),
  (nat_lit 34, nat_lit 99, nat_lit 0, nat_lit 0, []),
  (nat_lit 37, nat_lit 99, nat_lit 0, nat_lit 0, []),
  (nat_lit 38, nat_lit 99, nat_lit 0, nat_lit 0, []),
  (nat_lit 39, nat_lit 99, nat_lit 0, nat_lit 0, []),
  (nat_lit 42, nat_lit 99, nat_lit 0, nat_lit 0, []),
  (nat_lit 43, nat_lit 99, nat_lit 0, nat_lit 0, []),
  (nat_lit 44, nat_lit 99, nat_lit 0, nat_lit 0, []),
  (nat_lit 47, nat_lit 99, nat_lit 0, nat_lit 0, []),
  (nat_lit 50, nat_lit 0, nat_lit 0, nat_lit 4, []),
  (nat_lit 51, nat_lit 0, nat_lit 0, nat_lit 4, []),
  (nat_lit 52, nat_lit 8, nat_lit 4, nat_lit 3, []),
  (nat_lit 55, nat_lit 9, nat_lit 4, nat_lit 5, [nat_lit 0]),
  (nat_lit 58, nat_lit 0, nat_lit 0, nat_lit 4, []),
  (nat_lit 59, nat_lit 8, nat_lit 4, nat_lit 3, []),
  (nat_lit 62, nat_lit 0, nat_lit 0, nat_lit 4, []),
  (nat_lit 63, nat_lit 8, nat_lit 4, nat_lit 2, []),
  (nat_lit 66, nat_lit 6, nat_lit 77, nat_lit 2, []),
  (nat_lit 69, nat_lit 0, nat_lit 0, nat_lit 4, []),
  (nat_lit 70, nat_lit 1, nat_lit 0, nat_lit 0, [nat_lit 0, nat_lit 0, nat_lit 0]),
  (nat_lit 71, nat_lit 9, nat_lit 4, nat_lit 4, [nat_lit 0]),
  (nat_lit 74, nat_lit 7, nat_lit 149, nat_lit 0, []),
  (nat_lit 77, nat_lit 99, nat_lit 0, nat_lit 0, []),
  (nat_lit 78, nat_lit 99, nat_lit 0, nat_lit 0, []),
  (nat_lit 79, nat_lit 99, nat_lit 0, nat_lit 0, []),
  (nat_lit 82, nat_lit 99, nat_lit 0, nat_lit 0, []),
  (nat_lit 85, nat_lit 99, nat_lit 0, nat_lit 0, []),
  (nat_lit 88, nat_lit 99, nat_lit 0, nat_lit 0, []),
  (nat_lit 89, nat_lit 99, nat_lit 0, nat_lit 0, []),
  (nat_lit 90, nat_lit 99, nat_lit 0, nat_lit 0, []),
  (nat_lit 93, nat_lit 99, nat_lit 0, nat_lit 0, []),
  (nat_lit 94, nat_lit 99, nat_lit 0, nat_lit 0, []),
  (nat_lit 97, nat_lit 99, nat_lit 0, nat_lit 0, []),
  (nat_lit 100, nat_lit 99, nat_lit 0, nat_lit 0, []),
  (nat_lit 101, nat_lit 99, nat_lit 0, nat_lit 0, []),
  (nat_lit 102, nat_lit 99, nat_lit 0, nat_lit 0, []),
  (nat_lit 103, nat_lit 99, nat_lit 0, nat_lit 0, []),
  (nat_lit 106, nat_lit 99, nat_lit 0, nat_lit 0, []),
  (nat_lit 109, nat_lit 99, nat_lit 0, nat_lit 0, []),
  (nat_lit 111, nat_lit 99, nat_lit 0, nat_lit 0, []),
  (nat_lit 114, nat_lit 99, nat_lit 0, nat_lit 0, []),
  (nat_lit 115, nat_lit 99, nat_lit 0, nat_lit 0, []),
  (nat_lit 118, nat_lit 99, nat_lit 0, nat_lit 0, []),
  (nat_lit 119, nat_lit 99, nat_lit 0, nat_lit 0, []),
  (nat_lit 120, nat_lit 99, nat_lit 0, nat_lit 0, []),
  (nat_lit 123, nat_lit 99, nat_lit 0, nat_lit 0, []),
  (nat_lit 126, nat_lit 99, nat_lit 0, nat_lit 0, []),
  (nat_lit 128, nat_lit 99, nat_lit 0, nat_lit 0, []),
  (nat_lit 131, nat_lit 99, nat_lit 0, nat_lit 0, []),
  (nat_lit 132, nat_lit 99, nat_lit 0, nat_lit 0, []),
  (nat_lit 135, nat_lit 99, nat_lit 0, nat_lit 0, []),
  (nat_lit 136, nat_lit 99, nat_lit 0, nat_lit 0, []),
  (nat_lit 139, nat_lit 99, nat_lit 0, nat_lit 0, []),
  (nat_lit 140, nat_lit 99, nat_lit 0, nat_lit 0, []),
  (nat_lit 141, nat_lit 99, nat_lit 0, nat_lit 0, []),
  (nat_lit 144, nat_lit 99, nat_lit 0, nat_lit 0, []),
  (nat_lit 145, nat_lit 99, nat_lit 0, nat_lit 0, []),
  (nat_lit 146, nat_lit 99, nat_lit 0, nat_lit 0, []),
  (nat_lit 149, nat_lit 16, nat_lit 0, nat_lit 5, [])]
/-- SpeechKeeper$Reader.readSetup(int, SpeechKeeper$State) -/
def zk_40 : List zE := [(nat_lit 0, nat_lit 0, nat_lit 0, nat_lit 4, []),
  (nat_lit 1, nat_lit 0, nat_lit 1, nat_lit 0, []),
  (nat_lit 2, nat_lit 15, nat_lit 33, nat_lit 2, [nat_lit 0, nat_lit 4]),
  (nat_lit 5, nat_lit 0, nat_lit 2, nat_lit 4, []),
  (nat_lit 6, nat_lit 1, nat_lit 0, nat_lit 0, [nat_lit 0, nat_lit 0, nat_lit 0]),
  (nat_lit 7, nat_lit 9, nat_lit 6, nat_lit 4, [nat_lit 0]),
  (nat_lit 10, nat_lit 0, nat_lit 2, nat_lit 4, []),
  (nat_lit 11, nat_lit 15, nat_lit 47, nat_lit 1, [nat_lit 0, nat_lit 6]),
  (nat_lit 14, nat_lit 0, nat_lit 0, nat_lit 4, []),
  (nat_lit 15, nat_lit 15, nat_lit 39, nat_lit 1, [nat_lit 0, nat_lit 4]),
  (nat_lit 18, nat_lit 0, nat_lit 0, nat_lit 4, []),
  (nat_lit 19, nat_lit 1, nat_lit 0, nat_lit 0, [nat_lit 9, nat_lit 0, nat_lit 0]),
  (nat_lit 21, nat_lit 15, nat_lit 37, nat_lit 2, [nat_lit 0, nat_lit 4]),
  (nat_lit 24, nat_lit 5, nat_lit 38, nat_lit 0, []),
  (nat_lit 27, nat_lit 99, nat_lit 0, nat_lit 0, []),
  (nat_lit 28, nat_lit 99, nat_lit 0, nat_lit 0, []),
  (nat_lit 29, nat_lit 99, nat_lit 0, nat_lit 0, []),
  (nat_lit 32, nat_lit 99, nat_lit 0, nat_lit 0, []),
  (nat_lit 35, nat_lit 99, nat_lit 0, nat_lit 0, []),
  (nat_lit 38, nat_lit 0, nat_lit 0, nat_lit 4, []),
  (nat_lit 39, nat_lit 1, nat_lit 0, nat_lit 0, [nat_lit 0, nat_lit 1, nat_lit 0]),
  (nat_lit 40, nat_lit 15, nat_lit 35, nat_lit 2, [nat_lit 0, nat_lit 4]),
  (nat_lit 43, nat_lit 2, nat_lit 3, nat_lit 0, []),
  (nat_lit 44, nat_lit 0, nat_lit 2, nat_lit 4, []),
  (nat_lit 45, nat_lit 8, nat_lit 6, nat_lit 1, []),
  (nat_lit 48, nat_lit 0, nat_lit 2, nat_lit 4, []),
  (nat_lit 49, nat_lit 8, nat_lit 6, nat_lit 0, []),
  (nat_lit 52, nat_lit 15, nat_lit 54, nat_lit 2, [nat_lit 0, nat_lit 8]),
  (nat_lit 55, nat_lit 0, nat_lit 2, nat_lit 4, []),
  (nat_lit 56, nat_lit 8, nat_lit 6, nat_lit 2, []),
  (nat_lit 59, nat_lit 0, nat_lit 2, nat_lit 4, []),
  (nat_lit 60, nat_lit 8, nat_lit 6, nat_lit 0, []),
  (nat_lit 63, nat_lit 15, nat_lit 54, nat_lit 2, [nat_lit 0, nat_lit 8]),
  (nat_lit 66, nat_lit 0, nat_lit 3, nat_lit 0, []),
  (nat_lit 67, nat_lit 1, nat_lit 0, nat_lit 0, [nat_lit 0, nat_lit 4294967295, nat_lit 0]),
  (nat_lit 68, nat_lit 6, nat_lit 89, nat_lit 1, []),
  (nat_lit 71, nat_lit 99, nat_lit 0, nat_lit 0, []),
  (nat_lit 72, nat_lit 99, nat_lit 0, nat_lit 0, []),
  (nat_lit 74, nat_lit 99, nat_lit 0, nat_lit 0, []),
  (nat_lit 77, nat_lit 99, nat_lit 0, nat_lit 0, []),
  (nat_lit 80, nat_lit 99, nat_lit 0, nat_lit 0, []),
  (nat_lit 81, nat_lit 99, nat_lit 0, nat_lit 0, []),
  (nat_lit 82, nat_lit 99, nat_lit 0, nat_lit 0, []),
  (nat_lit 85, nat_lit 99, nat_lit 0, nat_lit 0, []),
  (nat_lit 88, nat_lit 99, nat_lit 0, nat_lit 0, []),
  (nat_lit 89, nat_lit 0, nat_lit 3, nat_lit 0, []),
  (nat_lit 90, nat_lit 1, nat_lit 0, nat_lit 0, [nat_lit 0, nat_lit 4294967295, nat_lit 0]),
  (nat_lit 91, nat_lit 6, nat_lit 112, nat_lit 1, []),
  (nat_lit 94, nat_lit 99, nat_lit 0, nat_lit 0, []),
  (nat_lit 95, nat_lit 99, nat_lit 0, nat_lit 0, []),
  (nat_lit 97, nat_lit 99, nat_lit 0, nat_lit 0, []),
  (nat_lit 100, nat_lit 99, nat_lit 0, nat_lit 0, []),
  (nat_lit 103, nat_lit 99, nat_lit 0, nat_lit 0, []),
  (nat_lit 104, nat_lit 99, nat_lit 0, nat_lit 0, []),
  (nat_lit 105, nat_lit 99, nat_lit 0, nat_lit 0, []),
  (nat_lit 108, nat_lit 99, nat_lit 0, nat_lit 0, []),
  (nat_lit 111, nat_lit 99, nat_lit 0, nat_lit 0, []),
  (nat_lit 112, nat_lit 0, nat_lit 3, nat_lit 0, []),
  (nat_lit 113, nat_lit 1, nat_lit 0, nat_lit 0, [nat_lit 0, nat_lit 4294967295, nat_lit 0]),
  (nat_lit 114, nat_lit 6, nat_lit 132, nat_lit 1, []),
  (nat_lit 117, nat_lit 99, nat_lit 0, nat_lit 0, []),
  (nat_lit 118, nat_lit 99, nat_lit 0, nat_lit 0, []),
  (nat_lit 121, nat_lit 99, nat_lit 0, nat_lit 0, []),
  (nat_lit 124, nat_lit 99, nat_lit 0, nat_lit 0, []),
  (nat_lit 125, nat_lit 99, nat_lit 0, nat_lit 0, []),
  (nat_lit 126, nat_lit 99, nat_lit 0, nat_lit 0, []),
  (nat_lit 129, nat_lit 99, nat_lit 0, nat_lit 0, []),
  (nat_lit 132, nat_lit 0, nat_lit 3, nat_lit 0, []),
  (nat_lit 133, nat_lit 16, nat_lit 0, nat_lit 0, [])]
/-- SpeechKeeper$Shelf.<init>(int) -/
def zk_41 : List zE := [(nat_lit 0, nat_lit 0, nat_lit 0, nat_lit 4, []),
  (nat_lit 1, nat_lit 26, nat_lit 0, nat_lit 0, []),
  (nat_lit 4, nat_lit 0, nat_lit 1, nat_lit 0, []),
  (nat_lit 5, nat_lit 1, nat_lit 0, nat_lit 0, [nat_lit 0, nat_lit 1, nat_lit 0]),
  (nat_lit 6, nat_lit 27, nat_lit 0, nat_lit 0, [nat_lit 7, nat_lit 5]),
  (nat_lit 9, nat_lit 2, nat_lit 2, nat_lit 0, []),
  (nat_lit 10, nat_lit 0, nat_lit 0, nat_lit 4, []),
  (nat_lit 11, nat_lit 0, nat_lit 2, nat_lit 0, []),
  (nat_lit 12, nat_lit 14, nat_lit 105, nat_lit 0, []),
  (nat_lit 15, nat_lit 9, nat_lit 5, nat_lit 0, [nat_lit 4]),
  (nat_lit 18, nat_lit 0, nat_lit 0, nat_lit 4, []),
  (nat_lit 19, nat_lit 0, nat_lit 2, nat_lit 0, []),
  (nat_lit 20, nat_lit 14, nat_lit 102, nat_lit 0, []),
  (nat_lit 22, nat_lit 9, nat_lit 5, nat_lit 1, [nat_lit 4]),
  (nat_lit 25, nat_lit 1, nat_lit 0, nat_lit 0, [nat_lit 0, nat_lit 0, nat_lit 0]),
  (nat_lit 26, nat_lit 2, nat_lit 3, nat_lit 0, []),
  (nat_lit 27, nat_lit 0, nat_lit 3, nat_lit 0, []),
  (nat_lit 28, nat_lit 0, nat_lit 2, nat_lit 0, []),
  (nat_lit 29, nat_lit 6, nat_lit 51, nat_lit 3, []),
  (nat_lit 32, nat_lit 0, nat_lit 0, nat_lit 4, []),
  (nat_lit 33, nat_lit 8, nat_lit 5, nat_lit 0, []),
  (nat_lit 36, nat_lit 0, nat_lit 3, nat_lit 0, []),
  (nat_lit 37, nat_lit 13, nat_lit 6, nat_lit 0, []),
  (nat_lit 40, nat_lit 17, nat_lit 0, nat_lit 0, []),
  (nat_lit 41, nat_lit 15, nat_lit 44, nat_lit 1, [nat_lit 3, nat_lit 6]),
  (nat_lit 44, nat_lit 11, nat_lit 0, nat_lit 105, []),
  (nat_lit 45, nat_lit 3, nat_lit 3, nat_lit 0, [nat_lit 1]),
  (nat_lit 48, nat_lit 7, nat_lit 27, nat_lit 0, []),
  (nat_lit 51, nat_lit 16, nat_lit 0, nat_lit 5, [])]
/-- SpeechKeeper$Shelf.isFilled(int) -/
def zk_42 : List zE := [(nat_lit 0, nat_lit 0, nat_lit 1, nat_lit 0, []),
  (nat_lit 1, nat_lit 5, nat_lit 26, nat_lit 2, []),
  (nat_lit 4, nat_lit 0, nat_lit 1, nat_lit 0, []),
  (nat_lit 5, nat_lit 0, nat_lit 0, nat_lit 4, []),
  (nat_lit 6, nat_lit 8, nat_lit 5, nat_lit 1, []),
  (nat_lit 9, nat_lit 12, nat_lit 0, nat_lit 0, []),
  (nat_lit 10, nat_lit 6, nat_lit 26, nat_lit 3, []),
  (nat_lit 13, nat_lit 0, nat_lit 0, nat_lit 4, []),
  (nat_lit 14, nat_lit 8, nat_lit 5, nat_lit 1, []),
  (nat_lit 17, nat_lit 0, nat_lit 1, nat_lit 0, []),
  (nat_lit 18, nat_lit 10, nat_lit 0, nat_lit 101, []),
  (nat_lit 19, nat_lit 5, nat_lit 26, nat_lit 0, []),
  (nat_lit 22, nat_lit 99, nat_lit 0, nat_lit 0, []),
  (nat_lit 23, nat_lit 99, nat_lit 0, nat_lit 0, []),
  (nat_lit 26, nat_lit 1, nat_lit 0, nat_lit 0, [nat_lit 0, nat_lit 0, nat_lit 0]),
  (nat_lit 27, nat_lit 16, nat_lit 0, nat_lit 6, [])]
/-- SpeechKeeper$Shelf.put(int, SpeechKeeper$State) -/
def zk_43 : List zE := [(nat_lit 0, nat_lit 0, nat_lit 1, nat_lit 0, []),
  (nat_lit 1, nat_lit 5, nat_lit 39, nat_lit 2, []),
  (nat_lit 4, nat_lit 0, nat_lit 1, nat_lit 0, []),
  (nat_lit 5, nat_lit 0, nat_lit 0, nat_lit 4, []),
  (nat_lit 6, nat_lit 8, nat_lit 5, nat_lit 0, []),
  (nat_lit 9, nat_lit 12, nat_lit 0, nat_lit 0, []),
  (nat_lit 10, nat_lit 6, nat_lit 39, nat_lit 3, []),
  (nat_lit 13, nat_lit 0, nat_lit 0, nat_lit 4, []),
  (nat_lit 14, nat_lit 8, nat_lit 5, nat_lit 0, []),
  (nat_lit 17, nat_lit 0, nat_lit 1, nat_lit 0, []),
  (nat_lit 18, nat_lit 10, nat_lit 0, nat_lit 105, []),
  (nat_lit 19, nat_lit 23, nat_lit 39, nat_lit 0, []),
  (nat_lit 22, nat_lit 0, nat_lit 0, nat_lit 4, []),
  (nat_lit 23, nat_lit 8, nat_lit 5, nat_lit 0, []),
  (nat_lit 26, nat_lit 0, nat_lit 1, nat_lit 0, []),
  (nat_lit 27, nat_lit 10, nat_lit 0, nat_lit 105, []),
  (nat_lit 28, nat_lit 0, nat_lit 2, nat_lit 4, []),
  (nat_lit 29, nat_lit 15, nat_lit 45, nat_lit 2, [nat_lit 0, nat_lit 6]),
  (nat_lit 32, nat_lit 0, nat_lit 0, nat_lit 4, []),
  (nat_lit 33, nat_lit 8, nat_lit 5, nat_lit 1, []),
  (nat_lit 36, nat_lit 0, nat_lit 1, nat_lit 0, []),
  (nat_lit 37, nat_lit 1, nat_lit 0, nat_lit 0, [nat_lit 0, nat_lit 1, nat_lit 0]),
  (nat_lit 38, nat_lit 11, nat_lit 0, nat_lit 101, []),
  (nat_lit 39, nat_lit 16, nat_lit 0, nat_lit 5, [])]
/-- SpeechKeeper$State.<init>() -/
def zk_44 : List zE := [(nat_lit 0, nat_lit 0, nat_lit 0, nat_lit 4, []),
  (nat_lit 1, nat_lit 26, nat_lit 0, nat_lit 0, []),
  (nat_lit 4, nat_lit 0, nat_lit 0, nat_lit 4, []),
  (nat_lit 5, nat_lit 13, nat_lit 8, nat_lit 0, []),
  (nat_lit 8, nat_lit 17, nat_lit 0, nat_lit 0, []),
  (nat_lit 9, nat_lit 1, nat_lit 0, nat_lit 0, [nat_lit 0, nat_lit 20, nat_lit 0]),
  (nat_lit 11, nat_lit 15, nat_lit 51, nat_lit 2, [nat_lit 2, nat_lit 8]),
  (nat_lit 14, nat_lit 9, nat_lit 6, nat_lit 0, [nat_lit 4]),
  (nat_lit 17, nat_lit 0, nat_lit 0, nat_lit 4, []),
  (nat_lit 18, nat_lit 13, nat_lit 8, nat_lit 0, []),
  (nat_lit 21, nat_lit 17, nat_lit 0, nat_lit 0, []),
  (nat_lit 22, nat_lit 1, nat_lit 0, nat_lit 0, [nat_lit 0, nat_lit 20, nat_lit 0]),
  (nat_lit 24, nat_lit 15, nat_lit 51, nat_lit 2, [nat_lit 2, nat_lit 8]),
  (nat_lit 27, nat_lit 9, nat_lit 6, nat_lit 1, [nat_lit 4]),
  (nat_lit 30, nat_lit 0, nat_lit 0, nat_lit 4, []),
  (nat_lit 31, nat_lit 13, nat_lit 8, nat_lit 0, []),
  (nat_lit 34, nat_lit 17, nat_lit 0, nat_lit 0, []),
  (nat_lit 35, nat_lit 1, nat_lit 0, nat_lit 0, [nat_lit 0, nat_lit 20, nat_lit 0]),
  (nat_lit 37, nat_lit 15, nat_lit 51, nat_lit 2, [nat_lit 2, nat_lit 8]),
  (nat_lit 40, nat_lit 9, nat_lit 6, nat_lit 2, [nat_lit 4]),
  (nat_lit 43, nat_lit 0, nat_lit 0, nat_lit 4, []),
  (nat_lit 44, nat_lit 1, nat_lit 0, nat_lit 0, [nat_lit 0, nat_lit 42, nat_lit 0]),
  (nat_lit 46, nat_lit 14, nat_lit 100, nat_lit 0, []),
  (nat_lit 48, nat_lit 9, nat_lit 6, nat_lit 3, [nat_lit 4]),
  (nat_lit 51, nat_lit 16, nat_lit 0, nat_lit 5, [])]
/-- SpeechKeeper$State.copyFrom(SpeechKeeper$State) -/
def zk_45 : List zE := [(nat_lit 0, nat_lit 0, nat_lit 0, nat_lit 4, []),
  (nat_lit 1, nat_lit 8, nat_lit 6, nat_lit 0, []),
  (nat_lit 4, nat_lit 0, nat_lit 1, nat_lit 4, []),
  (nat_lit 5, nat_lit 8, nat_lit 6, nat_lit 0, []),
  (nat_lit 8, nat_lit 15, nat_lit 54, nat_lit 2, [nat_lit 0, nat_lit 8]),
  (nat_lit 11, nat_lit 0, nat_lit 0, nat_lit 4, []),
  (nat_lit 12, nat_lit 8, nat_lit 6, nat_lit 1, []),
  (nat_lit 15, nat_lit 0, nat_lit 1, nat_lit 4, []),
  (nat_lit 16, nat_lit 8, nat_lit 6, nat_lit 1, []),
  (nat_lit 19, nat_lit 15, nat_lit 54, nat_lit 2, [nat_lit 0, nat_lit 8]),
  (nat_lit 22, nat_lit 0, nat_lit 0, nat_lit 4, []),
  (nat_lit 23, nat_lit 8, nat_lit 6, nat_lit 2, []),
  (nat_lit 26, nat_lit 0, nat_lit 1, nat_lit 4, []),
  (nat_lit 27, nat_lit 8, nat_lit 6, nat_lit 2, []),
  (nat_lit 30, nat_lit 15, nat_lit 54, nat_lit 2, [nat_lit 0, nat_lit 8]),
  (nat_lit 33, nat_lit 0, nat_lit 1, nat_lit 4, []),
  (nat_lit 34, nat_lit 8, nat_lit 6, nat_lit 3, []),
  (nat_lit 37, nat_lit 1, nat_lit 0, nat_lit 0, [nat_lit 0, nat_lit 0, nat_lit 0]),
  (nat_lit 38, nat_lit 0, nat_lit 0, nat_lit 4, []),
  (nat_lit 39, nat_lit 8, nat_lit 6, nat_lit 3, []),
  (nat_lit 42, nat_lit 1, nat_lit 0, nat_lit 0, [nat_lit 0, nat_lit 0, nat_lit 0]),
  (nat_lit 43, nat_lit 1, nat_lit 0, nat_lit 0, [nat_lit 0, nat_lit 42, nat_lit 0]),
  (nat_lit 45, nat_lit 28, nat_lit 0, nat_lit 0, []),
  (nat_lit 48, nat_lit 0, nat_lit 0, nat_lit 4, []),
  (nat_lit 49, nat_lit 0, nat_lit 1, nat_lit 4, []),
  (nat_lit 50, nat_lit 8, nat_lit 6, nat_lit 4, []),
  (nat_lit 53, nat_lit 9, nat_lit 6, nat_lit 4, [nat_lit 0]),
  (nat_lit 56, nat_lit 16, nat_lit 0, nat_lit 5, [])]
/-- SpeechKeeper$State.draft(int) -/
def zk_46 : List zE := [(nat_lit 0, nat_lit 0, nat_lit 1, nat_lit 0, []),
  (nat_lit 1, nat_lit 5, nat_lit 11, nat_lit 1, []),
  (nat_lit 4, nat_lit 0, nat_lit 0, nat_lit 4, []),
  (nat_lit 5, nat_lit 8, nat_lit 6, nat_lit 1, []),
  (nat_lit 8, nat_lit 7, nat_lit 15, nat_lit 0, []),
  (nat_lit 11, nat_lit 0, nat_lit 0, nat_lit 4, []),
  (nat_lit 12, nat_lit 8, nat_lit 6, nat_lit 2, []),
  (nat_lit 15, nat_lit 16, nat_lit 0, nat_lit 4, [])]
/-- SpeechKeeper$State.openDecisions() -/
def zk_47 : List zE := [(nat_lit 0, nat_lit 0, nat_lit 0, nat_lit 4, []),
  (nat_lit 1, nat_lit 8, nat_lit 6, nat_lit 3, []),
  (nat_lit 4, nat_lit 1, nat_lit 0, nat_lit 0, [nat_lit 0, nat_lit 0, nat_lit 0]),
  (nat_lit 5, nat_lit 15, nat_lit 190, nat_lit 2, [nat_lit 1, nat_lit 99]),
  (nat_lit 8, nat_lit 16, nat_lit 0, nat_lit 5, [])]
/-- SpeechKeeper$Table.<init>(int, int) -/
def zk_48 : List zE := [(nat_lit 0, nat_lit 0, nat_lit 0, nat_lit 4, []),
  (nat_lit 1, nat_lit 26, nat_lit 0, nat_lit 0, []),
  (nat_lit 4, nat_lit 0, nat_lit 0, nat_lit 4, []),
  (nat_lit 5, nat_lit 0, nat_lit 2, nat_lit 0, []),
  (nat_lit 6, nat_lit 1, nat_lit 0, nat_lit 0, [nat_lit 0, nat_lit 1, nat_lit 0]),
  (nat_lit 7, nat_lit 27, nat_lit 0, nat_lit 0, [nat_lit 7, nat_lit 7]),
  (nat_lit 10, nat_lit 9, nat_lit 7, nat_lit 0, [nat_lit 0]),
  (nat_lit 13, nat_lit 0, nat_lit 0, nat_lit 4, []),
  (nat_lit 14, nat_lit 0, nat_lit 1, nat_lit 0, []),
  (nat_lit 15, nat_lit 1, nat_lit 0, nat_lit 0, [nat_lit 0, nat_lit 1, nat_lit 0]),
  (nat_lit 16, nat_lit 27, nat_lit 0, nat_lit 0, [nat_lit 7, nat_lit 7]),
  (nat_lit 19, nat_lit 0, nat_lit 0, nat_lit 4, []),
  (nat_lit 20, nat_lit 8, nat_lit 7, nat_lit 0, []),
  (nat_lit 23, nat_lit 4, nat_lit 2, nat_lit 0, []),
  (nat_lit 24, nat_lit 14, nat_lit 100, nat_lit 0, []),
  (nat_lit 26, nat_lit 9, nat_lit 7, nat_lit 1, [nat_lit 4]),
  (nat_lit 29, nat_lit 16, nat_lit 0, nat_lit 5, [])]
/-- SpeechKeeper$Table.clear() -/
def zk_49 : List zE := [(nat_lit 0, nat_lit 0, nat_lit 0, nat_lit 4, []),
  (nat_lit 1, nat_lit 1, nat_lit 0, nat_lit 0, [nat_lit 0, nat_lit 0, nat_lit 0]),
  (nat_lit 2, nat_lit 9, nat_lit 7, nat_lit 2, [nat_lit 0]),
  (nat_lit 5, nat_lit 16, nat_lit 0, nat_lit 5, [])]
/-- SpeechKeeper$Table.rows() -/
def zk_50 : List zE := [(nat_lit 0, nat_lit 0, nat_lit 0, nat_lit 4, []),
  (nat_lit 1, nat_lit 8, nat_lit 7, nat_lit 2, []),
  (nat_lit 4, nat_lit 16, nat_lit 0, nat_lit 0, [])]
/-- SpeechKeeper$Text.<init>(int) -/
def zk_51 : List zE := [(nat_lit 0, nat_lit 0, nat_lit 0, nat_lit 4, []),
  (nat_lit 1, nat_lit 26, nat_lit 0, nat_lit 0, []),
  (nat_lit 4, nat_lit 0, nat_lit 1, nat_lit 0, []),
  (nat_lit 5, nat_lit 1, nat_lit 0, nat_lit 0, [nat_lit 0, nat_lit 1, nat_lit 0]),
  (nat_lit 6, nat_lit 27, nat_lit 0, nat_lit 0, [nat_lit 9, nat_lit 8]),
  (nat_lit 9, nat_lit 2, nat_lit 2, nat_lit 0, []),
  (nat_lit 10, nat_lit 0, nat_lit 0, nat_lit 4, []),
  (nat_lit 11, nat_lit 0, nat_lit 2, nat_lit 0, []),
  (nat_lit 12, nat_lit 1, nat_lit 0, nat_lit 0, [nat_lit 0, nat_lit 8, nat_lit 0]),
  (nat_lit 14, nat_lit 4, nat_lit 2, nat_lit 0, []),
  (nat_lit 15, nat_lit 14, nat_lit 103, nat_lit 0, []),
  (nat_lit 17, nat_lit 9, nat_lit 8, nat_lit 0, [nat_lit 4]),
  (nat_lit 20, nat_lit 0, nat_lit 0, nat_lit 4, []),
  (nat_lit 21, nat_lit 0, nat_lit 2, nat_lit 0, []),
  (nat_lit 22, nat_lit 1, nat_lit 0, nat_lit 0, [nat_lit 0, nat_lit 8, nat_lit 0]),
  (nat_lit 24, nat_lit 4, nat_lit 2, nat_lit 0, []),
  (nat_lit 25, nat_lit 14, nat_lit 100, nat_lit 0, []),
  (nat_lit 27, nat_lit 9, nat_lit 8, nat_lit 1, [nat_lit 4]),
  (nat_lit 30, nat_lit 0, nat_lit 0, nat_lit 4, []),
  (nat_lit 31, nat_lit 0, nat_lit 2, nat_lit 0, []),
  (nat_lit 32, nat_lit 14, nat_lit 100, nat_lit 0, []),
  (nat_lit 34, nat_lit 9, nat_lit 8, nat_lit 2, [nat_lit 4]),
  (nat_lit 37, nat_lit 16, nat_lit 0, nat_lit 5, [])]
/-- SpeechKeeper$Text.addLines(SpeechKeeper$Text, int, int) -/
def zk_52 : List zE := [(nat_lit 0, nat_lit 0, nat_lit 2, nat_lit 0, []),
  (nat_lit 1, nat_lit 2, nat_lit 4, nat_lit 0, []),
  (nat_lit 3, nat_lit 0, nat_lit 4, nat_lit 0, []),
  (nat_lit 5, nat_lit 0, nat_lit 3, nat_lit 0, []),
  (nat_lit 6, nat_lit 6, nat_lit 50, nat_lit 3, []),
  (nat_lit 9, nat_lit 99, nat_lit 0, nat_lit 0, []),
  (nat_lit 10, nat_lit 99, nat_lit 0, nat_lit 0, []),
  (nat_lit 13, nat_lit 99, nat_lit 0, nat_lit 0, []),
  (nat_lit 14, nat_lit 99, nat_lit 0, nat_lit 0, []),
  (nat_lit 17, nat_lit 99, nat_lit 0, nat_lit 0, []),
  (nat_lit 18, nat_lit 99, nat_lit 0, nat_lit 0, []),
  (nat_lit 21, nat_lit 99, nat_lit 0, nat_lit 0, []),
  (nat_lit 22, nat_lit 99, nat_lit 0, nat_lit 0, []),
  (nat_lit 23, nat_lit 99, nat_lit 0, nat_lit 0, []),
  (nat_lit 26, nat_lit 99, nat_lit 0, nat_lit 0, []),
  (nat_lit 27, nat_lit 99, nat_lit 0, nat_lit 0, []),
  (nat_lit 28, nat_lit 99, nat_lit 0, nat_lit 0, []),
  (nat_lit 31, nat_lit 99, nat_lit 0, nat_lit 0, []),
  (nat_lit 32, nat_lit 99, nat_lit 0, nat_lit 0, []),
  (nat_lit 33, nat_lit 99, nat_lit 0, nat_lit 0, []),
  (nat_lit 36, nat_lit 99, nat_lit 0, nat_lit 0, []),
  (nat_lit 37, nat_lit 99, nat_lit 0, nat_lit 0, []),
  (nat_lit 38, nat_lit 99, nat_lit 0, nat_lit 0, []),
  (nat_lit 39, nat_lit 99, nat_lit 0, nat_lit 0, []),
  (nat_lit 41, nat_lit 99, nat_lit 0, nat_lit 0, []),
  (nat_lit 44, nat_lit 99, nat_lit 0, nat_lit 0, []),
  (nat_lit 47, nat_lit 99, nat_lit 0, nat_lit 0, []),
  (nat_lit 50, nat_lit 16, nat_lit 0, nat_lit 5, [])]
/-- SpeechKeeper$Text.clear() -/
def zk_53 : List zE := [(nat_lit 0, nat_lit 0, nat_lit 0, nat_lit 4, []),
  (nat_lit 1, nat_lit 1, nat_lit 0, nat_lit 0, [nat_lit 0, nat_lit 0, nat_lit 0]),
  (nat_lit 2, nat_lit 9, nat_lit 8, nat_lit 3, [nat_lit 0]),
  (nat_lit 5, nat_lit 16, nat_lit 0, nat_lit 5, [])]
/-- SpeechKeeper$Text.copyFrom(SpeechKeeper$Text) -/
def zk_54 : List zE := [(nat_lit 0, nat_lit 0, nat_lit 0, nat_lit 4, []),
  (nat_lit 1, nat_lit 0, nat_lit 1, nat_lit 4, []),
  (nat_lit 2, nat_lit 8, nat_lit 8, nat_lit 3, []),
  (nat_lit 5, nat_lit 0, nat_lit 0, nat_lit 4, []),
  (nat_lit 6, nat_lit 8, nat_lit 8, nat_lit 2, []),
  (nat_lit 9, nat_lit 12, nat_lit 0, nat_lit 0, []),
  (nat_lit 10, nat_lit 27, nat_lit 1, nat_lit 0, [nat_lit 44, nat_lit 8]),
  (nat_lit 13, nat_lit 9, nat_lit 8, nat_lit 3, [nat_lit 0]),
  (nat_lit 16, nat_lit 0, nat_lit 1, nat_lit 4, []),
  (nat_lit 17, nat_lit 8, nat_lit 8, nat_lit 0, []),
  (nat_lit 20, nat_lit 1, nat_lit 0, nat_lit 0, [nat_lit 0, nat_lit 0, nat_lit 0]),
  (nat_lit 21, nat_lit 0, nat_lit 0, nat_lit 4, []),
  (nat_lit 22, nat_lit 8, nat_lit 8, nat_lit 0, []),
  (nat_lit 25, nat_lit 1, nat_lit 0, nat_lit 0, [nat_lit 0, nat_lit 0, nat_lit 0]),
  (nat_lit 26, nat_lit 0, nat_lit 0, nat_lit 4, []),
  (nat_lit 27, nat_lit 8, nat_lit 8, nat_lit 3, []),
  (nat_lit 30, nat_lit 1, nat_lit 0, nat_lit 0, [nat_lit 0, nat_lit 8, nat_lit 0]),
  (nat_lit 32, nat_lit 4, nat_lit 2, nat_lit 0, []),
  (nat_lit 33, nat_lit 28, nat_lit 0, nat_lit 0, []),
  (nat_lit 36, nat_lit 0, nat_lit 1, nat_lit 4, []),
  (nat_lit 37, nat_lit 8, nat_lit 8, nat_lit 1, []),
  (nat_lit 40, nat_lit 1, nat_lit 0, nat_lit 0, [nat_lit 0, nat_lit 0, nat_lit 0]),
  (nat_lit 41, nat_lit 0, nat_lit 0, nat_lit 4, []),
  (nat_lit 42, nat_lit 8, nat_lit 8, nat_lit 1, []),
  (nat_lit 45, nat_lit 1, nat_lit 0, nat_lit 0, [nat_lit 0, nat_lit 0, nat_lit 0]),
  (nat_lit 46, nat_lit 0, nat_lit 0, nat_lit 4, []),
  (nat_lit 47, nat_lit 8, nat_lit 8, nat_lit 3, []),
  (nat_lit 50, nat_lit 1, nat_lit 0, nat_lit 0, [nat_lit 0, nat_lit 8, nat_lit 0]),
  (nat_lit 52, nat_lit 4, nat_lit 2, nat_lit 0, []),
  (nat_lit 53, nat_lit 28, nat_lit 0, nat_lit 0, []),
  (nat_lit 56, nat_lit 0, nat_lit 1, nat_lit 4, []),
  (nat_lit 57, nat_lit 8, nat_lit 8, nat_lit 2, []),
  (nat_lit 60, nat_lit 1, nat_lit 0, nat_lit 0, [nat_lit 0, nat_lit 0, nat_lit 0]),
  (nat_lit 61, nat_lit 0, nat_lit 0, nat_lit 4, []),
  (nat_lit 62, nat_lit 8, nat_lit 8, nat_lit 2, []),
  (nat_lit 65, nat_lit 1, nat_lit 0, nat_lit 0, [nat_lit 0, nat_lit 0, nat_lit 0]),
  (nat_lit 66, nat_lit 0, nat_lit 0, nat_lit 4, []),
  (nat_lit 67, nat_lit 8, nat_lit 8, nat_lit 3, []),
  (nat_lit 70, nat_lit 28, nat_lit 0, nat_lit 0, []),
  (nat_lit 73, nat_lit 16, nat_lit 0, nat_lit 5, [])]
/-- SpeechKeeper$Text.lines() -/
def zk_55 : List zE := [(nat_lit 0, nat_lit 0, nat_lit 0, nat_lit 4, []),
  (nat_lit 1, nat_lit 8, nat_lit 8, nat_lit 3, []),
  (nat_lit 4, nat_lit 16, nat_lit 0, nat_lit 0, [])]
/-- SpeechKeeper$Text.wordsIn(int, int) -/
def zk_56 : List zE := [(nat_lit 0, nat_lit 1, nat_lit 0, nat_lit 0, [nat_lit 0, nat_lit 0, nat_lit 0]),
  (nat_lit 1, nat_lit 2, nat_lit 3, nat_lit 0, []),
  (nat_lit 2, nat_lit 0, nat_lit 1, nat_lit 0, []),
  (nat_lit 3, nat_lit 1, nat_lit 0, nat_lit 0, [nat_lit 0, nat_lit 0, nat_lit 0]),
  (nat_lit 4, nat_lit 27, nat_lit 0, nat_lit 0, [nat_lit 9, nat_lit 8]),
  (nat_lit 7, nat_lit 2, nat_lit 4, nat_lit 0, []),
  (nat_lit 9, nat_lit 0, nat_lit 4, nat_lit 0, []),
  (nat_lit 11, nat_lit 0, nat_lit 2, nat_lit 0, []),
  (nat_lit 12, nat_lit 0, nat_lit 0, nat_lit 4, []),
  (nat_lit 13, nat_lit 8, nat_lit 8, nat_lit 3, []),
  (nat_lit 16, nat_lit 27, nat_lit 1, nat_lit 0, [nat_lit 44, nat_lit 8]),
  (nat_lit 19, nat_lit 6, nat_lit 38, nat_lit 3, []),
  (nat_lit 22, nat_lit 99, nat_lit 0, nat_lit 0, []),
  (nat_lit 23, nat_lit 99, nat_lit 0, nat_lit 0, []),
  (nat_lit 24, nat_lit 99, nat_lit 0, nat_lit 0, []),
  (nat_lit 27, nat_lit 99, nat_lit 0, nat_lit 0, []),
  (nat_lit 29, nat_lit 99, nat_lit 0, nat_lit 0, []),
  (nat_lit 30, nat_lit 99, nat_lit 0, nat_lit 0, []),
  (nat_lit 31, nat_lit 99, nat_lit 0, nat_lit 0, []),
  (nat_lit 32, nat_lit 99, nat_lit 0, nat_lit 0, []),
  (nat_lit 35, nat_lit 99, nat_lit 0, nat_lit 0, []),
  (nat_lit 38, nat_lit 0, nat_lit 3, nat_lit 0, []),
  (nat_lit 39, nat_lit 16, nat_lit 0, nat_lit 0, [])]
/-- SpeechKeeper.<init>() -/
def zk_57 : List zE := [(nat_lit 0, nat_lit 0, nat_lit 0, nat_lit 4, []),
  (nat_lit 1, nat_lit 26, nat_lit 0, nat_lit 0, []),
  (nat_lit 4, nat_lit 0, nat_lit 0, nat_lit 4, []),
  (nat_lit 5, nat_lit 13, nat_lit 4, nat_lit 0, []),
  (nat_lit 8, nat_lit 17, nat_lit 0, nat_lit 0, []),
  (nat_lit 9, nat_lit 15, nat_lit 31, nat_lit 1, [nat_lit 3, nat_lit 4]),
  (nat_lit 12, nat_lit 9, nat_lit 9, nat_lit 0, [nat_lit 4]),
  (nat_lit 15, nat_lit 0, nat_lit 0, nat_lit 4, []),
  (nat_lit 16, nat_lit 13, nat_lit 6, nat_lit 0, []),
  (nat_lit 19, nat_lit 17, nat_lit 0, nat_lit 0, []),
  (nat_lit 20, nat_lit 15, nat_lit 44, nat_lit 1, [nat_lit 3, nat_lit 6]),
  (nat_lit 23, nat_lit 9, nat_lit 9, nat_lit 1, [nat_lit 4]),
  (nat_lit 26, nat_lit 0, nat_lit 0, nat_lit 4, []),
  (nat_lit 27, nat_lit 13, nat_lit 6, nat_lit 0, []),
  (nat_lit 30, nat_lit 17, nat_lit 0, nat_lit 0, []),
  (nat_lit 31, nat_lit 15, nat_lit 44, nat_lit 1, [nat_lit 3, nat_lit 6]),
  (nat_lit 34, nat_lit 9, nat_lit 9, nat_lit 2, [nat_lit 4]),
  (nat_lit 37, nat_lit 0, nat_lit 0, nat_lit 4, []),
  (nat_lit 38, nat_lit 13, nat_lit 8, nat_lit 0, []),
  (nat_lit 41, nat_lit 17, nat_lit 0, nat_lit 0, []),
  (nat_lit 42, nat_lit 1, nat_lit 0, nat_lit 0, [nat_lit 0, nat_lit 1, nat_lit 0]),
  (nat_lit 43, nat_lit 15, nat_lit 51, nat_lit 2, [nat_lit 2, nat_lit 8]),
  (nat_lit 46, nat_lit 9, nat_lit 9, nat_lit 3, [nat_lit 4]),
  (nat_lit 49, nat_lit 0, nat_lit 0, nat_lit 4, []),
  (nat_lit 50, nat_lit 13, nat_lit 0, nat_lit 0, []),
  (nat_lit 53, nat_lit 17, nat_lit 0, nat_lit 0, []),
  (nat_lit 54, nat_lit 15, nat_lit 6, nat_lit 1, [nat_lit 3, nat_lit 0]),
  (nat_lit 57, nat_lit 9, nat_lit 9, nat_lit 4, [nat_lit 4]),
  (nat_lit 60, nat_lit 0, nat_lit 0, nat_lit 4, []),
  (nat_lit 61, nat_lit 13, nat_lit 5, nat_lit 0, []),
  (nat_lit 64, nat_lit 17, nat_lit 0, nat_lit 0, []),
  (nat_lit 65, nat_lit 1, nat_lit 0, nat_lit 0, [nat_lit 0, nat_lit 2, nat_lit 0]),
  (nat_lit 66, nat_lit 15, nat_lit 41, nat_lit 2, [nat_lit 2, nat_lit 5]),
  (nat_lit 69, nat_lit 9, nat_lit 9, nat_lit 5, [nat_lit 4]),
  (nat_lit 72, nat_lit 0, nat_lit 0, nat_lit 4, []),
  (nat_lit 73, nat_lit 13, nat_lit 2, nat_lit 0, []),
  (nat_lit 76, nat_lit 17, nat_lit 0, nat_lit 0, []),
  (nat_lit 77, nat_lit 15, nat_lit 15, nat_lit 1, [nat_lit 3, nat_lit 2]),
  (nat_lit 80, nat_lit 9, nat_lit 9, nat_lit 6, [nat_lit 4]),
  (nat_lit 83, nat_lit 0, nat_lit 0, nat_lit 4, []),
  (nat_lit 84, nat_lit 13, nat_lit 3, nat_lit 0, []),
  (nat_lit 87, nat_lit 17, nat_lit 0, nat_lit 0, []),
  (nat_lit 88, nat_lit 0, nat_lit 0, nat_lit 4, []),
  (nat_lit 89, nat_lit 8, nat_lit 9, nat_lit 6, []),
  (nat_lit 92, nat_lit 15, nat_lit 22, nat_lit 2, [nat_lit 2, nat_lit 3]),
  (nat_lit 95, nat_lit 9, nat_lit 9, nat_lit 7, [nat_lit 4]),
  (nat_lit 98, nat_lit 0, nat_lit 0, nat_lit 4, []),
  (nat_lit 99, nat_lit 13, nat_lit 3, nat_lit 0, []),
  (nat_lit 102, nat_lit 17, nat_lit 0, nat_lit 0, []),
  (nat_lit 103, nat_lit 0, nat_lit 0, nat_lit 4, []),
  (nat_lit 104, nat_lit 8, nat_lit 9, nat_lit 6, []),
  (nat_lit 107, nat_lit 15, nat_lit 22, nat_lit 2, [nat_lit 2, nat_lit 3]),
  (nat_lit 110, nat_lit 9, nat_lit 9, nat_lit 8, [nat_lit 4]),
  (nat_lit 113, nat_lit 0, nat_lit 0, nat_lit 4, []),
  (nat_lit 114, nat_lit 13, nat_lit 1, nat_lit 0, []),
  (nat_lit 117, nat_lit 17, nat_lit 0, nat_lit 0, []),
  (nat_lit 118, nat_lit 0, nat_lit 0, nat_lit 4, []),
  (nat_lit 119, nat_lit 8, nat_lit 9, nat_lit 1, []),
  (nat_lit 122, nat_lit 0, nat_lit 0, nat_lit 4, []),
  (nat_lit 123, nat_lit 8, nat_lit 9, nat_lit 7, []),
  (nat_lit 126, nat_lit 0, nat_lit 0, nat_lit 4, []),
  (nat_lit 127, nat_lit 8, nat_lit 9, nat_lit 6, []),
  (nat_lit 130, nat_lit 15, nat_lit 9, nat_lit 4, [nat_lit 2, nat_lit 1]),
  (nat_lit 133, nat_lit 9, nat_lit 9, nat_lit 9, [nat_lit 4]),
  (nat_lit 136, nat_lit 0, nat_lit 0, nat_lit 4, []),
  (nat_lit 137, nat_lit 1, nat_lit 0, nat_lit 0, [nat_lit 0, nat_lit 4800, nat_lit 0]),
  (nat_lit 140, nat_lit 14, nat_lit 101, nat_lit 0, []),
  (nat_lit 142, nat_lit 9, nat_lit 9, nat_lit 10, [nat_lit 4]),
  (nat_lit 145, nat_lit 16, nat_lit 0, nat_lit 5, [])]
/-- SpeechKeeper.adopt(int) -/
def zk_58 : List zE := [(nat_lit 0, nat_lit 0, nat_lit 1, nat_lit 0, []),
  (nat_lit 1, nat_lit 15, nat_lit 84, nat_lit 1, [nat_lit 1, nat_lit 9]),
  (nat_lit 4, nat_lit 0, nat_lit 0, nat_lit 4, []),
  (nat_lit 5, nat_lit 15, nat_lit 91, nat_lit 1, [nat_lit 0, nat_lit 9]),
  (nat_lit 8, nat_lit 0, nat_lit 0, nat_lit 4, []),
  (nat_lit 9, nat_lit 8, nat_lit 9, nat_lit 1, []),
  (nat_lit 12, nat_lit 0, nat_lit 1, nat_lit 0, []),
  (nat_lit 13, nat_lit 15, nat_lit 46, nat_lit 2, [nat_lit 0, nat_lit 6]),
  (nat_lit 16, nat_lit 0, nat_lit 0, nat_lit 4, []),
  (nat_lit 17, nat_lit 8, nat_lit 9, nat_lit 1, []),
  (nat_lit 20, nat_lit 1, nat_lit 0, nat_lit 0, [nat_lit 0, nat_lit 1, nat_lit 0]),
  (nat_lit 21, nat_lit 0, nat_lit 1, nat_lit 0, []),
  (nat_lit 22, nat_lit 4, nat_lit 1, nat_lit 0, []),
  (nat_lit 23, nat_lit 15, nat_lit 46, nat_lit 2, [nat_lit 0, nat_lit 6]),
  (nat_lit 26, nat_lit 15, nat_lit 54, nat_lit 2, [nat_lit 0, nat_lit 8]),
  (nat_lit 29, nat_lit 0, nat_lit 0, nat_lit 4, []),
  (nat_lit 30, nat_lit 15, nat_lit 78, nat_lit 1, [nat_lit 0, nat_lit 9]),
  (nat_lit 33, nat_lit 0, nat_lit 1, nat_lit 0, []),
  (nat_lit 34, nat_lit 15, nat_lit 25, nat_lit 2, [nat_lit 0, nat_lit 3]),
  (nat_lit 37, nat_lit 15, nat_lit 50, nat_lit 1, [nat_lit 0, nat_lit 7]),
  (nat_lit 40, nat_lit 16, nat_lit 0, nat_lit 0, [])]
/-- SpeechKeeper.append(int, int, int, int, int) -/
def zk_59 : List zE := [(nat_lit 0, nat_lit 0, nat_lit 0, nat_lit 4, []),
  (nat_lit 1, nat_lit 8, nat_lit 9, nat_lit 0, []),
  (nat_lit 4, nat_lit 1, nat_lit 0, nat_lit 0, [nat_lit 0, nat_lit 20, nat_lit 0]),
  (nat_lit 6, nat_lit 15, nat_lit 36, nat_lit 2, [nat_lit 0, nat_lit 4]),
  (nat_lit 9, nat_lit 5, nat_lit 14, nat_lit 1, []),
  (nat_lit 12, nat_lit 99, nat_lit 0, nat_lit 0, []),
  (nat_lit 13, nat_lit 99, nat_lit 0, nat_lit 0, []),
  (nat_lit 14, nat_lit 0, nat_lit 0, nat_lit 4, []),
  (nat_lit 15, nat_lit 8, nat_lit 9, nat_lit 0, []),
  (nat_lit 18, nat_lit 0, nat_lit 1, nat_lit 0, []),
  (nat_lit 19, nat_lit 15, nat_lit 32, nat_lit 2, [nat_lit 0, nat_lit 4]),
  (nat_lit 22, nat_lit 0, nat_lit 0, nat_lit 4, []),
  (nat_lit 23, nat_lit 8, nat_lit 9, nat_lit 0, []),
  (nat_lit 26, nat_lit 0, nat_lit 2, nat_lit 0, []),
  (nat_lit 27, nat_lit 15, nat_lit 32, nat_lit 2, [nat_lit 0, nat_lit 4]),
  (nat_lit 30, nat_lit 0, nat_lit 0, nat_lit 4, []),
  (nat_lit 31, nat_lit 8, nat_lit 9, nat_lit 0, []),
  (nat_lit 34, nat_lit 0, nat_lit 3, nat_lit 0, []),
  (nat_lit 35, nat_lit 15, nat_lit 32, nat_lit 2, [nat_lit 0, nat_lit 4]),
  (nat_lit 38, nat_lit 0, nat_lit 0, nat_lit 4, []),
  (nat_lit 39, nat_lit 8, nat_lit 9, nat_lit 0, []),
  (nat_lit 42, nat_lit 0, nat_lit 4, nat_lit 0, []),
  (nat_lit 44, nat_lit 15, nat_lit 32, nat_lit 2, [nat_lit 0, nat_lit 4]),
  (nat_lit 47, nat_lit 0, nat_lit 0, nat_lit 4, []),
  (nat_lit 48, nat_lit 8, nat_lit 9, nat_lit 0, []),
  (nat_lit 51, nat_lit 0, nat_lit 5, nat_lit 0, []),
  (nat_lit 53, nat_lit 15, nat_lit 32, nat_lit 2, [nat_lit 0, nat_lit 4]),
  (nat_lit 56, nat_lit 0, nat_lit 0, nat_lit 4, []),
  (nat_lit 57, nat_lit 8, nat_lit 9, nat_lit 0, []),
  (nat_lit 60, nat_lit 15, nat_lit 38, nat_lit 1, [nat_lit 0, nat_lit 4]),
  (nat_lit 63, nat_lit 16, nat_lit 0, nat_lit 0, [])]
/-- SpeechKeeper.author(boolean, int, int) -/
def zk_60 : List zE := [(nat_lit 0, nat_lit 0, nat_lit 0, nat_lit 4, []),
  (nat_lit 1, nat_lit 0, nat_lit 1, nat_lit 0, []),
  (nat_lit 2, nat_lit 5, nat_lit 9, nat_lit 0, []),
  (nat_lit 5, nat_lit 1, nat_lit 0, nat_lit 0, [nat_lit 0, nat_lit 3, nat_lit 0]),
  (nat_lit 6, nat_lit 7, nat_lit 10, nat_lit 0, []),
  (nat_lit 9, nat_lit 1, nat_lit 0, nat_lit 0, [nat_lit 0, nat_lit 0, nat_lit 0]),
  (nat_lit 10, nat_lit 15, nat_lit 102, nat_lit 2, [nat_lit 0, nat_lit 9]),
  (nat_lit 13, nat_lit 2, nat_lit 4, nat_lit 4, []),
  (nat_lit 15, nat_lit 0, nat_lit 2, nat_lit 0, []),
  (nat_lit 16, nat_lit 0, nat_lit 4, nat_lit 4, []),
  (nat_lit 18, nat_lit 15, nat_lit 55, nat_lit 1, [nat_lit 0, nat_lit 8]),
  (nat_lit 21, nat_lit 15, nat_lit 81, nat_lit 2, [nat_lit 1, nat_lit 9]),
  (nat_lit 24, nat_lit 99, nat_lit 0, nat_lit 0, []),
  (nat_lit 25, nat_lit 99, nat_lit 0, nat_lit 0, []),
  (nat_lit 27, nat_lit 99, nat_lit 0, nat_lit 0, []),
  (nat_lit 28, nat_lit 99, nat_lit 0, nat_lit 0, []),
  (nat_lit 31, nat_lit 99, nat_lit 0, nat_lit 0, []),
  (nat_lit 34, nat_lit 99, nat_lit 0, nat_lit 0, []),
  (nat_lit 36, nat_lit 99, nat_lit 0, nat_lit 0, []),
  (nat_lit 37, nat_lit 99, nat_lit 0, nat_lit 0, []),
  (nat_lit 38, nat_lit 99, nat_lit 0, nat_lit 0, []),
  (nat_lit 41, nat_lit 99, nat_lit 0, nat_lit 0, [])]
/-- SpeechKeeper.block(int, int) -/
def zk_61 : List zE := [(nat_lit 0, nat_lit 0, nat_lit 1, nat_lit 0, []),
  (nat_lit 1, nat_lit 0, nat_lit 0, nat_lit 4, []),
  (nat_lit 2, nat_lit 15, nat_lit 78, nat_lit 1, [nat_lit 0, nat_lit 9]),
  (nat_lit 5, nat_lit 8, nat_lit 3, nat_lit 2, []),
  (nat_lit 8, nat_lit 15, nat_lit 50, nat_lit 1, [nat_lit 0, nat_lit 7]),
  (nat_lit 11, nat_lit 15, nat_lit 81, nat_lit 2, [nat_lit 1, nat_lit 9]),
  (nat_lit 14, nat_lit 99, nat_lit 0, nat_lit 0, []),
  (nat_lit 15, nat_lit 99, nat_lit 0, nat_lit 0, []),
  (nat_lit 16, nat_lit 99, nat_lit 0, nat_lit 0, []),
  (nat_lit 18, nat_lit 99, nat_lit 0, nat_lit 0, []),
  (nat_lit 21, nat_lit 99, nat_lit 0, nat_lit 0, []),
  (nat_lit 22, nat_lit 99, nat_lit 0, nat_lit 0, []),
  (nat_lit 23, nat_lit 99, nat_lit 0, nat_lit 0, []),
  (nat_lit 24, nat_lit 99, nat_lit 0, nat_lit 0, []),
  (nat_lit 27, nat_lit 99, nat_lit 0, nat_lit 0, [])]
/-- SpeechKeeper.change(int, int, int) -/
def zk_62 : List zE := [(nat_lit 0, nat_lit 0, nat_lit 1, nat_lit 0, []),
  (nat_lit 1, nat_lit 15, nat_lit 84, nat_lit 1, [nat_lit 1, nat_lit 9]),
  (nat_lit 4, nat_lit 0, nat_lit 0, nat_lit 4, []),
  (nat_lit 5, nat_lit 15, nat_lit 78, nat_lit 1, [nat_lit 0, nat_lit 9]),
  (nat_lit 8, nat_lit 0, nat_lit 1, nat_lit 0, []),
  (nat_lit 9, nat_lit 15, nat_lit 25, nat_lit 2, [nat_lit 0, nat_lit 3]),
  (nat_lit 12, nat_lit 2, nat_lit 4, nat_lit 4, []),
  (nat_lit 14, nat_lit 0, nat_lit 2, nat_lit 0, []),
  (nat_lit 15, nat_lit 0, nat_lit 4, nat_lit 4, []),
  (nat_lit 17, nat_lit 15, nat_lit 50, nat_lit 1, [nat_lit 0, nat_lit 7]),
  (nat_lit 20, nat_lit 15, nat_lit 81, nat_lit 2, [nat_lit 1, nat_lit 9]),
  (nat_lit 23, nat_lit 99, nat_lit 0, nat_lit 0, []),
  (nat_lit 24, nat_lit 99, nat_lit 0, nat_lit 0, []),
  (nat_lit 25, nat_lit 99, nat_lit 0, nat_lit 0, []),
  (nat_lit 26, nat_lit 99, nat_lit 0, nat_lit 0, []),
  (nat_lit 29, nat_lit 99, nat_lit 0, nat_lit 0, []),
  (nat_lit 31, nat_lit 99, nat_lit 0, nat_lit 0, []),
  (nat_lit 32, nat_lit 99, nat_lit 0, nat_lit 0, []),
  (nat_lit 33, nat_lit 99, nat_lit 0, nat_lit 0, []),
  (nat_lit 36, nat_lit 99, nat_lit 0, nat_lit 0, [])]
/-- SpeechKeeper.checksum() -/
def zk_63 : List zE := [(nat_lit 0, nat_lit 1, nat_lit 0, nat_lit 0, [nat_lit 2, nat_lit 0, nat_lit 0]),
  (nat_lit 1, nat_lit 2, nat_lit 1, nat_lit 1, []),
  (nat_lit 2, nat_lit 1, nat_lit 0, nat_lit 0, [nat_lit 0, nat_lit 0, nat_lit 0]),
  (nat_lit 3, nat_lit 2, nat_lit 3, nat_lit 0, []),
  (nat_lit 4, nat_lit 0, nat_lit 3, nat_lit 0, []),
  (nat_lit 5, nat_lit 1, nat_lit 0, nat_lit 0, [nat_lit 0, nat_lit 10, nat_lit 0]),
  (nat_lit 7, nat_lit 6, nat_lit 29, nat_lit 4, []),
  (nat_lit 10, nat_lit 1, nat_lit 0, nat_lit 0, [nat_lit 2, nat_lit 31, nat_lit 0]),
  (nat_lit 13, nat_lit 0, nat_lit 1, nat_lit 1, []),
  (nat_lit 14, nat_lit 4, nat_lit 11, nat_lit 0, []),
  (nat_lit 15, nat_lit 0, nat_lit 0, nat_lit 4, []),
  (nat_lit 16, nat_lit 0, nat_lit 3, nat_lit 0, []),
  (nat_lit 17, nat_lit 15, nat_lit 85, nat_lit 2, [nat_lit 0, nat_lit 9]),
  (nat_lit 20, nat_lit 20, nat_lit 0, nat_lit 0, []),
  (nat_lit 21, nat_lit 4, nat_lit 10, nat_lit 0, []),
  (nat_lit 22, nat_lit 2, nat_lit 1, nat_lit 1, []),
  (nat_lit 23, nat_lit 3, nat_lit 3, nat_lit 0, [nat_lit 1]),
  (nat_lit 26, nat_lit 7, nat_lit 4, nat_lit 0, []),
  (nat_lit 29, nat_lit 1, nat_lit 0, nat_lit 0, [nat_lit 0, nat_lit 0, nat_lit 0]),
  (nat_lit 30, nat_lit 2, nat_lit 3, nat_lit 0, []),
  (nat_lit 31, nat_lit 0, nat_lit 3, nat_lit 0, []),
  (nat_lit 32, nat_lit 1, nat_lit 0, nat_lit 0, [nat_lit 0, nat_lit 3, nat_lit 0]),
  (nat_lit 33, nat_lit 6, nat_lit 56, nat_lit 4, []),
  (nat_lit 36, nat_lit 0, nat_lit 1, nat_lit 1, []),
  (nat_lit 37, nat_lit 0, nat_lit 0, nat_lit 4, []),
  (nat_lit 38, nat_lit 0, nat_lit 3, nat_lit 0, []),
  (nat_lit 39, nat_lit 15, nat_lit 102, nat_lit 2, [nat_lit 0, nat_lit 9]),
  (nat_lit 42, nat_lit 0, nat_lit 3, nat_lit 0, []),
  (nat_lit 43, nat_lit 15, nat_lit 71, nat_lit 1, [nat_lit 1, nat_lit 9]),
  (nat_lit 46, nat_lit 15, nat_lit 100, nat_lit 3, [nat_lit 1, nat_lit 9]),
  (nat_lit 49, nat_lit 2, nat_lit 1, nat_lit 1, []),
  (nat_lit 50, nat_lit 3, nat_lit 3, nat_lit 0, [nat_lit 1]),
  (nat_lit 53, nat_lit 7, nat_lit 31, nat_lit 0, []),
  (nat_lit 56, nat_lit 1, nat_lit 0, nat_lit 0, [nat_lit 0, nat_lit 0, nat_lit 0]),
  (nat_lit 57, nat_lit 2, nat_lit 3, nat_lit 0, []),
  (nat_lit 58, nat_lit 0, nat_lit 3, nat_lit 0, []),
  (nat_lit 59, nat_lit 0, nat_lit 0, nat_lit 4, []),
  (nat_lit 60, nat_lit 15, nat_lit 78, nat_lit 1, [nat_lit 0, nat_lit 9]),
  (nat_lit 63, nat_lit 8, nat_lit 3, nat_lit 2, []),
  (nat_lit 66, nat_lit 15, nat_lit 50, nat_lit 1, [nat_lit 0, nat_lit 7]),
  (nat_lit 69, nat_lit 6, nat_lit 109, nat_lit 3, []),
  (nat_lit 72, nat_lit 99, nat_lit 0, nat_lit 0, []),
  (nat_lit 73, nat_lit 99, nat_lit 0, nat_lit 0, []),
  (nat_lit 75, nat_lit 99, nat_lit 0, nat_lit 0, []),
  (nat_lit 77, nat_lit 99, nat_lit 0, nat_lit 0, []),
  (nat_lit 79, nat_lit 99, nat_lit 0, nat_lit 0, []),
  (nat_lit 82, nat_lit 99, nat_lit 0, nat_lit 0, []),
  (nat_lit 85, nat_lit 99, nat_lit 0, nat_lit 0, []),
  (nat_lit 86, nat_lit 99, nat_lit 0, nat_lit 0, []),
  (nat_lit 87, nat_lit 99, nat_lit 0, nat_lit 0, []),
  (nat_lit 88, nat_lit 99, nat_lit 0, nat_lit 0, []),
  (nat_lit 89, nat_lit 99, nat_lit 0, nat_lit 0, []),
  (nat_lit 91, nat_lit 99, nat_lit 0, nat_lit 0, []),
  (nat_lit 94, nat_lit 99, nat_lit 0, nat_lit 0, []),
  (nat_lit 95, nat_lit 99, nat_lit 0, nat_lit 0, []),
  (nat_lit 96, nat_lit 99, nat_lit 0, nat_lit 0, []),
  (nat_lit 97, nat_lit 99, nat_lit 0, nat_lit 0, []),
  (nat_lit 100, nat_lit 99, nat_lit 0, nat_lit 0, []),
  (nat_lit 103, nat_lit 99, nat_lit 0, nat_lit 0, []),
  (nat_lit 106, nat_lit 99, nat_lit 0, nat_lit 0, []),
  (nat_lit 109, nat_lit 0, nat_lit 1, nat_lit 1, []),
  (nat_lit 110, nat_lit 16, nat_lit 0, nat_lit 1, [])]
/-- SpeechKeeper.common(int, int, int, int) -/
def zk_64 : List zE := [(nat_lit 0, nat_lit 0, nat_lit 1, nat_lit 0, []),
  (nat_lit 1, nat_lit 15, nat_lit 82, nat_lit 1, [nat_lit 1, nat_lit 9]),
  (nat_lit 4, nat_lit 0, nat_lit 3, nat_lit 0, []),
  (nat_lit 5, nat_lit 15, nat_lit 82, nat_lit 1, [nat_lit 1, nat_lit 9]),
  (nat_lit 8, nat_lit 0, nat_lit 2, nat_lit 0, []),
  (nat_lit 9, nat_lit 1, nat_lit 0, nat_lit 0, [nat_lit 0, nat_lit 4294967295, nat_lit 0]),
  (nat_lit 10, nat_lit 6, nat_lit 17, nat_lit 1, []),
  (nat_lit 13, nat_lit 1, nat_lit 0, nat_lit 0, [nat_lit 0, nat_lit 1, nat_lit 0]),
  (nat_lit 14, nat_lit 7, nat_lit 18, nat_lit 0, []),
  (nat_lit 17, nat_lit 1, nat_lit 0, nat_lit 0, [nat_lit 0, nat_lit 0, nat_lit 0]),
  (nat_lit 18, nat_lit 0, nat_lit 4, nat_lit 0, []),
  (nat_lit 20, nat_lit 1, nat_lit 0, nat_lit 0, [nat_lit 0, nat_lit 4294967295, nat_lit 0]),
  (nat_lit 21, nat_lit 6, nat_lit 28, nat_lit 1, []),
  (nat_lit 24, nat_lit 1, nat_lit 0, nat_lit 0, [nat_lit 0, nat_lit 1, nat_lit 0]),
  (nat_lit 25, nat_lit 7, nat_lit 29, nat_lit 0, []),
  (nat_lit 28, nat_lit 1, nat_lit 0, nat_lit 0, [nat_lit 0, nat_lit 0, nat_lit 0]),
  (nat_lit 29, nat_lit 6, nat_lit 42, nat_lit 0, []),
  (nat_lit 32, nat_lit 25, nat_lit 0, nat_lit 0, []),
  (nat_lit 35, nat_lit 99, nat_lit 0, nat_lit 0, []),
  (nat_lit 36, nat_lit 99, nat_lit 0, nat_lit 0, []),
  (nat_lit 38, nat_lit 99, nat_lit 0, nat_lit 0, []),
  (nat_lit 41, nat_lit 99, nat_lit 0, nat_lit 0, []),
  (nat_lit 42, nat_lit 0, nat_lit 0, nat_lit 4, []),
  (nat_lit 43, nat_lit 0, nat_lit 1, nat_lit 0, []),
  (nat_lit 44, nat_lit 15, nat_lit 102, nat_lit 2, [nat_lit 0, nat_lit 9]),
  (nat_lit 47, nat_lit 2, nat_lit 5, nat_lit 4, []),
  (nat_lit 49, nat_lit 0, nat_lit 0, nat_lit 4, []),
  (nat_lit 50, nat_lit 0, nat_lit 3, nat_lit 0, []),
  (nat_lit 51, nat_lit 15, nat_lit 102, nat_lit 2, [nat_lit 0, nat_lit 9]),
  (nat_lit 54, nat_lit 2, nat_lit 6, nat_lit 4, []),
  (nat_lit 56, nat_lit 0, nat_lit 2, nat_lit 0, []),
  (nat_lit 57, nat_lit 1, nat_lit 0, nat_lit 0, [nat_lit 0, nat_lit 4294967295, nat_lit 0]),
  (nat_lit 58, nat_lit 6, nat_lit 75, nat_lit 1, []),
  (nat_lit 61, nat_lit 0, nat_lit 0, nat_lit 4, []),
  (nat_lit 62, nat_lit 8, nat_lit 9, nat_lit 6, []),
  (nat_lit 65, nat_lit 0, nat_lit 5, nat_lit 4, []),
  (nat_lit 67, nat_lit 0, nat_lit 6, nat_lit 4, []),
  (nat_lit 69, nat_lit 15, nat_lit 21, nat_lit 3, [nat_lit 0, nat_lit 2]),
  (nat_lit 72, nat_lit 7, nat_lit 129, nat_lit 0, []),
  (nat_lit 75, nat_lit 0, nat_lit 2, nat_lit 0, []),
  (nat_lit 76, nat_lit 0, nat_lit 5, nat_lit 4, []),
  (nat_lit 78, nat_lit 15, nat_lit 55, nat_lit 1, [nat_lit 0, nat_lit 8]),
  (nat_lit 81, nat_lit 15, nat_lit 81, nat_lit 2, [nat_lit 1, nat_lit 9]),
  (nat_lit 84, nat_lit 99, nat_lit 0, nat_lit 0, []),
  (nat_lit 86, nat_lit 99, nat_lit 0, nat_lit 0, []),
  (nat_lit 88, nat_lit 99, nat_lit 0, nat_lit 0, []),
  (nat_lit 91, nat_lit 99, nat_lit 0, nat_lit 0, []),
  (nat_lit 94, nat_lit 99, nat_lit 0, nat_lit 0, []),
  (nat_lit 95, nat_lit 99, nat_lit 0, nat_lit 0, []),
  (nat_lit 98, nat_lit 99, nat_lit 0, nat_lit 0, []),
  (nat_lit 101, nat_lit 99, nat_lit 0, nat_lit 0, []),
  (nat_lit 102, nat_lit 99, nat_lit 0, nat_lit 0, []),
  (nat_lit 105, nat_lit 99, nat_lit 0, nat_lit 0, []),
  (nat_lit 107, nat_lit 99, nat_lit 0, nat_lit 0, []),
  (nat_lit 108, nat_lit 99, nat_lit 0, nat_lit 0, []),
  (nat_lit 109, nat_lit 99, nat_lit 0, nat_lit 0, []),
  (nat_lit 110, nat_lit 99, nat_lit 0, nat_lit 0, []),
  (nat_lit 111, nat_lit 99, nat_lit 0, nat_lit 0, []),
  (nat_lit 114, nat_lit 99, nat_lit 0, nat_lit 0, []),
  (nat_lit 115, nat_lit 99, nat_lit 0, nat_lit 0, []),
  (nat_lit 118, nat_lit 99, nat_lit 0, nat_lit 0, []),
  (nat_lit 120, nat_lit 99, nat_lit 0, nat_lit 0, []),
  (nat_lit 122, nat_lit 99, nat_lit 0, nat_lit 0, []),
  (nat_lit 124, nat_lit 99, nat_lit 0, nat_lit 0, []),
  (nat_lit 125, nat_lit 99, nat_lit 0, nat_lit 0, []),
  (nat_lit 126, nat_lit 99, nat_lit 0, nat_lit 0, []),
  (nat_lit 129, nat_lit 0, nat_lit 0, nat_lit 4, []),
  (nat_lit 130, nat_lit 8, nat_lit 9, nat_lit 6, []),
  (nat_lit 133, nat_lit 15, nat_lit 18, nat_lit 1, [nat_lit 0, nat_lit 2]),
  (nat_lit 136, nat_lit 0, nat_lit 0, nat_lit 4, []),
  (nat_lit 137, nat_lit 8, nat_lit 9, nat_lit 6, []),
  (nat_lit 140, nat_lit 15, nat_lit 19, nat_lit 1, [nat_lit 0, nat_lit 2]),
  (nat_lit 143, nat_lit 16, nat_lit 0, nat_lit 0, [])]
/-- SpeechKeeper.decide(int, int) -/
def zk_65 : List zE := [(nat_lit 0, nat_lit 0, nat_lit 1, nat_lit 0, []),
  (nat_lit 1, nat_lit 0, nat_lit 0, nat_lit 4, []),
  (nat_lit 2, nat_lit 15, nat_lit 78, nat_lit 1, [nat_lit 0, nat_lit 9]),
  (nat_lit 5, nat_lit 8, nat_lit 3, nat_lit 2, []),
  (nat_lit 8, nat_lit 15, nat_lit 50, nat_lit 1, [nat_lit 0, nat_lit 7]),
  (nat_lit 11, nat_lit 15, nat_lit 81, nat_lit 2, [nat_lit 1, nat_lit 9]),
  (nat_lit 14, nat_lit 99, nat_lit 0, nat_lit 0, []),
  (nat_lit 15, nat_lit 99, nat_lit 0, nat_lit 0, []),
  (nat_lit 16, nat_lit 99, nat_lit 0, nat_lit 0, []),
  (nat_lit 17, nat_lit 99, nat_lit 0, nat_lit 0, []),
  (nat_lit 20, nat_lit 99, nat_lit 0, nat_lit 0, []),
  (nat_lit 21, nat_lit 99, nat_lit 0, nat_lit 0, []),
  (nat_lit 24, nat_lit 99, nat_lit 0, nat_lit 0, []),
  (nat_lit 27, nat_lit 99, nat_lit 0, nat_lit 0, []),
  (nat_lit 28, nat_lit 99, nat_lit 0, nat_lit 0, []),
  (nat_lit 29, nat_lit 99, nat_lit 0, nat_lit 0, []),
  (nat_lit 32, nat_lit 99, nat_lit 0, nat_lit 0, []),
  (nat_lit 33, nat_lit 99, nat_lit 0, nat_lit 0, []),
  (nat_lit 36, nat_lit 99, nat_lit 0, nat_lit 0, []),
  (nat_lit 37, nat_lit 99, nat_lit 0, nat_lit 0, []),
  (nat_lit 40, nat_lit 99, nat_lit 0, nat_lit 0, []),
  (nat_lit 41, nat_lit 99, nat_lit 0, nat_lit 0, []),
  (nat_lit 42, nat_lit 99, nat_lit 0, nat_lit 0, []),
  (nat_lit 45, nat_lit 99, nat_lit 0, nat_lit 0, []),
  (nat_lit 47, nat_lit 99, nat_lit 0, nat_lit 0, []),
  (nat_lit 50, nat_lit 99, nat_lit 0, nat_lit 0, []),
  (nat_lit 51, nat_lit 99, nat_lit 0, nat_lit 0, []),
  (nat_lit 52, nat_lit 99, nat_lit 0, nat_lit 0, []),
  (nat_lit 53, nat_lit 99, nat_lit 0, nat_lit 0, []),
  (nat_lit 56, nat_lit 99, nat_lit 0, nat_lit 0, []),
  (nat_lit 57, nat_lit 99, nat_lit 0, nat_lit 0, []),
  (nat_lit 60, nat_lit 99, nat_lit 0, nat_lit 0, []),
  (nat_lit 61, nat_lit 99, nat_lit 0, nat_lit 0, []),
  (nat_lit 62, nat_lit 99, nat_lit 0, nat_lit 0, []),
  (nat_lit 65, nat_lit 99, nat_lit 0, nat_lit 0, []),
  (nat_lit 66, nat_lit 99, nat_lit 0, nat_lit 0, []),
  (nat_lit 69, nat_lit 99, nat_lit 0, nat_lit 0, []),
  (nat_lit 72, nat_lit 99, nat_lit 0, nat_lit 0, []),
  (nat_lit 73, nat_lit 99, nat_lit 0, nat_lit 0, []),
  (nat_lit 76, nat_lit 99, nat_lit 0, nat_lit 0, []),
  (nat_lit 77, nat_lit 99, nat_lit 0, nat_lit 0, []),
  (nat_lit 78, nat_lit 99, nat_lit 0, nat_lit 0, []),
  (nat_lit 81, nat_lit 99, nat_lit 0, nat_lit 0, []),
  (nat_lit 82, nat_lit 99, nat_lit 0, nat_lit 0, []),
  (nat_lit 83, nat_lit 99, nat_lit 0, nat_lit 0, []),
  (nat_lit 86, nat_lit 99, nat_lit 0, nat_lit 0, []),
  (nat_lit 87, nat_lit 99, nat_lit 0, nat_lit 0, [])]
/-- SpeechKeeper.delete(int, int) -/
def zk_66 : List zE := [(nat_lit 0, nat_lit 0, nat_lit 1, nat_lit 0, []),
  (nat_lit 1, nat_lit 15, nat_lit 84, nat_lit 1, [nat_lit 1, nat_lit 9]),
  (nat_lit 4, nat_lit 0, nat_lit 0, nat_lit 4, []),
  (nat_lit 5, nat_lit 8, nat_lit 9, nat_lit 1, []),
  (nat_lit 8, nat_lit 0, nat_lit 1, nat_lit 0, []),
  (nat_lit 9, nat_lit 15, nat_lit 46, nat_lit 2, [nat_lit 0, nat_lit 6]),
  (nat_lit 12, nat_lit 2, nat_lit 3, nat_lit 4, []),
  (nat_lit 13, nat_lit 0, nat_lit 2, nat_lit 0, []),
  (nat_lit 14, nat_lit 0, nat_lit 3, nat_lit 4, []),
  (nat_lit 15, nat_lit 15, nat_lit 55, nat_lit 1, [nat_lit 0, nat_lit 8]),
  (nat_lit 18, nat_lit 15, nat_lit 81, nat_lit 2, [nat_lit 1, nat_lit 9]),
  (nat_lit 21, nat_lit 99, nat_lit 0, nat_lit 0, []),
  (nat_lit 22, nat_lit 99, nat_lit 0, nat_lit 0, []),
  (nat_lit 25, nat_lit 99, nat_lit 0, nat_lit 0, []),
  (nat_lit 26, nat_lit 99, nat_lit 0, nat_lit 0, []),
  (nat_lit 27, nat_lit 99, nat_lit 0, nat_lit 0, []),
  (nat_lit 30, nat_lit 99, nat_lit 0, nat_lit 0, []),
  (nat_lit 31, nat_lit 99, nat_lit 0, nat_lit 0, []),
  (nat_lit 34, nat_lit 99, nat_lit 0, nat_lit 0, [])]
/-- SpeechKeeper.deleteWord(int, int, int) -/
def zk_67 : List zE := [(nat_lit 0, nat_lit 0, nat_lit 1, nat_lit 0, []),
  (nat_lit 1, nat_lit 15, nat_lit 84, nat_lit 1, [nat_lit 1, nat_lit 9]),
  (nat_lit 4, nat_lit 0, nat_lit 0, nat_lit 4, []),
  (nat_lit 5, nat_lit 8, nat_lit 9, nat_lit 1, []),
  (nat_lit 8, nat_lit 0, nat_lit 1, nat_lit 0, []),
  (nat_lit 9, nat_lit 15, nat_lit 46, nat_lit 2, [nat_lit 0, nat_lit 6]),
  (nat_lit 12, nat_lit 2, nat_lit 4, nat_lit 4, []),
  (nat_lit 14, nat_lit 0, nat_lit 2, nat_lit 0, []),
  (nat_lit 15, nat_lit 0, nat_lit 4, nat_lit 4, []),
  (nat_lit 17, nat_lit 15, nat_lit 55, nat_lit 1, [nat_lit 0, nat_lit 8]),
  (nat_lit 20, nat_lit 15, nat_lit 81, nat_lit 2, [nat_lit 1, nat_lit 9]),
  (nat_lit 23, nat_lit 99, nat_lit 0, nat_lit 0, []),
  (nat_lit 24, nat_lit 99, nat_lit 0, nat_lit 0, []),
  (nat_lit 26, nat_lit 99, nat_lit 0, nat_lit 0, []),
  (nat_lit 27, nat_lit 99, nat_lit 0, nat_lit 0, []),
  (nat_lit 30, nat_lit 99, nat_lit 0, nat_lit 0, []),
  (nat_lit 33, nat_lit 99, nat_lit 0, nat_lit 0, []),
  (nat_lit 34, nat_lit 99, nat_lit 0, nat_lit 0, []),
  (nat_lit 37, nat_lit 99, nat_lit 0, nat_lit 0, []),
  (nat_lit 39, nat_lit 99, nat_lit 0, nat_lit 0, []),
  (nat_lit 40, nat_lit 99, nat_lit 0, nat_lit 0, []),
  (nat_lit 41, nat_lit 99, nat_lit 0, nat_lit 0, []),
  (nat_lit 44, nat_lit 99, nat_lit 0, nat_lit 0, []),
  (nat_lit 46, nat_lit 99, nat_lit 0, nat_lit 0, []),
  (nat_lit 47, nat_lit 99, nat_lit 0, nat_lit 0, []),
  (nat_lit 50, nat_lit 99, nat_lit 0, nat_lit 0, []),
  (nat_lit 53, nat_lit 99, nat_lit 0, nat_lit 0, []),
  (nat_lit 55, nat_lit 99, nat_lit 0, nat_lit 0, []),
  (nat_lit 56, nat_lit 99, nat_lit 0, nat_lit 0, []),
  (nat_lit 59, nat_lit 99, nat_lit 0, nat_lit 0, []),
  (nat_lit 61, nat_lit 99, nat_lit 0, nat_lit 0, []),
  (nat_lit 64, nat_lit 99, nat_lit 0, nat_lit 0, [])]
/-- SpeechKeeper.discard(int) -/
def zk_68 : List zE := [(nat_lit 0, nat_lit 0, nat_lit 1, nat_lit 0, []),
  (nat_lit 1, nat_lit 15, nat_lit 84, nat_lit 1, [nat_lit 1, nat_lit 9]),
  (nat_lit 4, nat_lit 0, nat_lit 0, nat_lit 4, []),
  (nat_lit 5, nat_lit 15, nat_lit 78, nat_lit 1, [nat_lit 0, nat_lit 9]),
  (nat_lit 8, nat_lit 0, nat_lit 1, nat_lit 0, []),
  (nat_lit 9, nat_lit 15, nat_lit 25, nat_lit 2, [nat_lit 0, nat_lit 3]),
  (nat_lit 12, nat_lit 15, nat_lit 50, nat_lit 1, [nat_lit 0, nat_lit 7]),
  (nat_lit 15, nat_lit 2, nat_lit 2, nat_lit 0, []),
  (nat_lit 16, nat_lit 0, nat_lit 0, nat_lit 4, []),
  (nat_lit 17, nat_lit 15, nat_lit 91, nat_lit 1, [nat_lit 0, nat_lit 9]),
  (nat_lit 20, nat_lit 0, nat_lit 0, nat_lit 4, []),
  (nat_lit 21, nat_lit 8, nat_lit 9, nat_lit 1, []),
  (nat_lit 24, nat_lit 0, nat_lit 1, nat_lit 0, []),
  (nat_lit 25, nat_lit 15, nat_lit 46, nat_lit 2, [nat_lit 0, nat_lit 6]),
  (nat_lit 28, nat_lit 0, nat_lit 0, nat_lit 4, []),
  (nat_lit 29, nat_lit 8, nat_lit 9, nat_lit 1, []),
  (nat_lit 32, nat_lit 8, nat_lit 6, nat_lit 0, []),
  (nat_lit 35, nat_lit 15, nat_lit 54, nat_lit 2, [nat_lit 0, nat_lit 8]),
  (nat_lit 38, nat_lit 0, nat_lit 2, nat_lit 0, []),
  (nat_lit 39, nat_lit 16, nat_lit 0, nat_lit 0, [])]
/-- SpeechKeeper.fewestBack() -/
def zk_69 : List zE := [(nat_lit 0, nat_lit 0, nat_lit 0, nat_lit 4, []),
  (nat_lit 1, nat_lit 15, nat_lit 78, nat_lit 1, [nat_lit 0, nat_lit 9]),
  (nat_lit 4, nat_lit 15, nat_lit 30, nat_lit 1, [nat_lit 0, nat_lit 3]),
  (nat_lit 7, nat_lit 16, nat_lit 0, nat_lit 0, [])]
/-- SpeechKeeper.fewestWords() -/
def zk_70 : List zE := [(nat_lit 0, nat_lit 0, nat_lit 0, nat_lit 4, []),
  (nat_lit 1, nat_lit 15, nat_lit 78, nat_lit 1, [nat_lit 0, nat_lit 9]),
  (nat_lit 4, nat_lit 18, nat_lit 0, nat_lit 0, []),
  (nat_lit 5, nat_lit 0, nat_lit 0, nat_lit 4, []),
  (nat_lit 6, nat_lit 8, nat_lit 9, nat_lit 9, []),
  (nat_lit 9, nat_lit 15, nat_lit 12, nat_lit 1, [nat_lit 0, nat_lit 1]),
  (nat_lit 12, nat_lit 16, nat_lit 0, nat_lit 0, [])]
/-- SpeechKeeper.hasAuthors(int) -/
def zk_71 : List zE := [(nat_lit 0, nat_lit 0, nat_lit 0, nat_lit 0, []),
  (nat_lit 1, nat_lit 5, nat_lit 9, nat_lit 0, []),
  (nat_lit 4, nat_lit 0, nat_lit 0, nat_lit 0, []),
  (nat_lit 5, nat_lit 1, nat_lit 0, nat_lit 0, [nat_lit 0, nat_lit 3, nat_lit 0]),
  (nat_lit 6, nat_lit 6, nat_lit 13, nat_lit 1, []),
  (nat_lit 9, nat_lit 1, nat_lit 0, nat_lit 0, [nat_lit 0, nat_lit 1, nat_lit 0]),
  (nat_lit 10, nat_lit 7, nat_lit 14, nat_lit 0, []),
  (nat_lit 13, nat_lit 1, nat_lit 0, nat_lit 0, [nat_lit 0, nat_lit 0, nat_lit 0]),
  (nat_lit 14, nat_lit 16, nat_lit 0, nat_lit 6, [])]
/-- SpeechKeeper.insert(int, int, int) -/
def zk_72 : List zE := [(nat_lit 0, nat_lit 0, nat_lit 1, nat_lit 0, []),
  (nat_lit 1, nat_lit 15, nat_lit 84, nat_lit 1, [nat_lit 1, nat_lit 9]),
  (nat_lit 4, nat_lit 0, nat_lit 0, nat_lit 4, []),
  (nat_lit 5, nat_lit 8, nat_lit 9, nat_lit 1, []),
  (nat_lit 8, nat_lit 0, nat_lit 1, nat_lit 0, []),
  (nat_lit 9, nat_lit 15, nat_lit 46, nat_lit 2, [nat_lit 0, nat_lit 6]),
  (nat_lit 12, nat_lit 2, nat_lit 4, nat_lit 4, []),
  (nat_lit 14, nat_lit 0, nat_lit 2, nat_lit 0, []),
  (nat_lit 15, nat_lit 0, nat_lit 4, nat_lit 4, []),
  (nat_lit 17, nat_lit 15, nat_lit 55, nat_lit 1, [nat_lit 0, nat_lit 8]),
  (nat_lit 20, nat_lit 1, nat_lit 0, nat_lit 0, [nat_lit 0, nat_lit 1, nat_lit 0]),
  (nat_lit 21, nat_lit 4, nat_lit 0, nat_lit 0, []),
  (nat_lit 22, nat_lit 15, nat_lit 81, nat_lit 2, [nat_lit 1, nat_lit 9]),
  (nat_lit 25, nat_lit 0, nat_lit 0, nat_lit 4, []),
  (nat_lit 26, nat_lit 0, nat_lit 3, nat_lit 0, []),
  (nat_lit 27, nat_lit 15, nat_lit 90, nat_lit 2, [nat_lit 0, nat_lit 9]),
  (nat_lit 30, nat_lit 99, nat_lit 0, nat_lit 0, []),
  (nat_lit 32, nat_lit 99, nat_lit 0, nat_lit 0, []),
  (nat_lit 35, nat_lit 99, nat_lit 0, nat_lit 0, []),
  (nat_lit 38, nat_lit 99, nat_lit 0, nat_lit 0, []),
  (nat_lit 39, nat_lit 99, nat_lit 0, nat_lit 0, []),
  (nat_lit 40, nat_lit 99, nat_lit 0, nat_lit 0, []),
  (nat_lit 41, nat_lit 99, nat_lit 0, nat_lit 0, []),
  (nat_lit 44, nat_lit 99, nat_lit 0, nat_lit 0, []),
  (nat_lit 46, nat_lit 99, nat_lit 0, nat_lit 0, []),
  (nat_lit 47, nat_lit 99, nat_lit 0, nat_lit 0, []),
  (nat_lit 48, nat_lit 99, nat_lit 0, nat_lit 0, []),
  (nat_lit 51, nat_lit 99, nat_lit 0, nat_lit 0, []),
  (nat_lit 52, nat_lit 99, nat_lit 0, nat_lit 0, []),
  (nat_lit 55, nat_lit 99, nat_lit 0, nat_lit 0, []),
  (nat_lit 57, nat_lit 99, nat_lit 0, nat_lit 0, []),
  (nat_lit 60, nat_lit 99, nat_lit 0, nat_lit 0, [])]
/-- SpeechKeeper.join() -/
def zk_73 : List zE := [(nat_lit 0, nat_lit 0, nat_lit 0, nat_lit 4, []),
  (nat_lit 1, nat_lit 1, nat_lit 0, nat_lit 0, [nat_lit 0, nat_lit 3, nat_lit 0]),
  (nat_lit 2, nat_lit 15, nat_lit 102, nat_lit 2, [nat_lit 0, nat_lit 9]),
  (nat_lit 5, nat_lit 2, nat_lit 1, nat_lit 4, []),
  (nat_lit 6, nat_lit 0, nat_lit 0, nat_lit 4, []),
  (nat_lit 7, nat_lit 15, nat_lit 87, nat_lit 1, [nat_lit 0, nat_lit 9]),
  (nat_lit 10, nat_lit 5, nat_lit 22, nat_lit 4, []),
  (nat_lit 13, nat_lit 0, nat_lit 1, nat_lit 4, []),
  (nat_lit 14, nat_lit 15, nat_lit 55, nat_lit 1, [nat_lit 0, nat_lit 8]),
  (nat_lit 17, nat_lit 1, nat_lit 0, nat_lit 0, [nat_lit 0, nat_lit 20, nat_lit 0]),
  (nat_lit 19, nat_lit 6, nat_lit 24, nat_lit 5, []),
  (nat_lit 22, nat_lit 99, nat_lit 0, nat_lit 0, []),
  (nat_lit 23, nat_lit 99, nat_lit 0, nat_lit 0, []),
  (nat_lit 24, nat_lit 0, nat_lit 0, nat_lit 4, []),
  (nat_lit 25, nat_lit 15, nat_lit 91, nat_lit 1, [nat_lit 0, nat_lit 9]),
  (nat_lit 28, nat_lit 0, nat_lit 0, nat_lit 4, []),
  (nat_lit 29, nat_lit 8, nat_lit 9, nat_lit 1, []),
  (nat_lit 32, nat_lit 8, nat_lit 6, nat_lit 0, []),
  (nat_lit 35, nat_lit 0, nat_lit 1, nat_lit 4, []),
  (nat_lit 36, nat_lit 15, nat_lit 54, nat_lit 2, [nat_lit 0, nat_lit 8]),
  (nat_lit 39, nat_lit 0, nat_lit 0, nat_lit 4, []),
  (nat_lit 40, nat_lit 8, nat_lit 9, nat_lit 1, []),
  (nat_lit 43, nat_lit 8, nat_lit 6, nat_lit 1, []),
  (nat_lit 46, nat_lit 0, nat_lit 1, nat_lit 4, []),
  (nat_lit 47, nat_lit 15, nat_lit 54, nat_lit 2, [nat_lit 0, nat_lit 8]),
  (nat_lit 50, nat_lit 0, nat_lit 0, nat_lit 4, []),
  (nat_lit 51, nat_lit 8, nat_lit 9, nat_lit 1, []),
  (nat_lit 54, nat_lit 8, nat_lit 6, nat_lit 2, []),
  (nat_lit 57, nat_lit 0, nat_lit 1, nat_lit 4, []),
  (nat_lit 58, nat_lit 15, nat_lit 54, nat_lit 2, [nat_lit 0, nat_lit 8]),
  (nat_lit 61, nat_lit 0, nat_lit 0, nat_lit 4, []),
  (nat_lit 62, nat_lit 8, nat_lit 9, nat_lit 1, []),
  (nat_lit 65, nat_lit 17, nat_lit 0, nat_lit 0, []),
  (nat_lit 66, nat_lit 8, nat_lit 6, nat_lit 4, []),
  (nat_lit 69, nat_lit 1, nat_lit 0, nat_lit 0, [nat_lit 0, nat_lit 1, nat_lit 0]),
  (nat_lit 70, nat_lit 4, nat_lit 0, nat_lit 0, []),
  (nat_lit 71, nat_lit 9, nat_lit 6, nat_lit 4, [nat_lit 0]),
  (nat_lit 74, nat_lit 0, nat_lit 0, nat_lit 4, []),
  (nat_lit 75, nat_lit 8, nat_lit 9, nat_lit 1, []),
  (nat_lit 78, nat_lit 8, nat_lit 6, nat_lit 0, []),
  (nat_lit 81, nat_lit 15, nat_lit 55, nat_lit 1, [nat_lit 0, nat_lit 8]),
  (nat_lit 84, nat_lit 16, nat_lit 0, nat_lit 0, [])]
/-- SpeechKeeper.letter(int, int, int, int) -/
def zk_74 : List zE := [(nat_lit 0, nat_lit 0, nat_lit 1, nat_lit 0, []),
  (nat_lit 1, nat_lit 15, nat_lit 82, nat_lit 1, [nat_lit 1, nat_lit 9]),
  (nat_lit 4, nat_lit 0, nat_lit 0, nat_lit 4, []),
  (nat_lit 5, nat_lit 0, nat_lit 1, nat_lit 0, []),
  (nat_lit 6, nat_lit 15, nat_lit 102, nat_lit 2, [nat_lit 0, nat_lit 9]),
  (nat_lit 9, nat_lit 2, nat_lit 5, nat_lit 4, []),
  (nat_lit 11, nat_lit 0, nat_lit 2, nat_lit 0, []),
  (nat_lit 12, nat_lit 0, nat_lit 5, nat_lit 4, []),
  (nat_lit 14, nat_lit 15, nat_lit 55, nat_lit 1, [nat_lit 0, nat_lit 8]),
  (nat_lit 17, nat_lit 15, nat_lit 81, nat_lit 2, [nat_lit 1, nat_lit 9]),
  (nat_lit 20, nat_lit 99, nat_lit 0, nat_lit 0, []),
  (nat_lit 21, nat_lit 99, nat_lit 0, nat_lit 0, []),
  (nat_lit 23, nat_lit 99, nat_lit 0, nat_lit 0, []),
  (nat_lit 24, nat_lit 99, nat_lit 0, nat_lit 0, []),
  (nat_lit 27, nat_lit 99, nat_lit 0, nat_lit 0, []),
  (nat_lit 30, nat_lit 99, nat_lit 0, nat_lit 0, []),
  (nat_lit 32, nat_lit 99, nat_lit 0, nat_lit 0, []),
  (nat_lit 33, nat_lit 99, nat_lit 0, nat_lit 0, []),
  (nat_lit 34, nat_lit 99, nat_lit 0, nat_lit 0, []),
  (nat_lit 37, nat_lit 99, nat_lit 0, nat_lit 0, []),
  (nat_lit 39, nat_lit 99, nat_lit 0, nat_lit 0, []),
  (nat_lit 42, nat_lit 99, nat_lit 0, nat_lit 0, [])]
/-- SpeechKeeper.line(int, int, int) -/
def zk_75 : List zE := [(nat_lit 0, nat_lit 0, nat_lit 1, nat_lit 0, []),
  (nat_lit 1, nat_lit 15, nat_lit 82, nat_lit 1, [nat_lit 1, nat_lit 9]),
  (nat_lit 4, nat_lit 0, nat_lit 3, nat_lit 0, []),
  (nat_lit 5, nat_lit 1, nat_lit 0, nat_lit 0, [nat_lit 0, nat_lit 0, nat_lit 0]),
  (nat_lit 6, nat_lit 1, nat_lit 0, nat_lit 0, [nat_lit 0, nat_lit 1, nat_lit 0]),
  (nat_lit 7, nat_lit 15, nat_lit 83, nat_lit 3, [nat_lit 1, nat_lit 9]),
  (nat_lit 10, nat_lit 0, nat_lit 0, nat_lit 4, []),
  (nat_lit 11, nat_lit 0, nat_lit 1, nat_lit 0, []),
  (nat_lit 12, nat_lit 15, nat_lit 102, nat_lit 2, [nat_lit 0, nat_lit 9]),
  (nat_lit 15, nat_lit 2, nat_lit 4, nat_lit 4, []),
  (nat_lit 17, nat_lit 0, nat_lit 2, nat_lit 0, []),
  (nat_lit 18, nat_lit 0, nat_lit 4, nat_lit 4, []),
  (nat_lit 20, nat_lit 15, nat_lit 55, nat_lit 1, [nat_lit 0, nat_lit 8]),
  (nat_lit 23, nat_lit 15, nat_lit 81, nat_lit 2, [nat_lit 1, nat_lit 9]),
  (nat_lit 26, nat_lit 99, nat_lit 0, nat_lit 0, []),
  (nat_lit 27, nat_lit 99, nat_lit 0, nat_lit 0, []),
  (nat_lit 30, nat_lit 99, nat_lit 0, nat_lit 0, []),
  (nat_lit 32, nat_lit 99, nat_lit 0, nat_lit 0, []),
  (nat_lit 33, nat_lit 99, nat_lit 0, nat_lit 0, []),
  (nat_lit 36, nat_lit 99, nat_lit 0, nat_lit 0, []),
  (nat_lit 39, nat_lit 99, nat_lit 0, nat_lit 0, []),
  (nat_lit 41, nat_lit 99, nat_lit 0, nat_lit 0, []),
  (nat_lit 42, nat_lit 99, nat_lit 0, nat_lit 0, []),
  (nat_lit 45, nat_lit 99, nat_lit 0, nat_lit 0, [])]
/-- SpeechKeeper.meanWords(int) -/
def zk_76 : List zE := [(nat_lit 0, nat_lit 0, nat_lit 1, nat_lit 0, []),
  (nat_lit 1, nat_lit 15, nat_lit 82, nat_lit 1, [nat_lit 1, nat_lit 9]),
  (nat_lit 4, nat_lit 0, nat_lit 0, nat_lit 4, []),
  (nat_lit 5, nat_lit 0, nat_lit 1, nat_lit 0, []),
  (nat_lit 6, nat_lit 15, nat_lit 102, nat_lit 2, [nat_lit 0, nat_lit 9]),
  (nat_lit 9, nat_lit 2, nat_lit 2, nat_lit 4, []),
  (nat_lit 10, nat_lit 0, nat_lit 2, nat_lit 4, []),
  (nat_lit 11, nat_lit 15, nat_lit 55, nat_lit 1, [nat_lit 0, nat_lit 8]),
  (nat_lit 14, nat_lit 2, nat_lit 3, nat_lit 0, []),
  (nat_lit 15, nat_lit 0, nat_lit 3, nat_lit 0, []),
  (nat_lit 16, nat_lit 5, nat_lit 23, nat_lit 1, []),
  (nat_lit 19, nat_lit 1, nat_lit 0, nat_lit 0, [nat_lit 7, nat_lit 0, nat_lit 0]),
  (nat_lit 20, nat_lit 7, nat_lit 33, nat_lit 0, []),
  (nat_lit 23, nat_lit 99, nat_lit 0, nat_lit 0, []),
  (nat_lit 24, nat_lit 99, nat_lit 0, nat_lit 0, []),
  (nat_lit 25, nat_lit 99, nat_lit 0, nat_lit 0, []),
  (nat_lit 26, nat_lit 99, nat_lit 0, nat_lit 0, []),
  (nat_lit 29, nat_lit 99, nat_lit 0, nat_lit 0, []),
  (nat_lit 30, nat_lit 99, nat_lit 0, nat_lit 0, []),
  (nat_lit 31, nat_lit 99, nat_lit 0, nat_lit 0, []),
  (nat_lit 32, nat_lit 99, nat_lit 0, nat_lit 0, []),
  (nat_lit 33, nat_lit 16, nat_lit 0, nat_lit 3, [])]
/-- SpeechKeeper.meet(int, int) -/
def zk_77 : List zE := [(nat_lit 0, nat_lit 0, nat_lit 1, nat_lit 0, []),
  (nat_lit 1, nat_lit 0, nat_lit 0, nat_lit 4, []),
  (nat_lit 2, nat_lit 15, nat_lit 78, nat_lit 1, [nat_lit 0, nat_lit 9]),
  (nat_lit 5, nat_lit 8, nat_lit 3, nat_lit 0, []),
  (nat_lit 8, nat_lit 15, nat_lit 50, nat_lit 1, [nat_lit 0, nat_lit 7]),
  (nat_lit 11, nat_lit 15, nat_lit 81, nat_lit 2, [nat_lit 1, nat_lit 9]),
  (nat_lit 14, nat_lit 99, nat_lit 0, nat_lit 0, []),
  (nat_lit 15, nat_lit 99, nat_lit 0, nat_lit 0, []),
  (nat_lit 16, nat_lit 99, nat_lit 0, nat_lit 0, []),
  (nat_lit 19, nat_lit 99, nat_lit 0, nat_lit 0, []),
  (nat_lit 22, nat_lit 99, nat_lit 0, nat_lit 0, []),
  (nat_lit 25, nat_lit 99, nat_lit 0, nat_lit 0, []),
  (nat_lit 28, nat_lit 99, nat_lit 0, nat_lit 0, []),
  (nat_lit 29, nat_lit 99, nat_lit 0, nat_lit 0, []),
  (nat_lit 32, nat_lit 99, nat_lit 0, nat_lit 0, []),
  (nat_lit 33, nat_lit 99, nat_lit 0, nat_lit 0, []),
  (nat_lit 34, nat_lit 99, nat_lit 0, nat_lit 0, []),
  (nat_lit 37, nat_lit 99, nat_lit 0, nat_lit 0, [])]
/-- SpeechKeeper.merged() -/
def zk_78 : List zE := [(nat_lit 0, nat_lit 0, nat_lit 0, nat_lit 4, []),
  (nat_lit 1, nat_lit 8, nat_lit 9, nat_lit 12, []),
  (nat_lit 4, nat_lit 5, nat_lit 40, nat_lit 1, []),
  (nat_lit 7, nat_lit 0, nat_lit 0, nat_lit 4, []),
  (nat_lit 8, nat_lit 8, nat_lit 9, nat_lit 7, []),
  (nat_lit 11, nat_lit 0, nat_lit 0, nat_lit 4, []),
  (nat_lit 12, nat_lit 8, nat_lit 9, nat_lit 1, []),
  (nat_lit 15, nat_lit 8, nat_lit 6, nat_lit 0, []),
  (nat_lit 18, nat_lit 0, nat_lit 0, nat_lit 4, []),
  (nat_lit 19, nat_lit 8, nat_lit 9, nat_lit 1, []),
  (nat_lit 22, nat_lit 8, nat_lit 6, nat_lit 1, []),
  (nat_lit 25, nat_lit 0, nat_lit 0, nat_lit 4, []),
  (nat_lit 26, nat_lit 8, nat_lit 9, nat_lit 1, []),
  (nat_lit 29, nat_lit 8, nat_lit 6, nat_lit 2, []),
  (nat_lit 32, nat_lit 15, nat_lit 26, nat_lit 4, [nat_lit 0, nat_lit 3]),
  (nat_lit 35, nat_lit 0, nat_lit 0, nat_lit 4, []),
  (nat_lit 36, nat_lit 1, nat_lit 0, nat_lit 0, [nat_lit 0, nat_lit 1, nat_lit 0]),
  (nat_lit 37, nat_lit 9, nat_lit 9, nat_lit 12, [nat_lit 5]),
  (nat_lit 40, nat_lit 0, nat_lit 0, nat_lit 4, []),
  (nat_lit 41, nat_lit 8, nat_lit 9, nat_lit 7, []),
  (nat_lit 44, nat_lit 16, nat_lit 0, nat_lit 4, [])]
/-- SpeechKeeper.mostWords() -/
def zk_79 : List zE := [(nat_lit 0, nat_lit 0, nat_lit 0, nat_lit 4, []),
  (nat_lit 1, nat_lit 15, nat_lit 78, nat_lit 1, [nat_lit 0, nat_lit 9]),
  (nat_lit 4, nat_lit 18, nat_lit 0, nat_lit 0, []),
  (nat_lit 5, nat_lit 0, nat_lit 0, nat_lit 4, []),
  (nat_lit 6, nat_lit 8, nat_lit 9, nat_lit 9, []),
  (nat_lit 9, nat_lit 15, nat_lit 11, nat_lit 1, [nat_lit 0, nat_lit 1]),
  (nat_lit 12, nat_lit 16, nat_lit 0, nat_lit 0, [])]
/-- SpeechKeeper.move(int, int, int) -/
def zk_80 : List zE := [(nat_lit 0, nat_lit 0, nat_lit 1, nat_lit 0, []),
  (nat_lit 1, nat_lit 15, nat_lit 84, nat_lit 1, [nat_lit 1, nat_lit 9]),
  (nat_lit 4, nat_lit 0, nat_lit 0, nat_lit 4, []),
  (nat_lit 5, nat_lit 8, nat_lit 9, nat_lit 1, []),
  (nat_lit 8, nat_lit 0, nat_lit 1, nat_lit 0, []),
  (nat_lit 9, nat_lit 15, nat_lit 46, nat_lit 2, [nat_lit 0, nat_lit 6]),
  (nat_lit 12, nat_lit 2, nat_lit 4, nat_lit 4, []),
  (nat_lit 14, nat_lit 0, nat_lit 2, nat_lit 0, []),
  (nat_lit 15, nat_lit 0, nat_lit 4, nat_lit 4, []),
  (nat_lit 17, nat_lit 15, nat_lit 55, nat_lit 1, [nat_lit 0, nat_lit 8]),
  (nat_lit 20, nat_lit 15, nat_lit 81, nat_lit 2, [nat_lit 1, nat_lit 9]),
  (nat_lit 23, nat_lit 99, nat_lit 0, nat_lit 0, []),
  (nat_lit 24, nat_lit 99, nat_lit 0, nat_lit 0, []),
  (nat_lit 26, nat_lit 99, nat_lit 0, nat_lit 0, []),
  (nat_lit 29, nat_lit 99, nat_lit 0, nat_lit 0, []),
  (nat_lit 32, nat_lit 99, nat_lit 0, nat_lit 0, []),
  (nat_lit 33, nat_lit 99, nat_lit 0, nat_lit 0, []),
  (nat_lit 36, nat_lit 99, nat_lit 0, nat_lit 0, []),
  (nat_lit 37, nat_lit 99, nat_lit 0, nat_lit 0, []),
  (nat_lit 40, nat_lit 99, nat_lit 0, nat_lit 0, []),
  (nat_lit 43, nat_lit 99, nat_lit 0, nat_lit 0, []),
  (nat_lit 44, nat_lit 99, nat_lit 0, nat_lit 0, []),
  (nat_lit 47, nat_lit 99, nat_lit 0, nat_lit 0, []),
  (nat_lit 49, nat_lit 99, nat_lit 0, nat_lit 0, []),
  (nat_lit 50, nat_lit 99, nat_lit 0, nat_lit 0, []),
  (nat_lit 51, nat_lit 99, nat_lit 0, nat_lit 0, []),
  (nat_lit 52, nat_lit 99, nat_lit 0, nat_lit 0, []),
  (nat_lit 53, nat_lit 99, nat_lit 0, nat_lit 0, []),
  (nat_lit 56, nat_lit 99, nat_lit 0, nat_lit 0, []),
  (nat_lit 58, nat_lit 99, nat_lit 0, nat_lit 0, []),
  (nat_lit 59, nat_lit 99, nat_lit 0, nat_lit 0, []),
  (nat_lit 62, nat_lit 99, nat_lit 0, nat_lit 0, []),
  (nat_lit 64, nat_lit 99, nat_lit 0, nat_lit 0, []),
  (nat_lit 65, nat_lit 99, nat_lit 0, nat_lit 0, []),
  (nat_lit 66, nat_lit 99, nat_lit 0, nat_lit 0, []),
  (nat_lit 69, nat_lit 99, nat_lit 0, nat_lit 0, []),
  (nat_lit 70, nat_lit 99, nat_lit 0, nat_lit 0, []),
  (nat_lit 73, nat_lit 99, nat_lit 0, nat_lit 0, []),
  (nat_lit 74, nat_lit 99, nat_lit 0, nat_lit 0, []),
  (nat_lit 77, nat_lit 99, nat_lit 0, nat_lit 0, []),
  (nat_lit 78, nat_lit 99, nat_lit 0, nat_lit 0, []),
  (nat_lit 81, nat_lit 99, nat_lit 0, nat_lit 0, []),
  (nat_lit 84, nat_lit 99, nat_lit 0, nat_lit 0, [])]
/-- SpeechKeeper.needBelow(int, int) -/
def zk_81 : List zE := [(nat_lit 0, nat_lit 0, nat_lit 0, nat_lit 0, []),
  (nat_lit 1, nat_lit 5, nat_lit 9, nat_lit 2, []),
  (nat_lit 4, nat_lit 0, nat_lit 0, nat_lit 0, []),
  (nat_lit 5, nat_lit 0, nat_lit 1, nat_lit 0, []),
  (nat_lit 6, nat_lit 6, nat_lit 20, nat_lit 2, []),
  (nat_lit 9, nat_lit 25, nat_lit 1, nat_lit 1, []),
  (nat_lit 12, nat_lit 99, nat_lit 0, nat_lit 0, []),
  (nat_lit 13, nat_lit 99, nat_lit 0, nat_lit 0, []),
  (nat_lit 16, nat_lit 99, nat_lit 0, nat_lit 0, []),
  (nat_lit 19, nat_lit 99, nat_lit 0, nat_lit 0, []),
  (nat_lit 20, nat_lit 16, nat_lit 0, nat_lit 5, [])]
/-- SpeechKeeper.needText(int) -/
def zk_82 : List zE := [(nat_lit 0, nat_lit 0, nat_lit 0, nat_lit 0, []),
  (nat_lit 1, nat_lit 1, nat_lit 0, nat_lit 0, [nat_lit 0, nat_lit 0, nat_lit 0]),
  (nat_lit 2, nat_lit 1, nat_lit 0, nat_lit 0, [nat_lit 0, nat_lit 3, nat_lit 0]),
  (nat_lit 3, nat_lit 15, nat_lit 83, nat_lit 3, [nat_lit 1, nat_lit 9]),
  (nat_lit 6, nat_lit 16, nat_lit 0, nat_lit 5, [])]
/-- SpeechKeeper.needWithin(int, int, int) -/
def zk_83 : List zE := [(nat_lit 0, nat_lit 0, nat_lit 0, nat_lit 0, []),
  (nat_lit 1, nat_lit 0, nat_lit 1, nat_lit 0, []),
  (nat_lit 2, nat_lit 6, nat_lit 10, nat_lit 2, []),
  (nat_lit 5, nat_lit 0, nat_lit 0, nat_lit 0, []),
  (nat_lit 6, nat_lit 0, nat_lit 2, nat_lit 0, []),
  (nat_lit 7, nat_lit 6, nat_lit 21, nat_lit 5, []),
  (nat_lit 10, nat_lit 25, nat_lit 0, nat_lit 2, []),
  (nat_lit 13, nat_lit 99, nat_lit 0, nat_lit 0, []),
  (nat_lit 14, nat_lit 99, nat_lit 0, nat_lit 0, []),
  (nat_lit 17, nat_lit 99, nat_lit 0, nat_lit 0, []),
  (nat_lit 20, nat_lit 99, nat_lit 0, nat_lit 0, []),
  (nat_lit 21, nat_lit 16, nat_lit 0, nat_lit 5, [])]
/-- SpeechKeeper.needWriter(int) -/
def zk_84 : List zE := [(nat_lit 0, nat_lit 0, nat_lit 0, nat_lit 0, []),
  (nat_lit 1, nat_lit 1, nat_lit 0, nat_lit 0, [nat_lit 0, nat_lit 2, nat_lit 0]),
  (nat_lit 2, nat_lit 15, nat_lit 81, nat_lit 2, [nat_lit 1, nat_lit 9]),
  (nat_lit 5, nat_lit 16, nat_lit 0, nat_lit 5, [])]
/-- SpeechKeeper.numberOf(int) -/
def zk_85 : List zE := [(nat_lit 0, nat_lit 0, nat_lit 1, nat_lit 0, []),
  (nat_lit 1, nat_lit 24, nat_lit 0, nat_lit 145, [nat_lit 64, nat_lit 64, nat_lit 64, nat_lit 64, nat_lit 73, nat_lit 81, nat_lit 92, nat_lit 103, nat_lit 114, nat_lit 123, nat_lit 128, nat_lit 137]),
  (nat_lit 64, nat_lit 0, nat_lit 0, nat_lit 4, []),
  (nat_lit 65, nat_lit 0, nat_lit 1, nat_lit 0, []),
  (nat_lit 66, nat_lit 15, nat_lit 102, nat_lit 2, [nat_lit 0, nat_lit 9]),
  (nat_lit 69, nat_lit 15, nat_lit 55, nat_lit 1, [nat_lit 0, nat_lit 8]),
  (nat_lit 72, nat_lit 16, nat_lit 0, nat_lit 0, []),
  (nat_lit 73, nat_lit 0, nat_lit 0, nat_lit 4, []),
  (nat_lit 74, nat_lit 8, nat_lit 9, nat_lit 1, []),
  (nat_lit 77, nat_lit 8, nat_lit 6, nat_lit 4, []),
  (nat_lit 80, nat_lit 16, nat_lit 0, nat_lit 0, []),
  (nat_lit 81, nat_lit 0, nat_lit 0, nat_lit 4, []),
  (nat_lit 82, nat_lit 15, nat_lit 78, nat_lit 1, [nat_lit 0, nat_lit 9]),
  (nat_lit 85, nat_lit 8, nat_lit 3, nat_lit 0, []),
  (nat_lit 88, nat_lit 15, nat_lit 50, nat_lit 1, [nat_lit 0, nat_lit 7]),
  (nat_lit 91, nat_lit 16, nat_lit 0, nat_lit 0, []),
  (nat_lit 92, nat_lit 0, nat_lit 0, nat_lit 4, []),
  (nat_lit 93, nat_lit 15, nat_lit 78, nat_lit 1, [nat_lit 0, nat_lit 9]),
  (nat_lit 96, nat_lit 8, nat_lit 3, nat_lit 1, []),
  (nat_lit 99, nat_lit 15, nat_lit 50, nat_lit 1, [nat_lit 0, nat_lit 7]),
  (nat_lit 102, nat_lit 16, nat_lit 0, nat_lit 0, []),
  (nat_lit 103, nat_lit 0, nat_lit 0, nat_lit 4, []),
  (nat_lit 104, nat_lit 15, nat_lit 78, nat_lit 1, [nat_lit 0, nat_lit 9]),
  (nat_lit 107, nat_lit 8, nat_lit 3, nat_lit 2, []),
  (nat_lit 110, nat_lit 15, nat_lit 50, nat_lit 1, [nat_lit 0, nat_lit 7]),
  (nat_lit 113, nat_lit 16, nat_lit 0, nat_lit 0, []),
  (nat_lit 114, nat_lit 0, nat_lit 0, nat_lit 4, []),
  (nat_lit 115, nat_lit 15, nat_lit 78, nat_lit 1, [nat_lit 0, nat_lit 9]),
  (nat_lit 118, nat_lit 1, nat_lit 0, nat_lit 0, [nat_lit 0, nat_lit 3, nat_lit 0]),
  (nat_lit 119, nat_lit 15, nat_lit 24, nat_lit 2, [nat_lit 0, nat_lit 3]),
  (nat_lit 122, nat_lit 16, nat_lit 0, nat_lit 0, []),
  (nat_lit 123, nat_lit 0, nat_lit 0, nat_lit 4, []),
  (nat_lit 124, nat_lit 15, nat_lit 87, nat_lit 1, [nat_lit 0, nat_lit 9]),
  (nat_lit 127, nat_lit 16, nat_lit 0, nat_lit 0, []),
  (nat_lit 128, nat_lit 0, nat_lit 0, nat_lit 4, []),
  (nat_lit 129, nat_lit 15, nat_lit 78, nat_lit 1, [nat_lit 0, nat_lit 9]),
  (nat_lit 132, nat_lit 1, nat_lit 0, nat_lit 0, [nat_lit 0, nat_lit 2, nat_lit 0]),
  (nat_lit 133, nat_lit 15, nat_lit 24, nat_lit 2, [nat_lit 0, nat_lit 3]),
  (nat_lit 136, nat_lit 16, nat_lit 0, nat_lit 0, []),
  (nat_lit 137, nat_lit 0, nat_lit 0, nat_lit 4, []),
  (nat_lit 138, nat_lit 8, nat_lit 9, nat_lit 4, []),
  (nat_lit 141, nat_lit 15, nat_lit 7, nat_lit 1, [nat_lit 0, nat_lit 0]),
  (nat_lit 144, nat_lit 16, nat_lit 0, nat_lit 0, []),
  (nat_lit 145, nat_lit 0, nat_lit 0, nat_lit 4, []),
  (nat_lit 146, nat_lit 8, nat_lit 9, nat_lit 0, []),
  (nat_lit 149, nat_lit 15, nat_lit 38, nat_lit 1, [nat_lit 0, nat_lit 4]),
  (nat_lit 152, nat_lit 16, nat_lit 0, nat_lit 0, [])]
/-- SpeechKeeper.occurrences(int, int) -/
def zk_86 : List zE := [(nat_lit 0, nat_lit 0, nat_lit 1, nat_lit 0, []),
  (nat_lit 1, nat_lit 15, nat_lit 82, nat_lit 1, [nat_lit 1, nat_lit 9]),
  (nat_lit 4, nat_lit 0, nat_lit 2, nat_lit 0, []),
  (nat_lit 5, nat_lit 1, nat_lit 0, nat_lit 0, [nat_lit 0, nat_lit 1, nat_lit 0]),
  (nat_lit 6, nat_lit 1, nat_lit 0, nat_lit 0, [nat_lit 0, nat_lit 8, nat_lit 0]),
  (nat_lit 8, nat_lit 0, nat_lit 0, nat_lit 4, []),
  (nat_lit 9, nat_lit 8, nat_lit 9, nat_lit 0, []),
  (nat_lit 12, nat_lit 15, nat_lit 38, nat_lit 1, [nat_lit 0, nat_lit 4]),
  (nat_lit 15, nat_lit 27, nat_lit 1, nat_lit 0, [nat_lit 216, nat_lit 9]),
  (nat_lit 18, nat_lit 15, nat_lit 83, nat_lit 3, [nat_lit 1, nat_lit 9]),
  (nat_lit 21, nat_lit 99, nat_lit 0, nat_lit 0, []),
  (nat_lit 22, nat_lit 99, nat_lit 0, nat_lit 0, []),
  (nat_lit 25, nat_lit 99, nat_lit 0, nat_lit 0, []),
  (nat_lit 26, nat_lit 99, nat_lit 0, nat_lit 0, []),
  (nat_lit 29, nat_lit 99, nat_lit 0, nat_lit 0, []),
  (nat_lit 30, nat_lit 99, nat_lit 0, nat_lit 0, []),
  (nat_lit 31, nat_lit 99, nat_lit 0, nat_lit 0, []),
  (nat_lit 34, nat_lit 99, nat_lit 0, nat_lit 0, []),
  (nat_lit 37, nat_lit 99, nat_lit 0, nat_lit 0, []),
  (nat_lit 38, nat_lit 99, nat_lit 0, nat_lit 0, []),
  (nat_lit 39, nat_lit 99, nat_lit 0, nat_lit 0, []),
  (nat_lit 40, nat_lit 99, nat_lit 0, nat_lit 0, []),
  (nat_lit 43, nat_lit 99, nat_lit 0, nat_lit 0, []),
  (nat_lit 44, nat_lit 99, nat_lit 0, nat_lit 0, []),
  (nat_lit 47, nat_lit 99, nat_lit 0, nat_lit 0, []),
  (nat_lit 48, nat_lit 99, nat_lit 0, nat_lit 0, []),
  (nat_lit 49, nat_lit 99, nat_lit 0, nat_lit 0, []),
  (nat_lit 52, nat_lit 99, nat_lit 0, nat_lit 0, []),
  (nat_lit 53, nat_lit 99, nat_lit 0, nat_lit 0, []),
  (nat_lit 56, nat_lit 99, nat_lit 0, nat_lit 0, [])]
/-- SpeechKeeper.openClashes() -/
def zk_87 : List zE := [(nat_lit 0, nat_lit 0, nat_lit 0, nat_lit 4, []),
  (nat_lit 1, nat_lit 15, nat_lit 78, nat_lit 1, [nat_lit 0, nat_lit 9]),
  (nat_lit 4, nat_lit 8, nat_lit 3, nat_lit 2, []),
  (nat_lit 7, nat_lit 2, nat_lit 1, nat_lit 4, []),
  (nat_lit 8, nat_lit 1, nat_lit 0, nat_lit 0, [nat_lit 0, nat_lit 0, nat_lit 0]),
  (nat_lit 9, nat_lit 2, nat_lit 2, nat_lit 0, []),
  (nat_lit 10, nat_lit 1, nat_lit 0, nat_lit 0, [nat_lit 0, nat_lit 0, nat_lit 0]),
  (nat_lit 11, nat_lit 2, nat_lit 3, nat_lit 0, []),
  (nat_lit 12, nat_lit 0, nat_lit 3, nat_lit 0, []),
  (nat_lit 13, nat_lit 0, nat_lit 1, nat_lit 4, []),
  (nat_lit 14, nat_lit 15, nat_lit 50, nat_lit 1, [nat_lit 0, nat_lit 7]),
  (nat_lit 17, nat_lit 6, nat_lit 50, nat_lit 3, []),
  (nat_lit 20, nat_lit 99, nat_lit 0, nat_lit 0, []),
  (nat_lit 21, nat_lit 99, nat_lit 0, nat_lit 0, []),
  (nat_lit 22, nat_lit 99, nat_lit 0, nat_lit 0, []),
  (nat_lit 23, nat_lit 99, nat_lit 0, nat_lit 0, []),
  (nat_lit 26, nat_lit 99, nat_lit 0, nat_lit 0, []),
  (nat_lit 27, nat_lit 99, nat_lit 0, nat_lit 0, []),
  (nat_lit 30, nat_lit 99, nat_lit 0, nat_lit 0, []),
  (nat_lit 31, nat_lit 99, nat_lit 0, nat_lit 0, []),
  (nat_lit 34, nat_lit 99, nat_lit 0, nat_lit 0, []),
  (nat_lit 35, nat_lit 99, nat_lit 0, nat_lit 0, []),
  (nat_lit 38, nat_lit 99, nat_lit 0, nat_lit 0, []),
  (nat_lit 41, nat_lit 99, nat_lit 0, nat_lit 0, []),
  (nat_lit 44, nat_lit 99, nat_lit 0, nat_lit 0, []),
  (nat_lit 47, nat_lit 99, nat_lit 0, nat_lit 0, []),
  (nat_lit 50, nat_lit 0, nat_lit 2, nat_lit 0, []),
  (nat_lit 51, nat_lit 16, nat_lit 0, nat_lit 0, [])]
/-- SpeechKeeper.outdate() -/
def zk_88 : List zE := [(nat_lit 0, nat_lit 0, nat_lit 0, nat_lit 4, []),
  (nat_lit 1, nat_lit 1, nat_lit 0, nat_lit 0, [nat_lit 0, nat_lit 0, nat_lit 0]),
  (nat_lit 2, nat_lit 9, nat_lit 9, nat_lit 12, [nat_lit 5]),
  (nat_lit 5, nat_lit 0, nat_lit 0, nat_lit 4, []),
  (nat_lit 6, nat_lit 1, nat_lit 0, nat_lit 0, [nat_lit 0, nat_lit 0, nat_lit 0]),
  (nat_lit 7, nat_lit 9, nat_lit 9, nat_lit 13, [nat_lit 5]),
  (nat_lit 10, nat_lit 16, nat_lit 0, nat_lit 5, [])]
/-- SpeechKeeper.parse(int) -/
def zk_89 : List zE := [(nat_lit 0, nat_lit 0, nat_lit 1, nat_lit 0, []),
  (nat_lit 1, nat_lit 1, nat_lit 0, nat_lit 0, [nat_lit 0, nat_lit 0, nat_lit 0]),
  (nat_lit 2, nat_lit 0, nat_lit 0, nat_lit 4, []),
  (nat_lit 3, nat_lit 8, nat_lit 9, nat_lit 0, []),
  (nat_lit 6, nat_lit 15, nat_lit 38, nat_lit 1, [nat_lit 0, nat_lit 4]),
  (nat_lit 9, nat_lit 15, nat_lit 83, nat_lit 3, [nat_lit 1, nat_lit 9]),
  (nat_lit 12, nat_lit 0, nat_lit 0, nat_lit 4, []),
  (nat_lit 13, nat_lit 8, nat_lit 9, nat_lit 0, []),
  (nat_lit 16, nat_lit 0, nat_lit 1, nat_lit 0, []),
  (nat_lit 17, nat_lit 0, nat_lit 0, nat_lit 4, []),
  (nat_lit 18, nat_lit 8, nat_lit 9, nat_lit 2, []),
  (nat_lit 21, nat_lit 15, nat_lit 40, nat_lit 3, [nat_lit 0, nat_lit 4]),
  (nat_lit 24, nat_lit 2, nat_lit 2, nat_lit 0, []),
  (nat_lit 25, nat_lit 0, nat_lit 0, nat_lit 4, []),
  (nat_lit 26, nat_lit 8, nat_lit 9, nat_lit 0, []),
  (nat_lit 29, nat_lit 15, nat_lit 34, nat_lit 1, [nat_lit 0, nat_lit 4]),
  (nat_lit 32, nat_lit 0, nat_lit 2, nat_lit 0, []),
  (nat_lit 33, nat_lit 1, nat_lit 0, nat_lit 0, [nat_lit 0, nat_lit 4294967295, nat_lit 0]),
  (nat_lit 34, nat_lit 6, nat_lit 42, nat_lit 0, []),
  (nat_lit 37, nat_lit 1, nat_lit 0, nat_lit 0, [nat_lit 0, nat_lit 4294967294, nat_lit 0]),
  (nat_lit 39, nat_lit 0, nat_lit 2, nat_lit 0, []),
  (nat_lit 40, nat_lit 4, nat_lit 1, nat_lit 0, []),
  (nat_lit 41, nat_lit 16, nat_lit 0, nat_lit 0, []),
  (nat_lit 42, nat_lit 99, nat_lit 0, nat_lit 0, []),
  (nat_lit 43, nat_lit 99, nat_lit 0, nat_lit 0, []),
  (nat_lit 46, nat_lit 99, nat_lit 0, nat_lit 0, []),
  (nat_lit 47, nat_lit 99, nat_lit 0, nat_lit 0, []),
  (nat_lit 50, nat_lit 99, nat_lit 0, nat_lit 0, []),
  (nat_lit 53, nat_lit 99, nat_lit 0, nat_lit 0, []),
  (nat_lit 54, nat_lit 99, nat_lit 0, nat_lit 0, []),
  (nat_lit 57, nat_lit 99, nat_lit 0, nat_lit 0, []),
  (nat_lit 60, nat_lit 99, nat_lit 0, nat_lit 0, []),
  (nat_lit 61, nat_lit 99, nat_lit 0, nat_lit 0, []),
  (nat_lit 64, nat_lit 99, nat_lit 0, nat_lit 0, []),
  (nat_lit 67, nat_lit 99, nat_lit 0, nat_lit 0, []),
  (nat_lit 68, nat_lit 99, nat_lit 0, nat_lit 0, []),
  (nat_lit 71, nat_lit 99, nat_lit 0, nat_lit 0, []),
  (nat_lit 72, nat_lit 99, nat_lit 0, nat_lit 0, []),
  (nat_lit 75, nat_lit 99, nat_lit 0, nat_lit 0, []),
  (nat_lit 78, nat_lit 99, nat_lit 0, nat_lit 0, []),
  (nat_lit 81, nat_lit 99, nat_lit 0, nat_lit 0, [])]
/-- SpeechKeeper.readTyped(int) -/
def zk_90 : List zE := [(nat_lit 0, nat_lit 0, nat_lit 1, nat_lit 0, []),
  (nat_lit 1, nat_lit 1, nat_lit 0, nat_lit 0, [nat_lit 0, nat_lit 1, nat_lit 0]),
  (nat_lit 2, nat_lit 0, nat_lit 0, nat_lit 4, []),
  (nat_lit 3, nat_lit 8, nat_lit 9, nat_lit 0, []),
  (nat_lit 6, nat_lit 15, nat_lit 38, nat_lit 1, [nat_lit 0, nat_lit 4]),
  (nat_lit 9, nat_lit 15, nat_lit 83, nat_lit 3, [nat_lit 1, nat_lit 9]),
  (nat_lit 12, nat_lit 99, nat_lit 0, nat_lit 0, []),
  (nat_lit 13, nat_lit 99, nat_lit 0, nat_lit 0, []),
  (nat_lit 16, nat_lit 99, nat_lit 0, nat_lit 0, []),
  (nat_lit 17, nat_lit 99, nat_lit 0, nat_lit 0, []),
  (nat_lit 18, nat_lit 99, nat_lit 0, nat_lit 0, []),
  (nat_lit 21, nat_lit 99, nat_lit 0, nat_lit 0, []),
  (nat_lit 24, nat_lit 99, nat_lit 0, nat_lit 0, []),
  (nat_lit 27, nat_lit 99, nat_lit 0, nat_lit 0, []),
  (nat_lit 30, nat_lit 99, nat_lit 0, nat_lit 0, []),
  (nat_lit 31, nat_lit 99, nat_lit 0, nat_lit 0, []),
  (nat_lit 34, nat_lit 99, nat_lit 0, nat_lit 0, []),
  (nat_lit 37, nat_lit 99, nat_lit 0, nat_lit 0, []),
  (nat_lit 38, nat_lit 99, nat_lit 0, nat_lit 0, []),
  (nat_lit 39, nat_lit 99, nat_lit 0, nat_lit 0, []),
  (nat_lit 42, nat_lit 99, nat_lit 0, nat_lit 0, []),
  (nat_lit 45, nat_lit 99, nat_lit 0, nat_lit 0, [])]
/-- SpeechKeeper.recordEdit() -/
def zk_91 : List zE := [(nat_lit 0, nat_lit 0, nat_lit 0, nat_lit 4, []),
  (nat_lit 1, nat_lit 8, nat_lit 9, nat_lit 4, []),
  (nat_lit 4, nat_lit 0, nat_lit 0, nat_lit 4, []),
  (nat_lit 5, nat_lit 8, nat_lit 9, nat_lit 1, []),
  (nat_lit 8, nat_lit 15, nat_lit 8, nat_lit 2, [nat_lit 0, nat_lit 0]),
  (nat_lit 11, nat_lit 0, nat_lit 0, nat_lit 4, []),
  (nat_lit 12, nat_lit 8, nat_lit 9, nat_lit 1, []),
  (nat_lit 15, nat_lit 15, nat_lit 47, nat_lit 1, [nat_lit 0, nat_lit 6]),
  (nat_lit 18, nat_lit 0, nat_lit 0, nat_lit 4, []),
  (nat_lit 19, nat_lit 15, nat_lit 88, nat_lit 1, [nat_lit 0, nat_lit 9]),
  (nat_lit 22, nat_lit 16, nat_lit 0, nat_lit 5, [])]
/-- SpeechKeeper.replace(int, int, int) -/
def zk_92 : List zE := [(nat_lit 0, nat_lit 0, nat_lit 1, nat_lit 0, []),
  (nat_lit 1, nat_lit 15, nat_lit 84, nat_lit 1, [nat_lit 1, nat_lit 9]),
  (nat_lit 4, nat_lit 0, nat_lit 0, nat_lit 4, []),
  (nat_lit 5, nat_lit 8, nat_lit 9, nat_lit 1, []),
  (nat_lit 8, nat_lit 0, nat_lit 1, nat_lit 0, []),
  (nat_lit 9, nat_lit 15, nat_lit 46, nat_lit 2, [nat_lit 0, nat_lit 6]),
  (nat_lit 12, nat_lit 2, nat_lit 4, nat_lit 4, []),
  (nat_lit 14, nat_lit 0, nat_lit 2, nat_lit 0, []),
  (nat_lit 15, nat_lit 0, nat_lit 4, nat_lit 4, []),
  (nat_lit 17, nat_lit 15, nat_lit 55, nat_lit 1, [nat_lit 0, nat_lit 8]),
  (nat_lit 20, nat_lit 15, nat_lit 81, nat_lit 2, [nat_lit 1, nat_lit 9]),
  (nat_lit 23, nat_lit 99, nat_lit 0, nat_lit 0, []),
  (nat_lit 24, nat_lit 99, nat_lit 0, nat_lit 0, []),
  (nat_lit 25, nat_lit 99, nat_lit 0, nat_lit 0, []),
  (nat_lit 28, nat_lit 99, nat_lit 0, nat_lit 0, []),
  (nat_lit 30, nat_lit 99, nat_lit 0, nat_lit 0, []),
  (nat_lit 31, nat_lit 99, nat_lit 0, nat_lit 0, []),
  (nat_lit 34, nat_lit 99, nat_lit 0, nat_lit 0, []),
  (nat_lit 36, nat_lit 99, nat_lit 0, nat_lit 0, []),
  (nat_lit 37, nat_lit 99, nat_lit 0, nat_lit 0, []),
  (nat_lit 40, nat_lit 99, nat_lit 0, nat_lit 0, []),
  (nat_lit 42, nat_lit 99, nat_lit 0, nat_lit 0, []),
  (nat_lit 43, nat_lit 99, nat_lit 0, nat_lit 0, []),
  (nat_lit 44, nat_lit 99, nat_lit 0, nat_lit 0, []),
  (nat_lit 47, nat_lit 99, nat_lit 0, nat_lit 0, []),
  (nat_lit 48, nat_lit 99, nat_lit 0, nat_lit 0, []),
  (nat_lit 51, nat_lit 99, nat_lit 0, nat_lit 0, []),
  (nat_lit 53, nat_lit 99, nat_lit 0, nat_lit 0, [])]
/-- SpeechKeeper.report(int) -/
def zk_93 : List zE := [(nat_lit 0, nat_lit 0, nat_lit 1, nat_lit 0, []),
  (nat_lit 1, nat_lit 15, nat_lit 82, nat_lit 1, [nat_lit 1, nat_lit 9]),
  (nat_lit 4, nat_lit 0, nat_lit 0, nat_lit 4, []),
  (nat_lit 5, nat_lit 0, nat_lit 1, nat_lit 0, []),
  (nat_lit 6, nat_lit 15, nat_lit 102, nat_lit 2, [nat_lit 0, nat_lit 9]),
  (nat_lit 9, nat_lit 2, nat_lit 2, nat_lit 4, []),
  (nat_lit 10, nat_lit 0, nat_lit 0, nat_lit 4, []),
  (nat_lit 11, nat_lit 1, nat_lit 0, nat_lit 0, [nat_lit 0, nat_lit 0, nat_lit 0]),
  (nat_lit 12, nat_lit 9, nat_lit 9, nat_lit 11, [nat_lit 0]),
  (nat_lit 15, nat_lit 1, nat_lit 0, nat_lit 0, [nat_lit 0, nat_lit 0, nat_lit 0]),
  (nat_lit 16, nat_lit 2, nat_lit 3, nat_lit 0, []),
  (nat_lit 17, nat_lit 0, nat_lit 3, nat_lit 0, []),
  (nat_lit 18, nat_lit 0, nat_lit 2, nat_lit 4, []),
  (nat_lit 19, nat_lit 15, nat_lit 55, nat_lit 1, [nat_lit 0, nat_lit 8]),
  (nat_lit 22, nat_lit 6, nat_lit 41, nat_lit 3, []),
  (nat_lit 25, nat_lit 99, nat_lit 0, nat_lit 0, []),
  (nat_lit 26, nat_lit 99, nat_lit 0, nat_lit 0, []),
  (nat_lit 27, nat_lit 99, nat_lit 0, nat_lit 0, []),
  (nat_lit 28, nat_lit 99, nat_lit 0, nat_lit 0, []),
  (nat_lit 29, nat_lit 99, nat_lit 0, nat_lit 0, []),
  (nat_lit 32, nat_lit 99, nat_lit 0, nat_lit 0, []),
  (nat_lit 35, nat_lit 99, nat_lit 0, nat_lit 0, []),
  (nat_lit 38, nat_lit 99, nat_lit 0, nat_lit 0, []),
  (nat_lit 41, nat_lit 0, nat_lit 0, nat_lit 4, []),
  (nat_lit 42, nat_lit 8, nat_lit 9, nat_lit 11, []),
  (nat_lit 45, nat_lit 16, nat_lit 0, nat_lit 0, [])]
/-- SpeechKeeper.reportByte(int) -/
def zk_94 : List zE := [(nat_lit 0, nat_lit 0, nat_lit 1, nat_lit 0, []),
  (nat_lit 1, nat_lit 5, nat_lit 21, nat_lit 2, []),
  (nat_lit 4, nat_lit 0, nat_lit 1, nat_lit 0, []),
  (nat_lit 5, nat_lit 0, nat_lit 0, nat_lit 4, []),
  (nat_lit 6, nat_lit 8, nat_lit 9, nat_lit 11, []),
  (nat_lit 9, nat_lit 6, nat_lit 21, nat_lit 3, []),
  (nat_lit 12, nat_lit 99, nat_lit 0, nat_lit 0, []),
  (nat_lit 13, nat_lit 99, nat_lit 0, nat_lit 0, []),
  (nat_lit 16, nat_lit 99, nat_lit 0, nat_lit 0, []),
  (nat_lit 17, nat_lit 99, nat_lit 0, nat_lit 0, []),
  (nat_lit 18, nat_lit 99, nat_lit 0, nat_lit 0, []),
  (nat_lit 21, nat_lit 1, nat_lit 0, nat_lit 0, [nat_lit 0, nat_lit 4294967295, nat_lit 0]),
  (nat_lit 22, nat_lit 16, nat_lit 0, nat_lit 0, [])]
/-- SpeechKeeper.restoreSnapshot(int) -/
def zk_95 : List zE := [(nat_lit 0, nat_lit 0, nat_lit 1, nat_lit 0, []),
  (nat_lit 1, nat_lit 1, nat_lit 0, nat_lit 0, [nat_lit 0, nat_lit 0, nat_lit 0]),
  (nat_lit 2, nat_lit 1, nat_lit 0, nat_lit 0, [nat_lit 0, nat_lit 1, nat_lit 0]),
  (nat_lit 3, nat_lit 15, nat_lit 83, nat_lit 3, [nat_lit 1, nat_lit 9]),
  (nat_lit 6, nat_lit 0, nat_lit 0, nat_lit 4, []),
  (nat_lit 7, nat_lit 8, nat_lit 9, nat_lit 5, []),
  (nat_lit 10, nat_lit 0, nat_lit 1, nat_lit 0, []),
  (nat_lit 11, nat_lit 15, nat_lit 42, nat_lit 2, [nat_lit 0, nat_lit 5]),
  (nat_lit 14, nat_lit 5, nat_lit 28, nat_lit 1, []),
  (nat_lit 17, nat_lit 25, nat_lit 2, nat_lit 3, []),
  (nat_lit 20, nat_lit 99, nat_lit 0, nat_lit 0, []),
  (nat_lit 21, nat_lit 99, nat_lit 0, nat_lit 0, []),
  (nat_lit 24, nat_lit 99, nat_lit 0, nat_lit 0, []),
  (nat_lit 27, nat_lit 99, nat_lit 0, nat_lit 0, []),
  (nat_lit 28, nat_lit 99, nat_lit 0, nat_lit 0, []),
  (nat_lit 29, nat_lit 99, nat_lit 0, nat_lit 0, []),
  (nat_lit 32, nat_lit 99, nat_lit 0, nat_lit 0, []),
  (nat_lit 33, nat_lit 99, nat_lit 0, nat_lit 0, []),
  (nat_lit 34, nat_lit 99, nat_lit 0, nat_lit 0, []),
  (nat_lit 37, nat_lit 99, nat_lit 0, nat_lit 0, []),
  (nat_lit 40, nat_lit 99, nat_lit 0, nat_lit 0, []),
  (nat_lit 41, nat_lit 99, nat_lit 0, nat_lit 0, []),
  (nat_lit 44, nat_lit 99, nat_lit 0, nat_lit 0, []),
  (nat_lit 47, nat_lit 99, nat_lit 0, nat_lit 0, []),
  (nat_lit 48, nat_lit 99, nat_lit 0, nat_lit 0, []),
  (nat_lit 51, nat_lit 99, nat_lit 0, nat_lit 0, []),
  (nat_lit 52, nat_lit 99, nat_lit 0, nat_lit 0, []),
  (nat_lit 55, nat_lit 99, nat_lit 0, nat_lit 0, []),
  (nat_lit 58, nat_lit 99, nat_lit 0, nat_lit 0, [])]
/-- SpeechKeeper.safeLines(int) -/
def zk_96 : List zE := [(nat_lit 0, nat_lit 0, nat_lit 1, nat_lit 0, []),
  (nat_lit 1, nat_lit 15, nat_lit 84, nat_lit 1, [nat_lit 1, nat_lit 9]),
  (nat_lit 4, nat_lit 0, nat_lit 0, nat_lit 4, []),
  (nat_lit 5, nat_lit 15, nat_lit 78, nat_lit 1, [nat_lit 0, nat_lit 9]),
  (nat_lit 8, nat_lit 1, nat_lit 0, nat_lit 0, [nat_lit 0, nat_lit 1, nat_lit 0]),
  (nat_lit 9, nat_lit 0, nat_lit 1, nat_lit 0, []),
  (nat_lit 10, nat_lit 4, nat_lit 1, nat_lit 0, []),
  (nat_lit 11, nat_lit 15, nat_lit 25, nat_lit 2, [nat_lit 0, nat_lit 3]),
  (nat_lit 14, nat_lit 2, nat_lit 2, nat_lit 4, []),
  (nat_lit 15, nat_lit 1, nat_lit 0, nat_lit 0, [nat_lit 0, nat_lit 1, nat_lit 0]),
  (nat_lit 16, nat_lit 0, nat_lit 0, nat_lit 4, []),
  (nat_lit 17, nat_lit 8, nat_lit 9, nat_lit 1, []),
  (nat_lit 20, nat_lit 8, nat_lit 6, nat_lit 0, []),
  (nat_lit 23, nat_lit 15, nat_lit 55, nat_lit 1, [nat_lit 0, nat_lit 8]),
  (nat_lit 26, nat_lit 4, nat_lit 6, nat_lit 0, []),
  (nat_lit 27, nat_lit 1, nat_lit 0, nat_lit 0, [nat_lit 0, nat_lit 1, nat_lit 0]),
  (nat_lit 28, nat_lit 4, nat_lit 1, nat_lit 0, []),
  (nat_lit 29, nat_lit 2, nat_lit 3, nat_lit 0, []),
  (nat_lit 30, nat_lit 1, nat_lit 0, nat_lit 0, [nat_lit 0, nat_lit 0, nat_lit 0]),
  (nat_lit 31, nat_lit 2, nat_lit 4, nat_lit 0, []),
  (nat_lit 33, nat_lit 0, nat_lit 4, nat_lit 0, []),
  (nat_lit 35, nat_lit 0, nat_lit 2, nat_lit 4, []),
  (nat_lit 36, nat_lit 15, nat_lit 50, nat_lit 1, [nat_lit 0, nat_lit 7]),
  (nat_lit 39, nat_lit 6, nat_lit 84, nat_lit 3, []),
  (nat_lit 42, nat_lit 99, nat_lit 0, nat_lit 0, []),
  (nat_lit 43, nat_lit 99, nat_lit 0, nat_lit 0, []),
  (nat_lit 45, nat_lit 99, nat_lit 0, nat_lit 0, []),
  (nat_lit 46, nat_lit 99, nat_lit 0, nat_lit 0, []),
  (nat_lit 49, nat_lit 99, nat_lit 0, nat_lit 0, []),
  (nat_lit 51, nat_lit 99, nat_lit 0, nat_lit 0, []),
  (nat_lit 53, nat_lit 99, nat_lit 0, nat_lit 0, []),
  (nat_lit 54, nat_lit 99, nat_lit 0, nat_lit 0, []),
  (nat_lit 56, nat_lit 99, nat_lit 0, nat_lit 0, []),
  (nat_lit 57, nat_lit 99, nat_lit 0, nat_lit 0, []),
  (nat_lit 60, nat_lit 99, nat_lit 0, nat_lit 0, []),
  (nat_lit 63, nat_lit 99, nat_lit 0, nat_lit 0, []),
  (nat_lit 64, nat_lit 99, nat_lit 0, nat_lit 0, []),
  (nat_lit 65, nat_lit 99, nat_lit 0, nat_lit 0, []),
  (nat_lit 67, nat_lit 99, nat_lit 0, nat_lit 0, []),
  (nat_lit 68, nat_lit 99, nat_lit 0, nat_lit 0, []),
  (nat_lit 69, nat_lit 99, nat_lit 0, nat_lit 0, []),
  (nat_lit 70, nat_lit 99, nat_lit 0, nat_lit 0, []),
  (nat_lit 71, nat_lit 99, nat_lit 0, nat_lit 0, []),
  (nat_lit 72, nat_lit 99, nat_lit 0, nat_lit 0, []),
  (nat_lit 75, nat_lit 99, nat_lit 0, nat_lit 0, []),
  (nat_lit 78, nat_lit 99, nat_lit 0, nat_lit 0, []),
  (nat_lit 81, nat_lit 99, nat_lit 0, nat_lit 0, []),
  (nat_lit 84, nat_lit 0, nat_lit 3, nat_lit 0, []),
  (nat_lit 85, nat_lit 16, nat_lit 0, nat_lit 0, [])]
/-- SpeechKeeper.saveSnapshot(int) -/
def zk_97 : List zE := [(nat_lit 0, nat_lit 0, nat_lit 1, nat_lit 0, []),
  (nat_lit 1, nat_lit 1, nat_lit 0, nat_lit 0, [nat_lit 0, nat_lit 0, nat_lit 0]),
  (nat_lit 2, nat_lit 1, nat_lit 0, nat_lit 0, [nat_lit 0, nat_lit 1, nat_lit 0]),
  (nat_lit 3, nat_lit 15, nat_lit 83, nat_lit 3, [nat_lit 1, nat_lit 9]),
  (nat_lit 6, nat_lit 0, nat_lit 0, nat_lit 4, []),
  (nat_lit 7, nat_lit 8, nat_lit 9, nat_lit 5, []),
  (nat_lit 10, nat_lit 0, nat_lit 1, nat_lit 0, []),
  (nat_lit 11, nat_lit 15, nat_lit 42, nat_lit 2, [nat_lit 0, nat_lit 5]),
  (nat_lit 14, nat_lit 2, nat_lit 2, nat_lit 0, []),
  (nat_lit 15, nat_lit 0, nat_lit 0, nat_lit 4, []),
  (nat_lit 16, nat_lit 8, nat_lit 9, nat_lit 5, []),
  (nat_lit 19, nat_lit 0, nat_lit 1, nat_lit 0, []),
  (nat_lit 20, nat_lit 0, nat_lit 0, nat_lit 4, []),
  (nat_lit 21, nat_lit 8, nat_lit 9, nat_lit 1, []),
  (nat_lit 24, nat_lit 15, nat_lit 43, nat_lit 3, [nat_lit 0, nat_lit 5]),
  (nat_lit 27, nat_lit 0, nat_lit 2, nat_lit 0, []),
  (nat_lit 28, nat_lit 16, nat_lit 0, nat_lit 6, [])]
/-- SpeechKeeper.share(int) -/
def zk_98 : List zE := [(nat_lit 0, nat_lit 0, nat_lit 1, nat_lit 0, []),
  (nat_lit 1, nat_lit 1, nat_lit 0, nat_lit 0, [nat_lit 0, nat_lit 0, nat_lit 0]),
  (nat_lit 2, nat_lit 1, nat_lit 0, nat_lit 0, [nat_lit 0, nat_lit 3, nat_lit 0]),
  (nat_lit 3, nat_lit 15, nat_lit 83, nat_lit 3, [nat_lit 1, nat_lit 9]),
  (nat_lit 6, nat_lit 0, nat_lit 0, nat_lit 4, []),
  (nat_lit 7, nat_lit 1, nat_lit 0, nat_lit 0, [nat_lit 0, nat_lit 3, nat_lit 0]),
  (nat_lit 8, nat_lit 15, nat_lit 102, nat_lit 2, [nat_lit 0, nat_lit 9]),
  (nat_lit 11, nat_lit 2, nat_lit 2, nat_lit 4, []),
  (nat_lit 12, nat_lit 0, nat_lit 2, nat_lit 4, []),
  (nat_lit 13, nat_lit 1, nat_lit 0, nat_lit 0, [nat_lit 0, nat_lit 0, nat_lit 0]),
  (nat_lit 14, nat_lit 0, nat_lit 2, nat_lit 4, []),
  (nat_lit 15, nat_lit 15, nat_lit 55, nat_lit 1, [nat_lit 0, nat_lit 8]),
  (nat_lit 18, nat_lit 15, nat_lit 56, nat_lit 3, [nat_lit 0, nat_lit 8]),
  (nat_lit 21, nat_lit 2, nat_lit 3, nat_lit 0, []),
  (nat_lit 22, nat_lit 0, nat_lit 3, nat_lit 0, []),
  (nat_lit 23, nat_lit 5, nat_lit 30, nat_lit 1, []),
  (nat_lit 26, nat_lit 1, nat_lit 0, nat_lit 0, [nat_lit 6, nat_lit 0, nat_lit 0]),
  (nat_lit 27, nat_lit 7, nat_lit 39, nat_lit 0, []),
  (nat_lit 30, nat_lit 99, nat_lit 0, nat_lit 0, []),
  (nat_lit 31, nat_lit 99, nat_lit 0, nat_lit 0, []),
  (nat_lit 32, nat_lit 99, nat_lit 0, nat_lit 0, []),
  (nat_lit 35, nat_lit 99, nat_lit 0, nat_lit 0, []),
  (nat_lit 36, nat_lit 99, nat_lit 0, nat_lit 0, []),
  (nat_lit 37, nat_lit 99, nat_lit 0, nat_lit 0, []),
  (nat_lit 38, nat_lit 99, nat_lit 0, nat_lit 0, []),
  (nat_lit 39, nat_lit 16, nat_lit 0, nat_lit 2, [])]
/-- SpeechKeeper.size(int) -/
def zk_99 : List zE := [(nat_lit 0, nat_lit 0, nat_lit 1, nat_lit 0, []),
  (nat_lit 1, nat_lit 1, nat_lit 0, nat_lit 0, [nat_lit 0, nat_lit 0, nat_lit 0]),
  (nat_lit 2, nat_lit 1, nat_lit 0, nat_lit 0, [nat_lit 0, nat_lit 12, nat_lit 0]),
  (nat_lit 4, nat_lit 15, nat_lit 83, nat_lit 3, [nat_lit 1, nat_lit 9]),
  (nat_lit 7, nat_lit 0, nat_lit 0, nat_lit 4, []),
  (nat_lit 8, nat_lit 0, nat_lit 1, nat_lit 0, []),
  (nat_lit 9, nat_lit 15, nat_lit 85, nat_lit 2, [nat_lit 0, nat_lit 9]),
  (nat_lit 12, nat_lit 16, nat_lit 0, nat_lit 0, [])]
/-- SpeechKeeper.sumWithText(long, SpeechKeeper$Text, boolean) -/
def zk_100 : List zE := [(nat_lit 0, nat_lit 0, nat_lit 0, nat_lit 1, []),
  (nat_lit 1, nat_lit 2, nat_lit 4, nat_lit 1, []),
  (nat_lit 3, nat_lit 1, nat_lit 0, nat_lit 0, [nat_lit 0, nat_lit 0, nat_lit 0]),
  (nat_lit 4, nat_lit 2, nat_lit 6, nat_lit 0, []),
  (nat_lit 6, nat_lit 0, nat_lit 6, nat_lit 0, []),
  (nat_lit 8, nat_lit 0, nat_lit 2, nat_lit 4, []),
  (nat_lit 9, nat_lit 15, nat_lit 55, nat_lit 1, [nat_lit 0, nat_lit 8]),
  (nat_lit 12, nat_lit 6, nat_lit 94, nat_lit 3, []),
  (nat_lit 15, nat_lit 99, nat_lit 0, nat_lit 0, []),
  (nat_lit 18, nat_lit 99, nat_lit 0, nat_lit 0, []),
  (nat_lit 20, nat_lit 99, nat_lit 0, nat_lit 0, []),
  (nat_lit 21, nat_lit 99, nat_lit 0, nat_lit 0, []),
  (nat_lit 22, nat_lit 99, nat_lit 0, nat_lit 0, []),
  (nat_lit 24, nat_lit 99, nat_lit 0, nat_lit 0, []),
  (nat_lit 27, nat_lit 99, nat_lit 0, nat_lit 0, []),
  (nat_lit 28, nat_lit 99, nat_lit 0, nat_lit 0, []),
  (nat_lit 29, nat_lit 99, nat_lit 0, nat_lit 0, []),
  (nat_lit 31, nat_lit 99, nat_lit 0, nat_lit 0, []),
  (nat_lit 32, nat_lit 99, nat_lit 0, nat_lit 0, []),
  (nat_lit 34, nat_lit 99, nat_lit 0, nat_lit 0, []),
  (nat_lit 36, nat_lit 99, nat_lit 0, nat_lit 0, []),
  (nat_lit 37, nat_lit 99, nat_lit 0, nat_lit 0, []),
  (nat_lit 39, nat_lit 99, nat_lit 0, nat_lit 0, []),
  (nat_lit 42, nat_lit 99, nat_lit 0, nat_lit 0, []),
  (nat_lit 45, nat_lit 99, nat_lit 0, nat_lit 0, []),
  (nat_lit 47, nat_lit 99, nat_lit 0, nat_lit 0, []),
  (nat_lit 48, nat_lit 99, nat_lit 0, nat_lit 0, []),
  (nat_lit 50, nat_lit 99, nat_lit 0, nat_lit 0, []),
  (nat_lit 52, nat_lit 99, nat_lit 0, nat_lit 0, []),
  (nat_lit 55, nat_lit 99, nat_lit 0, nat_lit 0, []),
  (nat_lit 58, nat_lit 99, nat_lit 0, nat_lit 0, []),
  (nat_lit 60, nat_lit 99, nat_lit 0, nat_lit 0, []),
  (nat_lit 61, nat_lit 99, nat_lit 0, nat_lit 0, []),
  (nat_lit 64, nat_lit 99, nat_lit 0, nat_lit 0, []),
  (nat_lit 67, nat_lit 99, nat_lit 0, nat_lit 0, []),
  (nat_lit 69, nat_lit 99, nat_lit 0, nat_lit 0, []),
  (nat_lit 70, nat_lit 99, nat_lit 0, nat_lit 0, []),
  (nat_lit 71, nat_lit 99, nat_lit 0, nat_lit 0, []),
  (nat_lit 73, nat_lit 99, nat_lit 0, nat_lit 0, []),
  (nat_lit 75, nat_lit 99, nat_lit 0, nat_lit 0, []),
  (nat_lit 78, nat_lit 99, nat_lit 0, nat_lit 0, []),
  (nat_lit 79, nat_lit 99, nat_lit 0, nat_lit 0, []),
  (nat_lit 80, nat_lit 99, nat_lit 0, nat_lit 0, []),
  (nat_lit 82, nat_lit 99, nat_lit 0, nat_lit 0, []),
  (nat_lit 85, nat_lit 99, nat_lit 0, nat_lit 0, []),
  (nat_lit 88, nat_lit 99, nat_lit 0, nat_lit 0, []),
  (nat_lit 91, nat_lit 99, nat_lit 0, nat_lit 0, []),
  (nat_lit 94, nat_lit 0, nat_lit 4, nat_lit 1, []),
  (nat_lit 96, nat_lit 16, nat_lit 0, nat_lit 1, [])]
/-- SpeechKeeper.takeBack(int, int) -/
def zk_101 : List zE := [(nat_lit 0, nat_lit 0, nat_lit 1, nat_lit 0, []),
  (nat_lit 1, nat_lit 15, nat_lit 84, nat_lit 1, [nat_lit 1, nat_lit 9]),
  (nat_lit 4, nat_lit 0, nat_lit 0, nat_lit 4, []),
  (nat_lit 5, nat_lit 15, nat_lit 78, nat_lit 1, [nat_lit 0, nat_lit 9]),
  (nat_lit 8, nat_lit 0, nat_lit 1, nat_lit 0, []),
  (nat_lit 9, nat_lit 15, nat_lit 25, nat_lit 2, [nat_lit 0, nat_lit 3]),
  (nat_lit 12, nat_lit 2, nat_lit 3, nat_lit 4, []),
  (nat_lit 13, nat_lit 0, nat_lit 2, nat_lit 0, []),
  (nat_lit 14, nat_lit 0, nat_lit 3, nat_lit 4, []),
  (nat_lit 15, nat_lit 15, nat_lit 50, nat_lit 1, [nat_lit 0, nat_lit 7]),
  (nat_lit 18, nat_lit 15, nat_lit 81, nat_lit 2, [nat_lit 1, nat_lit 9]),
  (nat_lit 21, nat_lit 99, nat_lit 0, nat_lit 0, []),
  (nat_lit 22, nat_lit 99, nat_lit 0, nat_lit 0, []),
  (nat_lit 25, nat_lit 99, nat_lit 0, nat_lit 0, []),
  (nat_lit 26, nat_lit 99, nat_lit 0, nat_lit 0, []),
  (nat_lit 29, nat_lit 99, nat_lit 0, nat_lit 0, []),
  (nat_lit 31, nat_lit 99, nat_lit 0, nat_lit 0, []),
  (nat_lit 32, nat_lit 99, nat_lit 0, nat_lit 0, []),
  (nat_lit 33, nat_lit 99, nat_lit 0, nat_lit 0, []),
  (nat_lit 34, nat_lit 99, nat_lit 0, nat_lit 0, []),
  (nat_lit 37, nat_lit 99, nat_lit 0, nat_lit 0, []),
  (nat_lit 39, nat_lit 99, nat_lit 0, nat_lit 0, []),
  (nat_lit 40, nat_lit 99, nat_lit 0, nat_lit 0, []),
  (nat_lit 41, nat_lit 99, nat_lit 0, nat_lit 0, []),
  (nat_lit 42, nat_lit 99, nat_lit 0, nat_lit 0, []),
  (nat_lit 45, nat_lit 99, nat_lit 0, nat_lit 0, []),
  (nat_lit 47, nat_lit 99, nat_lit 0, nat_lit 0, []),
  (nat_lit 48, nat_lit 99, nat_lit 0, nat_lit 0, []),
  (nat_lit 49, nat_lit 99, nat_lit 0, nat_lit 0, []),
  (nat_lit 50, nat_lit 99, nat_lit 0, nat_lit 0, []),
  (nat_lit 53, nat_lit 99, nat_lit 0, nat_lit 0, []),
  (nat_lit 55, nat_lit 99, nat_lit 0, nat_lit 0, []),
  (nat_lit 56, nat_lit 99, nat_lit 0, nat_lit 0, []),
  (nat_lit 57, nat_lit 99, nat_lit 0, nat_lit 0, []),
  (nat_lit 58, nat_lit 99, nat_lit 0, nat_lit 0, []),
  (nat_lit 61, nat_lit 99, nat_lit 0, nat_lit 0, []),
  (nat_lit 63, nat_lit 99, nat_lit 0, nat_lit 0, []),
  (nat_lit 65, nat_lit 99, nat_lit 0, nat_lit 0, []),
  (nat_lit 68, nat_lit 99, nat_lit 0, nat_lit 0, []),
  (nat_lit 70, nat_lit 99, nat_lit 0, nat_lit 0, []),
  (nat_lit 72, nat_lit 99, nat_lit 0, nat_lit 0, []),
  (nat_lit 73, nat_lit 99, nat_lit 0, nat_lit 0, []),
  (nat_lit 74, nat_lit 99, nat_lit 0, nat_lit 0, []),
  (nat_lit 76, nat_lit 99, nat_lit 0, nat_lit 0, []),
  (nat_lit 78, nat_lit 99, nat_lit 0, nat_lit 0, []),
  (nat_lit 79, nat_lit 99, nat_lit 0, nat_lit 0, []),
  (nat_lit 80, nat_lit 99, nat_lit 0, nat_lit 0, []),
  (nat_lit 82, nat_lit 99, nat_lit 0, nat_lit 0, []),
  (nat_lit 85, nat_lit 99, nat_lit 0, nat_lit 0, []),
  (nat_lit 86, nat_lit 99, nat_lit 0, nat_lit 0, []),
  (nat_lit 87, nat_lit 99, nat_lit 0, nat_lit 0, []),
  (nat_lit 88, nat_lit 99, nat_lit 0, nat_lit 0, []),
  (nat_lit 91, nat_lit 99, nat_lit 0, nat_lit 0, []),
  (nat_lit 93, nat_lit 99, nat_lit 0, nat_lit 0, []),
  (nat_lit 95, nat_lit 99, nat_lit 0, nat_lit 0, []),
  (nat_lit 97, nat_lit 99, nat_lit 0, nat_lit 0, []),
  (nat_lit 99, nat_lit 99, nat_lit 0, nat_lit 0, []),
  (nat_lit 102, nat_lit 99, nat_lit 0, nat_lit 0, []),
  (nat_lit 104, nat_lit 99, nat_lit 0, nat_lit 0, []),
  (nat_lit 106, nat_lit 99, nat_lit 0, nat_lit 0, []),
  (nat_lit 109, nat_lit 99, nat_lit 0, nat_lit 0, []),
  (nat_lit 112, nat_lit 99, nat_lit 0, nat_lit 0, []),
  (nat_lit 115, nat_lit 99, nat_lit 0, nat_lit 0, []),
  (nat_lit 117, nat_lit 99, nat_lit 0, nat_lit 0, []),
  (nat_lit 119, nat_lit 99, nat_lit 0, nat_lit 0, []),
  (nat_lit 121, nat_lit 99, nat_lit 0, nat_lit 0, []),
  (nat_lit 123, nat_lit 99, nat_lit 0, nat_lit 0, []),
  (nat_lit 126, nat_lit 99, nat_lit 0, nat_lit 0, []),
  (nat_lit 128, nat_lit 99, nat_lit 0, nat_lit 0, []),
  (nat_lit 130, nat_lit 99, nat_lit 0, nat_lit 0, []),
  (nat_lit 132, nat_lit 99, nat_lit 0, nat_lit 0, []),
  (nat_lit 133, nat_lit 99, nat_lit 0, nat_lit 0, []),
  (nat_lit 135, nat_lit 99, nat_lit 0, nat_lit 0, []),
  (nat_lit 136, nat_lit 99, nat_lit 0, nat_lit 0, []),
  (nat_lit 137, nat_lit 99, nat_lit 0, nat_lit 0, []),
  (nat_lit 140, nat_lit 99, nat_lit 0, nat_lit 0, []),
  (nat_lit 143, nat_lit 99, nat_lit 0, nat_lit 0, []),
  (nat_lit 145, nat_lit 99, nat_lit 0, nat_lit 0, []),
  (nat_lit 148, nat_lit 99, nat_lit 0, nat_lit 0, []),
  (nat_lit 151, nat_lit 99, nat_lit 0, nat_lit 0, []),
  (nat_lit 154, nat_lit 99, nat_lit 0, nat_lit 0, []),
  (nat_lit 155, nat_lit 99, nat_lit 0, nat_lit 0, []),
  (nat_lit 158, nat_lit 99, nat_lit 0, nat_lit 0, []),
  (nat_lit 159, nat_lit 99, nat_lit 0, nat_lit 0, []),
  (nat_lit 162, nat_lit 99, nat_lit 0, nat_lit 0, []),
  (nat_lit 165, nat_lit 99, nat_lit 0, nat_lit 0, [])]
/-- SpeechKeeper.textOf(int) -/
def zk_102 : List zE := [(nat_lit 0, nat_lit 0, nat_lit 1, nat_lit 0, []),
  (nat_lit 1, nat_lit 5, nat_lit 12, nat_lit 1, []),
  (nat_lit 4, nat_lit 0, nat_lit 0, nat_lit 4, []),
  (nat_lit 5, nat_lit 8, nat_lit 9, nat_lit 1, []),
  (nat_lit 8, nat_lit 8, nat_lit 6, nat_lit 0, []),
  (nat_lit 11, nat_lit 16, nat_lit 0, nat_lit 4, []),
  (nat_lit 12, nat_lit 0, nat_lit 1, nat_lit 0, []),
  (nat_lit 13, nat_lit 1, nat_lit 0, nat_lit 0, [nat_lit 0, nat_lit 3, nat_lit 0]),
  (nat_lit 14, nat_lit 6, nat_lit 28, nat_lit 0, []),
  (nat_lit 17, nat_lit 0, nat_lit 0, nat_lit 4, []),
  (nat_lit 18, nat_lit 8, nat_lit 9, nat_lit 1, []),
  (nat_lit 21, nat_lit 0, nat_lit 1, nat_lit 0, []),
  (nat_lit 22, nat_lit 1, nat_lit 0, nat_lit 0, [nat_lit 0, nat_lit 1, nat_lit 0]),
  (nat_lit 23, nat_lit 4, nat_lit 1, nat_lit 0, []),
  (nat_lit 24, nat_lit 15, nat_lit 46, nat_lit 2, [nat_lit 0, nat_lit 6]),
  (nat_lit 27, nat_lit 16, nat_lit 0, nat_lit 4, []),
  (nat_lit 28, nat_lit 0, nat_lit 0, nat_lit 4, []),
  (nat_lit 29, nat_lit 8, nat_lit 9, nat_lit 13, []),
  (nat_lit 32, nat_lit 5, nat_lit 52, nat_lit 1, []),
  (nat_lit 35, nat_lit 0, nat_lit 0, nat_lit 4, []),
  (nat_lit 36, nat_lit 15, nat_lit 78, nat_lit 1, [nat_lit 0, nat_lit 9]),
  (nat_lit 39, nat_lit 18, nat_lit 0, nat_lit 0, []),
  (nat_lit 40, nat_lit 0, nat_lit 0, nat_lit 4, []),
  (nat_lit 41, nat_lit 8, nat_lit 9, nat_lit 9, []),
  (nat_lit 44, nat_lit 15, nat_lit 10, nat_lit 1, [nat_lit 0, nat_lit 1]),
  (nat_lit 47, nat_lit 0, nat_lit 0, nat_lit 4, []),
  (nat_lit 48, nat_lit 1, nat_lit 0, nat_lit 0, [nat_lit 0, nat_lit 1, nat_lit 0]),
  (nat_lit 49, nat_lit 9, nat_lit 9, nat_lit 13, [nat_lit 5]),
  (nat_lit 52, nat_lit 0, nat_lit 0, nat_lit 4, []),
  (nat_lit 53, nat_lit 8, nat_lit 9, nat_lit 9, []),
  (nat_lit 56, nat_lit 8, nat_lit 1, nat_lit 0, []),
  (nat_lit 59, nat_lit 16, nat_lit 0, nat_lit 4, [])]
/-- SpeechKeeper.undo() -/
def zk_103 : List zE := [(nat_lit 0, nat_lit 0, nat_lit 0, nat_lit 4, []),
  (nat_lit 1, nat_lit 8, nat_lit 9, nat_lit 4, []),
  (nat_lit 4, nat_lit 15, nat_lit 7, nat_lit 1, [nat_lit 0, nat_lit 0]),
  (nat_lit 7, nat_lit 5, nat_lit 12, nat_lit 1, []),
  (nat_lit 10, nat_lit 1, nat_lit 0, nat_lit 0, [nat_lit 0, nat_lit 4294967295, nat_lit 0]),
  (nat_lit 11, nat_lit 16, nat_lit 0, nat_lit 0, []),
  (nat_lit 12, nat_lit 99, nat_lit 0, nat_lit 0, []),
  (nat_lit 13, nat_lit 99, nat_lit 0, nat_lit 0, []),
  (nat_lit 16, nat_lit 99, nat_lit 0, nat_lit 0, []),
  (nat_lit 17, nat_lit 99, nat_lit 0, nat_lit 0, []),
  (nat_lit 20, nat_lit 99, nat_lit 0, nat_lit 0, []),
  (nat_lit 23, nat_lit 99, nat_lit 0, nat_lit 0, []),
  (nat_lit 24, nat_lit 99, nat_lit 0, nat_lit 0, []),
  (nat_lit 27, nat_lit 99, nat_lit 0, nat_lit 0, []),
  (nat_lit 28, nat_lit 99, nat_lit 0, nat_lit 0, []),
  (nat_lit 31, nat_lit 99, nat_lit 0, nat_lit 0, []),
  (nat_lit 34, nat_lit 99, nat_lit 0, nat_lit 0, [])]
/-- SpeechKeeper.wouldClash(int, int) -/
def zk_104 : List zE := [(nat_lit 0, nat_lit 0, nat_lit 1, nat_lit 0, []),
  (nat_lit 1, nat_lit 15, nat_lit 84, nat_lit 1, [nat_lit 1, nat_lit 9]),
  (nat_lit 4, nat_lit 0, nat_lit 2, nat_lit 0, []),
  (nat_lit 5, nat_lit 0, nat_lit 0, nat_lit 4, []),
  (nat_lit 6, nat_lit 8, nat_lit 9, nat_lit 1, []),
  (nat_lit 9, nat_lit 0, nat_lit 1, nat_lit 0, []),
  (nat_lit 10, nat_lit 15, nat_lit 46, nat_lit 2, [nat_lit 0, nat_lit 6]),
  (nat_lit 13, nat_lit 15, nat_lit 55, nat_lit 1, [nat_lit 0, nat_lit 8]),
  (nat_lit 16, nat_lit 15, nat_lit 81, nat_lit 2, [nat_lit 1, nat_lit 9]),
  (nat_lit 19, nat_lit 99, nat_lit 0, nat_lit 0, []),
  (nat_lit 20, nat_lit 99, nat_lit 0, nat_lit 0, []),
  (nat_lit 23, nat_lit 99, nat_lit 0, nat_lit 0, []),
  (nat_lit 24, nat_lit 99, nat_lit 0, nat_lit 0, []),
  (nat_lit 27, nat_lit 99, nat_lit 0, nat_lit 0, []),
  (nat_lit 28, nat_lit 99, nat_lit 0, nat_lit 0, []),
  (nat_lit 29, nat_lit 99, nat_lit 0, nat_lit 0, []),
  (nat_lit 30, nat_lit 99, nat_lit 0, nat_lit 0, []),
  (nat_lit 33, nat_lit 99, nat_lit 0, nat_lit 0, []),
  (nat_lit 34, nat_lit 99, nat_lit 0, nat_lit 0, []),
  (nat_lit 37, nat_lit 99, nat_lit 0, nat_lit 0, []),
  (nat_lit 40, nat_lit 99, nat_lit 0, nat_lit 0, []),
  (nat_lit 41, nat_lit 99, nat_lit 0, nat_lit 0, []),
  (nat_lit 42, nat_lit 99, nat_lit 0, nat_lit 0, []),
  (nat_lit 45, nat_lit 99, nat_lit 0, nat_lit 0, []),
  (nat_lit 46, nat_lit 99, nat_lit 0, nat_lit 0, []),
  (nat_lit 49, nat_lit 99, nat_lit 0, nat_lit 0, []),
  (nat_lit 50, nat_lit 99, nat_lit 0, nat_lit 0, []),
  (nat_lit 53, nat_lit 99, nat_lit 0, nat_lit 0, []),
  (nat_lit 54, nat_lit 99, nat_lit 0, nat_lit 0, []),
  (nat_lit 57, nat_lit 99, nat_lit 0, nat_lit 0, []),
  (nat_lit 60, nat_lit 99, nat_lit 0, nat_lit 0, []),
  (nat_lit 61, nat_lit 99, nat_lit 0, nat_lit 0, []),
  (nat_lit 62, nat_lit 99, nat_lit 0, nat_lit 0, []),
  (nat_lit 65, nat_lit 99, nat_lit 0, nat_lit 0, []),
  (nat_lit 68, nat_lit 99, nat_lit 0, nat_lit 0, []),
  (nat_lit 71, nat_lit 99, nat_lit 0, nat_lit 0, []),
  (nat_lit 74, nat_lit 99, nat_lit 0, nat_lit 0, []),
  (nat_lit 75, nat_lit 99, nat_lit 0, nat_lit 0, []),
  (nat_lit 78, nat_lit 99, nat_lit 0, nat_lit 0, []),
  (nat_lit 79, nat_lit 99, nat_lit 0, nat_lit 0, []),
  (nat_lit 82, nat_lit 99, nat_lit 0, nat_lit 0, []),
  (nat_lit 85, nat_lit 99, nat_lit 0, nat_lit 0, []),
  (nat_lit 86, nat_lit 99, nat_lit 0, nat_lit 0, []),
  (nat_lit 89, nat_lit 99, nat_lit 0, nat_lit 0, []),
  (nat_lit 92, nat_lit 99, nat_lit 0, nat_lit 0, []),
  (nat_lit 93, nat_lit 99, nat_lit 0, nat_lit 0, []),
  (nat_lit 96, nat_lit 99, nat_lit 0, nat_lit 0, []),
  (nat_lit 97, nat_lit 99, nat_lit 0, nat_lit 0, []),
  (nat_lit 100, nat_lit 99, nat_lit 0, nat_lit 0, []),
  (nat_lit 101, nat_lit 99, nat_lit 0, nat_lit 0, []),
  (nat_lit 104, nat_lit 99, nat_lit 0, nat_lit 0, []),
  (nat_lit 105, nat_lit 99, nat_lit 0, nat_lit 0, []),
  (nat_lit 108, nat_lit 99, nat_lit 0, nat_lit 0, []),
  (nat_lit 109, nat_lit 99, nat_lit 0, nat_lit 0, []),
  (nat_lit 112, nat_lit 99, nat_lit 0, nat_lit 0, []),
  (nat_lit 115, nat_lit 99, nat_lit 0, nat_lit 0, []),
  (nat_lit 116, nat_lit 99, nat_lit 0, nat_lit 0, []),
  (nat_lit 119, nat_lit 99, nat_lit 0, nat_lit 0, []),
  (nat_lit 120, nat_lit 99, nat_lit 0, nat_lit 0, [])]
/-- SpeechKeeperModel.<init>() -/
def zk_105 : List zE := [(nat_lit 0, nat_lit 0, nat_lit 0, nat_lit 4, []),
  (nat_lit 1, nat_lit 26, nat_lit 0, nat_lit 0, []),
  (nat_lit 4, nat_lit 0, nat_lit 0, nat_lit 4, []),
  (nat_lit 5, nat_lit 1, nat_lit 0, nat_lit 0, [nat_lit 0, nat_lit 692, nat_lit 0]),
  (nat_lit 8, nat_lit 14, nat_lit 103, nat_lit 0, []),
  (nat_lit 10, nat_lit 9, nat_lit 10, nat_lit 0, [nat_lit 4]),
  (nat_lit 13, nat_lit 0, nat_lit 0, nat_lit 4, []),
  (nat_lit 14, nat_lit 0, nat_lit 0, nat_lit 4, []),
  (nat_lit 15, nat_lit 8, nat_lit 10, nat_lit 0, []),
  (nat_lit 18, nat_lit 9, nat_lit 10, nat_lit 1, [nat_lit 4]),
  (nat_lit 21, nat_lit 0, nat_lit 0, nat_lit 4, []),
  (nat_lit 22, nat_lit 1, nat_lit 0, nat_lit 0, [nat_lit 0, nat_lit 692, nat_lit 0]),
  (nat_lit 25, nat_lit 14, nat_lit 103, nat_lit 0, []),
  (nat_lit 27, nat_lit 9, nat_lit 10, nat_lit 2, [nat_lit 4]),
  (nat_lit 30, nat_lit 0, nat_lit 0, nat_lit 4, []),
  (nat_lit 31, nat_lit 1, nat_lit 0, nat_lit 0, [nat_lit 0, nat_lit 5536, nat_lit 0]),
  (nat_lit 34, nat_lit 14, nat_lit 103, nat_lit 0, []),
  (nat_lit 36, nat_lit 9, nat_lit 10, nat_lit 3, [nat_lit 4]),
  (nat_lit 39, nat_lit 0, nat_lit 0, nat_lit 4, []),
  (nat_lit 40, nat_lit 1, nat_lit 0, nat_lit 0, [nat_lit 0, nat_lit 1384, nat_lit 0]),
  (nat_lit 43, nat_lit 14, nat_lit 103, nat_lit 0, []),
  (nat_lit 45, nat_lit 9, nat_lit 10, nat_lit 4, [nat_lit 4]),
  (nat_lit 48, nat_lit 0, nat_lit 0, nat_lit 4, []),
  (nat_lit 49, nat_lit 1, nat_lit 0, nat_lit 0, [nat_lit 0, nat_lit 2, nat_lit 0]),
  (nat_lit 50, nat_lit 14, nat_lit 102, nat_lit 0, []),
  (nat_lit 52, nat_lit 9, nat_lit 10, nat_lit 5, [nat_lit 4]),
  (nat_lit 55, nat_lit 0, nat_lit 0, nat_lit 4, []),
  (nat_lit 56, nat_lit 1, nat_lit 0, nat_lit 0, [nat_lit 0, nat_lit 352, nat_lit 0]),
  (nat_lit 59, nat_lit 14, nat_lit 103, nat_lit 0, []),
  (nat_lit 61, nat_lit 9, nat_lit 10, nat_lit 8, [nat_lit 4]),
  (nat_lit 64, nat_lit 0, nat_lit 0, nat_lit 4, []),
  (nat_lit 65, nat_lit 1, nat_lit 0, nat_lit 0, [nat_lit 0, nat_lit 352, nat_lit 0]),
  (nat_lit 68, nat_lit 14, nat_lit 100, nat_lit 0, []),
  (nat_lit 70, nat_lit 9, nat_lit 10, nat_lit 9, [nat_lit 4]),
  (nat_lit 73, nat_lit 0, nat_lit 0, nat_lit 4, []),
  (nat_lit 74, nat_lit 1, nat_lit 0, nat_lit 0, [nat_lit 0, nat_lit 164, nat_lit 0]),
  (nat_lit 77, nat_lit 14, nat_lit 103, nat_lit 0, []),
  (nat_lit 79, nat_lit 9, nat_lit 10, nat_lit 11, [nat_lit 4]),
  (nat_lit 82, nat_lit 0, nat_lit 0, nat_lit 4, []),
  (nat_lit 83, nat_lit 1, nat_lit 0, nat_lit 0, [nat_lit 0, nat_lit 164, nat_lit 0]),
  (nat_lit 86, nat_lit 14, nat_lit 103, nat_lit 0, []),
  (nat_lit 88, nat_lit 9, nat_lit 10, nat_lit 12, [nat_lit 4]),
  (nat_lit 91, nat_lit 0, nat_lit 0, nat_lit 4, []),
  (nat_lit 92, nat_lit 1, nat_lit 0, nat_lit 0, [nat_lit 0, nat_lit 27225, nat_lit 0]),
  (nat_lit 95, nat_lit 14, nat_lit 100, nat_lit 0, []),
  (nat_lit 97, nat_lit 9, nat_lit 10, nat_lit 13, [nat_lit 4]),
  (nat_lit 100, nat_lit 0, nat_lit 0, nat_lit 4, []),
  (nat_lit 101, nat_lit 1, nat_lit 0, nat_lit 0, [nat_lit 0, nat_lit 164, nat_lit 0]),
  (nat_lit 104, nat_lit 14, nat_lit 100, nat_lit 0, []),
  (nat_lit 106, nat_lit 9, nat_lit 10, nat_lit 14, [nat_lit 4]),
  (nat_lit 109, nat_lit 0, nat_lit 0, nat_lit 4, []),
  (nat_lit 110, nat_lit 1, nat_lit 0, nat_lit 0, [nat_lit 0, nat_lit 164, nat_lit 0]),
  (nat_lit 113, nat_lit 14, nat_lit 100, nat_lit 0, []),
  (nat_lit 115, nat_lit 9, nat_lit 10, nat_lit 15, [nat_lit 4]),
  (nat_lit 118, nat_lit 0, nat_lit 0, nat_lit 4, []),
  (nat_lit 119, nat_lit 1, nat_lit 0, nat_lit 0, [nat_lit 0, nat_lit 42, nat_lit 0]),
  (nat_lit 121, nat_lit 14, nat_lit 100, nat_lit 0, []),
  (nat_lit 123, nat_lit 9, nat_lit 10, nat_lit 18, [nat_lit 4]),
  (nat_lit 126, nat_lit 0, nat_lit 0, nat_lit 4, []),
  (nat_lit 127, nat_lit 1, nat_lit 0, nat_lit 0, [nat_lit 0, nat_lit 42, nat_lit 0]),
  (nat_lit 129, nat_lit 14, nat_lit 100, nat_lit 0, []),
  (nat_lit 131, nat_lit 9, nat_lit 10, nat_lit 19, [nat_lit 4]),
  (nat_lit 134, nat_lit 0, nat_lit 0, nat_lit 4, []),
  (nat_lit 135, nat_lit 1, nat_lit 0, nat_lit 0, [nat_lit 0, nat_lit 42, nat_lit 0]),
  (nat_lit 137, nat_lit 14, nat_lit 100, nat_lit 0, []),
  (nat_lit 139, nat_lit 9, nat_lit 10, nat_lit 20, [nat_lit 4]),
  (nat_lit 142, nat_lit 0, nat_lit 0, nat_lit 4, []),
  (nat_lit 143, nat_lit 1, nat_lit 0, nat_lit 0, [nat_lit 0, nat_lit 42, nat_lit 0]),
  (nat_lit 145, nat_lit 14, nat_lit 100, nat_lit 0, []),
  (nat_lit 147, nat_lit 9, nat_lit 10, nat_lit 21, [nat_lit 4]),
  (nat_lit 150, nat_lit 0, nat_lit 0, nat_lit 4, []),
  (nat_lit 151, nat_lit 1, nat_lit 0, nat_lit 0, [nat_lit 0, nat_lit 42, nat_lit 0]),
  (nat_lit 153, nat_lit 14, nat_lit 100, nat_lit 0, []),
  (nat_lit 155, nat_lit 9, nat_lit 10, nat_lit 22, [nat_lit 4]),
  (nat_lit 158, nat_lit 0, nat_lit 0, nat_lit 4, []),
  (nat_lit 159, nat_lit 1, nat_lit 0, nat_lit 0, [nat_lit 0, nat_lit 42, nat_lit 0]),
  (nat_lit 161, nat_lit 14, nat_lit 100, nat_lit 0, []),
  (nat_lit 163, nat_lit 9, nat_lit 10, nat_lit 23, [nat_lit 4]),
  (nat_lit 166, nat_lit 0, nat_lit 0, nat_lit 4, []),
  (nat_lit 167, nat_lit 1, nat_lit 0, nat_lit 0, [nat_lit 0, nat_lit 2, nat_lit 0]),
  (nat_lit 168, nat_lit 14, nat_lit 100, nat_lit 0, []),
  (nat_lit 170, nat_lit 9, nat_lit 10, nat_lit 24, [nat_lit 4]),
  (nat_lit 173, nat_lit 0, nat_lit 0, nat_lit 4, []),
  (nat_lit 174, nat_lit 1, nat_lit 0, nat_lit 0, [nat_lit 0, nat_lit 42, nat_lit 0]),
  (nat_lit 176, nat_lit 14, nat_lit 100, nat_lit 0, []),
  (nat_lit 178, nat_lit 9, nat_lit 10, nat_lit 25, [nat_lit 4]),
  (nat_lit 181, nat_lit 0, nat_lit 0, nat_lit 4, []),
  (nat_lit 182, nat_lit 1, nat_lit 0, nat_lit 0, [nat_lit 0, nat_lit 42, nat_lit 0]),
  (nat_lit 184, nat_lit 14, nat_lit 100, nat_lit 0, []),
  (nat_lit 186, nat_lit 9, nat_lit 10, nat_lit 26, [nat_lit 4]),
  (nat_lit 189, nat_lit 0, nat_lit 0, nat_lit 4, []),
  (nat_lit 190, nat_lit 1, nat_lit 0, nat_lit 0, [nat_lit 0, nat_lit 42, nat_lit 0]),
  (nat_lit 192, nat_lit 14, nat_lit 100, nat_lit 0, []),
  (nat_lit 194, nat_lit 9, nat_lit 10, nat_lit 27, [nat_lit 4]),
  (nat_lit 197, nat_lit 0, nat_lit 0, nat_lit 4, []),
  (nat_lit 198, nat_lit 1, nat_lit 0, nat_lit 0, [nat_lit 0, nat_lit 42, nat_lit 0]),
  (nat_lit 200, nat_lit 14, nat_lit 100, nat_lit 0, []),
  (nat_lit 202, nat_lit 9, nat_lit 10, nat_lit 28, [nat_lit 4]),
  (nat_lit 205, nat_lit 0, nat_lit 0, nat_lit 4, []),
  (nat_lit 206, nat_lit 1, nat_lit 0, nat_lit 0, [nat_lit 0, nat_lit 84, nat_lit 0]),
  (nat_lit 208, nat_lit 14, nat_lit 100, nat_lit 0, []),
  (nat_lit 210, nat_lit 9, nat_lit 10, nat_lit 29, [nat_lit 4]),
  (nat_lit 213, nat_lit 0, nat_lit 0, nat_lit 4, []),
  (nat_lit 214, nat_lit 1, nat_lit 0, nat_lit 0, [nat_lit 0, nat_lit 84, nat_lit 0]),
  (nat_lit 216, nat_lit 14, nat_lit 100, nat_lit 0, []),
  (nat_lit 218, nat_lit 9, nat_lit 10, nat_lit 30, [nat_lit 4]),
  (nat_lit 221, nat_lit 0, nat_lit 0, nat_lit 4, []),
  (nat_lit 222, nat_lit 1, nat_lit 0, nat_lit 0, [nat_lit 0, nat_lit 128, nat_lit 0]),
  (nat_lit 225, nat_lit 14, nat_lit 100, nat_lit 0, []),
  (nat_lit 227, nat_lit 9, nat_lit 10, nat_lit 32, [nat_lit 4]),
  (nat_lit 230, nat_lit 0, nat_lit 0, nat_lit 4, []),
  (nat_lit 231, nat_lit 1, nat_lit 0, nat_lit 0, [nat_lit 0, nat_lit 128, nat_lit 0]),
  (nat_lit 234, nat_lit 14, nat_lit 100, nat_lit 0, []),
  (nat_lit 236, nat_lit 9, nat_lit 10, nat_lit 33, [nat_lit 4]),
  (nat_lit 239, nat_lit 0, nat_lit 0, nat_lit 4, []),
  (nat_lit 240, nat_lit 1, nat_lit 0, nat_lit 0, [nat_lit 0, nat_lit 2, nat_lit 0]),
  (nat_lit 241, nat_lit 14, nat_lit 100, nat_lit 0, []),
  (nat_lit 243, nat_lit 9, nat_lit 10, nat_lit 34, [nat_lit 4]),
  (nat_lit 246, nat_lit 0, nat_lit 0, nat_lit 4, []),
  (nat_lit 247, nat_lit 1, nat_lit 0, nat_lit 0, [nat_lit 0, nat_lit 164, nat_lit 0]),
  (nat_lit 250, nat_lit 14, nat_lit 100, nat_lit 0, []),
  (nat_lit 252, nat_lit 9, nat_lit 10, nat_lit 35, [nat_lit 4]),
  (nat_lit 255, nat_lit 0, nat_lit 0, nat_lit 4, []),
  (nat_lit 256, nat_lit 1, nat_lit 0, nat_lit 0, [nat_lit 0, nat_lit 700, nat_lit 0]),
  (nat_lit 259, nat_lit 14, nat_lit 100, nat_lit 0, []),
  (nat_lit 261, nat_lit 9, nat_lit 10, nat_lit 36, [nat_lit 4]),
  (nat_lit 264, nat_lit 0, nat_lit 0, nat_lit 4, []),
  (nat_lit 265, nat_lit 1, nat_lit 0, nat_lit 0, [nat_lit 0, nat_lit 42, nat_lit 0]),
  (nat_lit 267, nat_lit 14, nat_lit 100, nat_lit 0, []),
  (nat_lit 269, nat_lit 9, nat_lit 10, nat_lit 44, [nat_lit 4]),
  (nat_lit 272, nat_lit 0, nat_lit 0, nat_lit 4, []),
  (nat_lit 273, nat_lit 1, nat_lit 0, nat_lit 0, [nat_lit 0, nat_lit 42, nat_lit 0]),
  (nat_lit 275, nat_lit 14, nat_lit 100, nat_lit 0, []),
  (nat_lit 277, nat_lit 9, nat_lit 10, nat_lit 45, [nat_lit 4]),
  (nat_lit 280, nat_lit 0, nat_lit 0, nat_lit 4, []),
  (nat_lit 281, nat_lit 1, nat_lit 0, nat_lit 0, [nat_lit 0, nat_lit 42, nat_lit 0]),
  (nat_lit 283, nat_lit 14, nat_lit 100, nat_lit 0, []),
  (nat_lit 285, nat_lit 9, nat_lit 10, nat_lit 46, [nat_lit 4]),
  (nat_lit 288, nat_lit 0, nat_lit 0, nat_lit 4, []),
  (nat_lit 289, nat_lit 1, nat_lit 0, nat_lit 0, [nat_lit 0, nat_lit 42, nat_lit 0]),
  (nat_lit 291, nat_lit 14, nat_lit 102, nat_lit 0, []),
  (nat_lit 293, nat_lit 9, nat_lit 10, nat_lit 47, [nat_lit 4]),
  (nat_lit 296, nat_lit 0, nat_lit 0, nat_lit 4, []),
  (nat_lit 297, nat_lit 1, nat_lit 0, nat_lit 0, [nat_lit 0, nat_lit 21, nat_lit 0]),
  (nat_lit 299, nat_lit 14, nat_lit 100, nat_lit 0, []),
  (nat_lit 301, nat_lit 9, nat_lit 10, nat_lit 48, [nat_lit 4]),
  (nat_lit 304, nat_lit 0, nat_lit 0, nat_lit 4, []),
  (nat_lit 305, nat_lit 1, nat_lit 0, nat_lit 0, [nat_lit 0, nat_lit 21, nat_lit 0]),
  (nat_lit 307, nat_lit 14, nat_lit 100, nat_lit 0, []),
  (nat_lit 309, nat_lit 9, nat_lit 10, nat_lit 49, [nat_lit 4]),
  (nat_lit 312, nat_lit 0, nat_lit 0, nat_lit 4, []),
  (nat_lit 313, nat_lit 1, nat_lit 0, nat_lit 0, [nat_lit 0, nat_lit 8, nat_lit 0]),
  (nat_lit 315, nat_lit 14, nat_lit 103, nat_lit 0, []),
  (nat_lit 317, nat_lit 9, nat_lit 10, nat_lit 50, [nat_lit 4]),
  (nat_lit 320, nat_lit 0, nat_lit 0, nat_lit 4, []),
  (nat_lit 321, nat_lit 1, nat_lit 0, nat_lit 0, [nat_lit 0, nat_lit 3600, nat_lit 0]),
  (nat_lit 324, nat_lit 14, nat_lit 100, nat_lit 0, []),
  (nat_lit 326, nat_lit 9, nat_lit 10, nat_lit 51, [nat_lit 4]),
  (nat_lit 329, nat_lit 16, nat_lit 0, nat_lit 5, [])]
/-- SpeechKeeperModel.addsBase(int, int) -/
def zk_106 : List zE := [(nat_lit 0, nat_lit 0, nat_lit 1, nat_lit 0, []),
  (nat_lit 1, nat_lit 2, nat_lit 3, nat_lit 0, []),
  (nat_lit 2, nat_lit 0, nat_lit 3, nat_lit 0, []),
  (nat_lit 3, nat_lit 0, nat_lit 2, nat_lit 0, []),
  (nat_lit 4, nat_lit 6, nat_lit 19, nat_lit 3, []),
  (nat_lit 7, nat_lit 99, nat_lit 0, nat_lit 0, []),
  (nat_lit 8, nat_lit 99, nat_lit 0, nat_lit 0, []),
  (nat_lit 9, nat_lit 99, nat_lit 0, nat_lit 0, []),
  (nat_lit 10, nat_lit 99, nat_lit 0, nat_lit 0, []),
  (nat_lit 13, nat_lit 99, nat_lit 0, nat_lit 0, []),
  (nat_lit 16, nat_lit 99, nat_lit 0, nat_lit 0, []),
  (nat_lit 19, nat_lit 16, nat_lit 0, nat_lit 5, [])]
/-- SpeechKeeperModel.addsChange(int, int, int, int, int) -/
def zk_107 : List zE := [(nat_lit 0, nat_lit 0, nat_lit 2, nat_lit 0, []),
  (nat_lit 1, nat_lit 0, nat_lit 3, nat_lit 0, []),
  (nat_lit 2, nat_lit 6, nat_lit 13, nat_lit 1, []),
  (nat_lit 5, nat_lit 0, nat_lit 4, nat_lit 0, []),
  (nat_lit 7, nat_lit 0, nat_lit 5, nat_lit 0, []),
  (nat_lit 9, nat_lit 6, nat_lit 13, nat_lit 1, []),
  (nat_lit 12, nat_lit 16, nat_lit 0, nat_lit 5, []),
  (nat_lit 13, nat_lit 99, nat_lit 0, nat_lit 0, []),
  (nat_lit 15, nat_lit 99, nat_lit 0, nat_lit 0, []),
  (nat_lit 16, nat_lit 99, nat_lit 0, nat_lit 0, []),
  (nat_lit 17, nat_lit 99, nat_lit 0, nat_lit 0, []),
  (nat_lit 18, nat_lit 99, nat_lit 0, nat_lit 0, []),
  (nat_lit 21, nat_lit 99, nat_lit 0, nat_lit 0, []),
  (nat_lit 22, nat_lit 99, nat_lit 0, nat_lit 0, []),
  (nat_lit 23, nat_lit 99, nat_lit 0, nat_lit 0, []),
  (nat_lit 24, nat_lit 99, nat_lit 0, nat_lit 0, []),
  (nat_lit 26, nat_lit 99, nat_lit 0, nat_lit 0, []),
  (nat_lit 27, nat_lit 99, nat_lit 0, nat_lit 0, []),
  (nat_lit 30, nat_lit 99, nat_lit 0, nat_lit 0, []),
  (nat_lit 32, nat_lit 99, nat_lit 0, nat_lit 0, []),
  (nat_lit 33, nat_lit 99, nat_lit 0, nat_lit 0, []),
  (nat_lit 34, nat_lit 99, nat_lit 0, nat_lit 0, []),
  (nat_lit 35, nat_lit 99, nat_lit 0, nat_lit 0, []),
  (nat_lit 38, nat_lit 99, nat_lit 0, nat_lit 0, []),
  (nat_lit 40, nat_lit 99, nat_lit 0, nat_lit 0, []),
  (nat_lit 41, nat_lit 99, nat_lit 0, nat_lit 0, []),
  (nat_lit 42, nat_lit 99, nat_lit 0, nat_lit 0, []),
  (nat_lit 43, nat_lit 99, nat_lit 0, nat_lit 0, []),
  (nat_lit 46, nat_lit 99, nat_lit 0, nat_lit 0, []),
  (nat_lit 48, nat_lit 99, nat_lit 0, nat_lit 0, []),
  (nat_lit 50, nat_lit 99, nat_lit 0, nat_lit 0, []),
  (nat_lit 51, nat_lit 99, nat_lit 0, nat_lit 0, []),
  (nat_lit 52, nat_lit 99, nat_lit 0, nat_lit 0, []),
  (nat_lit 55, nat_lit 99, nat_lit 0, nat_lit 0, []),
  (nat_lit 57, nat_lit 99, nat_lit 0, nat_lit 0, []),
  (nat_lit 59, nat_lit 99, nat_lit 0, nat_lit 0, []),
  (nat_lit 60, nat_lit 99, nat_lit 0, nat_lit 0, []),
  (nat_lit 61, nat_lit 99, nat_lit 0, nat_lit 0, []),
  (nat_lit 64, nat_lit 99, nat_lit 0, nat_lit 0, []),
  (nat_lit 65, nat_lit 99, nat_lit 0, nat_lit 0, []),
  (nat_lit 66, nat_lit 99, nat_lit 0, nat_lit 0, []),
  (nat_lit 67, nat_lit 99, nat_lit 0, nat_lit 0, []),
  (nat_lit 68, nat_lit 99, nat_lit 0, nat_lit 0, []),
  (nat_lit 69, nat_lit 99, nat_lit 0, nat_lit 0, []),
  (nat_lit 70, nat_lit 99, nat_lit 0, nat_lit 0, [])]
/-- SpeechKeeperModel.adopt(int) -/
def zk_108 : List zE := [(nat_lit 0, nat_lit 0, nat_lit 0, nat_lit 4, []),
  (nat_lit 1, nat_lit 0, nat_lit 1, nat_lit 0, []),
  (nat_lit 2, nat_lit 15, nat_lit 137, nat_lit 1, [nat_lit 1, nat_lit 10]),
  (nat_lit 5, nat_lit 5, nat_lit 12, nat_lit 1, []),
  (nat_lit 8, nat_lit 1, nat_lit 0, nat_lit 0, [nat_lit 0, nat_lit 1, nat_lit 0]),
  (nat_lit 9, nat_lit 7, nat_lit 13, nat_lit 0, []),
  (nat_lit 12, nat_lit 1, nat_lit 0, nat_lit 0, [nat_lit 0, nat_lit 0, nat_lit 0]),
  (nat_lit 13, nat_lit 15, nat_lit 5, nat_lit 2, [nat_lit 0, nat_lit 10]),
  (nat_lit 16, nat_lit 5, nat_lit 21, nat_lit 0, []),
  (nat_lit 19, nat_lit 1, nat_lit 0, nat_lit 0, [nat_lit 0, nat_lit 0, nat_lit 0]),
  (nat_lit 20, nat_lit 16, nat_lit 0, nat_lit 0, []),
  (nat_lit 21, nat_lit 0, nat_lit 0, nat_lit 4, []),
  (nat_lit 22, nat_lit 15, nat_lit 117, nat_lit 1, [nat_lit 0, nat_lit 10]),
  (nat_lit 25, nat_lit 0, nat_lit 0, nat_lit 4, []),
  (nat_lit 26, nat_lit 1, nat_lit 0, nat_lit 0, [nat_lit 0, nat_lit 2, nat_lit 0]),
  (nat_lit 27, nat_lit 0, nat_lit 1, nat_lit 0, []),
  (nat_lit 28, nat_lit 4, nat_lit 1, nat_lit 0, []),
  (nat_lit 29, nat_lit 0, nat_lit 1, nat_lit 0, []),
  (nat_lit 30, nat_lit 1, nat_lit 0, nat_lit 0, [nat_lit 0, nat_lit 1, nat_lit 0]),
  (nat_lit 31, nat_lit 4, nat_lit 0, nat_lit 0, []),
  (nat_lit 32, nat_lit 15, nat_lit 121, nat_lit 3, [nat_lit 0, nat_lit 10]),
  (nat_lit 35, nat_lit 0, nat_lit 0, nat_lit 4, []),
  (nat_lit 36, nat_lit 0, nat_lit 1, nat_lit 0, []),
  (nat_lit 37, nat_lit 15, nat_lit 116, nat_lit 2, [nat_lit 0, nat_lit 10]),
  (nat_lit 40, nat_lit 16, nat_lit 0, nat_lit 0, [])]
/-- SpeechKeeperModel.allWords(int) -/
def zk_109 : List zE := [(nat_lit 0, nat_lit 1, nat_lit 0, nat_lit 0, [nat_lit 0, nat_lit 0, nat_lit 0]),
  (nat_lit 1, nat_lit 2, nat_lit 2, nat_lit 0, []),
  (nat_lit 2, nat_lit 1, nat_lit 0, nat_lit 0, [nat_lit 0, nat_lit 0, nat_lit 0]),
  (nat_lit 3, nat_lit 2, nat_lit 3, nat_lit 0, []),
  (nat_lit 4, nat_lit 0, nat_lit 3, nat_lit 0, []),
  (nat_lit 5, nat_lit 0, nat_lit 0, nat_lit 4, []),
  (nat_lit 6, nat_lit 0, nat_lit 1, nat_lit 0, []),
  (nat_lit 7, nat_lit 15, nat_lit 147, nat_lit 2, [nat_lit 0, nat_lit 10]),
  (nat_lit 10, nat_lit 6, nat_lit 28, nat_lit 3, []),
  (nat_lit 13, nat_lit 99, nat_lit 0, nat_lit 0, []),
  (nat_lit 14, nat_lit 99, nat_lit 0, nat_lit 0, []),
  (nat_lit 15, nat_lit 99, nat_lit 0, nat_lit 0, []),
  (nat_lit 16, nat_lit 99, nat_lit 0, nat_lit 0, []),
  (nat_lit 17, nat_lit 99, nat_lit 0, nat_lit 0, []),
  (nat_lit 20, nat_lit 99, nat_lit 0, nat_lit 0, []),
  (nat_lit 21, nat_lit 99, nat_lit 0, nat_lit 0, []),
  (nat_lit 22, nat_lit 99, nat_lit 0, nat_lit 0, []),
  (nat_lit 25, nat_lit 99, nat_lit 0, nat_lit 0, []),
  (nat_lit 28, nat_lit 0, nat_lit 2, nat_lit 0, []),
  (nat_lit 29, nat_lit 16, nat_lit 0, nat_lit 0, [])]
/-- SpeechKeeperModel.append(int, int, int, int, int) -/
def zk_110 : List zE := [(nat_lit 0, nat_lit 0, nat_lit 0, nat_lit 4, []),
  (nat_lit 1, nat_lit 1, nat_lit 0, nat_lit 0, [nat_lit 0, nat_lit 0, nat_lit 0]),
  (nat_lit 2, nat_lit 9, nat_lit 10, nat_lit 7, [nat_lit 0]),
  (nat_lit 5, nat_lit 0, nat_lit 0, nat_lit 4, []),
  (nat_lit 6, nat_lit 8, nat_lit 10, nat_lit 37, []),
  (nat_lit 9, nat_lit 1, nat_lit 0, nat_lit 0, [nat_lit 0, nat_lit 20, nat_lit 0]),
  (nat_lit 11, nat_lit 4, nat_lit 0, nat_lit 0, []),
  (nat_lit 12, nat_lit 1, nat_lit 0, nat_lit 0, [nat_lit 0, nat_lit 700, nat_lit 0]),
  (nat_lit 15, nat_lit 6, nat_lit 20, nat_lit 5, []),
  (nat_lit 18, nat_lit 99, nat_lit 0, nat_lit 0, []),
  (nat_lit 19, nat_lit 99, nat_lit 0, nat_lit 0, []),
  (nat_lit 20, nat_lit 0, nat_lit 0, nat_lit 4, []),
  (nat_lit 21, nat_lit 0, nat_lit 1, nat_lit 0, []),
  (nat_lit 22, nat_lit 15, nat_lit 160, nat_lit 2, [nat_lit 0, nat_lit 10]),
  (nat_lit 25, nat_lit 0, nat_lit 0, nat_lit 4, []),
  (nat_lit 26, nat_lit 0, nat_lit 2, nat_lit 0, []),
  (nat_lit 27, nat_lit 15, nat_lit 160, nat_lit 2, [nat_lit 0, nat_lit 10]),
  (nat_lit 30, nat_lit 0, nat_lit 0, nat_lit 4, []),
  (nat_lit 31, nat_lit 0, nat_lit 3, nat_lit 0, []),
  (nat_lit 32, nat_lit 15, nat_lit 160, nat_lit 2, [nat_lit 0, nat_lit 10]),
  (nat_lit 35, nat_lit 0, nat_lit 0, nat_lit 4, []),
  (nat_lit 36, nat_lit 0, nat_lit 4, nat_lit 0, []),
  (nat_lit 38, nat_lit 15, nat_lit 160, nat_lit 2, [nat_lit 0, nat_lit 10]),
  (nat_lit 41, nat_lit 0, nat_lit 0, nat_lit 4, []),
  (nat_lit 42, nat_lit 0, nat_lit 5, nat_lit 0, []),
  (nat_lit 44, nat_lit 15, nat_lit 160, nat_lit 2, [nat_lit 0, nat_lit 10]),
  (nat_lit 47, nat_lit 0, nat_lit 0, nat_lit 4, []),
  (nat_lit 48, nat_lit 8, nat_lit 10, nat_lit 37, []),
  (nat_lit 51, nat_lit 16, nat_lit 0, nat_lit 0, [])]
/-- SpeechKeeperModel.areNone(int) -/
def zk_111 : List zE := [(nat_lit 0, nat_lit 0, nat_lit 1, nat_lit 0, []),
  (nat_lit 1, nat_lit 20, nat_lit 0, nat_lit 0, []),
  (nat_lit 2, nat_lit 1, nat_lit 0, nat_lit 0, [nat_lit 2, nat_lit 1, nat_lit 0]),
  (nat_lit 3, nat_lit 0, nat_lit 0, nat_lit 4, []),
  (nat_lit 4, nat_lit 8, nat_lit 10, nat_lit 37, []),
  (nat_lit 7, nat_lit 20, nat_lit 0, nat_lit 0, []),
  (nat_lit 8, nat_lit 15, nat_lit 2, nat_lit 3, [nat_lit 1, nat_lit 10]),
  (nat_lit 11, nat_lit 5, nat_lit 22, nat_lit 0, []),
  (nat_lit 14, nat_lit 99, nat_lit 0, nat_lit 0, []),
  (nat_lit 15, nat_lit 99, nat_lit 0, nat_lit 0, []),
  (nat_lit 16, nat_lit 99, nat_lit 0, nat_lit 0, []),
  (nat_lit 19, nat_lit 99, nat_lit 0, nat_lit 0, []),
  (nat_lit 22, nat_lit 1, nat_lit 0, nat_lit 0, [nat_lit 0, nat_lit 1, nat_lit 0]),
  (nat_lit 23, nat_lit 7, nat_lit 27, nat_lit 0, []),
  (nat_lit 26, nat_lit 99, nat_lit 0, nat_lit 0, []),
  (nat_lit 27, nat_lit 16, nat_lit 0, nat_lit 6, [])]
/-- SpeechKeeperModel.author(boolean, int, int) -/
def zk_112 : List zE := [(nat_lit 0, nat_lit 0, nat_lit 0, nat_lit 4, []),
  (nat_lit 1, nat_lit 15, nat_lit 141, nat_lit 1, [nat_lit 0, nat_lit 10]),
  (nat_lit 4, nat_lit 0, nat_lit 1, nat_lit 0, []),
  (nat_lit 5, nat_lit 5, nat_lit 12, nat_lit 0, []),
  (nat_lit 8, nat_lit 1, nat_lit 0, nat_lit 0, [nat_lit 0, nat_lit 3, nat_lit 0]),
  (nat_lit 9, nat_lit 7, nat_lit 13, nat_lit 0, []),
  (nat_lit 12, nat_lit 1, nat_lit 0, nat_lit 0, [nat_lit 0, nat_lit 0, nat_lit 0]),
  (nat_lit 13, nat_lit 2, nat_lit 4, nat_lit 0, []),
  (nat_lit 15, nat_lit 0, nat_lit 0, nat_lit 4, []),
  (nat_lit 16, nat_lit 0, nat_lit 0, nat_lit 4, []),
  (nat_lit 17, nat_lit 0, nat_lit 4, nat_lit 0, []),
  (nat_lit 19, nat_lit 0, nat_lit 2, nat_lit 0, []),
  (nat_lit 20, nat_lit 0, nat_lit 3, nat_lit 0, []),
  (nat_lit 21, nat_lit 15, nat_lit 136, nat_lit 4, [nat_lit 0, nat_lit 10]),
  (nat_lit 24, nat_lit 5, nat_lit 31, nat_lit 1, []),
  (nat_lit 27, nat_lit 1, nat_lit 0, nat_lit 0, [nat_lit 0, nat_lit 1, nat_lit 0]),
  (nat_lit 28, nat_lit 7, nat_lit 32, nat_lit 0, []),
  (nat_lit 31, nat_lit 99, nat_lit 0, nat_lit 0, []),
  (nat_lit 32, nat_lit 15, nat_lit 5, nat_lit 2, [nat_lit 0, nat_lit 10]),
  (nat_lit 35, nat_lit 5, nat_lit 42, nat_lit 0, []),
  (nat_lit 38, nat_lit 1, nat_lit 0, nat_lit 0, [nat_lit 0, nat_lit 0, nat_lit 0]),
  (nat_lit 39, nat_lit 7, nat_lit 50, nat_lit 0, []),
  (nat_lit 42, nat_lit 99, nat_lit 0, nat_lit 0, []),
  (nat_lit 43, nat_lit 99, nat_lit 0, nat_lit 0, []),
  (nat_lit 45, nat_lit 99, nat_lit 0, nat_lit 0, []),
  (nat_lit 46, nat_lit 99, nat_lit 0, nat_lit 0, []),
  (nat_lit 47, nat_lit 99, nat_lit 0, nat_lit 0, []),
  (nat_lit 50, nat_lit 16, nat_lit 0, nat_lit 0, [])]
/-- SpeechKeeperModel.block(int, int) -/
def zk_113 : List zE := [(nat_lit 0, nat_lit 0, nat_lit 0, nat_lit 4, []),
  (nat_lit 1, nat_lit 0, nat_lit 1, nat_lit 0, []),
  (nat_lit 2, nat_lit 15, nat_lit 153, nat_lit 2, [nat_lit 0, nat_lit 10]),
  (nat_lit 5, nat_lit 5, nat_lit 33, nat_lit 1, []),
  (nat_lit 8, nat_lit 99, nat_lit 0, nat_lit 0, []),
  (nat_lit 9, nat_lit 99, nat_lit 0, nat_lit 0, []),
  (nat_lit 10, nat_lit 99, nat_lit 0, nat_lit 0, []),
  (nat_lit 11, nat_lit 99, nat_lit 0, nat_lit 0, []),
  (nat_lit 12, nat_lit 99, nat_lit 0, nat_lit 0, []),
  (nat_lit 15, nat_lit 99, nat_lit 0, nat_lit 0, []),
  (nat_lit 18, nat_lit 99, nat_lit 0, nat_lit 0, []),
  (nat_lit 21, nat_lit 99, nat_lit 0, nat_lit 0, []),
  (nat_lit 22, nat_lit 99, nat_lit 0, nat_lit 0, []),
  (nat_lit 25, nat_lit 99, nat_lit 0, nat_lit 0, []),
  (nat_lit 26, nat_lit 99, nat_lit 0, nat_lit 0, []),
  (nat_lit 27, nat_lit 99, nat_lit 0, nat_lit 0, []),
  (nat_lit 30, nat_lit 99, nat_lit 0, nat_lit 0, []),
  (nat_lit 33, nat_lit 1, nat_lit 0, nat_lit 0, [nat_lit 0, nat_lit 0, nat_lit 0]),
  (nat_lit 34, nat_lit 7, nat_lit 43, nat_lit 0, []),
  (nat_lit 37, nat_lit 99, nat_lit 0, nat_lit 0, []),
  (nat_lit 38, nat_lit 99, nat_lit 0, nat_lit 0, []),
  (nat_lit 39, nat_lit 99, nat_lit 0, nat_lit 0, []),
  (nat_lit 40, nat_lit 99, nat_lit 0, nat_lit 0, []),
  (nat_lit 43, nat_lit 16, nat_lit 0, nat_lit 0, [])]
/-- SpeechKeeperModel.byteAt(int) -/
def zk_114 : List zE := [(nat_lit 0, nat_lit 0, nat_lit 1, nat_lit 0, []),
  (nat_lit 1, nat_lit 0, nat_lit 0, nat_lit 4, []),
  (nat_lit 2, nat_lit 8, nat_lit 10, nat_lit 38, []),
  (nat_lit 5, nat_lit 6, nat_lit 17, nat_lit 3, []),
  (nat_lit 8, nat_lit 99, nat_lit 0, nat_lit 0, []),
  (nat_lit 9, nat_lit 99, nat_lit 0, nat_lit 0, []),
  (nat_lit 12, nat_lit 99, nat_lit 0, nat_lit 0, []),
  (nat_lit 13, nat_lit 99, nat_lit 0, nat_lit 0, []),
  (nat_lit 14, nat_lit 99, nat_lit 0, nat_lit 0, []),
  (nat_lit 17, nat_lit 1, nat_lit 0, nat_lit 0, [nat_lit 0, nat_lit 4294967295, nat_lit 0]),
  (nat_lit 18, nat_lit 16, nat_lit 0, nat_lit 0, [])]
/-- SpeechKeeperModel.change(int, int, int) -/
def zk_115 : List zE := [(nat_lit 0, nat_lit 0, nat_lit 0, nat_lit 4, []),
  (nat_lit 1, nat_lit 0, nat_lit 1, nat_lit 0, []),
  (nat_lit 2, nat_lit 0, nat_lit 2, nat_lit 0, []),
  (nat_lit 3, nat_lit 15, nat_lit 154, nat_lit 3, [nat_lit 0, nat_lit 10]),
  (nat_lit 6, nat_lit 5, nat_lit 34, nat_lit 1, []),
  (nat_lit 9, nat_lit 99, nat_lit 0, nat_lit 0, []),
  (nat_lit 10, nat_lit 99, nat_lit 0, nat_lit 0, []),
  (nat_lit 11, nat_lit 99, nat_lit 0, nat_lit 0, []),
  (nat_lit 12, nat_lit 99, nat_lit 0, nat_lit 0, []),
  (nat_lit 13, nat_lit 99, nat_lit 0, nat_lit 0, []),
  (nat_lit 16, nat_lit 99, nat_lit 0, nat_lit 0, []),
  (nat_lit 19, nat_lit 99, nat_lit 0, nat_lit 0, []),
  (nat_lit 22, nat_lit 99, nat_lit 0, nat_lit 0, []),
  (nat_lit 23, nat_lit 99, nat_lit 0, nat_lit 0, []),
  (nat_lit 26, nat_lit 99, nat_lit 0, nat_lit 0, []),
  (nat_lit 27, nat_lit 99, nat_lit 0, nat_lit 0, []),
  (nat_lit 28, nat_lit 99, nat_lit 0, nat_lit 0, []),
  (nat_lit 31, nat_lit 99, nat_lit 0, nat_lit 0, []),
  (nat_lit 34, nat_lit 1, nat_lit 0, nat_lit 0, [nat_lit 0, nat_lit 0, nat_lit 0]),
  (nat_lit 35, nat_lit 16, nat_lit 0, nat_lit 0, []),
  (nat_lit 36, nat_lit 99, nat_lit 0, nat_lit 0, []),
  (nat_lit 38, nat_lit 99, nat_lit 0, nat_lit 0, []),
  (nat_lit 39, nat_lit 99, nat_lit 0, nat_lit 0, []),
  (nat_lit 40, nat_lit 99, nat_lit 0, nat_lit 0, []),
  (nat_lit 41, nat_lit 99, nat_lit 0, nat_lit 0, []),
  (nat_lit 42, nat_lit 99, nat_lit 0, nat_lit 0, []),
  (nat_lit 44, nat_lit 99, nat_lit 0, nat_lit 0, []),
  (nat_lit 45, nat_lit 99, nat_lit 0, nat_lit 0, []),
  (nat_lit 48, nat_lit 99, nat_lit 0, nat_lit 0, []),
  (nat_lit 49, nat_lit 99, nat_lit 0, nat_lit 0, []),
  (nat_lit 52, nat_lit 99, nat_lit 0, nat_lit 0, []),
  (nat_lit 54, nat_lit 99, nat_lit 0, nat_lit 0, []),
  (nat_lit 55, nat_lit 99, nat_lit 0, nat_lit 0, []),
  (nat_lit 58, nat_lit 99, nat_lit 0, nat_lit 0, []),
  (nat_lit 59, nat_lit 99, nat_lit 0, nat_lit 0, []),
  (nat_lit 60, nat_lit 99, nat_lit 0, nat_lit 0, []),
  (nat_lit 63, nat_lit 99, nat_lit 0, nat_lit 0, []),
  (nat_lit 64, nat_lit 99, nat_lit 0, nat_lit 0, []),
  (nat_lit 67, nat_lit 99, nat_lit 0, nat_lit 0, []),
  (nat_lit 69, nat_lit 99, nat_lit 0, nat_lit 0, []),
  (nat_lit 70, nat_lit 99, nat_lit 0, nat_lit 0, []),
  (nat_lit 73, nat_lit 99, nat_lit 0, nat_lit 0, []),
  (nat_lit 74, nat_lit 99, nat_lit 0, nat_lit 0, []),
  (nat_lit 75, nat_lit 99, nat_lit 0, nat_lit 0, []),
  (nat_lit 78, nat_lit 99, nat_lit 0, nat_lit 0, []),
  (nat_lit 79, nat_lit 99, nat_lit 0, nat_lit 0, []),
  (nat_lit 82, nat_lit 99, nat_lit 0, nat_lit 0, []),
  (nat_lit 84, nat_lit 99, nat_lit 0, nat_lit 0, []),
  (nat_lit 85, nat_lit 99, nat_lit 0, nat_lit 0, []),
  (nat_lit 88, nat_lit 99, nat_lit 0, nat_lit 0, []),
  (nat_lit 89, nat_lit 99, nat_lit 0, nat_lit 0, []),
  (nat_lit 90, nat_lit 99, nat_lit 0, nat_lit 0, []),
  (nat_lit 93, nat_lit 99, nat_lit 0, nat_lit 0, []),
  (nat_lit 94, nat_lit 99, nat_lit 0, nat_lit 0, []),
  (nat_lit 97, nat_lit 99, nat_lit 0, nat_lit 0, []),
  (nat_lit 99, nat_lit 99, nat_lit 0, nat_lit 0, []),
  (nat_lit 100, nat_lit 99, nat_lit 0, nat_lit 0, []),
  (nat_lit 103, nat_lit 99, nat_lit 0, nat_lit 0, []),
  (nat_lit 104, nat_lit 99, nat_lit 0, nat_lit 0, []),
  (nat_lit 107, nat_lit 99, nat_lit 0, nat_lit 0, []),
  (nat_lit 109, nat_lit 99, nat_lit 0, nat_lit 0, []),
  (nat_lit 110, nat_lit 99, nat_lit 0, nat_lit 0, [])]
/-- SpeechKeeperModel.changesOf(int) -/
def zk_116 : List zE := [(nat_lit 0, nat_lit 0, nat_lit 0, nat_lit 4, []),
  (nat_lit 1, nat_lit 0, nat_lit 1, nat_lit 0, []),
  (nat_lit 2, nat_lit 15, nat_lit 143, nat_lit 2, [nat_lit 0, nat_lit 10]),
  (nat_lit 5, nat_lit 0, nat_lit 0, nat_lit 4, []),
  (nat_lit 6, nat_lit 8, nat_lit 10, nat_lit 24, []),
  (nat_lit 9, nat_lit 0, nat_lit 1, nat_lit 0, []),
  (nat_lit 10, nat_lit 10, nat_lit 0, nat_lit 100, []),
  (nat_lit 11, nat_lit 16, nat_lit 0, nat_lit 0, [])]
/-- SpeechKeeperModel.changesText() -/
def zk_117 : List zE := [(nat_lit 0, nat_lit 0, nat_lit 0, nat_lit 4, []),
  (nat_lit 1, nat_lit 15, nat_lit 139, nat_lit 1, [nat_lit 0, nat_lit 10]),
  (nat_lit 4, nat_lit 1, nat_lit 0, nat_lit 0, [nat_lit 0, nat_lit 0, nat_lit 0]),
  (nat_lit 5, nat_lit 2, nat_lit 1, nat_lit 0, []),
  (nat_lit 6, nat_lit 0, nat_lit 1, nat_lit 0, []),
  (nat_lit 7, nat_lit 1, nat_lit 0, nat_lit 0, [nat_lit 0, nat_lit 42, nat_lit 0]),
  (nat_lit 9, nat_lit 6, nat_lit 29, nat_lit 3, []),
  (nat_lit 12, nat_lit 0, nat_lit 0, nat_lit 4, []),
  (nat_lit 13, nat_lit 8, nat_lit 10, nat_lit 0, []),
  (nat_lit 16, nat_lit 1, nat_lit 0, nat_lit 0, [nat_lit 0, nat_lit 644, nat_lit 0]),
  (nat_lit 19, nat_lit 0, nat_lit 1, nat_lit 0, []),
  (nat_lit 20, nat_lit 4, nat_lit 0, nat_lit 0, []),
  (nat_lit 21, nat_lit 1, nat_lit 0, nat_lit 0, [nat_lit 2, nat_lit 0, nat_lit 0]),
  (nat_lit 22, nat_lit 11, nat_lit 0, nat_lit 103, []),
  (nat_lit 23, nat_lit 3, nat_lit 1, nat_lit 0, [nat_lit 1]),
  (nat_lit 26, nat_lit 7, nat_lit 6, nat_lit 0, []),
  (nat_lit 29, nat_lit 16, nat_lit 0, nat_lit 5, [])]
/-- SpeechKeeperModel.checksum() -/
def zk_118 : List zE := [(nat_lit 0, nat_lit 0, nat_lit 0, nat_lit 4, []),
  (nat_lit 1, nat_lit 1, nat_lit 0, nat_lit 0, [nat_lit 0, nat_lit 0, nat_lit 0]),
  (nat_lit 2, nat_lit 9, nat_lit 10, nat_lit 7, [nat_lit 0]),
  (nat_lit 5, nat_lit 0, nat_lit 0, nat_lit 4, []),
  (nat_lit 6, nat_lit 15, nat_lit 141, nat_lit 1, [nat_lit 0, nat_lit 10]),
  (nat_lit 9, nat_lit 1, nat_lit 0, nat_lit 0, [nat_lit 2, nat_lit 0, nat_lit 0]),
  (nat_lit 10, nat_lit 2, nat_lit 1, nat_lit 1, []),
  (nat_lit 11, nat_lit 1, nat_lit 0, nat_lit 0, [nat_lit 0, nat_lit 0, nat_lit 0]),
  (nat_lit 12, nat_lit 2, nat_lit 3, nat_lit 0, []),
  (nat_lit 13, nat_lit 0, nat_lit 3, nat_lit 0, []),
  (nat_lit 14, nat_lit 1, nat_lit 0, nat_lit 0, [nat_lit 0, nat_lit 10, nat_lit 0]),
  (nat_lit 16, nat_lit 6, nat_lit 38, nat_lit 4, []),
  (nat_lit 19, nat_lit 1, nat_lit 0, nat_lit 0, [nat_lit 2, nat_lit 31, nat_lit 0]),
  (nat_lit 22, nat_lit 0, nat_lit 1, nat_lit 1, []),
  (nat_lit 23, nat_lit 4, nat_lit 11, nat_lit 0, []),
  (nat_lit 24, nat_lit 0, nat_lit 0, nat_lit 4, []),
  (nat_lit 25, nat_lit 0, nat_lit 3, nat_lit 0, []),
  (nat_lit 26, nat_lit 15, nat_lit 174, nat_lit 2, [nat_lit 0, nat_lit 10]),
  (nat_lit 29, nat_lit 20, nat_lit 0, nat_lit 0, []),
  (nat_lit 30, nat_lit 4, nat_lit 10, nat_lit 0, []),
  (nat_lit 31, nat_lit 2, nat_lit 1, nat_lit 1, []),
  (nat_lit 32, nat_lit 3, nat_lit 3, nat_lit 0, [nat_lit 1]),
  (nat_lit 35, nat_lit 7, nat_lit 13, nat_lit 0, []),
  (nat_lit 38, nat_lit 1, nat_lit 0, nat_lit 0, [nat_lit 0, nat_lit 0, nat_lit 0]),
  (nat_lit 39, nat_lit 2, nat_lit 3, nat_lit 0, []),
  (nat_lit 40, nat_lit 0, nat_lit 3, nat_lit 0, []),
  (nat_lit 41, nat_lit 1, nat_lit 0, nat_lit 0, [nat_lit 0, nat_lit 3, nat_lit 0]),
  (nat_lit 42, nat_lit 6, nat_lit 79, nat_lit 4, []),
  (nat_lit 45, nat_lit 1, nat_lit 0, nat_lit 0, [nat_lit 0, nat_lit 0, nat_lit 0]),
  (nat_lit 46, nat_lit 2, nat_lit 4, nat_lit 0, []),
  (nat_lit 48, nat_lit 0, nat_lit 4, nat_lit 0, []),
  (nat_lit 50, nat_lit 0, nat_lit 0, nat_lit 4, []),
  (nat_lit 51, nat_lit 0, nat_lit 3, nat_lit 0, []),
  (nat_lit 52, nat_lit 15, nat_lit 147, nat_lit 2, [nat_lit 0, nat_lit 10]),
  (nat_lit 55, nat_lit 6, nat_lit 73, nat_lit 3, []),
  (nat_lit 58, nat_lit 99, nat_lit 0, nat_lit 0, []),
  (nat_lit 59, nat_lit 99, nat_lit 0, nat_lit 0, []),
  (nat_lit 60, nat_lit 99, nat_lit 0, nat_lit 0, []),
  (nat_lit 61, nat_lit 99, nat_lit 0, nat_lit 0, []),
  (nat_lit 63, nat_lit 99, nat_lit 0, nat_lit 0, []),
  (nat_lit 66, nat_lit 99, nat_lit 0, nat_lit 0, []),
  (nat_lit 67, nat_lit 99, nat_lit 0, nat_lit 0, []),
  (nat_lit 70, nat_lit 99, nat_lit 0, nat_lit 0, []),
  (nat_lit 73, nat_lit 3, nat_lit 3, nat_lit 0, [nat_lit 1]),
  (nat_lit 76, nat_lit 7, nat_lit 40, nat_lit 0, []),
  (nat_lit 79, nat_lit 1, nat_lit 0, nat_lit 0, [nat_lit 0, nat_lit 0, nat_lit 0]),
  (nat_lit 80, nat_lit 2, nat_lit 3, nat_lit 0, []),
  (nat_lit 81, nat_lit 0, nat_lit 3, nat_lit 0, []),
  (nat_lit 82, nat_lit 0, nat_lit 0, nat_lit 4, []),
  (nat_lit 83, nat_lit 8, nat_lit 10, nat_lit 31, []),
  (nat_lit 86, nat_lit 6, nat_lit 126, nat_lit 3, []),
  (nat_lit 89, nat_lit 99, nat_lit 0, nat_lit 0, []),
  (nat_lit 90, nat_lit 99, nat_lit 0, nat_lit 0, []),
  (nat_lit 92, nat_lit 99, nat_lit 0, nat_lit 0, []),
  (nat_lit 94, nat_lit 99, nat_lit 0, nat_lit 0, []),
  (nat_lit 96, nat_lit 99, nat_lit 0, nat_lit 0, []),
  (nat_lit 99, nat_lit 99, nat_lit 0, nat_lit 0, []),
  (nat_lit 102, nat_lit 99, nat_lit 0, nat_lit 0, []),
  (nat_lit 103, nat_lit 99, nat_lit 0, nat_lit 0, []),
  (nat_lit 104, nat_lit 99, nat_lit 0, nat_lit 0, []),
  (nat_lit 105, nat_lit 99, nat_lit 0, nat_lit 0, []),
  (nat_lit 106, nat_lit 99, nat_lit 0, nat_lit 0, []),
  (nat_lit 108, nat_lit 99, nat_lit 0, nat_lit 0, []),
  (nat_lit 111, nat_lit 99, nat_lit 0, nat_lit 0, []),
  (nat_lit 112, nat_lit 99, nat_lit 0, nat_lit 0, []),
  (nat_lit 113, nat_lit 99, nat_lit 0, nat_lit 0, []),
  (nat_lit 114, nat_lit 99, nat_lit 0, nat_lit 0, []),
  (nat_lit 117, nat_lit 99, nat_lit 0, nat_lit 0, []),
  (nat_lit 120, nat_lit 99, nat_lit 0, nat_lit 0, []),
  (nat_lit 123, nat_lit 99, nat_lit 0, nat_lit 0, []),
  (nat_lit 126, nat_lit 0, nat_lit 1, nat_lit 1, []),
  (nat_lit 127, nat_lit 16, nat_lit 0, nat_lit 1, [])]
/-- SpeechKeeperModel.clearsText(int) -/
def zk_119 : List zE := [(nat_lit 0, nat_lit 1, nat_lit 0, nat_lit 0, [nat_lit 0, nat_lit 0, nat_lit 0]),
  (nat_lit 1, nat_lit 2, nat_lit 2, nat_lit 0, []),
  (nat_lit 2, nat_lit 0, nat_lit 2, nat_lit 0, []),
  (nat_lit 3, nat_lit 1, nat_lit 0, nat_lit 0, [nat_lit 0, nat_lit 160, nat_lit 0]),
  (nat_lit 6, nat_lit 6, nat_lit 27, nat_lit 3, []),
  (nat_lit 9, nat_lit 0, nat_lit 0, nat_lit 4, []),
  (nat_lit 10, nat_lit 8, nat_lit 10, nat_lit 0, []),
  (nat_lit 13, nat_lit 0, nat_lit 1, nat_lit 0, []),
  (nat_lit 14, nat_lit 1, nat_lit 0, nat_lit 0, [nat_lit 0, nat_lit 0, nat_lit 0]),
  (nat_lit 15, nat_lit 0, nat_lit 2, nat_lit 0, []),
  (nat_lit 16, nat_lit 15, nat_lit 1, nat_lit 3, [nat_lit 1, nat_lit 10]),
  (nat_lit 19, nat_lit 1, nat_lit 0, nat_lit 0, [nat_lit 2, nat_lit 0, nat_lit 0]),
  (nat_lit 20, nat_lit 11, nat_lit 0, nat_lit 103, []),
  (nat_lit 21, nat_lit 3, nat_lit 2, nat_lit 0, [nat_lit 1]),
  (nat_lit 24, nat_lit 7, nat_lit 2, nat_lit 0, []),
  (nat_lit 27, nat_lit 0, nat_lit 0, nat_lit 4, []),
  (nat_lit 28, nat_lit 8, nat_lit 10, nat_lit 0, []),
  (nat_lit 31, nat_lit 1, nat_lit 0, nat_lit 0, [nat_lit 0, nat_lit 1, nat_lit 0]),
  (nat_lit 32, nat_lit 0, nat_lit 1, nat_lit 0, []),
  (nat_lit 33, nat_lit 4, nat_lit 0, nat_lit 0, []),
  (nat_lit 34, nat_lit 1, nat_lit 0, nat_lit 0, [nat_lit 2, nat_lit 0, nat_lit 0]),
  (nat_lit 35, nat_lit 11, nat_lit 0, nat_lit 103, []),
  (nat_lit 36, nat_lit 16, nat_lit 0, nat_lit 5, [])]
/-- SpeechKeeperModel.common(int, int, int, int) -/
def zk_120 : List zE := [(nat_lit 0, nat_lit 0, nat_lit 0, nat_lit 4, []),
  (nat_lit 1, nat_lit 15, nat_lit 141, nat_lit 1, [nat_lit 0, nat_lit 10]),
  (nat_lit 4, nat_lit 0, nat_lit 0, nat_lit 4, []),
  (nat_lit 5, nat_lit 0, nat_lit 1, nat_lit 0, []),
  (nat_lit 6, nat_lit 15, nat_lit 134, nat_lit 1, [nat_lit 1, nat_lit 10]),
  (nat_lit 9, nat_lit 5, nat_lit 43, nat_lit 0, []),
  (nat_lit 12, nat_lit 0, nat_lit 3, nat_lit 0, []),
  (nat_lit 13, nat_lit 15, nat_lit 134, nat_lit 1, [nat_lit 1, nat_lit 10]),
  (nat_lit 16, nat_lit 5, nat_lit 43, nat_lit 0, []),
  (nat_lit 19, nat_lit 0, nat_lit 2, nat_lit 0, []),
  (nat_lit 20, nat_lit 1, nat_lit 0, nat_lit 0, [nat_lit 0, nat_lit 4294967295, nat_lit 0]),
  (nat_lit 21, nat_lit 6, nat_lit 28, nat_lit 1, []),
  (nat_lit 24, nat_lit 1, nat_lit 0, nat_lit 0, [nat_lit 0, nat_lit 1, nat_lit 0]),
  (nat_lit 25, nat_lit 7, nat_lit 29, nat_lit 0, []),
  (nat_lit 28, nat_lit 1, nat_lit 0, nat_lit 0, [nat_lit 0, nat_lit 0, nat_lit 0]),
  (nat_lit 29, nat_lit 0, nat_lit 4, nat_lit 0, []),
  (nat_lit 31, nat_lit 1, nat_lit 0, nat_lit 0, [nat_lit 0, nat_lit 4294967295, nat_lit 0]),
  (nat_lit 32, nat_lit 6, nat_lit 39, nat_lit 1, []),
  (nat_lit 35, nat_lit 1, nat_lit 0, nat_lit 0, [nat_lit 0, nat_lit 1, nat_lit 0]),
  (nat_lit 36, nat_lit 7, nat_lit 40, nat_lit 0, []),
  (nat_lit 39, nat_lit 1, nat_lit 0, nat_lit 0, [nat_lit 0, nat_lit 0, nat_lit 0]),
  (nat_lit 40, nat_lit 6, nat_lit 47, nat_lit 0, []),
  (nat_lit 43, nat_lit 1, nat_lit 0, nat_lit 0, [nat_lit 0, nat_lit 1, nat_lit 0]),
  (nat_lit 44, nat_lit 7, nat_lit 48, nat_lit 0, []),
  (nat_lit 47, nat_lit 1, nat_lit 0, nat_lit 0, [nat_lit 0, nat_lit 0, nat_lit 0]),
  (nat_lit 48, nat_lit 15, nat_lit 5, nat_lit 2, [nat_lit 0, nat_lit 10]),
  (nat_lit 51, nat_lit 5, nat_lit 56, nat_lit 0, []),
  (nat_lit 54, nat_lit 1, nat_lit 0, nat_lit 0, [nat_lit 0, nat_lit 0, nat_lit 0]),
  (nat_lit 55, nat_lit 16, nat_lit 0, nat_lit 0, []),
  (nat_lit 56, nat_lit 0, nat_lit 2, nat_lit 0, []),
  (nat_lit 57, nat_lit 1, nat_lit 0, nat_lit 0, [nat_lit 0, nat_lit 4294967295, nat_lit 0]),
  (nat_lit 58, nat_lit 6, nat_lit 72, nat_lit 1, []),
  (nat_lit 61, nat_lit 0, nat_lit 0, nat_lit 4, []),
  (nat_lit 62, nat_lit 0, nat_lit 1, nat_lit 0, []),
  (nat_lit 63, nat_lit 0, nat_lit 3, nat_lit 0, []),
  (nat_lit 64, nat_lit 15, nat_lit 176, nat_lit 3, [nat_lit 0, nat_lit 10]),
  (nat_lit 67, nat_lit 0, nat_lit 0, nat_lit 4, []),
  (nat_lit 68, nat_lit 15, nat_lit 4, nat_lit 1, [nat_lit 0, nat_lit 10]),
  (nat_lit 71, nat_lit 16, nat_lit 0, nat_lit 0, []),
  (nat_lit 72, nat_lit 0, nat_lit 0, nat_lit 4, []),
  (nat_lit 73, nat_lit 0, nat_lit 0, nat_lit 4, []),
  (nat_lit 74, nat_lit 0, nat_lit 1, nat_lit 0, []),
  (nat_lit 75, nat_lit 0, nat_lit 2, nat_lit 0, []),
  (nat_lit 76, nat_lit 15, nat_lit 132, nat_lit 3, [nat_lit 0, nat_lit 10]),
  (nat_lit 79, nat_lit 5, nat_lit 92, nat_lit 0, []),
  (nat_lit 82, nat_lit 99, nat_lit 0, nat_lit 0, []),
  (nat_lit 83, nat_lit 99, nat_lit 0, nat_lit 0, []),
  (nat_lit 84, nat_lit 99, nat_lit 0, nat_lit 0, []),
  (nat_lit 86, nat_lit 99, nat_lit 0, nat_lit 0, []),
  (nat_lit 89, nat_lit 99, nat_lit 0, nat_lit 0, []),
  (nat_lit 92, nat_lit 1, nat_lit 0, nat_lit 0, [nat_lit 0, nat_lit 1, nat_lit 0]),
  (nat_lit 93, nat_lit 7, nat_lit 97, nat_lit 0, []),
  (nat_lit 96, nat_lit 99, nat_lit 0, nat_lit 0, []),
  (nat_lit 97, nat_lit 1, nat_lit 0, nat_lit 0, [nat_lit 0, nat_lit 2, nat_lit 0]),
  (nat_lit 98, nat_lit 15, nat_lit 164, nat_lit 3, [nat_lit 0, nat_lit 10]),
  (nat_lit 101, nat_lit 5, nat_lit 106, nat_lit 0, []),
  (nat_lit 104, nat_lit 1, nat_lit 0, nat_lit 0, [nat_lit 0, nat_lit 0, nat_lit 0]),
  (nat_lit 105, nat_lit 16, nat_lit 0, nat_lit 0, []),
  (nat_lit 106, nat_lit 99, nat_lit 0, nat_lit 0, []),
  (nat_lit 107, nat_lit 99, nat_lit 0, nat_lit 0, []),
  (nat_lit 108, nat_lit 99, nat_lit 0, nat_lit 0, []),
  (nat_lit 109, nat_lit 99, nat_lit 0, nat_lit 0, []),
  (nat_lit 110, nat_lit 99, nat_lit 0, nat_lit 0, []),
  (nat_lit 112, nat_lit 99, nat_lit 0, nat_lit 0, []),
  (nat_lit 115, nat_lit 99, nat_lit 0, nat_lit 0, []),
  (nat_lit 116, nat_lit 99, nat_lit 0, nat_lit 0, []),
  (nat_lit 119, nat_lit 99, nat_lit 0, nat_lit 0, [])]
/-- SpeechKeeperModel.copiesText(int, int) -/
def zk_121 : List zE := [(nat_lit 0, nat_lit 1, nat_lit 0, nat_lit 0, [nat_lit 0, nat_lit 0, nat_lit 0]),
  (nat_lit 1, nat_lit 2, nat_lit 3, nat_lit 0, []),
  (nat_lit 2, nat_lit 0, nat_lit 3, nat_lit 0, []),
  (nat_lit 3, nat_lit 1, nat_lit 0, nat_lit 0, [nat_lit 0, nat_lit 160, nat_lit 0]),
  (nat_lit 6, nat_lit 6, nat_lit 37, nat_lit 3, []),
  (nat_lit 9, nat_lit 0, nat_lit 0, nat_lit 4, []),
  (nat_lit 10, nat_lit 8, nat_lit 10, nat_lit 0, []),
  (nat_lit 13, nat_lit 0, nat_lit 2, nat_lit 0, []),
  (nat_lit 14, nat_lit 1, nat_lit 0, nat_lit 0, [nat_lit 0, nat_lit 0, nat_lit 0]),
  (nat_lit 15, nat_lit 0, nat_lit 3, nat_lit 0, []),
  (nat_lit 16, nat_lit 15, nat_lit 1, nat_lit 3, [nat_lit 1, nat_lit 10]),
  (nat_lit 19, nat_lit 0, nat_lit 0, nat_lit 4, []),
  (nat_lit 20, nat_lit 8, nat_lit 10, nat_lit 0, []),
  (nat_lit 23, nat_lit 0, nat_lit 1, nat_lit 0, []),
  (nat_lit 24, nat_lit 1, nat_lit 0, nat_lit 0, [nat_lit 0, nat_lit 0, nat_lit 0]),
  (nat_lit 25, nat_lit 0, nat_lit 3, nat_lit 0, []),
  (nat_lit 26, nat_lit 15, nat_lit 1, nat_lit 3, [nat_lit 1, nat_lit 10]),
  (nat_lit 29, nat_lit 10, nat_lit 0, nat_lit 103, []),
  (nat_lit 30, nat_lit 11, nat_lit 0, nat_lit 103, []),
  (nat_lit 31, nat_lit 3, nat_lit 3, nat_lit 0, [nat_lit 1]),
  (nat_lit 34, nat_lit 7, nat_lit 2, nat_lit 0, []),
  (nat_lit 37, nat_lit 0, nat_lit 0, nat_lit 4, []),
  (nat_lit 38, nat_lit 8, nat_lit 10, nat_lit 0, []),
  (nat_lit 41, nat_lit 1, nat_lit 0, nat_lit 0, [nat_lit 0, nat_lit 1, nat_lit 0]),
  (nat_lit 42, nat_lit 0, nat_lit 2, nat_lit 0, []),
  (nat_lit 43, nat_lit 4, nat_lit 0, nat_lit 0, []),
  (nat_lit 44, nat_lit 0, nat_lit 0, nat_lit 4, []),
  (nat_lit 45, nat_lit 8, nat_lit 10, nat_lit 0, []),
  (nat_lit 48, nat_lit 1, nat_lit 0, nat_lit 0, [nat_lit 0, nat_lit 1, nat_lit 0]),
  (nat_lit 49, nat_lit 0, nat_lit 1, nat_lit 0, []),
  (nat_lit 50, nat_lit 4, nat_lit 0, nat_lit 0, []),
  (nat_lit 51, nat_lit 10, nat_lit 0, nat_lit 103, []),
  (nat_lit 52, nat_lit 11, nat_lit 0, nat_lit 103, []),
  (nat_lit 53, nat_lit 16, nat_lit 0, nat_lit 5, [])]
/-- SpeechKeeperModel.decide(int, int) -/
def zk_122 : List zE := [(nat_lit 0, nat_lit 0, nat_lit 0, nat_lit 4, []),
  (nat_lit 1, nat_lit 0, nat_lit 1, nat_lit 0, []),
  (nat_lit 2, nat_lit 15, nat_lit 153, nat_lit 2, [nat_lit 0, nat_lit 10]),
  (nat_lit 5, nat_lit 5, nat_lit 33, nat_lit 1, []),
  (nat_lit 8, nat_lit 99, nat_lit 0, nat_lit 0, []),
  (nat_lit 9, nat_lit 99, nat_lit 0, nat_lit 0, []),
  (nat_lit 10, nat_lit 99, nat_lit 0, nat_lit 0, []),
  (nat_lit 11, nat_lit 99, nat_lit 0, nat_lit 0, []),
  (nat_lit 12, nat_lit 99, nat_lit 0, nat_lit 0, []),
  (nat_lit 15, nat_lit 99, nat_lit 0, nat_lit 0, []),
  (nat_lit 18, nat_lit 99, nat_lit 0, nat_lit 0, []),
  (nat_lit 21, nat_lit 99, nat_lit 0, nat_lit 0, []),
  (nat_lit 22, nat_lit 99, nat_lit 0, nat_lit 0, []),
  (nat_lit 25, nat_lit 99, nat_lit 0, nat_lit 0, []),
  (nat_lit 26, nat_lit 99, nat_lit 0, nat_lit 0, []),
  (nat_lit 27, nat_lit 99, nat_lit 0, nat_lit 0, []),
  (nat_lit 30, nat_lit 99, nat_lit 0, nat_lit 0, []),
  (nat_lit 33, nat_lit 1, nat_lit 0, nat_lit 0, [nat_lit 0, nat_lit 0, nat_lit 0]),
  (nat_lit 34, nat_lit 16, nat_lit 0, nat_lit 0, []),
  (nat_lit 35, nat_lit 99, nat_lit 0, nat_lit 0, []),
  (nat_lit 36, nat_lit 99, nat_lit 0, nat_lit 0, []),
  (nat_lit 37, nat_lit 99, nat_lit 0, nat_lit 0, []),
  (nat_lit 40, nat_lit 99, nat_lit 0, nat_lit 0, []),
  (nat_lit 41, nat_lit 99, nat_lit 0, nat_lit 0, []),
  (nat_lit 42, nat_lit 99, nat_lit 0, nat_lit 0, []),
  (nat_lit 45, nat_lit 99, nat_lit 0, nat_lit 0, []),
  (nat_lit 46, nat_lit 99, nat_lit 0, nat_lit 0, []),
  (nat_lit 47, nat_lit 99, nat_lit 0, nat_lit 0, []),
  (nat_lit 48, nat_lit 99, nat_lit 0, nat_lit 0, []),
  (nat_lit 51, nat_lit 99, nat_lit 0, nat_lit 0, []),
  (nat_lit 52, nat_lit 99, nat_lit 0, nat_lit 0, []),
  (nat_lit 55, nat_lit 99, nat_lit 0, nat_lit 0, []),
  (nat_lit 56, nat_lit 99, nat_lit 0, nat_lit 0, []),
  (nat_lit 57, nat_lit 99, nat_lit 0, nat_lit 0, []),
  (nat_lit 58, nat_lit 99, nat_lit 0, nat_lit 0, []),
  (nat_lit 61, nat_lit 99, nat_lit 0, nat_lit 0, []),
  (nat_lit 62, nat_lit 99, nat_lit 0, nat_lit 0, []),
  (nat_lit 63, nat_lit 99, nat_lit 0, nat_lit 0, []),
  (nat_lit 64, nat_lit 99, nat_lit 0, nat_lit 0, []),
  (nat_lit 65, nat_lit 99, nat_lit 0, nat_lit 0, []),
  (nat_lit 68, nat_lit 99, nat_lit 0, nat_lit 0, []),
  (nat_lit 69, nat_lit 99, nat_lit 0, nat_lit 0, []),
  (nat_lit 71, nat_lit 99, nat_lit 0, nat_lit 0, []),
  (nat_lit 74, nat_lit 99, nat_lit 0, nat_lit 0, []),
  (nat_lit 75, nat_lit 99, nat_lit 0, nat_lit 0, []),
  (nat_lit 76, nat_lit 99, nat_lit 0, nat_lit 0, []),
  (nat_lit 77, nat_lit 99, nat_lit 0, nat_lit 0, []),
  (nat_lit 80, nat_lit 99, nat_lit 0, nat_lit 0, []),
  (nat_lit 81, nat_lit 99, nat_lit 0, nat_lit 0, []),
  (nat_lit 84, nat_lit 99, nat_lit 0, nat_lit 0, []),
  (nat_lit 87, nat_lit 99, nat_lit 0, nat_lit 0, []),
  (nat_lit 88, nat_lit 99, nat_lit 0, nat_lit 0, []),
  (nat_lit 89, nat_lit 99, nat_lit 0, nat_lit 0, []),
  (nat_lit 90, nat_lit 99, nat_lit 0, nat_lit 0, []),
  (nat_lit 91, nat_lit 99, nat_lit 0, nat_lit 0, []),
  (nat_lit 92, nat_lit 99, nat_lit 0, nat_lit 0, []),
  (nat_lit 93, nat_lit 99, nat_lit 0, nat_lit 0, [])]
/-- SpeechKeeperModel.delete(int, int) -/
def zk_123 : List zE := [(nat_lit 0, nat_lit 0, nat_lit 0, nat_lit 4, []),
  (nat_lit 1, nat_lit 0, nat_lit 1, nat_lit 0, []),
  (nat_lit 2, nat_lit 0, nat_lit 2, nat_lit 0, []),
  (nat_lit 3, nat_lit 15, nat_lit 155, nat_lit 3, [nat_lit 0, nat_lit 10]),
  (nat_lit 6, nat_lit 5, nat_lit 11, nat_lit 0, []),
  (nat_lit 9, nat_lit 1, nat_lit 0, nat_lit 0, [nat_lit 0, nat_lit 0, nat_lit 0]),
  (nat_lit 10, nat_lit 16, nat_lit 0, nat_lit 0, []),
  (nat_lit 11, nat_lit 99, nat_lit 0, nat_lit 0, []),
  (nat_lit 12, nat_lit 99, nat_lit 0, nat_lit 0, []),
  (nat_lit 15, nat_lit 99, nat_lit 0, nat_lit 0, []),
  (nat_lit 16, nat_lit 99, nat_lit 0, nat_lit 0, []),
  (nat_lit 17, nat_lit 99, nat_lit 0, nat_lit 0, []),
  (nat_lit 18, nat_lit 99, nat_lit 0, nat_lit 0, []),
  (nat_lit 19, nat_lit 99, nat_lit 0, nat_lit 0, []),
  (nat_lit 20, nat_lit 99, nat_lit 0, nat_lit 0, []),
  (nat_lit 23, nat_lit 99, nat_lit 0, nat_lit 0, []),
  (nat_lit 24, nat_lit 99, nat_lit 0, nat_lit 0, []),
  (nat_lit 25, nat_lit 99, nat_lit 0, nat_lit 0, []),
  (nat_lit 26, nat_lit 99, nat_lit 0, nat_lit 0, []),
  (nat_lit 27, nat_lit 99, nat_lit 0, nat_lit 0, []),
  (nat_lit 30, nat_lit 99, nat_lit 0, nat_lit 0, [])]
/-- SpeechKeeperModel.deleteWord(int, int, int) -/
def zk_124 : List zE := [(nat_lit 0, nat_lit 0, nat_lit 0, nat_lit 4, []),
  (nat_lit 1, nat_lit 0, nat_lit 1, nat_lit 0, []),
  (nat_lit 2, nat_lit 15, nat_lit 137, nat_lit 1, [nat_lit 1, nat_lit 10]),
  (nat_lit 5, nat_lit 5, nat_lit 20, nat_lit 0, []),
  (nat_lit 8, nat_lit 0, nat_lit 0, nat_lit 4, []),
  (nat_lit 9, nat_lit 0, nat_lit 1, nat_lit 0, []),
  (nat_lit 10, nat_lit 1, nat_lit 0, nat_lit 0, [nat_lit 0, nat_lit 1, nat_lit 0]),
  (nat_lit 11, nat_lit 4, nat_lit 0, nat_lit 0, []),
  (nat_lit 12, nat_lit 0, nat_lit 2, nat_lit 0, []),
  (nat_lit 13, nat_lit 0, nat_lit 3, nat_lit 0, []),
  (nat_lit 14, nat_lit 15, nat_lit 136, nat_lit 4, [nat_lit 0, nat_lit 10]),
  (nat_lit 17, nat_lit 5, nat_lit 24, nat_lit 1, []),
  (nat_lit 20, nat_lit 1, nat_lit 0, nat_lit 0, [nat_lit 0, nat_lit 1, nat_lit 0]),
  (nat_lit 21, nat_lit 7, nat_lit 25, nat_lit 0, []),
  (nat_lit 24, nat_lit 99, nat_lit 0, nat_lit 0, []),
  (nat_lit 25, nat_lit 15, nat_lit 5, nat_lit 2, [nat_lit 0, nat_lit 10]),
  (nat_lit 28, nat_lit 5, nat_lit 33, nat_lit 0, []),
  (nat_lit 31, nat_lit 1, nat_lit 0, nat_lit 0, [nat_lit 0, nat_lit 0, nat_lit 0]),
  (nat_lit 32, nat_lit 16, nat_lit 0, nat_lit 0, []),
  (nat_lit 33, nat_lit 99, nat_lit 0, nat_lit 0, []),
  (nat_lit 34, nat_lit 99, nat_lit 0, nat_lit 0, []),
  (nat_lit 37, nat_lit 99, nat_lit 0, nat_lit 0, []),
  (nat_lit 38, nat_lit 99, nat_lit 0, nat_lit 0, []),
  (nat_lit 39, nat_lit 99, nat_lit 0, nat_lit 0, []),
  (nat_lit 40, nat_lit 99, nat_lit 0, nat_lit 0, []),
  (nat_lit 42, nat_lit 99, nat_lit 0, nat_lit 0, []),
  (nat_lit 43, nat_lit 99, nat_lit 0, nat_lit 0, []),
  (nat_lit 45, nat_lit 99, nat_lit 0, nat_lit 0, []),
  (nat_lit 47, nat_lit 99, nat_lit 0, nat_lit 0, []),
  (nat_lit 49, nat_lit 99, nat_lit 0, nat_lit 0, []),
  (nat_lit 52, nat_lit 99, nat_lit 0, nat_lit 0, []),
  (nat_lit 53, nat_lit 99, nat_lit 0, nat_lit 0, []),
  (nat_lit 56, nat_lit 99, nat_lit 0, nat_lit 0, []),
  (nat_lit 58, nat_lit 99, nat_lit 0, nat_lit 0, []),
  (nat_lit 59, nat_lit 99, nat_lit 0, nat_lit 0, []),
  (nat_lit 61, nat_lit 99, nat_lit 0, nat_lit 0, []),
  (nat_lit 64, nat_lit 99, nat_lit 0, nat_lit 0, []),
  (nat_lit 65, nat_lit 99, nat_lit 0, nat_lit 0, []),
  (nat_lit 68, nat_lit 99, nat_lit 0, nat_lit 0, []),
  (nat_lit 70, nat_lit 99, nat_lit 0, nat_lit 0, []),
  (nat_lit 71, nat_lit 99, nat_lit 0, nat_lit 0, []),
  (nat_lit 73, nat_lit 99, nat_lit 0, nat_lit 0, []),
  (nat_lit 74, nat_lit 99, nat_lit 0, nat_lit 0, []),
  (nat_lit 75, nat_lit 99, nat_lit 0, nat_lit 0, []),
  (nat_lit 78, nat_lit 99, nat_lit 0, nat_lit 0, []),
  (nat_lit 79, nat_lit 99, nat_lit 0, nat_lit 0, []),
  (nat_lit 80, nat_lit 99, nat_lit 0, nat_lit 0, []),
  (nat_lit 83, nat_lit 99, nat_lit 0, nat_lit 0, []),
  (nat_lit 86, nat_lit 99, nat_lit 0, nat_lit 0, []),
  (nat_lit 87, nat_lit 99, nat_lit 0, nat_lit 0, []),
  (nat_lit 90, nat_lit 99, nat_lit 0, nat_lit 0, []),
  (nat_lit 92, nat_lit 99, nat_lit 0, nat_lit 0, []),
  (nat_lit 93, nat_lit 99, nat_lit 0, nat_lit 0, []),
  (nat_lit 95, nat_lit 99, nat_lit 0, nat_lit 0, []),
  (nat_lit 98, nat_lit 99, nat_lit 0, nat_lit 0, []),
  (nat_lit 99, nat_lit 99, nat_lit 0, nat_lit 0, []),
  (nat_lit 100, nat_lit 99, nat_lit 0, nat_lit 0, []),
  (nat_lit 101, nat_lit 99, nat_lit 0, nat_lit 0, []),
  (nat_lit 103, nat_lit 99, nat_lit 0, nat_lit 0, []),
  (nat_lit 104, nat_lit 99, nat_lit 0, nat_lit 0, []),
  (nat_lit 107, nat_lit 99, nat_lit 0, nat_lit 0, []),
  (nat_lit 110, nat_lit 99, nat_lit 0, nat_lit 0, []),
  (nat_lit 111, nat_lit 99, nat_lit 0, nat_lit 0, []),
  (nat_lit 113, nat_lit 99, nat_lit 0, nat_lit 0, []),
  (nat_lit 114, nat_lit 99, nat_lit 0, nat_lit 0, []),
  (nat_lit 117, nat_lit 99, nat_lit 0, nat_lit 0, []),
  (nat_lit 118, nat_lit 99, nat_lit 0, nat_lit 0, []),
  (nat_lit 120, nat_lit 99, nat_lit 0, nat_lit 0, []),
  (nat_lit 123, nat_lit 99, nat_lit 0, nat_lit 0, [])]
/-- SpeechKeeperModel.discard(int) -/
def zk_125 : List zE := [(nat_lit 0, nat_lit 0, nat_lit 0, nat_lit 4, []),
  (nat_lit 1, nat_lit 0, nat_lit 1, nat_lit 0, []),
  (nat_lit 2, nat_lit 15, nat_lit 137, nat_lit 1, [nat_lit 1, nat_lit 10]),
  (nat_lit 5, nat_lit 5, nat_lit 12, nat_lit 1, []),
  (nat_lit 8, nat_lit 1, nat_lit 0, nat_lit 0, [nat_lit 0, nat_lit 1, nat_lit 0]),
  (nat_lit 9, nat_lit 7, nat_lit 13, nat_lit 0, []),
  (nat_lit 12, nat_lit 1, nat_lit 0, nat_lit 0, [nat_lit 0, nat_lit 0, nat_lit 0]),
  (nat_lit 13, nat_lit 15, nat_lit 5, nat_lit 2, [nat_lit 0, nat_lit 10]),
  (nat_lit 16, nat_lit 5, nat_lit 21, nat_lit 0, []),
  (nat_lit 19, nat_lit 1, nat_lit 0, nat_lit 0, [nat_lit 0, nat_lit 0, nat_lit 0]),
  (nat_lit 20, nat_lit 16, nat_lit 0, nat_lit 0, []),
  (nat_lit 21, nat_lit 0, nat_lit 0, nat_lit 4, []),
  (nat_lit 22, nat_lit 0, nat_lit 1, nat_lit 0, []),
  (nat_lit 23, nat_lit 15, nat_lit 116, nat_lit 2, [nat_lit 0, nat_lit 10]),
  (nat_lit 26, nat_lit 2, nat_lit 2, nat_lit 0, []),
  (nat_lit 27, nat_lit 0, nat_lit 0, nat_lit 4, []),
  (nat_lit 28, nat_lit 15, nat_lit 117, nat_lit 1, [nat_lit 0, nat_lit 10]),
  (nat_lit 31, nat_lit 0, nat_lit 0, nat_lit 4, []),
  (nat_lit 32, nat_lit 1, nat_lit 0, nat_lit 0, [nat_lit 0, nat_lit 0, nat_lit 0]),
  (nat_lit 33, nat_lit 0, nat_lit 1, nat_lit 0, []),
  (nat_lit 34, nat_lit 1, nat_lit 0, nat_lit 0, [nat_lit 0, nat_lit 1, nat_lit 0]),
  (nat_lit 35, nat_lit 4, nat_lit 0, nat_lit 0, []),
  (nat_lit 36, nat_lit 15, nat_lit 121, nat_lit 3, [nat_lit 0, nat_lit 10]),
  (nat_lit 39, nat_lit 0, nat_lit 2, nat_lit 0, []),
  (nat_lit 40, nat_lit 16, nat_lit 0, nat_lit 0, [])]
/-- SpeechKeeperModel.fewestBack() -/
def zk_126 : List zE := [(nat_lit 0, nat_lit 0, nat_lit 0, nat_lit 4, []),
  (nat_lit 1, nat_lit 1, nat_lit 0, nat_lit 0, [nat_lit 0, nat_lit 0, nat_lit 0]),
  (nat_lit 2, nat_lit 9, nat_lit 10, nat_lit 7, [nat_lit 0]),
  (nat_lit 5, nat_lit 0, nat_lit 0, nat_lit 4, []),
  (nat_lit 6, nat_lit 15, nat_lit 141, nat_lit 1, [nat_lit 0, nat_lit 10]),
  (nat_lit 9, nat_lit 1, nat_lit 0, nat_lit 0, [nat_lit 0, nat_lit 0, nat_lit 0]),
  (nat_lit 10, nat_lit 2, nat_lit 1, nat_lit 0, []),
  (nat_lit 11, nat_lit 0, nat_lit 1, nat_lit 0, []),
  (nat_lit 12, nat_lit 1, nat_lit 0, nat_lit 0, [nat_lit 0, nat_lit 42, nat_lit 0]),
  (nat_lit 14, nat_lit 6, nat_lit 30, nat_lit 3, []),
  (nat_lit 17, nat_lit 0, nat_lit 0, nat_lit 4, []),
  (nat_lit 18, nat_lit 8, nat_lit 10, nat_lit 44, []),
  (nat_lit 21, nat_lit 0, nat_lit 1, nat_lit 0, []),
  (nat_lit 22, nat_lit 1, nat_lit 0, nat_lit 0, [nat_lit 0, nat_lit 4294967295, nat_lit 0]),
  (nat_lit 23, nat_lit 11, nat_lit 0, nat_lit 100, []),
  (nat_lit 24, nat_lit 3, nat_lit 1, nat_lit 0, [nat_lit 1]),
  (nat_lit 27, nat_lit 7, nat_lit 11, nat_lit 0, []),
  (nat_lit 30, nat_lit 1, nat_lit 0, nat_lit 0, [nat_lit 0, nat_lit 0, nat_lit 0]),
  (nat_lit 31, nat_lit 2, nat_lit 1, nat_lit 0, []),
  (nat_lit 32, nat_lit 1, nat_lit 0, nat_lit 0, [nat_lit 0, nat_lit 0, nat_lit 0]),
  (nat_lit 33, nat_lit 2, nat_lit 2, nat_lit 0, []),
  (nat_lit 34, nat_lit 0, nat_lit 2, nat_lit 0, []),
  (nat_lit 35, nat_lit 0, nat_lit 0, nat_lit 4, []),
  (nat_lit 36, nat_lit 8, nat_lit 10, nat_lit 24, []),
  (nat_lit 39, nat_lit 1, nat_lit 0, nat_lit 0, [nat_lit 0, nat_lit 0, nat_lit 0]),
  (nat_lit 40, nat_lit 10, nat_lit 0, nat_lit 100, []),
  (nat_lit 41, nat_lit 6, nat_lit 66, nat_lit 3, []),
  (nat_lit 44, nat_lit 99, nat_lit 0, nat_lit 0, []),
  (nat_lit 45, nat_lit 99, nat_lit 0, nat_lit 0, []),
  (nat_lit 46, nat_lit 99, nat_lit 0, nat_lit 0, []),
  (nat_lit 47, nat_lit 99, nat_lit 0, nat_lit 0, []),
  (nat_lit 50, nat_lit 99, nat_lit 0, nat_lit 0, []),
  (nat_lit 53, nat_lit 99, nat_lit 0, nat_lit 0, []),
  (nat_lit 54, nat_lit 99, nat_lit 0, nat_lit 0, []),
  (nat_lit 57, nat_lit 99, nat_lit 0, nat_lit 0, []),
  (nat_lit 58, nat_lit 99, nat_lit 0, nat_lit 0, []),
  (nat_lit 59, nat_lit 99, nat_lit 0, nat_lit 0, []),
  (nat_lit 60, nat_lit 99, nat_lit 0, nat_lit 0, []),
  (nat_lit 63, nat_lit 99, nat_lit 0, nat_lit 0, []),
  (nat_lit 66, nat_lit 0, nat_lit 1, nat_lit 0, []),
  (nat_lit 67, nat_lit 16, nat_lit 0, nat_lit 0, [])]
/-- SpeechKeeperModel.fewestWords() -/
def zk_127 : List zE := [(nat_lit 0, nat_lit 0, nat_lit 0, nat_lit 4, []),
  (nat_lit 1, nat_lit 1, nat_lit 0, nat_lit 0, [nat_lit 0, nat_lit 0, nat_lit 0]),
  (nat_lit 2, nat_lit 9, nat_lit 10, nat_lit 7, [nat_lit 0]),
  (nat_lit 5, nat_lit 0, nat_lit 0, nat_lit 4, []),
  (nat_lit 6, nat_lit 15, nat_lit 141, nat_lit 1, [nat_lit 0, nat_lit 10]),
  (nat_lit 9, nat_lit 0, nat_lit 0, nat_lit 4, []),
  (nat_lit 10, nat_lit 1, nat_lit 0, nat_lit 0, [nat_lit 0, nat_lit 1, nat_lit 0]),
  (nat_lit 11, nat_lit 15, nat_lit 128, nat_lit 2, [nat_lit 0, nat_lit 10]),
  (nat_lit 14, nat_lit 2, nat_lit 1, nat_lit 0, []),
  (nat_lit 15, nat_lit 1, nat_lit 0, nat_lit 0, [nat_lit 0, nat_lit 0, nat_lit 0]),
  (nat_lit 16, nat_lit 2, nat_lit 2, nat_lit 0, []),
  (nat_lit 17, nat_lit 0, nat_lit 2, nat_lit 0, []),
  (nat_lit 18, nat_lit 0, nat_lit 0, nat_lit 4, []),
  (nat_lit 19, nat_lit 8, nat_lit 10, nat_lit 31, []),
  (nat_lit 22, nat_lit 6, nat_lit 68, nat_lit 3, []),
  (nat_lit 25, nat_lit 99, nat_lit 0, nat_lit 0, []),
  (nat_lit 26, nat_lit 99, nat_lit 0, nat_lit 0, []),
  (nat_lit 29, nat_lit 99, nat_lit 0, nat_lit 0, []),
  (nat_lit 30, nat_lit 99, nat_lit 0, nat_lit 0, []),
  (nat_lit 31, nat_lit 99, nat_lit 0, nat_lit 0, []),
  (nat_lit 32, nat_lit 99, nat_lit 0, nat_lit 0, []),
  (nat_lit 35, nat_lit 99, nat_lit 0, nat_lit 0, []),
  (nat_lit 36, nat_lit 99, nat_lit 0, nat_lit 0, []),
  (nat_lit 37, nat_lit 99, nat_lit 0, nat_lit 0, []),
  (nat_lit 38, nat_lit 99, nat_lit 0, nat_lit 0, []),
  (nat_lit 39, nat_lit 99, nat_lit 0, nat_lit 0, []),
  (nat_lit 42, nat_lit 99, nat_lit 0, nat_lit 0, []),
  (nat_lit 43, nat_lit 99, nat_lit 0, nat_lit 0, []),
  (nat_lit 44, nat_lit 99, nat_lit 0, nat_lit 0, []),
  (nat_lit 45, nat_lit 99, nat_lit 0, nat_lit 0, []),
  (nat_lit 48, nat_lit 99, nat_lit 0, nat_lit 0, []),
  (nat_lit 49, nat_lit 99, nat_lit 0, nat_lit 0, []),
  (nat_lit 50, nat_lit 99, nat_lit 0, nat_lit 0, []),
  (nat_lit 51, nat_lit 99, nat_lit 0, nat_lit 0, []),
  (nat_lit 54, nat_lit 99, nat_lit 0, nat_lit 0, []),
  (nat_lit 57, nat_lit 99, nat_lit 0, nat_lit 0, []),
  (nat_lit 60, nat_lit 99, nat_lit 0, nat_lit 0, []),
  (nat_lit 61, nat_lit 99, nat_lit 0, nat_lit 0, []),
  (nat_lit 62, nat_lit 99, nat_lit 0, nat_lit 0, []),
  (nat_lit 65, nat_lit 99, nat_lit 0, nat_lit 0, []),
  (nat_lit 68, nat_lit 0, nat_lit 1, nat_lit 0, []),
  (nat_lit 69, nat_lit 16, nat_lit 0, nat_lit 0, [])]
/-- SpeechKeeperModel.fixedOnes(boolean) -/
def zk_128 : List zE := [(nat_lit 0, nat_lit 1, nat_lit 0, nat_lit 0, [nat_lit 0, nat_lit 0, nat_lit 0]),
  (nat_lit 1, nat_lit 2, nat_lit 2, nat_lit 0, []),
  (nat_lit 2, nat_lit 1, nat_lit 0, nat_lit 0, [nat_lit 0, nat_lit 0, nat_lit 0]),
  (nat_lit 3, nat_lit 2, nat_lit 3, nat_lit 0, []),
  (nat_lit 4, nat_lit 1, nat_lit 0, nat_lit 0, [nat_lit 0, nat_lit 0, nat_lit 0]),
  (nat_lit 5, nat_lit 2, nat_lit 4, nat_lit 0, []),
  (nat_lit 7, nat_lit 0, nat_lit 4, nat_lit 0, []),
  (nat_lit 9, nat_lit 0, nat_lit 0, nat_lit 4, []),
  (nat_lit 10, nat_lit 8, nat_lit 10, nat_lit 31, []),
  (nat_lit 13, nat_lit 6, nat_lit 100, nat_lit 3, []),
  (nat_lit 16, nat_lit 99, nat_lit 0, nat_lit 0, []),
  (nat_lit 17, nat_lit 99, nat_lit 0, nat_lit 0, []),
  (nat_lit 18, nat_lit 99, nat_lit 0, nat_lit 0, []),
  (nat_lit 21, nat_lit 99, nat_lit 0, nat_lit 0, []),
  (nat_lit 22, nat_lit 99, nat_lit 0, nat_lit 0, []),
  (nat_lit 23, nat_lit 99, nat_lit 0, nat_lit 0, []),
  (nat_lit 24, nat_lit 99, nat_lit 0, nat_lit 0, []),
  (nat_lit 27, nat_lit 99, nat_lit 0, nat_lit 0, []),
  (nat_lit 29, nat_lit 99, nat_lit 0, nat_lit 0, []),
  (nat_lit 30, nat_lit 99, nat_lit 0, nat_lit 0, []),
  (nat_lit 33, nat_lit 99, nat_lit 0, nat_lit 0, []),
  (nat_lit 36, nat_lit 99, nat_lit 0, nat_lit 0, []),
  (nat_lit 37, nat_lit 99, nat_lit 0, nat_lit 0, []),
  (nat_lit 40, nat_lit 99, nat_lit 0, nat_lit 0, []),
  (nat_lit 42, nat_lit 99, nat_lit 0, nat_lit 0, []),
  (nat_lit 43, nat_lit 99, nat_lit 0, nat_lit 0, []),
  (nat_lit 44, nat_lit 99, nat_lit 0, nat_lit 0, []),
  (nat_lit 45, nat_lit 99, nat_lit 0, nat_lit 0, []),
  (nat_lit 46, nat_lit 99, nat_lit 0, nat_lit 0, []),
  (nat_lit 47, nat_lit 99, nat_lit 0, nat_lit 0, []),
  (nat_lit 48, nat_lit 99, nat_lit 0, nat_lit 0, []),
  (nat_lit 49, nat_lit 99, nat_lit 0, nat_lit 0, []),
  (nat_lit 52, nat_lit 99, nat_lit 0, nat_lit 0, []),
  (nat_lit 54, nat_lit 99, nat_lit 0, nat_lit 0, []),
  (nat_lit 55, nat_lit 99, nat_lit 0, nat_lit 0, []),
  (nat_lit 56, nat_lit 99, nat_lit 0, nat_lit 0, []),
  (nat_lit 59, nat_lit 99, nat_lit 0, nat_lit 0, []),
  (nat_lit 60, nat_lit 99, nat_lit 0, nat_lit 0, []),
  (nat_lit 63, nat_lit 99, nat_lit 0, nat_lit 0, []),
  (nat_lit 64, nat_lit 99, nat_lit 0, nat_lit 0, []),
  (nat_lit 67, nat_lit 99, nat_lit 0, nat_lit 0, []),
  (nat_lit 68, nat_lit 99, nat_lit 0, nat_lit 0, []),
  (nat_lit 70, nat_lit 99, nat_lit 0, nat_lit 0, []),
  (nat_lit 71, nat_lit 99, nat_lit 0, nat_lit 0, []),
  (nat_lit 74, nat_lit 99, nat_lit 0, nat_lit 0, []),
  (nat_lit 77, nat_lit 99, nat_lit 0, nat_lit 0, []),
  (nat_lit 78, nat_lit 99, nat_lit 0, nat_lit 0, []),
  (nat_lit 80, nat_lit 99, nat_lit 0, nat_lit 0, []),
  (nat_lit 81, nat_lit 99, nat_lit 0, nat_lit 0, []),
  (nat_lit 84, nat_lit 99, nat_lit 0, nat_lit 0, []),
  (nat_lit 85, nat_lit 99, nat_lit 0, nat_lit 0, []),
  (nat_lit 86, nat_lit 99, nat_lit 0, nat_lit 0, []),
  (nat_lit 87, nat_lit 99, nat_lit 0, nat_lit 0, []),
  (nat_lit 90, nat_lit 99, nat_lit 0, nat_lit 0, []),
  (nat_lit 92, nat_lit 99, nat_lit 0, nat_lit 0, []),
  (nat_lit 93, nat_lit 99, nat_lit 0, nat_lit 0, []),
  (nat_lit 94, nat_lit 99, nat_lit 0, nat_lit 0, []),
  (nat_lit 97, nat_lit 99, nat_lit 0, nat_lit 0, []),
  (nat_lit 100, nat_lit 0, nat_lit 2, nat_lit 0, []),
  (nat_lit 101, nat_lit 0, nat_lit 1, nat_lit 0, []),
  (nat_lit 102, nat_lit 5, nat_lit 118, nat_lit 0, []),
  (nat_lit 105, nat_lit 0, nat_lit 0, nat_lit 4, []),
  (nat_lit 106, nat_lit 0, nat_lit 3, nat_lit 0, []),
  (nat_lit 107, nat_lit 0, nat_lit 0, nat_lit 4, []),
  (nat_lit 108, nat_lit 1, nat_lit 0, nat_lit 0, [nat_lit 0, nat_lit 0, nat_lit 0]),
  (nat_lit 109, nat_lit 15, nat_lit 147, nat_lit 2, [nat_lit 0, nat_lit 10]),
  (nat_lit 112, nat_lit 15, nat_lit 179, nat_lit 3, [nat_lit 0, nat_lit 10]),
  (nat_lit 115, nat_lit 7, nat_lit 125, nat_lit 0, []),
  (nat_lit 118, nat_lit 0, nat_lit 0, nat_lit 4, []),
  (nat_lit 119, nat_lit 1, nat_lit 0, nat_lit 0, [nat_lit 0, nat_lit 0, nat_lit 0]),
  (nat_lit 120, nat_lit 15, nat_lit 147, nat_lit 2, [nat_lit 0, nat_lit 10]),
  (nat_lit 123, nat_lit 0, nat_lit 3, nat_lit 0, []),
  (nat_lit 124, nat_lit 4, nat_lit 1, nat_lit 0, []),
  (nat_lit 125, nat_lit 4, nat_lit 0, nat_lit 0, []),
  (nat_lit 126, nat_lit 16, nat_lit 0, nat_lit 0, [])]
/-- SpeechKeeperModel.goesOn() -/
def zk_129 : List zE := [(nat_lit 0, nat_lit 0, nat_lit 0, nat_lit 4, []),
  (nat_lit 1, nat_lit 15, nat_lit 131, nat_lit 1, [nat_lit 0, nat_lit 10]),
  (nat_lit 4, nat_lit 5, nat_lit 11, nat_lit 0, []),
  (nat_lit 7, nat_lit 99, nat_lit 0, nat_lit 0, []),
  (nat_lit 8, nat_lit 99, nat_lit 0, nat_lit 0, []),
  (nat_lit 11, nat_lit 16, nat_lit 0, nat_lit 5, [])]
/-- SpeechKeeperModel.insert(int, int, int) -/
def zk_130 : List zE := [(nat_lit 0, nat_lit 0, nat_lit 0, nat_lit 4, []),
  (nat_lit 1, nat_lit 0, nat_lit 1, nat_lit 0, []),
  (nat_lit 2, nat_lit 15, nat_lit 137, nat_lit 1, [nat_lit 1, nat_lit 10]),
  (nat_lit 5, nat_lit 5, nat_lit 25, nat_lit 0, []),
  (nat_lit 8, nat_lit 0, nat_lit 2, nat_lit 0, []),
  (nat_lit 9, nat_lit 20, nat_lit 0, nat_lit 0, []),
  (nat_lit 10, nat_lit 1, nat_lit 0, nat_lit 0, [nat_lit 2, nat_lit 0, nat_lit 0]),
  (nat_lit 11, nat_lit 0, nat_lit 0, nat_lit 4, []),
  (nat_lit 12, nat_lit 0, nat_lit 1, nat_lit 0, []),
  (nat_lit 13, nat_lit 1, nat_lit 0, nat_lit 0, [nat_lit 0, nat_lit 1, nat_lit 0]),
  (nat_lit 14, nat_lit 4, nat_lit 0, nat_lit 0, []),
  (nat_lit 15, nat_lit 15, nat_lit 147, nat_lit 2, [nat_lit 0, nat_lit 10]),
  (nat_lit 18, nat_lit 20, nat_lit 0, nat_lit 0, []),
  (nat_lit 19, nat_lit 15, nat_lit 2, nat_lit 3, [nat_lit 1, nat_lit 10]),
  (nat_lit 22, nat_lit 5, nat_lit 29, nat_lit 1, []),
  (nat_lit 25, nat_lit 1, nat_lit 0, nat_lit 0, [nat_lit 0, nat_lit 1, nat_lit 0]),
  (nat_lit 26, nat_lit 7, nat_lit 30, nat_lit 0, []),
  (nat_lit 29, nat_lit 1, nat_lit 0, nat_lit 0, [nat_lit 0, nat_lit 0, nat_lit 0]),
  (nat_lit 30, nat_lit 15, nat_lit 5, nat_lit 2, [nat_lit 0, nat_lit 10]),
  (nat_lit 33, nat_lit 5, nat_lit 49, nat_lit 1, []),
  (nat_lit 36, nat_lit 0, nat_lit 0, nat_lit 4, []),
  (nat_lit 37, nat_lit 0, nat_lit 0, nat_lit 4, []),
  (nat_lit 38, nat_lit 0, nat_lit 3, nat_lit 0, []),
  (nat_lit 39, nat_lit 15, nat_lit 111, nat_lit 2, [nat_lit 0, nat_lit 10]),
  (nat_lit 42, nat_lit 1, nat_lit 0, nat_lit 0, [nat_lit 0, nat_lit 2, nat_lit 0]),
  (nat_lit 43, nat_lit 15, nat_lit 164, nat_lit 3, [nat_lit 0, nat_lit 10]),
  (nat_lit 46, nat_lit 5, nat_lit 51, nat_lit 0, []),
  (nat_lit 49, nat_lit 1, nat_lit 0, nat_lit 0, [nat_lit 0, nat_lit 0, nat_lit 0]),
  (nat_lit 50, nat_lit 16, nat_lit 0, nat_lit 0, []),
  (nat_lit 51, nat_lit 99, nat_lit 0, nat_lit 0, []),
  (nat_lit 52, nat_lit 99, nat_lit 0, nat_lit 0, []),
  (nat_lit 53, nat_lit 99, nat_lit 0, nat_lit 0, []),
  (nat_lit 56, nat_lit 99, nat_lit 0, nat_lit 0, []),
  (nat_lit 57, nat_lit 99, nat_lit 0, nat_lit 0, []),
  (nat_lit 58, nat_lit 99, nat_lit 0, nat_lit 0, []),
  (nat_lit 59, nat_lit 99, nat_lit 0, nat_lit 0, []),
  (nat_lit 60, nat_lit 99, nat_lit 0, nat_lit 0, []),
  (nat_lit 63, nat_lit 99, nat_lit 0, nat_lit 0, []),
  (nat_lit 65, nat_lit 99, nat_lit 0, nat_lit 0, []),
  (nat_lit 68, nat_lit 99, nat_lit 0, nat_lit 0, []),
  (nat_lit 69, nat_lit 99, nat_lit 0, nat_lit 0, []),
  (nat_lit 70, nat_lit 99, nat_lit 0, nat_lit 0, []),
  (nat_lit 71, nat_lit 99, nat_lit 0, nat_lit 0, []),
  (nat_lit 74, nat_lit 99, nat_lit 0, nat_lit 0, []),
  (nat_lit 75, nat_lit 99, nat_lit 0, nat_lit 0, []),
  (nat_lit 76, nat_lit 99, nat_lit 0, nat_lit 0, []),
  (nat_lit 77, nat_lit 99, nat_lit 0, nat_lit 0, []),
  (nat_lit 78, nat_lit 99, nat_lit 0, nat_lit 0, []),
  (nat_lit 79, nat_lit 99, nat_lit 0, nat_lit 0, []),
  (nat_lit 82, nat_lit 99, nat_lit 0, nat_lit 0, []),
  (nat_lit 83, nat_lit 99, nat_lit 0, nat_lit 0, []),
  (nat_lit 84, nat_lit 99, nat_lit 0, nat_lit 0, []),
  (nat_lit 85, nat_lit 99, nat_lit 0, nat_lit 0, []),
  (nat_lit 86, nat_lit 99, nat_lit 0, nat_lit 0, []),
  (nat_lit 87, nat_lit 99, nat_lit 0, nat_lit 0, []),
  (nat_lit 88, nat_lit 99, nat_lit 0, nat_lit 0, []),
  (nat_lit 91, nat_lit 99, nat_lit 0, nat_lit 0, []),
  (nat_lit 92, nat_lit 99, nat_lit 0, nat_lit 0, []),
  (nat_lit 93, nat_lit 99, nat_lit 0, nat_lit 0, []),
  (nat_lit 94, nat_lit 99, nat_lit 0, nat_lit 0, []),
  (nat_lit 95, nat_lit 99, nat_lit 0, nat_lit 0, []),
  (nat_lit 98, nat_lit 99, nat_lit 0, nat_lit 0, [])]
/-- SpeechKeeperModel.isGood() -/
def zk_131 : List zE := [(nat_lit 0, nat_lit 0, nat_lit 0, nat_lit 4, []),
  (nat_lit 1, nat_lit 8, nat_lit 10, nat_lit 42, []),
  (nat_lit 4, nat_lit 5, nat_lit 11, nat_lit 1, []),
  (nat_lit 7, nat_lit 1, nat_lit 0, nat_lit 0, [nat_lit 0, nat_lit 1, nat_lit 0]),
  (nat_lit 8, nat_lit 7, nat_lit 12, nat_lit 0, []),
  (nat_lit 11, nat_lit 1, nat_lit 0, nat_lit 0, [nat_lit 0, nat_lit 0, nat_lit 0]),
  (nat_lit 12, nat_lit 16, nat_lit 0, nat_lit 6, [])]
/-- SpeechKeeperModel.isLine(int, int) -/
def zk_132 : List zE := [(nat_lit 0, nat_lit 0, nat_lit 2, nat_lit 0, []),
  (nat_lit 1, nat_lit 20, nat_lit 0, nat_lit 0, []),
  (nat_lit 2, nat_lit 1, nat_lit 0, nat_lit 0, [nat_lit 2, nat_lit 0, nat_lit 0]),
  (nat_lit 3, nat_lit 0, nat_lit 0, nat_lit 4, []),
  (nat_lit 4, nat_lit 0, nat_lit 1, nat_lit 0, []),
  (nat_lit 5, nat_lit 15, nat_lit 147, nat_lit 2, [nat_lit 0, nat_lit 10]),
  (nat_lit 8, nat_lit 1, nat_lit 0, nat_lit 0, [nat_lit 0, nat_lit 1, nat_lit 0]),
  (nat_lit 9, nat_lit 4, nat_lit 1, nat_lit 0, []),
  (nat_lit 10, nat_lit 20, nat_lit 0, nat_lit 0, []),
  (nat_lit 11, nat_lit 15, nat_lit 2, nat_lit 3, [nat_lit 1, nat_lit 10]),
  (nat_lit 14, nat_lit 16, nat_lit 0, nat_lit 6, [])]
/-- SpeechKeeperModel.isSign(int) -/
def zk_133 : List zE := [(nat_lit 0, nat_lit 0, nat_lit 0, nat_lit 4, []),
  (nat_lit 1, nat_lit 15, nat_lit 131, nat_lit 1, [nat_lit 0, nat_lit 10]),
  (nat_lit 4, nat_lit 5, nat_lit 32, nat_lit 0, []),
  (nat_lit 7, nat_lit 99, nat_lit 0, nat_lit 0, []),
  (nat_lit 8, nat_lit 99, nat_lit 0, nat_lit 0, []),
  (nat_lit 11, nat_lit 99, nat_lit 0, nat_lit 0, []),
  (nat_lit 12, nat_lit 99, nat_lit 0, nat_lit 0, []),
  (nat_lit 15, nat_lit 99, nat_lit 0, nat_lit 0, []),
  (nat_lit 16, nat_lit 99, nat_lit 0, nat_lit 0, []),
  (nat_lit 19, nat_lit 99, nat_lit 0, nat_lit 0, []),
  (nat_lit 20, nat_lit 99, nat_lit 0, nat_lit 0, []),
  (nat_lit 23, nat_lit 99, nat_lit 0, nat_lit 0, []),
  (nat_lit 24, nat_lit 99, nat_lit 0, nat_lit 0, []),
  (nat_lit 25, nat_lit 99, nat_lit 0, nat_lit 0, []),
  (nat_lit 28, nat_lit 99, nat_lit 0, nat_lit 0, []),
  (nat_lit 29, nat_lit 99, nat_lit 0, nat_lit 0, []),
  (nat_lit 32, nat_lit 1, nat_lit 0, nat_lit 0, [nat_lit 0, nat_lit 0, nat_lit 0]),
  (nat_lit 33, nat_lit 16, nat_lit 0, nat_lit 6, [])]
/-- SpeechKeeperModel.isText(int) -/
def zk_134 : List zE := [(nat_lit 0, nat_lit 0, nat_lit 0, nat_lit 0, []),
  (nat_lit 1, nat_lit 20, nat_lit 0, nat_lit 0, []),
  (nat_lit 2, nat_lit 1, nat_lit 0, nat_lit 0, [nat_lit 2, nat_lit 0, nat_lit 0]),
  (nat_lit 3, nat_lit 1, nat_lit 0, nat_lit 0, [nat_lit 2, nat_lit 3, nat_lit 0]),
  (nat_lit 6, nat_lit 15, nat_lit 2, nat_lit 3, [nat_lit 1, nat_lit 10]),
  (nat_lit 9, nat_lit 16, nat_lit 0, nat_lit 6, [])]
/-- SpeechKeeperModel.isWord(java.lang.String) -/
def zk_135 : List zE := [(nat_lit 0, nat_lit 0, nat_lit 0, nat_lit 4, []),
  (nat_lit 1, nat_lit 15, nat_lit 131, nat_lit 1, [nat_lit 0, nat_lit 10]),
  (nat_lit 4, nat_lit 5, nat_lit 31, nat_lit 0, []),
  (nat_lit 7, nat_lit 0, nat_lit 0, nat_lit 4, []),
  (nat_lit 8, nat_lit 8, nat_lit 10, nat_lit 41, []),
  (nat_lit 11, nat_lit 1, nat_lit 0, nat_lit 0, [nat_lit 0, nat_lit 1, nat_lit 0]),
  (nat_lit 12, nat_lit 6, nat_lit 31, nat_lit 1, []),
  (nat_lit 15, nat_lit 99, nat_lit 0, nat_lit 0, []),
  (nat_lit 16, nat_lit 99, nat_lit 0, nat_lit 0, []),
  (nat_lit 19, nat_lit 99, nat_lit 0, nat_lit 0, []),
  (nat_lit 20, nat_lit 99, nat_lit 0, nat_lit 0, []),
  (nat_lit 23, nat_lit 99, nat_lit 0, nat_lit 0, []),
  (nat_lit 24, nat_lit 99, nat_lit 0, nat_lit 0, []),
  (nat_lit 25, nat_lit 99, nat_lit 0, nat_lit 0, []),
  (nat_lit 28, nat_lit 99, nat_lit 0, nat_lit 0, []),
  (nat_lit 31, nat_lit 1, nat_lit 0, nat_lit 0, [nat_lit 0, nat_lit 0, nat_lit 0]),
  (nat_lit 32, nat_lit 16, nat_lit 0, nat_lit 6, []),
  (nat_lit 33, nat_lit 99, nat_lit 0, nat_lit 0, []),
  (nat_lit 34, nat_lit 99, nat_lit 0, nat_lit 0, []),
  (nat_lit 35, nat_lit 99, nat_lit 0, nat_lit 0, []),
  (nat_lit 36, nat_lit 99, nat_lit 0, nat_lit 0, []),
  (nat_lit 37, nat_lit 99, nat_lit 0, nat_lit 0, []),
  (nat_lit 40, nat_lit 99, nat_lit 0, nat_lit 0, []),
  (nat_lit 43, nat_lit 99, nat_lit 0, nat_lit 0, []),
  (nat_lit 44, nat_lit 99, nat_lit 0, nat_lit 0, []),
  (nat_lit 47, nat_lit 99, nat_lit 0, nat_lit 0, []),
  (nat_lit 48, nat_lit 99, nat_lit 0, nat_lit 0, []),
  (nat_lit 51, nat_lit 99, nat_lit 0, nat_lit 0, []),
  (nat_lit 52, nat_lit 99, nat_lit 0, nat_lit 0, []),
  (nat_lit 53, nat_lit 99, nat_lit 0, nat_lit 0, []),
  (nat_lit 54, nat_lit 99, nat_lit 0, nat_lit 0, []),
  (nat_lit 55, nat_lit 99, nat_lit 0, nat_lit 0, []),
  (nat_lit 56, nat_lit 99, nat_lit 0, nat_lit 0, []),
  (nat_lit 59, nat_lit 99, nat_lit 0, nat_lit 0, []),
  (nat_lit 62, nat_lit 99, nat_lit 0, nat_lit 0, []),
  (nat_lit 63, nat_lit 99, nat_lit 0, nat_lit 0, []),
  (nat_lit 64, nat_lit 99, nat_lit 0, nat_lit 0, []),
  (nat_lit 67, nat_lit 99, nat_lit 0, nat_lit 0, []),
  (nat_lit 70, nat_lit 99, nat_lit 0, nat_lit 0, []),
  (nat_lit 71, nat_lit 99, nat_lit 0, nat_lit 0, [])]
/-- SpeechKeeperModel.isWordOf(int, int, int) -/
def zk_136 : List zE := [(nat_lit 0, nat_lit 0, nat_lit 0, nat_lit 4, []),
  (nat_lit 1, nat_lit 0, nat_lit 1, nat_lit 0, []),
  (nat_lit 2, nat_lit 0, nat_lit 2, nat_lit 0, []),
  (nat_lit 3, nat_lit 15, nat_lit 132, nat_lit 3, [nat_lit 0, nat_lit 10]),
  (nat_lit 6, nat_lit 5, nat_lit 31, nat_lit 0, []),
  (nat_lit 9, nat_lit 99, nat_lit 0, nat_lit 0, []),
  (nat_lit 10, nat_lit 99, nat_lit 0, nat_lit 0, []),
  (nat_lit 11, nat_lit 99, nat_lit 0, nat_lit 0, []),
  (nat_lit 12, nat_lit 99, nat_lit 0, nat_lit 0, []),
  (nat_lit 13, nat_lit 99, nat_lit 0, nat_lit 0, []),
  (nat_lit 14, nat_lit 99, nat_lit 0, nat_lit 0, []),
  (nat_lit 15, nat_lit 99, nat_lit 0, nat_lit 0, []),
  (nat_lit 18, nat_lit 99, nat_lit 0, nat_lit 0, []),
  (nat_lit 19, nat_lit 99, nat_lit 0, nat_lit 0, []),
  (nat_lit 20, nat_lit 99, nat_lit 0, nat_lit 0, []),
  (nat_lit 21, nat_lit 99, nat_lit 0, nat_lit 0, []),
  (nat_lit 24, nat_lit 99, nat_lit 0, nat_lit 0, []),
  (nat_lit 27, nat_lit 99, nat_lit 0, nat_lit 0, []),
  (nat_lit 28, nat_lit 99, nat_lit 0, nat_lit 0, []),
  (nat_lit 31, nat_lit 1, nat_lit 0, nat_lit 0, [nat_lit 0, nat_lit 0, nat_lit 0]),
  (nat_lit 32, nat_lit 16, nat_lit 0, nat_lit 6, [])]
/-- SpeechKeeperModel.isWriter(int) -/
def zk_137 : List zE := [(nat_lit 0, nat_lit 0, nat_lit 0, nat_lit 0, []),
  (nat_lit 1, nat_lit 5, nat_lit 9, nat_lit 0, []),
  (nat_lit 4, nat_lit 0, nat_lit 0, nat_lit 0, []),
  (nat_lit 5, nat_lit 1, nat_lit 0, nat_lit 0, [nat_lit 0, nat_lit 1, nat_lit 0]),
  (nat_lit 6, nat_lit 6, nat_lit 13, nat_lit 1, []),
  (nat_lit 9, nat_lit 1, nat_lit 0, nat_lit 0, [nat_lit 0, nat_lit 1, nat_lit 0]),
  (nat_lit 10, nat_lit 7, nat_lit 14, nat_lit 0, []),
  (nat_lit 13, nat_lit 1, nat_lit 0, nat_lit 0, [nat_lit 0, nat_lit 0, nat_lit 0]),
  (nat_lit 14, nat_lit 16, nat_lit 0, nat_lit 6, [])]
/-- SpeechKeeperModel.join() -/
def zk_138 : List zE := [(nat_lit 0, nat_lit 0, nat_lit 0, nat_lit 4, []),
  (nat_lit 1, nat_lit 1, nat_lit 0, nat_lit 0, [nat_lit 0, nat_lit 0, nat_lit 0]),
  (nat_lit 2, nat_lit 9, nat_lit 10, nat_lit 7, [nat_lit 0]),
  (nat_lit 5, nat_lit 0, nat_lit 0, nat_lit 4, []),
  (nat_lit 6, nat_lit 15, nat_lit 141, nat_lit 1, [nat_lit 0, nat_lit 10]),
  (nat_lit 9, nat_lit 0, nat_lit 0, nat_lit 4, []),
  (nat_lit 10, nat_lit 15, nat_lit 158, nat_lit 1, [nat_lit 0, nat_lit 10]),
  (nat_lit 13, nat_lit 5, nat_lit 25, nat_lit 4, []),
  (nat_lit 16, nat_lit 0, nat_lit 0, nat_lit 4, []),
  (nat_lit 17, nat_lit 8, nat_lit 10, nat_lit 10, []),
  (nat_lit 20, nat_lit 1, nat_lit 0, nat_lit 0, [nat_lit 0, nat_lit 20, nat_lit 0]),
  (nat_lit 22, nat_lit 6, nat_lit 27, nat_lit 5, []),
  (nat_lit 25, nat_lit 99, nat_lit 0, nat_lit 0, []),
  (nat_lit 26, nat_lit 99, nat_lit 0, nat_lit 0, []),
  (nat_lit 27, nat_lit 0, nat_lit 0, nat_lit 4, []),
  (nat_lit 28, nat_lit 15, nat_lit 117, nat_lit 1, [nat_lit 0, nat_lit 10]),
  (nat_lit 31, nat_lit 1, nat_lit 0, nat_lit 0, [nat_lit 0, nat_lit 0, nat_lit 0]),
  (nat_lit 32, nat_lit 2, nat_lit 1, nat_lit 0, []),
  (nat_lit 33, nat_lit 0, nat_lit 1, nat_lit 0, []),
  (nat_lit 34, nat_lit 1, nat_lit 0, nat_lit 0, [nat_lit 0, nat_lit 3, nat_lit 0]),
  (nat_lit 35, nat_lit 6, nat_lit 98, nat_lit 3, []),
  (nat_lit 38, nat_lit 0, nat_lit 0, nat_lit 4, []),
  (nat_lit 39, nat_lit 0, nat_lit 1, nat_lit 0, []),
  (nat_lit 40, nat_lit 15, nat_lit 119, nat_lit 2, [nat_lit 0, nat_lit 10]),
  (nat_lit 43, nat_lit 1, nat_lit 0, nat_lit 0, [nat_lit 0, nat_lit 0, nat_lit 0]),
  (nat_lit 44, nat_lit 2, nat_lit 2, nat_lit 0, []),
  (nat_lit 45, nat_lit 0, nat_lit 2, nat_lit 0, []),
  (nat_lit 46, nat_lit 1, nat_lit 0, nat_lit 0, [nat_lit 0, nat_lit 8, nat_lit 0]),
  (nat_lit 48, nat_lit 0, nat_lit 0, nat_lit 4, []),
  (nat_lit 49, nat_lit 8, nat_lit 10, nat_lit 10, []),
  (nat_lit 52, nat_lit 4, nat_lit 2, nat_lit 0, []),
  (nat_lit 53, nat_lit 6, nat_lit 79, nat_lit 3, []),
  (nat_lit 56, nat_lit 99, nat_lit 0, nat_lit 0, []),
  (nat_lit 57, nat_lit 99, nat_lit 0, nat_lit 0, []),
  (nat_lit 60, nat_lit 99, nat_lit 0, nat_lit 0, []),
  (nat_lit 61, nat_lit 99, nat_lit 0, nat_lit 0, []),
  (nat_lit 62, nat_lit 99, nat_lit 0, nat_lit 0, []),
  (nat_lit 63, nat_lit 99, nat_lit 0, nat_lit 0, []),
  (nat_lit 66, nat_lit 99, nat_lit 0, nat_lit 0, []),
  (nat_lit 67, nat_lit 99, nat_lit 0, nat_lit 0, []),
  (nat_lit 70, nat_lit 99, nat_lit 0, nat_lit 0, []),
  (nat_lit 71, nat_lit 99, nat_lit 0, nat_lit 0, []),
  (nat_lit 72, nat_lit 99, nat_lit 0, nat_lit 0, []),
  (nat_lit 73, nat_lit 99, nat_lit 0, nat_lit 0, []),
  (nat_lit 76, nat_lit 99, nat_lit 0, nat_lit 0, []),
  (nat_lit 79, nat_lit 0, nat_lit 0, nat_lit 4, []),
  (nat_lit 80, nat_lit 8, nat_lit 10, nat_lit 0, []),
  (nat_lit 83, nat_lit 1, nat_lit 0, nat_lit 0, [nat_lit 0, nat_lit 1, nat_lit 0]),
  (nat_lit 84, nat_lit 0, nat_lit 1, nat_lit 0, []),
  (nat_lit 85, nat_lit 4, nat_lit 0, nat_lit 0, []),
  (nat_lit 86, nat_lit 0, nat_lit 0, nat_lit 4, []),
  (nat_lit 87, nat_lit 8, nat_lit 10, nat_lit 10, []),
  (nat_lit 90, nat_lit 20, nat_lit 0, nat_lit 0, []),
  (nat_lit 91, nat_lit 11, nat_lit 0, nat_lit 103, []),
  (nat_lit 92, nat_lit 3, nat_lit 1, nat_lit 0, [nat_lit 1]),
  (nat_lit 95, nat_lit 7, nat_lit 33, nat_lit 0, []),
  (nat_lit 98, nat_lit 1, nat_lit 0, nat_lit 0, [nat_lit 0, nat_lit 0, nat_lit 0]),
  (nat_lit 99, nat_lit 2, nat_lit 1, nat_lit 0, []),
  (nat_lit 100, nat_lit 0, nat_lit 1, nat_lit 0, []),
  (nat_lit 101, nat_lit 1, nat_lit 0, nat_lit 0, [nat_lit 0, nat_lit 160, nat_lit 0]),
  (nat_lit 104, nat_lit 6, nat_lit 156, nat_lit 3, []),
  (nat_lit 107, nat_lit 0, nat_lit 0, nat_lit 4, []),
  (nat_lit 108, nat_lit 8, nat_lit 10, nat_lit 0, []),
  (nat_lit 111, nat_lit 1, nat_lit 0, nat_lit 0, [nat_lit 0, nat_lit 484, nat_lit 0]),
  (nat_lit 114, nat_lit 0, nat_lit 1, nat_lit 0, []),
  (nat_lit 115, nat_lit 4, nat_lit 0, nat_lit 0, []),
  (nat_lit 116, nat_lit 0, nat_lit 1, nat_lit 0, []),
  (nat_lit 117, nat_lit 1, nat_lit 0, nat_lit 0, [nat_lit 0, nat_lit 8, nat_lit 0]),
  (nat_lit 119, nat_lit 0, nat_lit 0, nat_lit 4, []),
  (nat_lit 120, nat_lit 8, nat_lit 10, nat_lit 10, []),
  (nat_lit 123, nat_lit 4, nat_lit 2, nat_lit 0, []),
  (nat_lit 124, nat_lit 6, nat_lit 148, nat_lit 3, []),
  (nat_lit 127, nat_lit 99, nat_lit 0, nat_lit 0, []),
  (nat_lit 128, nat_lit 99, nat_lit 0, nat_lit 0, []),
  (nat_lit 131, nat_lit 99, nat_lit 0, nat_lit 0, []),
  (nat_lit 132, nat_lit 99, nat_lit 0, nat_lit 0, []),
  (nat_lit 133, nat_lit 99, nat_lit 0, nat_lit 0, []),
  (nat_lit 134, nat_lit 99, nat_lit 0, nat_lit 0, []),
  (nat_lit 135, nat_lit 99, nat_lit 0, nat_lit 0, []),
  (nat_lit 138, nat_lit 99, nat_lit 0, nat_lit 0, []),
  (nat_lit 139, nat_lit 99, nat_lit 0, nat_lit 0, []),
  (nat_lit 142, nat_lit 99, nat_lit 0, nat_lit 0, []),
  (nat_lit 143, nat_lit 99, nat_lit 0, nat_lit 0, []),
  (nat_lit 144, nat_lit 99, nat_lit 0, nat_lit 0, []),
  (nat_lit 145, nat_lit 99, nat_lit 0, nat_lit 0, []),
  (nat_lit 148, nat_lit 1, nat_lit 0, nat_lit 0, [nat_lit 2, nat_lit 0, nat_lit 0]),
  (nat_lit 149, nat_lit 11, nat_lit 0, nat_lit 103, []),
  (nat_lit 150, nat_lit 3, nat_lit 1, nat_lit 0, [nat_lit 1]),
  (nat_lit 153, nat_lit 7, nat_lit 100, nat_lit 0, []),
  (nat_lit 156, nat_lit 0, nat_lit 0, nat_lit 4, []),
  (nat_lit 157, nat_lit 8, nat_lit 10, nat_lit 0, []),
  (nat_lit 160, nat_lit 1, nat_lit 0, nat_lit 0, [nat_lit 0, nat_lit 0, nat_lit 0]),
  (nat_lit 161, nat_lit 19, nat_lit 0, nat_lit 0, []),
  (nat_lit 162, nat_lit 10, nat_lit 0, nat_lit 103, []),
  (nat_lit 163, nat_lit 1, nat_lit 0, nat_lit 0, [nat_lit 2, nat_lit 1, nat_lit 0]),
  (nat_lit 164, nat_lit 4, nat_lit 10, nat_lit 0, []),
  (nat_lit 165, nat_lit 11, nat_lit 0, nat_lit 103, []),
  (nat_lit 166, nat_lit 0, nat_lit 0, nat_lit 4, []),
  (nat_lit 167, nat_lit 8, nat_lit 10, nat_lit 10, []),
  (nat_lit 170, nat_lit 16, nat_lit 0, nat_lit 0, [])]
/-- SpeechKeeperModel.keeps() -/
def zk_139 : List zE := [(nat_lit 0, nat_lit 0, nat_lit 0, nat_lit 4, []),
  (nat_lit 1, nat_lit 8, nat_lit 10, nat_lit 6, []),
  (nat_lit 4, nat_lit 1, nat_lit 0, nat_lit 0, [nat_lit 0, nat_lit 8, nat_lit 0]),
  (nat_lit 6, nat_lit 6, nat_lit 55, nat_lit 1, []),
  (nat_lit 9, nat_lit 99, nat_lit 0, nat_lit 0, []),
  (nat_lit 10, nat_lit 99, nat_lit 0, nat_lit 0, []),
  (nat_lit 11, nat_lit 99, nat_lit 0, nat_lit 0, []),
  (nat_lit 14, nat_lit 99, nat_lit 0, nat_lit 0, []),
  (nat_lit 15, nat_lit 99, nat_lit 0, nat_lit 0, []),
  (nat_lit 16, nat_lit 99, nat_lit 0, nat_lit 0, []),
  (nat_lit 19, nat_lit 99, nat_lit 0, nat_lit 0, []),
  (nat_lit 20, nat_lit 99, nat_lit 0, nat_lit 0, []),
  (nat_lit 21, nat_lit 99, nat_lit 0, nat_lit 0, []),
  (nat_lit 22, nat_lit 99, nat_lit 0, nat_lit 0, []),
  (nat_lit 23, nat_lit 99, nat_lit 0, nat_lit 0, []),
  (nat_lit 26, nat_lit 99, nat_lit 0, nat_lit 0, []),
  (nat_lit 29, nat_lit 99, nat_lit 0, nat_lit 0, []),
  (nat_lit 30, nat_lit 99, nat_lit 0, nat_lit 0, []),
  (nat_lit 33, nat_lit 99, nat_lit 0, nat_lit 0, []),
  (nat_lit 34, nat_lit 99, nat_lit 0, nat_lit 0, []),
  (nat_lit 37, nat_lit 99, nat_lit 0, nat_lit 0, []),
  (nat_lit 38, nat_lit 99, nat_lit 0, nat_lit 0, []),
  (nat_lit 39, nat_lit 99, nat_lit 0, nat_lit 0, []),
  (nat_lit 42, nat_lit 99, nat_lit 0, nat_lit 0, []),
  (nat_lit 43, nat_lit 99, nat_lit 0, nat_lit 0, []),
  (nat_lit 46, nat_lit 99, nat_lit 0, nat_lit 0, []),
  (nat_lit 47, nat_lit 99, nat_lit 0, nat_lit 0, []),
  (nat_lit 48, nat_lit 99, nat_lit 0, nat_lit 0, []),
  (nat_lit 49, nat_lit 99, nat_lit 0, nat_lit 0, []),
  (nat_lit 52, nat_lit 99, nat_lit 0, nat_lit 0, []),
  (nat_lit 55, nat_lit 0, nat_lit 0, nat_lit 4, []),
  (nat_lit 56, nat_lit 8, nat_lit 10, nat_lit 0, []),
  (nat_lit 59, nat_lit 1, nat_lit 0, nat_lit 0, [nat_lit 0, nat_lit 0, nat_lit 0]),
  (nat_lit 60, nat_lit 0, nat_lit 0, nat_lit 4, []),
  (nat_lit 61, nat_lit 8, nat_lit 10, nat_lit 3, []),
  (nat_lit 64, nat_lit 0, nat_lit 0, nat_lit 4, []),
  (nat_lit 65, nat_lit 8, nat_lit 10, nat_lit 6, []),
  (nat_lit 68, nat_lit 1, nat_lit 0, nat_lit 0, [nat_lit 0, nat_lit 692, nat_lit 0]),
  (nat_lit 71, nat_lit 4, nat_lit 2, nat_lit 0, []),
  (nat_lit 72, nat_lit 15, nat_lit 3, nat_lit 4, [nat_lit 1, nat_lit 10]),
  (nat_lit 75, nat_lit 0, nat_lit 0, nat_lit 4, []),
  (nat_lit 76, nat_lit 17, nat_lit 0, nat_lit 0, []),
  (nat_lit 77, nat_lit 8, nat_lit 10, nat_lit 6, []),
  (nat_lit 80, nat_lit 1, nat_lit 0, nat_lit 0, [nat_lit 0, nat_lit 1, nat_lit 0]),
  (nat_lit 81, nat_lit 4, nat_lit 0, nat_lit 0, []),
  (nat_lit 82, nat_lit 9, nat_lit 10, nat_lit 6, [nat_lit 0]),
  (nat_lit 85, nat_lit 16, nat_lit 0, nat_lit 5, [])]
/-- SpeechKeeperModel.labels() -/
def zk_140 : List zE := [(nat_lit 0, nat_lit 1, nat_lit 0, nat_lit 0, [nat_lit 0, nat_lit 0, nat_lit 0]),
  (nat_lit 1, nat_lit 2, nat_lit 1, nat_lit 0, []),
  (nat_lit 2, nat_lit 0, nat_lit 1, nat_lit 0, []),
  (nat_lit 3, nat_lit 1, nat_lit 0, nat_lit 0, [nat_lit 0, nat_lit 42, nat_lit 0]),
  (nat_lit 5, nat_lit 6, nat_lit 21, nat_lit 3, []),
  (nat_lit 8, nat_lit 0, nat_lit 0, nat_lit 4, []),
  (nat_lit 9, nat_lit 8, nat_lit 10, nat_lit 22, []),
  (nat_lit 12, nat_lit 0, nat_lit 1, nat_lit 0, []),
  (nat_lit 13, nat_lit 0, nat_lit 1, nat_lit 0, []),
  (nat_lit 14, nat_lit 11, nat_lit 0, nat_lit 100, []),
  (nat_lit 15, nat_lit 3, nat_lit 1, nat_lit 0, [nat_lit 1]),
  (nat_lit 18, nat_lit 7, nat_lit 2, nat_lit 0, []),
  (nat_lit 21, nat_lit 1, nat_lit 0, nat_lit 0, [nat_lit 0, nat_lit 1, nat_lit 0]),
  (nat_lit 22, nat_lit 2, nat_lit 1, nat_lit 0, []),
  (nat_lit 23, nat_lit 0, nat_lit 1, nat_lit 0, []),
  (nat_lit 24, nat_lit 5, nat_lit 131, nat_lit 0, []),
  (nat_lit 27, nat_lit 1, nat_lit 0, nat_lit 0, [nat_lit 0, nat_lit 0, nat_lit 0]),
  (nat_lit 28, nat_lit 2, nat_lit 1, nat_lit 0, []),
  (nat_lit 29, nat_lit 1, nat_lit 0, nat_lit 0, [nat_lit 0, nat_lit 0, nat_lit 0]),
  (nat_lit 30, nat_lit 2, nat_lit 2, nat_lit 0, []),
  (nat_lit 31, nat_lit 0, nat_lit 2, nat_lit 0, []),
  (nat_lit 32, nat_lit 0, nat_lit 0, nat_lit 4, []),
  (nat_lit 33, nat_lit 8, nat_lit 10, nat_lit 24, []),
  (nat_lit 36, nat_lit 1, nat_lit 0, nat_lit 0, [nat_lit 0, nat_lit 0, nat_lit 0]),
  (nat_lit 37, nat_lit 10, nat_lit 0, nat_lit 100, []),
  (nat_lit 38, nat_lit 6, nat_lit 128, nat_lit 3, []),
  (nat_lit 41, nat_lit 99, nat_lit 0, nat_lit 0, []),
  (nat_lit 43, nat_lit 99, nat_lit 0, nat_lit 0, []),
  (nat_lit 44, nat_lit 99, nat_lit 0, nat_lit 0, []),
  (nat_lit 45, nat_lit 99, nat_lit 0, nat_lit 0, []),
  (nat_lit 47, nat_lit 99, nat_lit 0, nat_lit 0, []),
  (nat_lit 48, nat_lit 99, nat_lit 0, nat_lit 0, []),
  (nat_lit 51, nat_lit 99, nat_lit 0, nat_lit 0, []),
  (nat_lit 52, nat_lit 99, nat_lit 0, nat_lit 0, []),
  (nat_lit 53, nat_lit 99, nat_lit 0, nat_lit 0, []),
  (nat_lit 54, nat_lit 99, nat_lit 0, nat_lit 0, []),
  (nat_lit 57, nat_lit 99, nat_lit 0, nat_lit 0, []),
  (nat_lit 58, nat_lit 99, nat_lit 0, nat_lit 0, []),
  (nat_lit 61, nat_lit 99, nat_lit 0, nat_lit 0, []),
  (nat_lit 62, nat_lit 99, nat_lit 0, nat_lit 0, []),
  (nat_lit 63, nat_lit 99, nat_lit 0, nat_lit 0, []),
  (nat_lit 64, nat_lit 99, nat_lit 0, nat_lit 0, []),
  (nat_lit 67, nat_lit 99, nat_lit 0, nat_lit 0, []),
  (nat_lit 68, nat_lit 99, nat_lit 0, nat_lit 0, []),
  (nat_lit 69, nat_lit 99, nat_lit 0, nat_lit 0, []),
  (nat_lit 72, nat_lit 99, nat_lit 0, nat_lit 0, []),
  (nat_lit 73, nat_lit 99, nat_lit 0, nat_lit 0, []),
  (nat_lit 74, nat_lit 99, nat_lit 0, nat_lit 0, []),
  (nat_lit 75, nat_lit 99, nat_lit 0, nat_lit 0, []),
  (nat_lit 78, nat_lit 99, nat_lit 0, nat_lit 0, []),
  (nat_lit 81, nat_lit 99, nat_lit 0, nat_lit 0, []),
  (nat_lit 82, nat_lit 99, nat_lit 0, nat_lit 0, []),
  (nat_lit 85, nat_lit 99, nat_lit 0, nat_lit 0, []),
  (nat_lit 86, nat_lit 99, nat_lit 0, nat_lit 0, []),
  (nat_lit 87, nat_lit 99, nat_lit 0, nat_lit 0, []),
  (nat_lit 88, nat_lit 99, nat_lit 0, nat_lit 0, []),
  (nat_lit 91, nat_lit 99, nat_lit 0, nat_lit 0, []),
  (nat_lit 92, nat_lit 99, nat_lit 0, nat_lit 0, []),
  (nat_lit 93, nat_lit 99, nat_lit 0, nat_lit 0, []),
  (nat_lit 96, nat_lit 99, nat_lit 0, nat_lit 0, []),
  (nat_lit 98, nat_lit 99, nat_lit 0, nat_lit 0, []),
  (nat_lit 99, nat_lit 99, nat_lit 0, nat_lit 0, []),
  (nat_lit 102, nat_lit 99, nat_lit 0, nat_lit 0, []),
  (nat_lit 103, nat_lit 99, nat_lit 0, nat_lit 0, []),
  (nat_lit 105, nat_lit 99, nat_lit 0, nat_lit 0, []),
  (nat_lit 106, nat_lit 99, nat_lit 0, nat_lit 0, []),
  (nat_lit 107, nat_lit 99, nat_lit 0, nat_lit 0, []),
  (nat_lit 110, nat_lit 99, nat_lit 0, nat_lit 0, []),
  (nat_lit 111, nat_lit 99, nat_lit 0, nat_lit 0, []),
  (nat_lit 113, nat_lit 99, nat_lit 0, nat_lit 0, []),
  (nat_lit 114, nat_lit 99, nat_lit 0, nat_lit 0, []),
  (nat_lit 115, nat_lit 99, nat_lit 0, nat_lit 0, []),
  (nat_lit 116, nat_lit 99, nat_lit 0, nat_lit 0, []),
  (nat_lit 119, nat_lit 99, nat_lit 0, nat_lit 0, []),
  (nat_lit 122, nat_lit 99, nat_lit 0, nat_lit 0, []),
  (nat_lit 125, nat_lit 99, nat_lit 0, nat_lit 0, []),
  (nat_lit 128, nat_lit 7, nat_lit 23, nat_lit 0, []),
  (nat_lit 131, nat_lit 16, nat_lit 0, nat_lit 5, [])]
/-- SpeechKeeperModel.laysAll() -/
def zk_141 : List zE := [(nat_lit 0, nat_lit 0, nat_lit 0, nat_lit 4, []),
  (nat_lit 1, nat_lit 15, nat_lit 142, nat_lit 1, [nat_lit 0, nat_lit 10]),
  (nat_lit 4, nat_lit 0, nat_lit 0, nat_lit 4, []),
  (nat_lit 5, nat_lit 1, nat_lit 0, nat_lit 0, [nat_lit 0, nat_lit 0, nat_lit 0]),
  (nat_lit 6, nat_lit 9, nat_lit 10, nat_lit 10, [nat_lit 0]),
  (nat_lit 9, nat_lit 1, nat_lit 0, nat_lit 0, [nat_lit 0, nat_lit 0, nat_lit 0]),
  (nat_lit 10, nat_lit 2, nat_lit 1, nat_lit 0, []),
  (nat_lit 11, nat_lit 1, nat_lit 0, nat_lit 0, [nat_lit 0, nat_lit 0, nat_lit 0]),
  (nat_lit 12, nat_lit 2, nat_lit 2, nat_lit 0, []),
  (nat_lit 13, nat_lit 0, nat_lit 2, nat_lit 0, []),
  (nat_lit 14, nat_lit 0, nat_lit 0, nat_lit 4, []),
  (nat_lit 15, nat_lit 8, nat_lit 10, nat_lit 31, []),
  (nat_lit 18, nat_lit 6, nat_lit 50, nat_lit 3, []),
  (nat_lit 21, nat_lit 99, nat_lit 0, nat_lit 0, []),
  (nat_lit 22, nat_lit 99, nat_lit 0, nat_lit 0, []),
  (nat_lit 23, nat_lit 99, nat_lit 0, nat_lit 0, []),
  (nat_lit 24, nat_lit 99, nat_lit 0, nat_lit 0, []),
  (nat_lit 27, nat_lit 99, nat_lit 0, nat_lit 0, []),
  (nat_lit 28, nat_lit 99, nat_lit 0, nat_lit 0, []),
  (nat_lit 29, nat_lit 99, nat_lit 0, nat_lit 0, []),
  (nat_lit 32, nat_lit 99, nat_lit 0, nat_lit 0, []),
  (nat_lit 33, nat_lit 99, nat_lit 0, nat_lit 0, []),
  (nat_lit 34, nat_lit 99, nat_lit 0, nat_lit 0, []),
  (nat_lit 37, nat_lit 99, nat_lit 0, nat_lit 0, []),
  (nat_lit 38, nat_lit 99, nat_lit 0, nat_lit 0, []),
  (nat_lit 41, nat_lit 99, nat_lit 0, nat_lit 0, []),
  (nat_lit 42, nat_lit 99, nat_lit 0, nat_lit 0, []),
  (nat_lit 43, nat_lit 99, nat_lit 0, nat_lit 0, []),
  (nat_lit 44, nat_lit 99, nat_lit 0, nat_lit 0, []),
  (nat_lit 47, nat_lit 99, nat_lit 0, nat_lit 0, []),
  (nat_lit 50, nat_lit 0, nat_lit 0, nat_lit 4, []),
  (nat_lit 51, nat_lit 0, nat_lit 1, nat_lit 0, []),
  (nat_lit 52, nat_lit 0, nat_lit 0, nat_lit 4, []),
  (nat_lit 53, nat_lit 1, nat_lit 0, nat_lit 0, [nat_lit 0, nat_lit 0, nat_lit 0]),
  (nat_lit 54, nat_lit 15, nat_lit 147, nat_lit 2, [nat_lit 0, nat_lit 10]),
  (nat_lit 57, nat_lit 15, nat_lit 106, nat_lit 3, [nat_lit 0, nat_lit 10]),
  (nat_lit 60, nat_lit 16, nat_lit 0, nat_lit 5, [])]
/-- SpeechKeeperModel.laysBlocks() -/
def zk_142 : List zE := [(nat_lit 0, nat_lit 0, nat_lit 0, nat_lit 4, []),
  (nat_lit 1, nat_lit 1, nat_lit 0, nat_lit 0, [nat_lit 0, nat_lit 0, nat_lit 0]),
  (nat_lit 2, nat_lit 15, nat_lit 143, nat_lit 2, [nat_lit 0, nat_lit 10]),
  (nat_lit 5, nat_lit 0, nat_lit 0, nat_lit 4, []),
  (nat_lit 6, nat_lit 1, nat_lit 0, nat_lit 0, [nat_lit 0, nat_lit 1, nat_lit 0]),
  (nat_lit 7, nat_lit 15, nat_lit 143, nat_lit 2, [nat_lit 0, nat_lit 10]),
  (nat_lit 10, nat_lit 0, nat_lit 0, nat_lit 4, []),
  (nat_lit 11, nat_lit 15, nat_lit 140, nat_lit 1, [nat_lit 0, nat_lit 10]),
  (nat_lit 14, nat_lit 0, nat_lit 0, nat_lit 4, []),
  (nat_lit 15, nat_lit 1, nat_lit 0, nat_lit 0, [nat_lit 0, nat_lit 0, nat_lit 0]),
  (nat_lit 16, nat_lit 9, nat_lit 10, nat_lit 31, [nat_lit 0]),
  (nat_lit 19, nat_lit 1, nat_lit 0, nat_lit 0, [nat_lit 0, nat_lit 0, nat_lit 0]),
  (nat_lit 20, nat_lit 2, nat_lit 1, nat_lit 0, []),
  (nat_lit 21, nat_lit 0, nat_lit 1, nat_lit 0, []),
  (nat_lit 22, nat_lit 1, nat_lit 0, nat_lit 0, [nat_lit 0, nat_lit 42, nat_lit 0]),
  (nat_lit 24, nat_lit 6, nat_lit 56, nat_lit 3, []),
  (nat_lit 27, nat_lit 0, nat_lit 0, nat_lit 4, []),
  (nat_lit 28, nat_lit 0, nat_lit 1, nat_lit 0, []),
  (nat_lit 29, nat_lit 15, nat_lit 0, nat_lit 2, [nat_lit 0, nat_lit 10]),
  (nat_lit 32, nat_lit 5, nat_lit 50, nat_lit 0, []),
  (nat_lit 35, nat_lit 99, nat_lit 0, nat_lit 0, []),
  (nat_lit 36, nat_lit 99, nat_lit 0, nat_lit 0, []),
  (nat_lit 39, nat_lit 99, nat_lit 0, nat_lit 0, []),
  (nat_lit 40, nat_lit 99, nat_lit 0, nat_lit 0, []),
  (nat_lit 41, nat_lit 99, nat_lit 0, nat_lit 0, []),
  (nat_lit 42, nat_lit 99, nat_lit 0, nat_lit 0, []),
  (nat_lit 45, nat_lit 99, nat_lit 0, nat_lit 0, []),
  (nat_lit 46, nat_lit 99, nat_lit 0, nat_lit 0, []),
  (nat_lit 47, nat_lit 99, nat_lit 0, nat_lit 0, []),
  (nat_lit 50, nat_lit 3, nat_lit 1, nat_lit 0, [nat_lit 1]),
  (nat_lit 53, nat_lit 7, nat_lit 21, nat_lit 0, []),
  (nat_lit 56, nat_lit 1, nat_lit 0, nat_lit 0, [nat_lit 0, nat_lit 0, nat_lit 0]),
  (nat_lit 57, nat_lit 2, nat_lit 1, nat_lit 0, []),
  (nat_lit 58, nat_lit 0, nat_lit 1, nat_lit 0, []),
  (nat_lit 59, nat_lit 0, nat_lit 0, nat_lit 4, []),
  (nat_lit 60, nat_lit 8, nat_lit 10, nat_lit 31, []),
  (nat_lit 63, nat_lit 6, nat_lit 116, nat_lit 3, []),
  (nat_lit 66, nat_lit 99, nat_lit 0, nat_lit 0, []),
  (nat_lit 67, nat_lit 99, nat_lit 0, nat_lit 0, []),
  (nat_lit 68, nat_lit 99, nat_lit 0, nat_lit 0, []),
  (nat_lit 71, nat_lit 99, nat_lit 0, nat_lit 0, []),
  (nat_lit 72, nat_lit 99, nat_lit 0, nat_lit 0, []),
  (nat_lit 73, nat_lit 99, nat_lit 0, nat_lit 0, []),
  (nat_lit 74, nat_lit 99, nat_lit 0, nat_lit 0, []),
  (nat_lit 76, nat_lit 99, nat_lit 0, nat_lit 0, []),
  (nat_lit 79, nat_lit 99, nat_lit 0, nat_lit 0, []),
  (nat_lit 80, nat_lit 99, nat_lit 0, nat_lit 0, []),
  (nat_lit 83, nat_lit 99, nat_lit 0, nat_lit 0, []),
  (nat_lit 84, nat_lit 99, nat_lit 0, nat_lit 0, []),
  (nat_lit 85, nat_lit 99, nat_lit 0, nat_lit 0, []),
  (nat_lit 86, nat_lit 99, nat_lit 0, nat_lit 0, []),
  (nat_lit 87, nat_lit 99, nat_lit 0, nat_lit 0, []),
  (nat_lit 90, nat_lit 99, nat_lit 0, nat_lit 0, []),
  (nat_lit 93, nat_lit 99, nat_lit 0, nat_lit 0, []),
  (nat_lit 94, nat_lit 99, nat_lit 0, nat_lit 0, []),
  (nat_lit 97, nat_lit 99, nat_lit 0, nat_lit 0, []),
  (nat_lit 98, nat_lit 99, nat_lit 0, nat_lit 0, []),
  (nat_lit 101, nat_lit 99, nat_lit 0, nat_lit 0, []),
  (nat_lit 102, nat_lit 99, nat_lit 0, nat_lit 0, []),
  (nat_lit 103, nat_lit 99, nat_lit 0, nat_lit 0, []),
  (nat_lit 104, nat_lit 99, nat_lit 0, nat_lit 0, []),
  (nat_lit 107, nat_lit 99, nat_lit 0, nat_lit 0, []),
  (nat_lit 110, nat_lit 99, nat_lit 0, nat_lit 0, []),
  (nat_lit 113, nat_lit 99, nat_lit 0, nat_lit 0, []),
  (nat_lit 116, nat_lit 16, nat_lit 0, nat_lit 5, [])]
/-- SpeechKeeperModel.laysChanges(int) -/
def zk_143 : List zE := [(nat_lit 0, nat_lit 0, nat_lit 0, nat_lit 4, []),
  (nat_lit 1, nat_lit 1, nat_lit 0, nat_lit 0, [nat_lit 0, nat_lit 0, nat_lit 0]),
  (nat_lit 2, nat_lit 0, nat_lit 1, nat_lit 0, []),
  (nat_lit 3, nat_lit 1, nat_lit 0, nat_lit 0, [nat_lit 0, nat_lit 1, nat_lit 0]),
  (nat_lit 4, nat_lit 4, nat_lit 0, nat_lit 0, []),
  (nat_lit 5, nat_lit 15, nat_lit 176, nat_lit 3, [nat_lit 0, nat_lit 10]),
  (nat_lit 8, nat_lit 0, nat_lit 0, nat_lit 4, []),
  (nat_lit 9, nat_lit 8, nat_lit 10, nat_lit 24, []),
  (nat_lit 12, nat_lit 0, nat_lit 1, nat_lit 0, []),
  (nat_lit 13, nat_lit 1, nat_lit 0, nat_lit 0, [nat_lit 0, nat_lit 0, nat_lit 0]),
  (nat_lit 14, nat_lit 11, nat_lit 0, nat_lit 100, []),
  (nat_lit 15, nat_lit 0, nat_lit 0, nat_lit 4, []),
  (nat_lit 16, nat_lit 15, nat_lit 4, nat_lit 1, [nat_lit 0, nat_lit 10]),
  (nat_lit 19, nat_lit 2, nat_lit 2, nat_lit 0, []),
  (nat_lit 20, nat_lit 1, nat_lit 0, nat_lit 0, [nat_lit 0, nat_lit 0, nat_lit 0]),
  (nat_lit 21, nat_lit 2, nat_lit 3, nat_lit 0, []),
  (nat_lit 22, nat_lit 1, nat_lit 0, nat_lit 0, [nat_lit 0, nat_lit 0, nat_lit 0]),
  (nat_lit 23, nat_lit 2, nat_lit 4, nat_lit 0, []),
  (nat_lit 25, nat_lit 1, nat_lit 0, nat_lit 0, [nat_lit 0, nat_lit 0, nat_lit 0]),
  (nat_lit 26, nat_lit 2, nat_lit 5, nat_lit 0, []),
  (nat_lit 28, nat_lit 0, nat_lit 5, nat_lit 0, []),
  (nat_lit 30, nat_lit 0, nat_lit 0, nat_lit 4, []),
  (nat_lit 31, nat_lit 8, nat_lit 10, nat_lit 16, []),
  (nat_lit 34, nat_lit 6, nat_lit 91, nat_lit 3, []),
  (nat_lit 37, nat_lit 99, nat_lit 0, nat_lit 0, []),
  (nat_lit 38, nat_lit 99, nat_lit 0, nat_lit 0, []),
  (nat_lit 41, nat_lit 99, nat_lit 0, nat_lit 0, []),
  (nat_lit 42, nat_lit 99, nat_lit 0, nat_lit 0, []),
  (nat_lit 45, nat_lit 99, nat_lit 0, nat_lit 0, []),
  (nat_lit 47, nat_lit 99, nat_lit 0, nat_lit 0, []),
  (nat_lit 48, nat_lit 99, nat_lit 0, nat_lit 0, []),
  (nat_lit 49, nat_lit 99, nat_lit 0, nat_lit 0, []),
  (nat_lit 52, nat_lit 99, nat_lit 0, nat_lit 0, []),
  (nat_lit 53, nat_lit 99, nat_lit 0, nat_lit 0, []),
  (nat_lit 54, nat_lit 99, nat_lit 0, nat_lit 0, []),
  (nat_lit 55, nat_lit 99, nat_lit 0, nat_lit 0, []),
  (nat_lit 57, nat_lit 99, nat_lit 0, nat_lit 0, []),
  (nat_lit 59, nat_lit 99, nat_lit 0, nat_lit 0, []),
  (nat_lit 60, nat_lit 99, nat_lit 0, nat_lit 0, []),
  (nat_lit 63, nat_lit 99, nat_lit 0, nat_lit 0, []),
  (nat_lit 65, nat_lit 99, nat_lit 0, nat_lit 0, []),
  (nat_lit 66, nat_lit 99, nat_lit 0, nat_lit 0, []),
  (nat_lit 69, nat_lit 99, nat_lit 0, nat_lit 0, []),
  (nat_lit 71, nat_lit 99, nat_lit 0, nat_lit 0, []),
  (nat_lit 72, nat_lit 99, nat_lit 0, nat_lit 0, []),
  (nat_lit 73, nat_lit 99, nat_lit 0, nat_lit 0, []),
  (nat_lit 74, nat_lit 99, nat_lit 0, nat_lit 0, []),
  (nat_lit 75, nat_lit 99, nat_lit 0, nat_lit 0, []),
  (nat_lit 78, nat_lit 99, nat_lit 0, nat_lit 0, []),
  (nat_lit 80, nat_lit 99, nat_lit 0, nat_lit 0, []),
  (nat_lit 81, nat_lit 99, nat_lit 0, nat_lit 0, []),
  (nat_lit 82, nat_lit 99, nat_lit 0, nat_lit 0, []),
  (nat_lit 83, nat_lit 99, nat_lit 0, nat_lit 0, []),
  (nat_lit 85, nat_lit 99, nat_lit 0, nat_lit 0, []),
  (nat_lit 88, nat_lit 99, nat_lit 0, nat_lit 0, []),
  (nat_lit 91, nat_lit 0, nat_lit 0, nat_lit 4, []),
  (nat_lit 92, nat_lit 0, nat_lit 1, nat_lit 0, []),
  (nat_lit 93, nat_lit 0, nat_lit 3, nat_lit 0, []),
  (nat_lit 94, nat_lit 0, nat_lit 0, nat_lit 4, []),
  (nat_lit 95, nat_lit 8, nat_lit 10, nat_lit 16, []),
  (nat_lit 98, nat_lit 0, nat_lit 4, nat_lit 0, []),
  (nat_lit 100, nat_lit 0, nat_lit 0, nat_lit 4, []),
  (nat_lit 101, nat_lit 8, nat_lit 10, nat_lit 17, []),
  (nat_lit 104, nat_lit 15, nat_lit 107, nat_lit 6, [nat_lit 0, nat_lit 10]),
  (nat_lit 107, nat_lit 16, nat_lit 0, nat_lit 5, [])]
/-- SpeechKeeperModel.laysTable() -/
def zk_144 : List zE := [(nat_lit 0, nat_lit 0, nat_lit 0, nat_lit 4, []),
  (nat_lit 1, nat_lit 8, nat_lit 10, nat_lit 16, []),
  (nat_lit 4, nat_lit 2, nat_lit 1, nat_lit 0, []),
  (nat_lit 5, nat_lit 0, nat_lit 1, nat_lit 0, []),
  (nat_lit 6, nat_lit 5, nat_lit 130, nat_lit 2, []),
  (nat_lit 9, nat_lit 0, nat_lit 0, nat_lit 4, []),
  (nat_lit 10, nat_lit 8, nat_lit 10, nat_lit 17, []),
  (nat_lit 13, nat_lit 2, nat_lit 2, nat_lit 0, []),
  (nat_lit 14, nat_lit 0, nat_lit 2, nat_lit 0, []),
  (nat_lit 15, nat_lit 5, nat_lit 124, nat_lit 2, []),
  (nat_lit 18, nat_lit 1, nat_lit 0, nat_lit 0, [nat_lit 0, nat_lit 165, nat_lit 0]),
  (nat_lit 21, nat_lit 0, nat_lit 1, nat_lit 0, []),
  (nat_lit 22, nat_lit 4, nat_lit 2, nat_lit 0, []),
  (nat_lit 23, nat_lit 0, nat_lit 2, nat_lit 0, []),
  (nat_lit 24, nat_lit 4, nat_lit 0, nat_lit 0, []),
  (nat_lit 25, nat_lit 2, nat_lit 3, nat_lit 0, []),
  (nat_lit 26, nat_lit 0, nat_lit 1, nat_lit 0, []),
  (nat_lit 27, nat_lit 0, nat_lit 0, nat_lit 4, []),
  (nat_lit 28, nat_lit 8, nat_lit 10, nat_lit 16, []),
  (nat_lit 31, nat_lit 6, nat_lit 42, nat_lit 0, []),
  (nat_lit 34, nat_lit 99, nat_lit 0, nat_lit 0, []),
  (nat_lit 35, nat_lit 99, nat_lit 0, nat_lit 0, []),
  (nat_lit 36, nat_lit 99, nat_lit 0, nat_lit 0, []),
  (nat_lit 39, nat_lit 99, nat_lit 0, nat_lit 0, []),
  (nat_lit 42, nat_lit 1, nat_lit 0, nat_lit 0, [nat_lit 0, nat_lit 1, nat_lit 0]),
  (nat_lit 43, nat_lit 7, nat_lit 47, nat_lit 0, []),
  (nat_lit 46, nat_lit 99, nat_lit 0, nat_lit 0, []),
  (nat_lit 47, nat_lit 2, nat_lit 4, nat_lit 0, []),
  (nat_lit 49, nat_lit 0, nat_lit 0, nat_lit 4, []),
  (nat_lit 50, nat_lit 8, nat_lit 10, nat_lit 13, []),
  (nat_lit 53, nat_lit 0, nat_lit 3, nat_lit 0, []),
  (nat_lit 54, nat_lit 0, nat_lit 4, nat_lit 0, []),
  (nat_lit 56, nat_lit 5, nat_lit 63, nat_lit 0, []),
  (nat_lit 59, nat_lit 1, nat_lit 0, nat_lit 0, [nat_lit 0, nat_lit 0, nat_lit 0]),
  (nat_lit 60, nat_lit 7, nat_lit 117, nat_lit 0, []),
  (nat_lit 63, nat_lit 99, nat_lit 0, nat_lit 0, []),
  (nat_lit 64, nat_lit 99, nat_lit 0, nat_lit 0, []),
  (nat_lit 67, nat_lit 99, nat_lit 0, nat_lit 0, []),
  (nat_lit 68, nat_lit 99, nat_lit 0, nat_lit 0, []),
  (nat_lit 69, nat_lit 99, nat_lit 0, nat_lit 0, []),
  (nat_lit 70, nat_lit 99, nat_lit 0, nat_lit 0, []),
  (nat_lit 73, nat_lit 99, nat_lit 0, nat_lit 0, []),
  (nat_lit 74, nat_lit 99, nat_lit 0, nat_lit 0, []),
  (nat_lit 75, nat_lit 99, nat_lit 0, nat_lit 0, []),
  (nat_lit 76, nat_lit 99, nat_lit 0, nat_lit 0, []),
  (nat_lit 79, nat_lit 99, nat_lit 0, nat_lit 0, []),
  (nat_lit 80, nat_lit 99, nat_lit 0, nat_lit 0, []),
  (nat_lit 81, nat_lit 99, nat_lit 0, nat_lit 0, []),
  (nat_lit 84, nat_lit 99, nat_lit 0, nat_lit 0, []),
  (nat_lit 85, nat_lit 99, nat_lit 0, nat_lit 0, []),
  (nat_lit 88, nat_lit 99, nat_lit 0, nat_lit 0, []),
  (nat_lit 89, nat_lit 99, nat_lit 0, nat_lit 0, []),
  (nat_lit 90, nat_lit 99, nat_lit 0, nat_lit 0, []),
  (nat_lit 91, nat_lit 99, nat_lit 0, nat_lit 0, []),
  (nat_lit 92, nat_lit 99, nat_lit 0, nat_lit 0, []),
  (nat_lit 93, nat_lit 99, nat_lit 0, nat_lit 0, []),
  (nat_lit 96, nat_lit 99, nat_lit 0, nat_lit 0, []),
  (nat_lit 97, nat_lit 99, nat_lit 0, nat_lit 0, []),
  (nat_lit 100, nat_lit 99, nat_lit 0, nat_lit 0, []),
  (nat_lit 101, nat_lit 99, nat_lit 0, nat_lit 0, []),
  (nat_lit 104, nat_lit 99, nat_lit 0, nat_lit 0, []),
  (nat_lit 105, nat_lit 99, nat_lit 0, nat_lit 0, []),
  (nat_lit 106, nat_lit 99, nat_lit 0, nat_lit 0, []),
  (nat_lit 107, nat_lit 99, nat_lit 0, nat_lit 0, []),
  (nat_lit 110, nat_lit 99, nat_lit 0, nat_lit 0, []),
  (nat_lit 111, nat_lit 99, nat_lit 0, nat_lit 0, []),
  (nat_lit 112, nat_lit 99, nat_lit 0, nat_lit 0, []),
  (nat_lit 113, nat_lit 99, nat_lit 0, nat_lit 0, []),
  (nat_lit 114, nat_lit 99, nat_lit 0, nat_lit 0, []),
  (nat_lit 117, nat_lit 11, nat_lit 0, nat_lit 100, []),
  (nat_lit 118, nat_lit 3, nat_lit 2, nat_lit 0, [nat_lit 4294967295]),
  (nat_lit 121, nat_lit 7, nat_lit 14, nat_lit 0, []),
  (nat_lit 124, nat_lit 3, nat_lit 1, nat_lit 0, [nat_lit 4294967295]),
  (nat_lit 127, nat_lit 7, nat_lit 5, nat_lit 0, []),
  (nat_lit 130, nat_lit 16, nat_lit 0, nat_lit 5, [])]
/-- SpeechKeeperModel.letter(int, int, int, int) -/
def zk_145 : List zE := [(nat_lit 0, nat_lit 0, nat_lit 0, nat_lit 4, []),
  (nat_lit 1, nat_lit 15, nat_lit 141, nat_lit 1, [nat_lit 0, nat_lit 10]),
  (nat_lit 4, nat_lit 0, nat_lit 0, nat_lit 4, []),
  (nat_lit 5, nat_lit 0, nat_lit 1, nat_lit 0, []),
  (nat_lit 6, nat_lit 15, nat_lit 134, nat_lit 1, [nat_lit 1, nat_lit 10]),
  (nat_lit 9, nat_lit 5, nat_lit 16, nat_lit 1, []),
  (nat_lit 12, nat_lit 1, nat_lit 0, nat_lit 0, [nat_lit 0, nat_lit 1, nat_lit 0]),
  (nat_lit 13, nat_lit 7, nat_lit 17, nat_lit 0, []),
  (nat_lit 16, nat_lit 1, nat_lit 0, nat_lit 0, [nat_lit 0, nat_lit 0, nat_lit 0]),
  (nat_lit 17, nat_lit 15, nat_lit 5, nat_lit 2, [nat_lit 0, nat_lit 10]),
  (nat_lit 20, nat_lit 5, nat_lit 46, nat_lit 1, []),
  (nat_lit 23, nat_lit 0, nat_lit 0, nat_lit 4, []),
  (nat_lit 24, nat_lit 0, nat_lit 0, nat_lit 4, []),
  (nat_lit 25, nat_lit 0, nat_lit 1, nat_lit 0, []),
  (nat_lit 26, nat_lit 0, nat_lit 2, nat_lit 0, []),
  (nat_lit 27, nat_lit 0, nat_lit 3, nat_lit 0, []),
  (nat_lit 28, nat_lit 15, nat_lit 136, nat_lit 4, [nat_lit 0, nat_lit 10]),
  (nat_lit 31, nat_lit 5, nat_lit 38, nat_lit 1, []),
  (nat_lit 34, nat_lit 1, nat_lit 0, nat_lit 0, [nat_lit 0, nat_lit 1, nat_lit 0]),
  (nat_lit 35, nat_lit 7, nat_lit 39, nat_lit 0, []),
  (nat_lit 38, nat_lit 99, nat_lit 0, nat_lit 0, []),
  (nat_lit 39, nat_lit 1, nat_lit 0, nat_lit 0, [nat_lit 0, nat_lit 2, nat_lit 0]),
  (nat_lit 40, nat_lit 15, nat_lit 164, nat_lit 3, [nat_lit 0, nat_lit 10]),
  (nat_lit 43, nat_lit 5, nat_lit 48, nat_lit 0, []),
  (nat_lit 46, nat_lit 1, nat_lit 0, nat_lit 0, [nat_lit 0, nat_lit 0, nat_lit 0]),
  (nat_lit 47, nat_lit 16, nat_lit 0, nat_lit 0, []),
  (nat_lit 48, nat_lit 99, nat_lit 0, nat_lit 0, []),
  (nat_lit 49, nat_lit 99, nat_lit 0, nat_lit 0, []),
  (nat_lit 50, nat_lit 99, nat_lit 0, nat_lit 0, []),
  (nat_lit 51, nat_lit 99, nat_lit 0, nat_lit 0, []),
  (nat_lit 52, nat_lit 99, nat_lit 0, nat_lit 0, []),
  (nat_lit 55, nat_lit 99, nat_lit 0, nat_lit 0, []),
  (nat_lit 57, nat_lit 99, nat_lit 0, nat_lit 0, []),
  (nat_lit 60, nat_lit 99, nat_lit 0, nat_lit 0, [])]
/-- SpeechKeeperModel.line(int, int, int) -/
def zk_146 : List zE := [(nat_lit 0, nat_lit 0, nat_lit 0, nat_lit 4, []),
  (nat_lit 1, nat_lit 15, nat_lit 141, nat_lit 1, [nat_lit 0, nat_lit 10]),
  (nat_lit 4, nat_lit 0, nat_lit 0, nat_lit 4, []),
  (nat_lit 5, nat_lit 0, nat_lit 1, nat_lit 0, []),
  (nat_lit 6, nat_lit 15, nat_lit 134, nat_lit 1, [nat_lit 1, nat_lit 10]),
  (nat_lit 9, nat_lit 5, nat_lit 22, nat_lit 0, []),
  (nat_lit 12, nat_lit 0, nat_lit 3, nat_lit 0, []),
  (nat_lit 13, nat_lit 20, nat_lit 0, nat_lit 0, []),
  (nat_lit 14, nat_lit 1, nat_lit 0, nat_lit 0, [nat_lit 2, nat_lit 0, nat_lit 0]),
  (nat_lit 15, nat_lit 1, nat_lit 0, nat_lit 0, [nat_lit 2, nat_lit 1, nat_lit 0]),
  (nat_lit 16, nat_lit 15, nat_lit 2, nat_lit 3, [nat_lit 1, nat_lit 10]),
  (nat_lit 19, nat_lit 5, nat_lit 26, nat_lit 1, []),
  (nat_lit 22, nat_lit 1, nat_lit 0, nat_lit 0, [nat_lit 0, nat_lit 1, nat_lit 0]),
  (nat_lit 23, nat_lit 7, nat_lit 27, nat_lit 0, []),
  (nat_lit 26, nat_lit 1, nat_lit 0, nat_lit 0, [nat_lit 0, nat_lit 0, nat_lit 0]),
  (nat_lit 27, nat_lit 15, nat_lit 5, nat_lit 2, [nat_lit 0, nat_lit 10]),
  (nat_lit 30, nat_lit 5, nat_lit 55, nat_lit 1, []),
  (nat_lit 33, nat_lit 0, nat_lit 0, nat_lit 4, []),
  (nat_lit 34, nat_lit 0, nat_lit 0, nat_lit 4, []),
  (nat_lit 35, nat_lit 0, nat_lit 1, nat_lit 0, []),
  (nat_lit 36, nat_lit 0, nat_lit 2, nat_lit 0, []),
  (nat_lit 37, nat_lit 15, nat_lit 132, nat_lit 3, [nat_lit 0, nat_lit 10]),
  (nat_lit 40, nat_lit 5, nat_lit 47, nat_lit 1, []),
  (nat_lit 43, nat_lit 1, nat_lit 0, nat_lit 0, [nat_lit 0, nat_lit 1, nat_lit 0]),
  (nat_lit 44, nat_lit 7, nat_lit 48, nat_lit 0, []),
  (nat_lit 47, nat_lit 99, nat_lit 0, nat_lit 0, []),
  (nat_lit 48, nat_lit 1, nat_lit 0, nat_lit 0, [nat_lit 0, nat_lit 2, nat_lit 0]),
  (nat_lit 49, nat_lit 15, nat_lit 164, nat_lit 3, [nat_lit 0, nat_lit 10]),
  (nat_lit 52, nat_lit 5, nat_lit 57, nat_lit 0, []),
  (nat_lit 55, nat_lit 1, nat_lit 0, nat_lit 0, [nat_lit 0, nat_lit 0, nat_lit 0]),
  (nat_lit 56, nat_lit 16, nat_lit 0, nat_lit 0, []),
  (nat_lit 57, nat_lit 99, nat_lit 0, nat_lit 0, []),
  (nat_lit 58, nat_lit 99, nat_lit 0, nat_lit 0, []),
  (nat_lit 61, nat_lit 99, nat_lit 0, nat_lit 0, []),
  (nat_lit 62, nat_lit 99, nat_lit 0, nat_lit 0, []),
  (nat_lit 63, nat_lit 99, nat_lit 0, nat_lit 0, []),
  (nat_lit 64, nat_lit 99, nat_lit 0, nat_lit 0, []),
  (nat_lit 67, nat_lit 99, nat_lit 0, nat_lit 0, []),
  (nat_lit 70, nat_lit 99, nat_lit 0, nat_lit 0, []),
  (nat_lit 71, nat_lit 99, nat_lit 0, nat_lit 0, []),
  (nat_lit 72, nat_lit 99, nat_lit 0, nat_lit 0, []),
  (nat_lit 73, nat_lit 99, nat_lit 0, nat_lit 0, []),
  (nat_lit 76, nat_lit 99, nat_lit 0, nat_lit 0, [])]
/-- SpeechKeeperModel.linesOf(int) -/
def zk_147 : List zE := [(nat_lit 0, nat_lit 0, nat_lit 1, nat_lit 0, []),
  (nat_lit 1, nat_lit 1, nat_lit 0, nat_lit 0, [nat_lit 0, nat_lit 3, nat_lit 0]),
  (nat_lit 2, nat_lit 6, nat_lit 12, nat_lit 1, []),
  (nat_lit 5, nat_lit 0, nat_lit 0, nat_lit 4, []),
  (nat_lit 6, nat_lit 8, nat_lit 10, nat_lit 10, []),
  (nat_lit 9, nat_lit 7, nat_lit 21, nat_lit 0, []),
  (nat_lit 12, nat_lit 0, nat_lit 0, nat_lit 4, []),
  (nat_lit 13, nat_lit 8, nat_lit 10, nat_lit 0, []),
  (nat_lit 16, nat_lit 1, nat_lit 0, nat_lit 0, [nat_lit 0, nat_lit 1, nat_lit 0]),
  (nat_lit 17, nat_lit 0, nat_lit 1, nat_lit 0, []),
  (nat_lit 18, nat_lit 4, nat_lit 0, nat_lit 0, []),
  (nat_lit 19, nat_lit 10, nat_lit 0, nat_lit 103, []),
  (nat_lit 20, nat_lit 20, nat_lit 1, nat_lit 0, []),
  (nat_lit 21, nat_lit 16, nat_lit 0, nat_lit 0, [])]
/-- SpeechKeeperModel.meanWords(int) -/
def zk_148 : List zE := [(nat_lit 0, nat_lit 0, nat_lit 0, nat_lit 4, []),
  (nat_lit 1, nat_lit 15, nat_lit 141, nat_lit 1, [nat_lit 0, nat_lit 10]),
  (nat_lit 4, nat_lit 0, nat_lit 0, nat_lit 4, []),
  (nat_lit 5, nat_lit 0, nat_lit 1, nat_lit 0, []),
  (nat_lit 6, nat_lit 15, nat_lit 134, nat_lit 1, [nat_lit 1, nat_lit 10]),
  (nat_lit 9, nat_lit 5, nat_lit 16, nat_lit 1, []),
  (nat_lit 12, nat_lit 1, nat_lit 0, nat_lit 0, [nat_lit 0, nat_lit 1, nat_lit 0]),
  (nat_lit 13, nat_lit 7, nat_lit 17, nat_lit 0, []),
  (nat_lit 16, nat_lit 1, nat_lit 0, nat_lit 0, [nat_lit 0, nat_lit 0, nat_lit 0]),
  (nat_lit 17, nat_lit 15, nat_lit 5, nat_lit 2, [nat_lit 0, nat_lit 10]),
  (nat_lit 20, nat_lit 5, nat_lit 31, nat_lit 1, []),
  (nat_lit 23, nat_lit 0, nat_lit 0, nat_lit 4, []),
  (nat_lit 24, nat_lit 0, nat_lit 1, nat_lit 0, []),
  (nat_lit 25, nat_lit 15, nat_lit 147, nat_lit 2, [nat_lit 0, nat_lit 10]),
  (nat_lit 28, nat_lit 5, nat_lit 33, nat_lit 1, []),
  (nat_lit 31, nat_lit 1, nat_lit 0, nat_lit 0, [nat_lit 7, nat_lit 0, nat_lit 0]),
  (nat_lit 32, nat_lit 16, nat_lit 0, nat_lit 3, []),
  (nat_lit 33, nat_lit 99, nat_lit 0, nat_lit 0, []),
  (nat_lit 34, nat_lit 99, nat_lit 0, nat_lit 0, []),
  (nat_lit 35, nat_lit 99, nat_lit 0, nat_lit 0, []),
  (nat_lit 38, nat_lit 99, nat_lit 0, nat_lit 0, []),
  (nat_lit 39, nat_lit 99, nat_lit 0, nat_lit 0, []),
  (nat_lit 40, nat_lit 99, nat_lit 0, nat_lit 0, []),
  (nat_lit 41, nat_lit 99, nat_lit 0, nat_lit 0, []),
  (nat_lit 44, nat_lit 99, nat_lit 0, nat_lit 0, []),
  (nat_lit 45, nat_lit 99, nat_lit 0, nat_lit 0, []),
  (nat_lit 46, nat_lit 99, nat_lit 0, nat_lit 0, [])]
/-- SpeechKeeperModel.meet(int, int) -/
def zk_149 : List zE := [(nat_lit 0, nat_lit 0, nat_lit 0, nat_lit 4, []),
  (nat_lit 1, nat_lit 1, nat_lit 0, nat_lit 0, [nat_lit 0, nat_lit 0, nat_lit 0]),
  (nat_lit 2, nat_lit 0, nat_lit 1, nat_lit 0, []),
  (nat_lit 3, nat_lit 15, nat_lit 154, nat_lit 3, [nat_lit 0, nat_lit 10]),
  (nat_lit 6, nat_lit 5, nat_lit 34, nat_lit 1, []),
  (nat_lit 9, nat_lit 99, nat_lit 0, nat_lit 0, []),
  (nat_lit 10, nat_lit 99, nat_lit 0, nat_lit 0, []),
  (nat_lit 11, nat_lit 99, nat_lit 0, nat_lit 0, []),
  (nat_lit 12, nat_lit 99, nat_lit 0, nat_lit 0, []),
  (nat_lit 15, nat_lit 99, nat_lit 0, nat_lit 0, []),
  (nat_lit 18, nat_lit 99, nat_lit 0, nat_lit 0, []),
  (nat_lit 19, nat_lit 99, nat_lit 0, nat_lit 0, []),
  (nat_lit 20, nat_lit 99, nat_lit 0, nat_lit 0, []),
  (nat_lit 22, nat_lit 99, nat_lit 0, nat_lit 0, []),
  (nat_lit 23, nat_lit 99, nat_lit 0, nat_lit 0, []),
  (nat_lit 24, nat_lit 99, nat_lit 0, nat_lit 0, []),
  (nat_lit 27, nat_lit 99, nat_lit 0, nat_lit 0, []),
  (nat_lit 30, nat_lit 99, nat_lit 0, nat_lit 0, []),
  (nat_lit 31, nat_lit 99, nat_lit 0, nat_lit 0, []),
  (nat_lit 34, nat_lit 1, nat_lit 0, nat_lit 0, [nat_lit 0, nat_lit 0, nat_lit 0]),
  (nat_lit 35, nat_lit 16, nat_lit 0, nat_lit 6, [])]
/-- SpeechKeeperModel.mostWords() -/
def zk_150 : List zE := [(nat_lit 0, nat_lit 0, nat_lit 0, nat_lit 4, []),
  (nat_lit 1, nat_lit 1, nat_lit 0, nat_lit 0, [nat_lit 0, nat_lit 0, nat_lit 0]),
  (nat_lit 2, nat_lit 9, nat_lit 10, nat_lit 7, [nat_lit 0]),
  (nat_lit 5, nat_lit 0, nat_lit 0, nat_lit 4, []),
  (nat_lit 6, nat_lit 15, nat_lit 141, nat_lit 1, [nat_lit 0, nat_lit 10]),
  (nat_lit 9, nat_lit 0, nat_lit 0, nat_lit 4, []),
  (nat_lit 10, nat_lit 1, nat_lit 0, nat_lit 0, [nat_lit 0, nat_lit 0, nat_lit 0]),
  (nat_lit 11, nat_lit 15, nat_lit 128, nat_lit 2, [nat_lit 0, nat_lit 10]),
  (nat_lit 14, nat_lit 2, nat_lit 1, nat_lit 0, []),
  (nat_lit 15, nat_lit 0, nat_lit 1, nat_lit 0, []),
  (nat_lit 16, nat_lit 1, nat_lit 0, nat_lit 0, [nat_lit 0, nat_lit 20, nat_lit 0]),
  (nat_lit 18, nat_lit 6, nat_lit 23, nat_lit 5, []),
  (nat_lit 21, nat_lit 99, nat_lit 0, nat_lit 0, []),
  (nat_lit 22, nat_lit 99, nat_lit 0, nat_lit 0, []),
  (nat_lit 23, nat_lit 1, nat_lit 0, nat_lit 0, [nat_lit 0, nat_lit 0, nat_lit 0]),
  (nat_lit 24, nat_lit 2, nat_lit 2, nat_lit 0, []),
  (nat_lit 25, nat_lit 0, nat_lit 2, nat_lit 0, []),
  (nat_lit 26, nat_lit 1, nat_lit 0, nat_lit 0, [nat_lit 0, nat_lit 20, nat_lit 0]),
  (nat_lit 28, nat_lit 6, nat_lit 57, nat_lit 4, []),
  (nat_lit 31, nat_lit 0, nat_lit 0, nat_lit 4, []),
  (nat_lit 32, nat_lit 8, nat_lit 10, nat_lit 48, []),
  (nat_lit 35, nat_lit 0, nat_lit 2, nat_lit 0, []),
  (nat_lit 36, nat_lit 0, nat_lit 2, nat_lit 0, []),
  (nat_lit 37, nat_lit 0, nat_lit 1, nat_lit 0, []),
  (nat_lit 38, nat_lit 6, nat_lit 49, nat_lit 1, []),
  (nat_lit 41, nat_lit 0, nat_lit 0, nat_lit 4, []),
  (nat_lit 42, nat_lit 1, nat_lit 0, nat_lit 0, [nat_lit 0, nat_lit 1, nat_lit 0]),
  (nat_lit 43, nat_lit 15, nat_lit 128, nat_lit 2, [nat_lit 0, nat_lit 10]),
  (nat_lit 46, nat_lit 7, nat_lit 50, nat_lit 0, []),
  (nat_lit 49, nat_lit 1, nat_lit 0, nat_lit 0, [nat_lit 0, nat_lit 4294967295, nat_lit 0]),
  (nat_lit 50, nat_lit 11, nat_lit 0, nat_lit 100, []),
  (nat_lit 51, nat_lit 3, nat_lit 2, nat_lit 0, [nat_lit 1]),
  (nat_lit 54, nat_lit 7, nat_lit 25, nat_lit 0, []),
  (nat_lit 57, nat_lit 1, nat_lit 0, nat_lit 0, [nat_lit 0, nat_lit 0, nat_lit 0]),
  (nat_lit 58, nat_lit 2, nat_lit 2, nat_lit 0, []),
  (nat_lit 59, nat_lit 0, nat_lit 2, nat_lit 0, []),
  (nat_lit 60, nat_lit 0, nat_lit 0, nat_lit 4, []),
  (nat_lit 61, nat_lit 8, nat_lit 10, nat_lit 31, []),
  (nat_lit 64, nat_lit 6, nat_lit 88, nat_lit 3, []),
  (nat_lit 67, nat_lit 99, nat_lit 0, nat_lit 0, []),
  (nat_lit 68, nat_lit 99, nat_lit 0, nat_lit 0, []),
  (nat_lit 71, nat_lit 99, nat_lit 0, nat_lit 0, []),
  (nat_lit 72, nat_lit 99, nat_lit 0, nat_lit 0, []),
  (nat_lit 73, nat_lit 99, nat_lit 0, nat_lit 0, []),
  (nat_lit 74, nat_lit 99, nat_lit 0, nat_lit 0, []),
  (nat_lit 77, nat_lit 99, nat_lit 0, nat_lit 0, []),
  (nat_lit 78, nat_lit 99, nat_lit 0, nat_lit 0, []),
  (nat_lit 79, nat_lit 99, nat_lit 0, nat_lit 0, []),
  (nat_lit 82, nat_lit 99, nat_lit 0, nat_lit 0, []),
  (nat_lit 85, nat_lit 99, nat_lit 0, nat_lit 0, []),
  (nat_lit 88, nat_lit 1, nat_lit 0, nat_lit 0, [nat_lit 0, nat_lit 4294967295, nat_lit 0]),
  (nat_lit 89, nat_lit 2, nat_lit 2, nat_lit 0, []),
  (nat_lit 90, nat_lit 1, nat_lit 0, nat_lit 0, [nat_lit 0, nat_lit 0, nat_lit 0]),
  (nat_lit 91, nat_lit 2, nat_lit 3, nat_lit 0, []),
  (nat_lit 92, nat_lit 0, nat_lit 3, nat_lit 0, []),
  (nat_lit 93, nat_lit 1, nat_lit 0, nat_lit 0, [nat_lit 0, nat_lit 20, nat_lit 0]),
  (nat_lit 95, nat_lit 6, nat_lit 115, nat_lit 4, []),
  (nat_lit 98, nat_lit 0, nat_lit 2, nat_lit 0, []),
  (nat_lit 99, nat_lit 0, nat_lit 0, nat_lit 4, []),
  (nat_lit 100, nat_lit 8, nat_lit 10, nat_lit 48, []),
  (nat_lit 103, nat_lit 0, nat_lit 3, nat_lit 0, []),
  (nat_lit 104, nat_lit 10, nat_lit 0, nat_lit 100, []),
  (nat_lit 105, nat_lit 27, nat_lit 0, nat_lit 0, [nat_lit 174, nat_lit 10]),
  (nat_lit 108, nat_lit 2, nat_lit 2, nat_lit 0, []),
  (nat_lit 109, nat_lit 3, nat_lit 3, nat_lit 0, [nat_lit 1]),
  (nat_lit 112, nat_lit 7, nat_lit 92, nat_lit 0, []),
  (nat_lit 115, nat_lit 0, nat_lit 2, nat_lit 0, []),
  (nat_lit 116, nat_lit 16, nat_lit 0, nat_lit 0, [])]
/-- SpeechKeeperModel.move(int, int, int) -/
def zk_151 : List zE := [(nat_lit 0, nat_lit 0, nat_lit 0, nat_lit 4, []),
  (nat_lit 1, nat_lit 0, nat_lit 1, nat_lit 0, []),
  (nat_lit 2, nat_lit 0, nat_lit 2, nat_lit 0, []),
  (nat_lit 3, nat_lit 15, nat_lit 155, nat_lit 3, [nat_lit 0, nat_lit 10]),
  (nat_lit 6, nat_lit 5, nat_lit 32, nat_lit 1, []),
  (nat_lit 9, nat_lit 99, nat_lit 0, nat_lit 0, []),
  (nat_lit 10, nat_lit 99, nat_lit 0, nat_lit 0, []),
  (nat_lit 11, nat_lit 99, nat_lit 0, nat_lit 0, []),
  (nat_lit 12, nat_lit 99, nat_lit 0, nat_lit 0, []),
  (nat_lit 13, nat_lit 99, nat_lit 0, nat_lit 0, []),
  (nat_lit 14, nat_lit 99, nat_lit 0, nat_lit 0, []),
  (nat_lit 15, nat_lit 99, nat_lit 0, nat_lit 0, []),
  (nat_lit 18, nat_lit 99, nat_lit 0, nat_lit 0, []),
  (nat_lit 21, nat_lit 99, nat_lit 0, nat_lit 0, []),
  (nat_lit 22, nat_lit 99, nat_lit 0, nat_lit 0, []),
  (nat_lit 25, nat_lit 99, nat_lit 0, nat_lit 0, []),
  (nat_lit 26, nat_lit 99, nat_lit 0, nat_lit 0, []),
  (nat_lit 29, nat_lit 99, nat_lit 0, nat_lit 0, []),
  (nat_lit 32, nat_lit 1, nat_lit 0, nat_lit 0, [nat_lit 0, nat_lit 0, nat_lit 0]),
  (nat_lit 33, nat_lit 16, nat_lit 0, nat_lit 0, []),
  (nat_lit 34, nat_lit 99, nat_lit 0, nat_lit 0, []),
  (nat_lit 35, nat_lit 99, nat_lit 0, nat_lit 0, []),
  (nat_lit 38, nat_lit 99, nat_lit 0, nat_lit 0, []),
  (nat_lit 39, nat_lit 99, nat_lit 0, nat_lit 0, []),
  (nat_lit 41, nat_lit 99, nat_lit 0, nat_lit 0, []),
  (nat_lit 43, nat_lit 99, nat_lit 0, nat_lit 0, []),
  (nat_lit 45, nat_lit 99, nat_lit 0, nat_lit 0, []),
  (nat_lit 48, nat_lit 99, nat_lit 0, nat_lit 0, []),
  (nat_lit 49, nat_lit 99, nat_lit 0, nat_lit 0, []),
  (nat_lit 52, nat_lit 99, nat_lit 0, nat_lit 0, []),
  (nat_lit 54, nat_lit 99, nat_lit 0, nat_lit 0, []),
  (nat_lit 55, nat_lit 99, nat_lit 0, nat_lit 0, []),
  (nat_lit 58, nat_lit 99, nat_lit 0, nat_lit 0, []),
  (nat_lit 59, nat_lit 99, nat_lit 0, nat_lit 0, []),
  (nat_lit 60, nat_lit 99, nat_lit 0, nat_lit 0, []),
  (nat_lit 61, nat_lit 99, nat_lit 0, nat_lit 0, []),
  (nat_lit 62, nat_lit 99, nat_lit 0, nat_lit 0, []),
  (nat_lit 64, nat_lit 99, nat_lit 0, nat_lit 0, []),
  (nat_lit 67, nat_lit 99, nat_lit 0, nat_lit 0, []),
  (nat_lit 68, nat_lit 99, nat_lit 0, nat_lit 0, []),
  (nat_lit 69, nat_lit 99, nat_lit 0, nat_lit 0, []),
  (nat_lit 72, nat_lit 99, nat_lit 0, nat_lit 0, []),
  (nat_lit 75, nat_lit 99, nat_lit 0, nat_lit 0, []),
  (nat_lit 76, nat_lit 99, nat_lit 0, nat_lit 0, []),
  (nat_lit 77, nat_lit 99, nat_lit 0, nat_lit 0, []),
  (nat_lit 78, nat_lit 99, nat_lit 0, nat_lit 0, []),
  (nat_lit 79, nat_lit 99, nat_lit 0, nat_lit 0, []),
  (nat_lit 80, nat_lit 99, nat_lit 0, nat_lit 0, []),
  (nat_lit 83, nat_lit 99, nat_lit 0, nat_lit 0, []),
  (nat_lit 84, nat_lit 99, nat_lit 0, nat_lit 0, []),
  (nat_lit 85, nat_lit 99, nat_lit 0, nat_lit 0, []),
  (nat_lit 86, nat_lit 99, nat_lit 0, nat_lit 0, []),
  (nat_lit 87, nat_lit 99, nat_lit 0, nat_lit 0, []),
  (nat_lit 88, nat_lit 99, nat_lit 0, nat_lit 0, []),
  (nat_lit 91, nat_lit 99, nat_lit 0, nat_lit 0, []),
  (nat_lit 92, nat_lit 99, nat_lit 0, nat_lit 0, []),
  (nat_lit 94, nat_lit 99, nat_lit 0, nat_lit 0, []),
  (nat_lit 96, nat_lit 99, nat_lit 0, nat_lit 0, []),
  (nat_lit 98, nat_lit 99, nat_lit 0, nat_lit 0, []),
  (nat_lit 101, nat_lit 99, nat_lit 0, nat_lit 0, []),
  (nat_lit 102, nat_lit 99, nat_lit 0, nat_lit 0, []),
  (nat_lit 105, nat_lit 99, nat_lit 0, nat_lit 0, []),
  (nat_lit 106, nat_lit 99, nat_lit 0, nat_lit 0, []),
  (nat_lit 107, nat_lit 99, nat_lit 0, nat_lit 0, []),
  (nat_lit 108, nat_lit 99, nat_lit 0, nat_lit 0, []),
  (nat_lit 109, nat_lit 99, nat_lit 0, nat_lit 0, []),
  (nat_lit 111, nat_lit 99, nat_lit 0, nat_lit 0, []),
  (nat_lit 114, nat_lit 99, nat_lit 0, nat_lit 0, []),
  (nat_lit 115, nat_lit 99, nat_lit 0, nat_lit 0, []),
  (nat_lit 118, nat_lit 99, nat_lit 0, nat_lit 0, []),
  (nat_lit 120, nat_lit 99, nat_lit 0, nat_lit 0, []),
  (nat_lit 121, nat_lit 99, nat_lit 0, nat_lit 0, []),
  (nat_lit 122, nat_lit 99, nat_lit 0, nat_lit 0, []),
  (nat_lit 125, nat_lit 99, nat_lit 0, nat_lit 0, []),
  (nat_lit 128, nat_lit 99, nat_lit 0, nat_lit 0, []),
  (nat_lit 129, nat_lit 99, nat_lit 0, nat_lit 0, []),
  (nat_lit 130, nat_lit 99, nat_lit 0, nat_lit 0, []),
  (nat_lit 133, nat_lit 99, nat_lit 0, nat_lit 0, [])]
/-- SpeechKeeperModel.must(boolean, int) -/
def zk_152 : List zE := [(nat_lit 0, nat_lit 0, nat_lit 1, nat_lit 0, []),
  (nat_lit 1, nat_lit 5, nat_lit 24, nat_lit 1, []),
  (nat_lit 4, nat_lit 0, nat_lit 0, nat_lit 4, []),
  (nat_lit 5, nat_lit 8, nat_lit 10, nat_lit 42, []),
  (nat_lit 8, nat_lit 5, nat_lit 24, nat_lit 1, []),
  (nat_lit 11, nat_lit 0, nat_lit 0, nat_lit 4, []),
  (nat_lit 12, nat_lit 0, nat_lit 2, nat_lit 0, []),
  (nat_lit 13, nat_lit 9, nat_lit 10, nat_lit 42, [nat_lit 0]),
  (nat_lit 16, nat_lit 0, nat_lit 0, nat_lit 4, []),
  (nat_lit 17, nat_lit 0, nat_lit 0, nat_lit 4, []),
  (nat_lit 18, nat_lit 8, nat_lit 10, nat_lit 40, []),
  (nat_lit 21, nat_lit 9, nat_lit 10, nat_lit 43, [nat_lit 0]),
  (nat_lit 24, nat_lit 16, nat_lit 0, nat_lit 5, [])]
/-- SpeechKeeperModel.noBlock(int) -/
def zk_153 : List zE := [(nat_lit 0, nat_lit 0, nat_lit 0, nat_lit 4, []),
  (nat_lit 1, nat_lit 15, nat_lit 141, nat_lit 1, [nat_lit 0, nat_lit 10]),
  (nat_lit 4, nat_lit 0, nat_lit 0, nat_lit 4, []),
  (nat_lit 5, nat_lit 0, nat_lit 1, nat_lit 0, []),
  (nat_lit 6, nat_lit 20, nat_lit 0, nat_lit 0, []),
  (nat_lit 7, nat_lit 1, nat_lit 0, nat_lit 0, [nat_lit 2, nat_lit 0, nat_lit 0]),
  (nat_lit 8, nat_lit 0, nat_lit 0, nat_lit 4, []),
  (nat_lit 9, nat_lit 8, nat_lit 10, nat_lit 31, []),
  (nat_lit 12, nat_lit 1, nat_lit 0, nat_lit 0, [nat_lit 0, nat_lit 1, nat_lit 0]),
  (nat_lit 13, nat_lit 4, nat_lit 1, nat_lit 0, []),
  (nat_lit 14, nat_lit 20, nat_lit 0, nat_lit 0, []),
  (nat_lit 15, nat_lit 15, nat_lit 2, nat_lit 3, [nat_lit 1, nat_lit 10]),
  (nat_lit 18, nat_lit 5, nat_lit 25, nat_lit 1, []),
  (nat_lit 21, nat_lit 1, nat_lit 0, nat_lit 0, [nat_lit 0, nat_lit 1, nat_lit 0]),
  (nat_lit 22, nat_lit 7, nat_lit 26, nat_lit 0, []),
  (nat_lit 25, nat_lit 99, nat_lit 0, nat_lit 0, []),
  (nat_lit 26, nat_lit 15, nat_lit 5, nat_lit 2, [nat_lit 0, nat_lit 10]),
  (nat_lit 29, nat_lit 16, nat_lit 0, nat_lit 6, [])]
/-- SpeechKeeperModel.noChange(int, int) -/
def zk_154 : List zE := [(nat_lit 0, nat_lit 0, nat_lit 0, nat_lit 4, []),
  (nat_lit 1, nat_lit 15, nat_lit 141, nat_lit 1, [nat_lit 0, nat_lit 10]),
  (nat_lit 4, nat_lit 0, nat_lit 0, nat_lit 4, []),
  (nat_lit 5, nat_lit 0, nat_lit 1, nat_lit 0, []),
  (nat_lit 6, nat_lit 15, nat_lit 137, nat_lit 1, [nat_lit 1, nat_lit 10]),
  (nat_lit 9, nat_lit 5, nat_lit 30, nat_lit 0, []),
  (nat_lit 12, nat_lit 0, nat_lit 2, nat_lit 0, []),
  (nat_lit 13, nat_lit 20, nat_lit 0, nat_lit 0, []),
  (nat_lit 14, nat_lit 1, nat_lit 0, nat_lit 0, [nat_lit 2, nat_lit 0, nat_lit 0]),
  (nat_lit 15, nat_lit 0, nat_lit 0, nat_lit 4, []),
  (nat_lit 16, nat_lit 8, nat_lit 10, nat_lit 24, []),
  (nat_lit 19, nat_lit 0, nat_lit 1, nat_lit 0, []),
  (nat_lit 20, nat_lit 10, nat_lit 0, nat_lit 100, []),
  (nat_lit 21, nat_lit 1, nat_lit 0, nat_lit 0, [nat_lit 0, nat_lit 1, nat_lit 0]),
  (nat_lit 22, nat_lit 4, nat_lit 1, nat_lit 0, []),
  (nat_lit 23, nat_lit 20, nat_lit 0, nat_lit 0, []),
  (nat_lit 24, nat_lit 15, nat_lit 2, nat_lit 3, [nat_lit 1, nat_lit 10]),
  (nat_lit 27, nat_lit 5, nat_lit 34, nat_lit 1, []),
  (nat_lit 30, nat_lit 1, nat_lit 0, nat_lit 0, [nat_lit 0, nat_lit 1, nat_lit 0]),
  (nat_lit 31, nat_lit 7, nat_lit 35, nat_lit 0, []),
  (nat_lit 34, nat_lit 99, nat_lit 0, nat_lit 0, []),
  (nat_lit 35, nat_lit 15, nat_lit 5, nat_lit 2, [nat_lit 0, nat_lit 10]),
  (nat_lit 38, nat_lit 16, nat_lit 0, nat_lit 6, [])]
/-- SpeechKeeperModel.noLine(int, int) -/
def zk_155 : List zE := [(nat_lit 0, nat_lit 0, nat_lit 0, nat_lit 4, []),
  (nat_lit 1, nat_lit 0, nat_lit 1, nat_lit 0, []),
  (nat_lit 2, nat_lit 15, nat_lit 137, nat_lit 1, [nat_lit 1, nat_lit 10]),
  (nat_lit 5, nat_lit 5, nat_lit 19, nat_lit 0, []),
  (nat_lit 8, nat_lit 0, nat_lit 0, nat_lit 4, []),
  (nat_lit 9, nat_lit 0, nat_lit 1, nat_lit 0, []),
  (nat_lit 10, nat_lit 1, nat_lit 0, nat_lit 0, [nat_lit 0, nat_lit 1, nat_lit 0]),
  (nat_lit 11, nat_lit 4, nat_lit 0, nat_lit 0, []),
  (nat_lit 12, nat_lit 0, nat_lit 2, nat_lit 0, []),
  (nat_lit 13, nat_lit 15, nat_lit 132, nat_lit 3, [nat_lit 0, nat_lit 10]),
  (nat_lit 16, nat_lit 5, nat_lit 23, nat_lit 1, []),
  (nat_lit 19, nat_lit 1, nat_lit 0, nat_lit 0, [nat_lit 0, nat_lit 1, nat_lit 0]),
  (nat_lit 20, nat_lit 7, nat_lit 24, nat_lit 0, []),
  (nat_lit 23, nat_lit 99, nat_lit 0, nat_lit 0, []),
  (nat_lit 24, nat_lit 15, nat_lit 5, nat_lit 2, [nat_lit 0, nat_lit 10]),
  (nat_lit 27, nat_lit 16, nat_lit 0, nat_lit 6, [])]
/-- SpeechKeeperModel.occurrences(int, int) -/
def zk_156 : List zE := [(nat_lit 0, nat_lit 0, nat_lit 0, nat_lit 4, []),
  (nat_lit 1, nat_lit 15, nat_lit 141, nat_lit 1, [nat_lit 0, nat_lit 10]),
  (nat_lit 4, nat_lit 0, nat_lit 0, nat_lit 4, []),
  (nat_lit 5, nat_lit 0, nat_lit 1, nat_lit 0, []),
  (nat_lit 6, nat_lit 15, nat_lit 134, nat_lit 1, [nat_lit 1, nat_lit 10]),
  (nat_lit 9, nat_lit 5, nat_lit 32, nat_lit 0, []),
  (nat_lit 12, nat_lit 0, nat_lit 2, nat_lit 0, []),
  (nat_lit 13, nat_lit 20, nat_lit 0, nat_lit 0, []),
  (nat_lit 14, nat_lit 1, nat_lit 0, nat_lit 0, [nat_lit 2, nat_lit 1, nat_lit 0]),
  (nat_lit 15, nat_lit 1, nat_lit 0, nat_lit 0, [nat_lit 2, nat_lit 8, nat_lit 0]),
  (nat_lit 18, nat_lit 15, nat_lit 2, nat_lit 3, [nat_lit 1, nat_lit 10]),
  (nat_lit 21, nat_lit 5, nat_lit 32, nat_lit 0, []),
  (nat_lit 24, nat_lit 0, nat_lit 2, nat_lit 0, []),
  (nat_lit 25, nat_lit 0, nat_lit 0, nat_lit 4, []),
  (nat_lit 26, nat_lit 8, nat_lit 10, nat_lit 37, []),
  (nat_lit 29, nat_lit 6, nat_lit 36, nat_lit 5, []),
  (nat_lit 32, nat_lit 1, nat_lit 0, nat_lit 0, [nat_lit 0, nat_lit 1, nat_lit 0]),
  (nat_lit 33, nat_lit 7, nat_lit 37, nat_lit 0, []),
  (nat_lit 36, nat_lit 99, nat_lit 0, nat_lit 0, []),
  (nat_lit 37, nat_lit 15, nat_lit 5, nat_lit 2, [nat_lit 0, nat_lit 10]),
  (nat_lit 40, nat_lit 5, nat_lit 45, nat_lit 0, []),
  (nat_lit 43, nat_lit 1, nat_lit 0, nat_lit 0, [nat_lit 0, nat_lit 0, nat_lit 0]),
  (nat_lit 44, nat_lit 16, nat_lit 0, nat_lit 0, []),
  (nat_lit 45, nat_lit 99, nat_lit 0, nat_lit 0, []),
  (nat_lit 46, nat_lit 99, nat_lit 0, nat_lit 0, []),
  (nat_lit 47, nat_lit 99, nat_lit 0, nat_lit 0, []),
  (nat_lit 50, nat_lit 99, nat_lit 0, nat_lit 0, []),
  (nat_lit 51, nat_lit 99, nat_lit 0, nat_lit 0, []),
  (nat_lit 52, nat_lit 99, nat_lit 0, nat_lit 0, []),
  (nat_lit 55, nat_lit 99, nat_lit 0, nat_lit 0, []),
  (nat_lit 58, nat_lit 99, nat_lit 0, nat_lit 0, []),
  (nat_lit 59, nat_lit 99, nat_lit 0, nat_lit 0, []),
  (nat_lit 60, nat_lit 99, nat_lit 0, nat_lit 0, []),
  (nat_lit 61, nat_lit 99, nat_lit 0, nat_lit 0, []),
  (nat_lit 62, nat_lit 99, nat_lit 0, nat_lit 0, []),
  (nat_lit 63, nat_lit 99, nat_lit 0, nat_lit 0, []),
  (nat_lit 66, nat_lit 99, nat_lit 0, nat_lit 0, []),
  (nat_lit 69, nat_lit 99, nat_lit 0, nat_lit 0, []),
  (nat_lit 72, nat_lit 99, nat_lit 0, nat_lit 0, []),
  (nat_lit 73, nat_lit 99, nat_lit 0, nat_lit 0, [])]
/-- SpeechKeeperModel.ofKind(int) -/
def zk_157 : List zE := [(nat_lit 0, nat_lit 1, nat_lit 0, nat_lit 0, [nat_lit 0, nat_lit 0, nat_lit 0]),
  (nat_lit 1, nat_lit 2, nat_lit 2, nat_lit 0, []),
  (nat_lit 2, nat_lit 1, nat_lit 0, nat_lit 0, [nat_lit 0, nat_lit 0, nat_lit 0]),
  (nat_lit 3, nat_lit 2, nat_lit 3, nat_lit 0, []),
  (nat_lit 4, nat_lit 0, nat_lit 3, nat_lit 0, []),
  (nat_lit 5, nat_lit 0, nat_lit 0, nat_lit 4, []),
  (nat_lit 6, nat_lit 8, nat_lit 10, nat_lit 31, []),
  (nat_lit 9, nat_lit 6, nat_lit 36, nat_lit 3, []),
  (nat_lit 12, nat_lit 99, nat_lit 0, nat_lit 0, []),
  (nat_lit 13, nat_lit 99, nat_lit 0, nat_lit 0, []),
  (nat_lit 14, nat_lit 99, nat_lit 0, nat_lit 0, []),
  (nat_lit 17, nat_lit 99, nat_lit 0, nat_lit 0, []),
  (nat_lit 18, nat_lit 99, nat_lit 0, nat_lit 0, []),
  (nat_lit 19, nat_lit 99, nat_lit 0, nat_lit 0, []),
  (nat_lit 20, nat_lit 99, nat_lit 0, nat_lit 0, []),
  (nat_lit 23, nat_lit 99, nat_lit 0, nat_lit 0, []),
  (nat_lit 24, nat_lit 99, nat_lit 0, nat_lit 0, []),
  (nat_lit 27, nat_lit 99, nat_lit 0, nat_lit 0, []),
  (nat_lit 28, nat_lit 99, nat_lit 0, nat_lit 0, []),
  (nat_lit 29, nat_lit 99, nat_lit 0, nat_lit 0, []),
  (nat_lit 30, nat_lit 99, nat_lit 0, nat_lit 0, []),
  (nat_lit 33, nat_lit 99, nat_lit 0, nat_lit 0, []),
  (nat_lit 36, nat_lit 0, nat_lit 2, nat_lit 0, []),
  (nat_lit 37, nat_lit 16, nat_lit 0, nat_lit 0, [])]
/-- SpeechKeeperModel.openOnes() -/
def zk_158 : List zE := [(nat_lit 0, nat_lit 1, nat_lit 0, nat_lit 0, [nat_lit 0, nat_lit 0, nat_lit 0]),
  (nat_lit 1, nat_lit 2, nat_lit 1, nat_lit 0, []),
  (nat_lit 2, nat_lit 1, nat_lit 0, nat_lit 0, [nat_lit 0, nat_lit 0, nat_lit 0]),
  (nat_lit 3, nat_lit 2, nat_lit 2, nat_lit 0, []),
  (nat_lit 4, nat_lit 0, nat_lit 2, nat_lit 0, []),
  (nat_lit 5, nat_lit 0, nat_lit 0, nat_lit 4, []),
  (nat_lit 6, nat_lit 8, nat_lit 10, nat_lit 31, []),
  (nat_lit 9, nat_lit 6, nat_lit 51, nat_lit 3, []),
  (nat_lit 12, nat_lit 99, nat_lit 0, nat_lit 0, []),
  (nat_lit 13, nat_lit 99, nat_lit 0, nat_lit 0, []),
  (nat_lit 14, nat_lit 99, nat_lit 0, nat_lit 0, []),
  (nat_lit 17, nat_lit 99, nat_lit 0, nat_lit 0, []),
  (nat_lit 18, nat_lit 99, nat_lit 0, nat_lit 0, []),
  (nat_lit 19, nat_lit 99, nat_lit 0, nat_lit 0, []),
  (nat_lit 20, nat_lit 99, nat_lit 0, nat_lit 0, []),
  (nat_lit 23, nat_lit 99, nat_lit 0, nat_lit 0, []),
  (nat_lit 24, nat_lit 99, nat_lit 0, nat_lit 0, []),
  (nat_lit 27, nat_lit 99, nat_lit 0, nat_lit 0, []),
  (nat_lit 30, nat_lit 99, nat_lit 0, nat_lit 0, []),
  (nat_lit 31, nat_lit 99, nat_lit 0, nat_lit 0, []),
  (nat_lit 32, nat_lit 99, nat_lit 0, nat_lit 0, []),
  (nat_lit 33, nat_lit 99, nat_lit 0, nat_lit 0, []),
  (nat_lit 34, nat_lit 99, nat_lit 0, nat_lit 0, []),
  (nat_lit 35, nat_lit 99, nat_lit 0, nat_lit 0, []),
  (nat_lit 38, nat_lit 99, nat_lit 0, nat_lit 0, []),
  (nat_lit 39, nat_lit 99, nat_lit 0, nat_lit 0, []),
  (nat_lit 42, nat_lit 99, nat_lit 0, nat_lit 0, []),
  (nat_lit 43, nat_lit 99, nat_lit 0, nat_lit 0, []),
  (nat_lit 44, nat_lit 99, nat_lit 0, nat_lit 0, []),
  (nat_lit 45, nat_lit 99, nat_lit 0, nat_lit 0, []),
  (nat_lit 48, nat_lit 99, nat_lit 0, nat_lit 0, []),
  (nat_lit 51, nat_lit 0, nat_lit 1, nat_lit 0, []),
  (nat_lit 52, nat_lit 16, nat_lit 0, nat_lit 0, [])]
/-- SpeechKeeperModel.parse(int) -/
def zk_159 : List zE := [(nat_lit 0, nat_lit 0, nat_lit 0, nat_lit 4, []),
  (nat_lit 1, nat_lit 0, nat_lit 1, nat_lit 0, []),
  (nat_lit 2, nat_lit 20, nat_lit 0, nat_lit 0, []),
  (nat_lit 3, nat_lit 1, nat_lit 0, nat_lit 0, [nat_lit 2, nat_lit 0, nat_lit 0]),
  (nat_lit 4, nat_lit 0, nat_lit 0, nat_lit 4, []),
  (nat_lit 5, nat_lit 8, nat_lit 10, nat_lit 37, []),
  (nat_lit 8, nat_lit 20, nat_lit 0, nat_lit 0, []),
  (nat_lit 9, nat_lit 15, nat_lit 2, nat_lit 3, [nat_lit 1, nat_lit 10]),
  (nat_lit 12, nat_lit 5, nat_lit 19, nat_lit 1, []),
  (nat_lit 15, nat_lit 1, nat_lit 0, nat_lit 0, [nat_lit 0, nat_lit 1, nat_lit 0]),
  (nat_lit 16, nat_lit 7, nat_lit 20, nat_lit 0, []),
  (nat_lit 19, nat_lit 1, nat_lit 0, nat_lit 0, [nat_lit 0, nat_lit 0, nat_lit 0]),
  (nat_lit 20, nat_lit 15, nat_lit 5, nat_lit 2, [nat_lit 0, nat_lit 10]),
  (nat_lit 23, nat_lit 5, nat_lit 28, nat_lit 0, []),
  (nat_lit 26, nat_lit 1, nat_lit 0, nat_lit 0, [nat_lit 0, nat_lit 0, nat_lit 0]),
  (nat_lit 27, nat_lit 16, nat_lit 0, nat_lit 0, []),
  (nat_lit 28, nat_lit 1, nat_lit 0, nat_lit 0, [nat_lit 0, nat_lit 0, nat_lit 0]),
  (nat_lit 29, nat_lit 2, nat_lit 2, nat_lit 0, []),
  (nat_lit 30, nat_lit 0, nat_lit 2, nat_lit 0, []),
  (nat_lit 31, nat_lit 1, nat_lit 0, nat_lit 0, [nat_lit 0, nat_lit 692, nat_lit 0]),
  (nat_lit 34, nat_lit 6, nat_lit 50, nat_lit 3, []),
  (nat_lit 37, nat_lit 0, nat_lit 0, nat_lit 4, []),
  (nat_lit 38, nat_lit 8, nat_lit 10, nat_lit 2, []),
  (nat_lit 41, nat_lit 0, nat_lit 2, nat_lit 0, []),
  (nat_lit 42, nat_lit 1, nat_lit 0, nat_lit 0, [nat_lit 2, nat_lit 0, nat_lit 0]),
  (nat_lit 43, nat_lit 11, nat_lit 0, nat_lit 103, []),
  (nat_lit 44, nat_lit 3, nat_lit 2, nat_lit 0, [nat_lit 1]),
  (nat_lit 47, nat_lit 7, nat_lit 30, nat_lit 0, []),
  (nat_lit 50, nat_lit 0, nat_lit 0, nat_lit 4, []),
  (nat_lit 51, nat_lit 0, nat_lit 1, nat_lit 0, []),
  (nat_lit 52, nat_lit 9, nat_lit 10, nat_lit 38, [nat_lit 0]),
  (nat_lit 55, nat_lit 0, nat_lit 0, nat_lit 4, []),
  (nat_lit 56, nat_lit 1, nat_lit 0, nat_lit 0, [nat_lit 0, nat_lit 0, nat_lit 0]),
  (nat_lit 57, nat_lit 9, nat_lit 10, nat_lit 39, [nat_lit 0]),
  (nat_lit 60, nat_lit 0, nat_lit 0, nat_lit 4, []),
  (nat_lit 61, nat_lit 1, nat_lit 0, nat_lit 0, [nat_lit 0, nat_lit 0, nat_lit 0]),
  (nat_lit 62, nat_lit 9, nat_lit 10, nat_lit 42, [nat_lit 0]),
  (nat_lit 65, nat_lit 0, nat_lit 0, nat_lit 4, []),
  (nat_lit 66, nat_lit 15, nat_lit 171, nat_lit 1, [nat_lit 0, nat_lit 10]),
  (nat_lit 69, nat_lit 0, nat_lit 0, nat_lit 4, []),
  (nat_lit 70, nat_lit 0, nat_lit 0, nat_lit 4, []),
  (nat_lit 71, nat_lit 8, nat_lit 10, nat_lit 2, []),
  (nat_lit 74, nat_lit 9, nat_lit 10, nat_lit 0, [nat_lit 4]),
  (nat_lit 77, nat_lit 0, nat_lit 0, nat_lit 4, []),
  (nat_lit 78, nat_lit 15, nat_lit 163, nat_lit 1, [nat_lit 0, nat_lit 10]),
  (nat_lit 81, nat_lit 0, nat_lit 0, nat_lit 4, []),
  (nat_lit 82, nat_lit 0, nat_lit 0, nat_lit 4, []),
  (nat_lit 83, nat_lit 8, nat_lit 10, nat_lit 1, []),
  (nat_lit 86, nat_lit 9, nat_lit 10, nat_lit 0, [nat_lit 4]),
  (nat_lit 89, nat_lit 0, nat_lit 0, nat_lit 4, []),
  (nat_lit 90, nat_lit 1, nat_lit 0, nat_lit 0, [nat_lit 0, nat_lit 0, nat_lit 0]),
  (nat_lit 91, nat_lit 9, nat_lit 10, nat_lit 37, [nat_lit 0]),
  (nat_lit 94, nat_lit 0, nat_lit 0, nat_lit 4, []),
  (nat_lit 95, nat_lit 15, nat_lit 131, nat_lit 1, [nat_lit 0, nat_lit 10]),
  (nat_lit 98, nat_lit 5, nat_lit 117, nat_lit 1, []),
  (nat_lit 101, nat_lit 1, nat_lit 0, nat_lit 0, [nat_lit 0, nat_lit 4294967294, nat_lit 0]),
  (nat_lit 103, nat_lit 1, nat_lit 0, nat_lit 0, [nat_lit 0, nat_lit 8, nat_lit 0]),
  (nat_lit 105, nat_lit 0, nat_lit 0, nat_lit 4, []),
  (nat_lit 106, nat_lit 8, nat_lit 10, nat_lit 43, []),
  (nat_lit 109, nat_lit 4, nat_lit 2, nat_lit 0, []),
  (nat_lit 110, nat_lit 0, nat_lit 0, nat_lit 4, []),
  (nat_lit 111, nat_lit 8, nat_lit 10, nat_lit 42, []),
  (nat_lit 114, nat_lit 4, nat_lit 0, nat_lit 0, []),
  (nat_lit 115, nat_lit 4, nat_lit 1, nat_lit 0, []),
  (nat_lit 116, nat_lit 16, nat_lit 0, nat_lit 0, []),
  (nat_lit 117, nat_lit 99, nat_lit 0, nat_lit 0, []),
  (nat_lit 118, nat_lit 99, nat_lit 0, nat_lit 0, []),
  (nat_lit 121, nat_lit 99, nat_lit 0, nat_lit 0, []),
  (nat_lit 122, nat_lit 99, nat_lit 0, nat_lit 0, []),
  (nat_lit 123, nat_lit 99, nat_lit 0, nat_lit 0, []),
  (nat_lit 126, nat_lit 99, nat_lit 0, nat_lit 0, []),
  (nat_lit 127, nat_lit 99, nat_lit 0, nat_lit 0, []),
  (nat_lit 130, nat_lit 99, nat_lit 0, nat_lit 0, []),
  (nat_lit 131, nat_lit 99, nat_lit 0, nat_lit 0, []),
  (nat_lit 132, nat_lit 99, nat_lit 0, nat_lit 0, []),
  (nat_lit 135, nat_lit 99, nat_lit 0, nat_lit 0, []),
  (nat_lit 136, nat_lit 99, nat_lit 0, nat_lit 0, []),
  (nat_lit 139, nat_lit 99, nat_lit 0, nat_lit 0, []),
  (nat_lit 140, nat_lit 99, nat_lit 0, nat_lit 0, []),
  (nat_lit 141, nat_lit 99, nat_lit 0, nat_lit 0, []),
  (nat_lit 142, nat_lit 99, nat_lit 0, nat_lit 0, []),
  (nat_lit 143, nat_lit 99, nat_lit 0, nat_lit 0, []),
  (nat_lit 146, nat_lit 99, nat_lit 0, nat_lit 0, []),
  (nat_lit 147, nat_lit 99, nat_lit 0, nat_lit 0, []),
  (nat_lit 148, nat_lit 99, nat_lit 0, nat_lit 0, []),
  (nat_lit 149, nat_lit 99, nat_lit 0, nat_lit 0, []),
  (nat_lit 150, nat_lit 99, nat_lit 0, nat_lit 0, []),
  (nat_lit 151, nat_lit 99, nat_lit 0, nat_lit 0, []),
  (nat_lit 154, nat_lit 99, nat_lit 0, nat_lit 0, [])]
/-- SpeechKeeperModel.putsFour(int) -/
def zk_160 : List zE := [(nat_lit 0, nat_lit 1, nat_lit 0, nat_lit 0, [nat_lit 0, nat_lit 24, nat_lit 0]),
  (nat_lit 2, nat_lit 2, nat_lit 2, nat_lit 0, []),
  (nat_lit 3, nat_lit 0, nat_lit 2, nat_lit 0, []),
  (nat_lit 4, nat_lit 5, nat_lit 39, nat_lit 2, []),
  (nat_lit 7, nat_lit 0, nat_lit 0, nat_lit 4, []),
  (nat_lit 8, nat_lit 8, nat_lit 10, nat_lit 36, []),
  (nat_lit 11, nat_lit 0, nat_lit 0, nat_lit 4, []),
  (nat_lit 12, nat_lit 8, nat_lit 10, nat_lit 37, []),
  (nat_lit 15, nat_lit 0, nat_lit 1, nat_lit 0, []),
  (nat_lit 16, nat_lit 0, nat_lit 2, nat_lit 0, []),
  (nat_lit 17, nat_lit 4, nat_lit 7, nat_lit 0, []),
  (nat_lit 18, nat_lit 1, nat_lit 0, nat_lit 0, [nat_lit 0, nat_lit 255, nat_lit 0]),
  (nat_lit 21, nat_lit 4, nat_lit 5, nat_lit 0, []),
  (nat_lit 22, nat_lit 11, nat_lit 0, nat_lit 100, []),
  (nat_lit 23, nat_lit 0, nat_lit 0, nat_lit 4, []),
  (nat_lit 24, nat_lit 17, nat_lit 0, nat_lit 0, []),
  (nat_lit 25, nat_lit 8, nat_lit 10, nat_lit 37, []),
  (nat_lit 28, nat_lit 1, nat_lit 0, nat_lit 0, [nat_lit 0, nat_lit 1, nat_lit 0]),
  (nat_lit 29, nat_lit 4, nat_lit 0, nat_lit 0, []),
  (nat_lit 30, nat_lit 9, nat_lit 10, nat_lit 37, [nat_lit 0]),
  (nat_lit 33, nat_lit 3, nat_lit 2, nat_lit 0, [nat_lit 4294967288]),
  (nat_lit 36, nat_lit 7, nat_lit 3, nat_lit 0, []),
  (nat_lit 39, nat_lit 16, nat_lit 0, nat_lit 5, [])]
/-- SpeechKeeperModel.readsLine(int, int) -/
def zk_161 : List zE := [(nat_lit 0, nat_lit 0, nat_lit 0, nat_lit 4, []),
  (nat_lit 1, nat_lit 0, nat_lit 0, nat_lit 4, []),
  (nat_lit 2, nat_lit 8, nat_lit 10, nat_lit 41, []),
  (nat_lit 5, nat_lit 1, nat_lit 0, nat_lit 0, [nat_lit 0, nat_lit 1, nat_lit 0]),
  (nat_lit 6, nat_lit 6, nat_lit 13, nat_lit 1, []),
  (nat_lit 9, nat_lit 99, nat_lit 0, nat_lit 0, []),
  (nat_lit 10, nat_lit 99, nat_lit 0, nat_lit 0, []),
  (nat_lit 13, nat_lit 1, nat_lit 0, nat_lit 0, [nat_lit 0, nat_lit 0, nat_lit 0]),
  (nat_lit 14, nat_lit 1, nat_lit 0, nat_lit 0, [nat_lit 0, nat_lit 1, nat_lit 0]),
  (nat_lit 15, nat_lit 15, nat_lit 152, nat_lit 3, [nat_lit 0, nat_lit 10]),
  (nat_lit 18, nat_lit 1, nat_lit 0, nat_lit 0, [nat_lit 0, nat_lit 0, nat_lit 0]),
  (nat_lit 19, nat_lit 2, nat_lit 3, nat_lit 0, []),
  (nat_lit 20, nat_lit 0, nat_lit 0, nat_lit 4, []),
  (nat_lit 21, nat_lit 15, nat_lit 131, nat_lit 1, [nat_lit 0, nat_lit 10]),
  (nat_lit 24, nat_lit 5, nat_lit 131, nat_lit 0, []),
  (nat_lit 27, nat_lit 99, nat_lit 0, nat_lit 0, []),
  (nat_lit 28, nat_lit 99, nat_lit 0, nat_lit 0, []),
  (nat_lit 31, nat_lit 99, nat_lit 0, nat_lit 0, []),
  (nat_lit 32, nat_lit 99, nat_lit 0, nat_lit 0, []),
  (nat_lit 35, nat_lit 99, nat_lit 0, nat_lit 0, []),
  (nat_lit 36, nat_lit 99, nat_lit 0, nat_lit 0, []),
  (nat_lit 37, nat_lit 99, nat_lit 0, nat_lit 0, []),
  (nat_lit 40, nat_lit 99, nat_lit 0, nat_lit 0, []),
  (nat_lit 41, nat_lit 99, nat_lit 0, nat_lit 0, []),
  (nat_lit 44, nat_lit 99, nat_lit 0, nat_lit 0, []),
  (nat_lit 45, nat_lit 99, nat_lit 0, nat_lit 0, []),
  (nat_lit 47, nat_lit 99, nat_lit 0, nat_lit 0, []),
  (nat_lit 50, nat_lit 99, nat_lit 0, nat_lit 0, []),
  (nat_lit 51, nat_lit 99, nat_lit 0, nat_lit 0, []),
  (nat_lit 54, nat_lit 99, nat_lit 0, nat_lit 0, []),
  (nat_lit 55, nat_lit 99, nat_lit 0, nat_lit 0, []),
  (nat_lit 56, nat_lit 99, nat_lit 0, nat_lit 0, []),
  (nat_lit 59, nat_lit 99, nat_lit 0, nat_lit 0, []),
  (nat_lit 60, nat_lit 99, nat_lit 0, nat_lit 0, []),
  (nat_lit 61, nat_lit 99, nat_lit 0, nat_lit 0, []),
  (nat_lit 63, nat_lit 99, nat_lit 0, nat_lit 0, []),
  (nat_lit 66, nat_lit 99, nat_lit 0, nat_lit 0, []),
  (nat_lit 67, nat_lit 99, nat_lit 0, nat_lit 0, []),
  (nat_lit 70, nat_lit 99, nat_lit 0, nat_lit 0, []),
  (nat_lit 71, nat_lit 99, nat_lit 0, nat_lit 0, []),
  (nat_lit 72, nat_lit 99, nat_lit 0, nat_lit 0, []),
  (nat_lit 75, nat_lit 99, nat_lit 0, nat_lit 0, []),
  (nat_lit 76, nat_lit 99, nat_lit 0, nat_lit 0, []),
  (nat_lit 77, nat_lit 99, nat_lit 0, nat_lit 0, []),
  (nat_lit 79, nat_lit 99, nat_lit 0, nat_lit 0, []),
  (nat_lit 82, nat_lit 99, nat_lit 0, nat_lit 0, []),
  (nat_lit 83, nat_lit 99, nat_lit 0, nat_lit 0, []),
  (nat_lit 86, nat_lit 99, nat_lit 0, nat_lit 0, []),
  (nat_lit 87, nat_lit 99, nat_lit 0, nat_lit 0, []),
  (nat_lit 88, nat_lit 99, nat_lit 0, nat_lit 0, []),
  (nat_lit 91, nat_lit 99, nat_lit 0, nat_lit 0, []),
  (nat_lit 92, nat_lit 99, nat_lit 0, nat_lit 0, []),
  (nat_lit 95, nat_lit 99, nat_lit 0, nat_lit 0, []),
  (nat_lit 98, nat_lit 99, nat_lit 0, nat_lit 0, []),
  (nat_lit 99, nat_lit 99, nat_lit 0, nat_lit 0, []),
  (nat_lit 102, nat_lit 99, nat_lit 0, nat_lit 0, []),
  (nat_lit 103, nat_lit 99, nat_lit 0, nat_lit 0, []),
  (nat_lit 104, nat_lit 99, nat_lit 0, nat_lit 0, []),
  (nat_lit 105, nat_lit 99, nat_lit 0, nat_lit 0, []),
  (nat_lit 108, nat_lit 99, nat_lit 0, nat_lit 0, []),
  (nat_lit 109, nat_lit 99, nat_lit 0, nat_lit 0, []),
  (nat_lit 110, nat_lit 99, nat_lit 0, nat_lit 0, []),
  (nat_lit 113, nat_lit 99, nat_lit 0, nat_lit 0, []),
  (nat_lit 114, nat_lit 99, nat_lit 0, nat_lit 0, []),
  (nat_lit 117, nat_lit 99, nat_lit 0, nat_lit 0, []),
  (nat_lit 120, nat_lit 99, nat_lit 0, nat_lit 0, []),
  (nat_lit 121, nat_lit 99, nat_lit 0, nat_lit 0, []),
  (nat_lit 122, nat_lit 99, nat_lit 0, nat_lit 0, []),
  (nat_lit 125, nat_lit 99, nat_lit 0, nat_lit 0, []),
  (nat_lit 128, nat_lit 99, nat_lit 0, nat_lit 0, []),
  (nat_lit 131, nat_lit 0, nat_lit 0, nat_lit 4, []),
  (nat_lit 132, nat_lit 15, nat_lit 131, nat_lit 1, [nat_lit 0, nat_lit 10]),
  (nat_lit 135, nat_lit 5, nat_lit 150, nat_lit 0, []),
  (nat_lit 138, nat_lit 99, nat_lit 0, nat_lit 0, []),
  (nat_lit 139, nat_lit 99, nat_lit 0, nat_lit 0, []),
  (nat_lit 142, nat_lit 99, nat_lit 0, nat_lit 0, []),
  (nat_lit 143, nat_lit 99, nat_lit 0, nat_lit 0, []),
  (nat_lit 144, nat_lit 99, nat_lit 0, nat_lit 0, []),
  (nat_lit 145, nat_lit 99, nat_lit 0, nat_lit 0, []),
  (nat_lit 146, nat_lit 99, nat_lit 0, nat_lit 0, []),
  (nat_lit 147, nat_lit 99, nat_lit 0, nat_lit 0, []),
  (nat_lit 148, nat_lit 99, nat_lit 0, nat_lit 0, []),
  (nat_lit 149, nat_lit 99, nat_lit 0, nat_lit 0, []),
  (nat_lit 150, nat_lit 16, nat_lit 0, nat_lit 5, [])]
/-- SpeechKeeperModel.readsLines(int) -/
def zk_162 : List zE := [(nat_lit 0, nat_lit 0, nat_lit 0, nat_lit 4, []),
  (nat_lit 1, nat_lit 15, nat_lit 129, nat_lit 1, [nat_lit 0, nat_lit 10]),
  (nat_lit 4, nat_lit 0, nat_lit 0, nat_lit 4, []),
  (nat_lit 5, nat_lit 1, nat_lit 0, nat_lit 0, [nat_lit 0, nat_lit 59, nat_lit 0]),
  (nat_lit 7, nat_lit 15, nat_lit 133, nat_lit 2, [nat_lit 0, nat_lit 10]),
  (nat_lit 10, nat_lit 5, nat_lit 45, nat_lit 1, []),
  (nat_lit 13, nat_lit 0, nat_lit 0, nat_lit 4, []),
  (nat_lit 14, nat_lit 0, nat_lit 1, nat_lit 0, []),
  (nat_lit 15, nat_lit 1, nat_lit 0, nat_lit 0, [nat_lit 0, nat_lit 0, nat_lit 0]),
  (nat_lit 16, nat_lit 15, nat_lit 161, nat_lit 3, [nat_lit 0, nat_lit 10]),
  (nat_lit 19, nat_lit 0, nat_lit 0, nat_lit 4, []),
  (nat_lit 20, nat_lit 1, nat_lit 0, nat_lit 0, [nat_lit 0, nat_lit 47, nat_lit 0]),
  (nat_lit 22, nat_lit 15, nat_lit 133, nat_lit 2, [nat_lit 0, nat_lit 10]),
  (nat_lit 25, nat_lit 5, nat_lit 45, nat_lit 0, []),
  (nat_lit 28, nat_lit 99, nat_lit 0, nat_lit 0, []),
  (nat_lit 29, nat_lit 99, nat_lit 0, nat_lit 0, []),
  (nat_lit 32, nat_lit 99, nat_lit 0, nat_lit 0, []),
  (nat_lit 33, nat_lit 99, nat_lit 0, nat_lit 0, []),
  (nat_lit 34, nat_lit 99, nat_lit 0, nat_lit 0, []),
  (nat_lit 35, nat_lit 99, nat_lit 0, nat_lit 0, []),
  (nat_lit 36, nat_lit 99, nat_lit 0, nat_lit 0, []),
  (nat_lit 39, nat_lit 99, nat_lit 0, nat_lit 0, []),
  (nat_lit 42, nat_lit 99, nat_lit 0, nat_lit 0, []),
  (nat_lit 45, nat_lit 0, nat_lit 0, nat_lit 4, []),
  (nat_lit 46, nat_lit 0, nat_lit 0, nat_lit 4, []),
  (nat_lit 47, nat_lit 1, nat_lit 0, nat_lit 0, [nat_lit 0, nat_lit 59, nat_lit 0]),
  (nat_lit 49, nat_lit 15, nat_lit 133, nat_lit 2, [nat_lit 0, nat_lit 10]),
  (nat_lit 52, nat_lit 1, nat_lit 0, nat_lit 0, [nat_lit 0, nat_lit 1, nat_lit 0]),
  (nat_lit 53, nat_lit 15, nat_lit 152, nat_lit 3, [nat_lit 0, nat_lit 10]),
  (nat_lit 56, nat_lit 0, nat_lit 0, nat_lit 4, []),
  (nat_lit 57, nat_lit 15, nat_lit 129, nat_lit 1, [nat_lit 0, nat_lit 10]),
  (nat_lit 60, nat_lit 16, nat_lit 0, nat_lit 5, [])]
/-- SpeechKeeperModel.readsSetup() -/
def zk_163 : List zE := [(nat_lit 0, nat_lit 0, nat_lit 0, nat_lit 4, []),
  (nat_lit 1, nat_lit 0, nat_lit 0, nat_lit 4, []),
  (nat_lit 2, nat_lit 1, nat_lit 0, nat_lit 0, [nat_lit 9, nat_lit 0, nat_lit 0]),
  (nat_lit 5, nat_lit 15, nat_lit 135, nat_lit 2, [nat_lit 0, nat_lit 10]),
  (nat_lit 8, nat_lit 1, nat_lit 0, nat_lit 0, [nat_lit 0, nat_lit 1, nat_lit 0]),
  (nat_lit 9, nat_lit 15, nat_lit 152, nat_lit 3, [nat_lit 0, nat_lit 10]),
  (nat_lit 12, nat_lit 0, nat_lit 0, nat_lit 4, []),
  (nat_lit 13, nat_lit 1, nat_lit 0, nat_lit 0, [nat_lit 0, nat_lit 0, nat_lit 0]),
  (nat_lit 14, nat_lit 15, nat_lit 162, nat_lit 2, [nat_lit 0, nat_lit 10]),
  (nat_lit 17, nat_lit 0, nat_lit 0, nat_lit 4, []),
  (nat_lit 18, nat_lit 1, nat_lit 0, nat_lit 0, [nat_lit 0, nat_lit 0, nat_lit 0]),
  (nat_lit 19, nat_lit 1, nat_lit 0, nat_lit 0, [nat_lit 0, nat_lit 1, nat_lit 0]),
  (nat_lit 20, nat_lit 15, nat_lit 121, nat_lit 3, [nat_lit 0, nat_lit 10]),
  (nat_lit 23, nat_lit 0, nat_lit 0, nat_lit 4, []),
  (nat_lit 24, nat_lit 1, nat_lit 0, nat_lit 0, [nat_lit 0, nat_lit 0, nat_lit 0]),
  (nat_lit 25, nat_lit 1, nat_lit 0, nat_lit 0, [nat_lit 0, nat_lit 2, nat_lit 0]),
  (nat_lit 26, nat_lit 15, nat_lit 121, nat_lit 3, [nat_lit 0, nat_lit 10]),
  (nat_lit 29, nat_lit 0, nat_lit 0, nat_lit 4, []),
  (nat_lit 30, nat_lit 1, nat_lit 0, nat_lit 0, [nat_lit 9, nat_lit 0, nat_lit 0]),
  (nat_lit 33, nat_lit 15, nat_lit 135, nat_lit 2, [nat_lit 0, nat_lit 10]),
  (nat_lit 36, nat_lit 5, nat_lit 49, nat_lit 0, []),
  (nat_lit 39, nat_lit 99, nat_lit 0, nat_lit 0, []),
  (nat_lit 40, nat_lit 99, nat_lit 0, nat_lit 0, []),
  (nat_lit 41, nat_lit 99, nat_lit 0, nat_lit 0, []),
  (nat_lit 44, nat_lit 99, nat_lit 0, nat_lit 0, []),
  (nat_lit 45, nat_lit 99, nat_lit 0, nat_lit 0, []),
  (nat_lit 46, nat_lit 99, nat_lit 0, nat_lit 0, []),
  (nat_lit 49, nat_lit 0, nat_lit 0, nat_lit 4, []),
  (nat_lit 50, nat_lit 1, nat_lit 0, nat_lit 0, [nat_lit 9, nat_lit 0, nat_lit 0]),
  (nat_lit 53, nat_lit 15, nat_lit 135, nat_lit 2, [nat_lit 0, nat_lit 10]),
  (nat_lit 56, nat_lit 5, nat_lit 69, nat_lit 0, []),
  (nat_lit 59, nat_lit 99, nat_lit 0, nat_lit 0, []),
  (nat_lit 60, nat_lit 99, nat_lit 0, nat_lit 0, []),
  (nat_lit 61, nat_lit 99, nat_lit 0, nat_lit 0, []),
  (nat_lit 64, nat_lit 99, nat_lit 0, nat_lit 0, []),
  (nat_lit 65, nat_lit 99, nat_lit 0, nat_lit 0, []),
  (nat_lit 66, nat_lit 99, nat_lit 0, nat_lit 0, []),
  (nat_lit 69, nat_lit 0, nat_lit 0, nat_lit 4, []),
  (nat_lit 70, nat_lit 0, nat_lit 0, nat_lit 4, []),
  (nat_lit 71, nat_lit 8, nat_lit 10, nat_lit 41, []),
  (nat_lit 74, nat_lit 5, nat_lit 81, nat_lit 1, []),
  (nat_lit 77, nat_lit 1, nat_lit 0, nat_lit 0, [nat_lit 0, nat_lit 1, nat_lit 0]),
  (nat_lit 78, nat_lit 7, nat_lit 82, nat_lit 0, []),
  (nat_lit 81, nat_lit 99, nat_lit 0, nat_lit 0, []),
  (nat_lit 82, nat_lit 1, nat_lit 0, nat_lit 0, [nat_lit 0, nat_lit 1, nat_lit 0]),
  (nat_lit 83, nat_lit 15, nat_lit 152, nat_lit 3, [nat_lit 0, nat_lit 10]),
  (nat_lit 86, nat_lit 16, nat_lit 0, nat_lit 5, [])]
/-- SpeechKeeperModel.refuses(boolean, int) -/
def zk_164 : List zE := [(nat_lit 0, nat_lit 0, nat_lit 1, nat_lit 0, []),
  (nat_lit 1, nat_lit 5, nat_lit 16, nat_lit 0, []),
  (nat_lit 4, nat_lit 0, nat_lit 0, nat_lit 4, []),
  (nat_lit 5, nat_lit 8, nat_lit 10, nat_lit 7, []),
  (nat_lit 8, nat_lit 5, nat_lit 16, nat_lit 1, []),
  (nat_lit 11, nat_lit 0, nat_lit 0, nat_lit 4, []),
  (nat_lit 12, nat_lit 0, nat_lit 2, nat_lit 0, []),
  (nat_lit 13, nat_lit 9, nat_lit 10, nat_lit 7, [nat_lit 0]),
  (nat_lit 16, nat_lit 0, nat_lit 0, nat_lit 4, []),
  (nat_lit 17, nat_lit 8, nat_lit 10, nat_lit 7, []),
  (nat_lit 20, nat_lit 5, nat_lit 27, nat_lit 0, []),
  (nat_lit 23, nat_lit 1, nat_lit 0, nat_lit 0, [nat_lit 0, nat_lit 1, nat_lit 0]),
  (nat_lit 24, nat_lit 7, nat_lit 28, nat_lit 0, []),
  (nat_lit 27, nat_lit 99, nat_lit 0, nat_lit 0, []),
  (nat_lit 28, nat_lit 16, nat_lit 0, nat_lit 6, [])]
/-- SpeechKeeperModel.replace(int, int, int) -/
def zk_165 : List zE := [(nat_lit 0, nat_lit 0, nat_lit 0, nat_lit 4, []),
  (nat_lit 1, nat_lit 0, nat_lit 1, nat_lit 0, []),
  (nat_lit 2, nat_lit 0, nat_lit 2, nat_lit 0, []),
  (nat_lit 3, nat_lit 15, nat_lit 155, nat_lit 3, [nat_lit 0, nat_lit 10]),
  (nat_lit 6, nat_lit 5, nat_lit 22, nat_lit 1, []),
  (nat_lit 9, nat_lit 99, nat_lit 0, nat_lit 0, []),
  (nat_lit 10, nat_lit 99, nat_lit 0, nat_lit 0, []),
  (nat_lit 11, nat_lit 99, nat_lit 0, nat_lit 0, []),
  (nat_lit 12, nat_lit 99, nat_lit 0, nat_lit 0, []),
  (nat_lit 15, nat_lit 99, nat_lit 0, nat_lit 0, []),
  (nat_lit 16, nat_lit 99, nat_lit 0, nat_lit 0, []),
  (nat_lit 19, nat_lit 99, nat_lit 0, nat_lit 0, []),
  (nat_lit 22, nat_lit 1, nat_lit 0, nat_lit 0, [nat_lit 0, nat_lit 0, nat_lit 0]),
  (nat_lit 23, nat_lit 16, nat_lit 0, nat_lit 0, []),
  (nat_lit 24, nat_lit 99, nat_lit 0, nat_lit 0, []),
  (nat_lit 25, nat_lit 99, nat_lit 0, nat_lit 0, []),
  (nat_lit 26, nat_lit 99, nat_lit 0, nat_lit 0, []),
  (nat_lit 29, nat_lit 99, nat_lit 0, nat_lit 0, []),
  (nat_lit 30, nat_lit 99, nat_lit 0, nat_lit 0, []),
  (nat_lit 33, nat_lit 99, nat_lit 0, nat_lit 0, []),
  (nat_lit 34, nat_lit 99, nat_lit 0, nat_lit 0, []),
  (nat_lit 35, nat_lit 99, nat_lit 0, nat_lit 0, []),
  (nat_lit 36, nat_lit 99, nat_lit 0, nat_lit 0, []),
  (nat_lit 37, nat_lit 99, nat_lit 0, nat_lit 0, []),
  (nat_lit 38, nat_lit 99, nat_lit 0, nat_lit 0, []),
  (nat_lit 41, nat_lit 99, nat_lit 0, nat_lit 0, []),
  (nat_lit 43, nat_lit 99, nat_lit 0, nat_lit 0, []),
  (nat_lit 44, nat_lit 99, nat_lit 0, nat_lit 0, []),
  (nat_lit 46, nat_lit 99, nat_lit 0, nat_lit 0, []),
  (nat_lit 48, nat_lit 99, nat_lit 0, nat_lit 0, []),
  (nat_lit 50, nat_lit 99, nat_lit 0, nat_lit 0, []),
  (nat_lit 53, nat_lit 99, nat_lit 0, nat_lit 0, []),
  (nat_lit 54, nat_lit 99, nat_lit 0, nat_lit 0, []),
  (nat_lit 57, nat_lit 99, nat_lit 0, nat_lit 0, []),
  (nat_lit 58, nat_lit 99, nat_lit 0, nat_lit 0, []),
  (nat_lit 59, nat_lit 99, nat_lit 0, nat_lit 0, []),
  (nat_lit 60, nat_lit 99, nat_lit 0, nat_lit 0, []),
  (nat_lit 61, nat_lit 99, nat_lit 0, nat_lit 0, []),
  (nat_lit 63, nat_lit 99, nat_lit 0, nat_lit 0, []),
  (nat_lit 66, nat_lit 99, nat_lit 0, nat_lit 0, []),
  (nat_lit 67, nat_lit 99, nat_lit 0, nat_lit 0, []),
  (nat_lit 68, nat_lit 99, nat_lit 0, nat_lit 0, []),
  (nat_lit 71, nat_lit 99, nat_lit 0, nat_lit 0, []),
  (nat_lit 74, nat_lit 99, nat_lit 0, nat_lit 0, []),
  (nat_lit 75, nat_lit 99, nat_lit 0, nat_lit 0, []),
  (nat_lit 76, nat_lit 99, nat_lit 0, nat_lit 0, []),
  (nat_lit 77, nat_lit 99, nat_lit 0, nat_lit 0, []),
  (nat_lit 78, nat_lit 99, nat_lit 0, nat_lit 0, []),
  (nat_lit 79, nat_lit 99, nat_lit 0, nat_lit 0, []),
  (nat_lit 80, nat_lit 99, nat_lit 0, nat_lit 0, []),
  (nat_lit 83, nat_lit 99, nat_lit 0, nat_lit 0, []),
  (nat_lit 85, nat_lit 99, nat_lit 0, nat_lit 0, [])]
/-- SpeechKeeperModel.report(int) -/
def zk_166 : List zE := [(nat_lit 0, nat_lit 0, nat_lit 0, nat_lit 4, []),
  (nat_lit 1, nat_lit 15, nat_lit 141, nat_lit 1, [nat_lit 0, nat_lit 10]),
  (nat_lit 4, nat_lit 0, nat_lit 0, nat_lit 4, []),
  (nat_lit 5, nat_lit 0, nat_lit 1, nat_lit 0, []),
  (nat_lit 6, nat_lit 15, nat_lit 134, nat_lit 1, [nat_lit 1, nat_lit 10]),
  (nat_lit 9, nat_lit 5, nat_lit 16, nat_lit 1, []),
  (nat_lit 12, nat_lit 1, nat_lit 0, nat_lit 0, [nat_lit 0, nat_lit 1, nat_lit 0]),
  (nat_lit 13, nat_lit 7, nat_lit 17, nat_lit 0, []),
  (nat_lit 16, nat_lit 1, nat_lit 0, nat_lit 0, [nat_lit 0, nat_lit 0, nat_lit 0]),
  (nat_lit 17, nat_lit 15, nat_lit 5, nat_lit 2, [nat_lit 0, nat_lit 10]),
  (nat_lit 20, nat_lit 5, nat_lit 25, nat_lit 0, []),
  (nat_lit 23, nat_lit 1, nat_lit 0, nat_lit 0, [nat_lit 0, nat_lit 0, nat_lit 0]),
  (nat_lit 24, nat_lit 16, nat_lit 0, nat_lit 0, []),
  (nat_lit 25, nat_lit 0, nat_lit 0, nat_lit 4, []),
  (nat_lit 26, nat_lit 1, nat_lit 0, nat_lit 0, [nat_lit 0, nat_lit 0, nat_lit 0]),
  (nat_lit 27, nat_lit 9, nat_lit 10, nat_lit 52, [nat_lit 0]),
  (nat_lit 30, nat_lit 1, nat_lit 0, nat_lit 0, [nat_lit 0, nat_lit 0, nat_lit 0]),
  (nat_lit 31, nat_lit 2, nat_lit 2, nat_lit 0, []),
  (nat_lit 32, nat_lit 0, nat_lit 2, nat_lit 0, []),
  (nat_lit 33, nat_lit 0, nat_lit 0, nat_lit 4, []),
  (nat_lit 34, nat_lit 0, nat_lit 1, nat_lit 0, []),
  (nat_lit 35, nat_lit 15, nat_lit 147, nat_lit 2, [nat_lit 0, nat_lit 10]),
  (nat_lit 38, nat_lit 6, nat_lit 88, nat_lit 3, []),
  (nat_lit 41, nat_lit 99, nat_lit 0, nat_lit 0, []),
  (nat_lit 42, nat_lit 99, nat_lit 0, nat_lit 0, []),
  (nat_lit 43, nat_lit 99, nat_lit 0, nat_lit 0, []),
  (nat_lit 44, nat_lit 99, nat_lit 0, nat_lit 0, []),
  (nat_lit 45, nat_lit 99, nat_lit 0, nat_lit 0, []),
  (nat_lit 46, nat_lit 99, nat_lit 0, nat_lit 0, []),
  (nat_lit 47, nat_lit 99, nat_lit 0, nat_lit 0, []),
  (nat_lit 50, nat_lit 99, nat_lit 0, nat_lit 0, []),
  (nat_lit 53, nat_lit 99, nat_lit 0, nat_lit 0, []),
  (nat_lit 54, nat_lit 99, nat_lit 0, nat_lit 0, []),
  (nat_lit 57, nat_lit 99, nat_lit 0, nat_lit 0, []),
  (nat_lit 58, nat_lit 99, nat_lit 0, nat_lit 0, []),
  (nat_lit 60, nat_lit 99, nat_lit 0, nat_lit 0, []),
  (nat_lit 63, nat_lit 99, nat_lit 0, nat_lit 0, []),
  (nat_lit 64, nat_lit 99, nat_lit 0, nat_lit 0, []),
  (nat_lit 65, nat_lit 99, nat_lit 0, nat_lit 0, []),
  (nat_lit 66, nat_lit 99, nat_lit 0, nat_lit 0, []),
  (nat_lit 67, nat_lit 99, nat_lit 0, nat_lit 0, []),
  (nat_lit 70, nat_lit 99, nat_lit 0, nat_lit 0, []),
  (nat_lit 73, nat_lit 99, nat_lit 0, nat_lit 0, []),
  (nat_lit 76, nat_lit 99, nat_lit 0, nat_lit 0, []),
  (nat_lit 77, nat_lit 99, nat_lit 0, nat_lit 0, []),
  (nat_lit 79, nat_lit 99, nat_lit 0, nat_lit 0, []),
  (nat_lit 82, nat_lit 99, nat_lit 0, nat_lit 0, []),
  (nat_lit 85, nat_lit 99, nat_lit 0, nat_lit 0, []),
  (nat_lit 88, nat_lit 0, nat_lit 0, nat_lit 4, []),
  (nat_lit 89, nat_lit 8, nat_lit 10, nat_lit 52, []),
  (nat_lit 92, nat_lit 16, nat_lit 0, nat_lit 0, [])]
/-- SpeechKeeperModel.reportByte(int) -/
def zk_167 : List zE := [(nat_lit 0, nat_lit 0, nat_lit 0, nat_lit 4, []),
  (nat_lit 1, nat_lit 1, nat_lit 0, nat_lit 0, [nat_lit 0, nat_lit 0, nat_lit 0]),
  (nat_lit 2, nat_lit 9, nat_lit 10, nat_lit 7, [nat_lit 0]),
  (nat_lit 5, nat_lit 0, nat_lit 1, nat_lit 0, []),
  (nat_lit 6, nat_lit 20, nat_lit 0, nat_lit 0, []),
  (nat_lit 7, nat_lit 1, nat_lit 0, nat_lit 0, [nat_lit 2, nat_lit 0, nat_lit 0]),
  (nat_lit 8, nat_lit 0, nat_lit 0, nat_lit 4, []),
  (nat_lit 9, nat_lit 8, nat_lit 10, nat_lit 52, []),
  (nat_lit 12, nat_lit 1, nat_lit 0, nat_lit 0, [nat_lit 0, nat_lit 1, nat_lit 0]),
  (nat_lit 13, nat_lit 4, nat_lit 1, nat_lit 0, []),
  (nat_lit 14, nat_lit 20, nat_lit 0, nat_lit 0, []),
  (nat_lit 15, nat_lit 15, nat_lit 2, nat_lit 3, [nat_lit 1, nat_lit 10]),
  (nat_lit 18, nat_lit 5, nat_lit 30, nat_lit 0, []),
  (nat_lit 21, nat_lit 99, nat_lit 0, nat_lit 0, []),
  (nat_lit 22, nat_lit 99, nat_lit 0, nat_lit 0, []),
  (nat_lit 25, nat_lit 99, nat_lit 0, nat_lit 0, []),
  (nat_lit 26, nat_lit 99, nat_lit 0, nat_lit 0, []),
  (nat_lit 27, nat_lit 99, nat_lit 0, nat_lit 0, []),
  (nat_lit 30, nat_lit 1, nat_lit 0, nat_lit 0, [nat_lit 0, nat_lit 4294967295, nat_lit 0]),
  (nat_lit 31, nat_lit 16, nat_lit 0, nat_lit 0, [])]
/-- SpeechKeeperModel.restoreSnapshot(int) -/
def zk_168 : List zE := [(nat_lit 0, nat_lit 0, nat_lit 0, nat_lit 4, []),
  (nat_lit 1, nat_lit 0, nat_lit 1, nat_lit 0, []),
  (nat_lit 2, nat_lit 20, nat_lit 0, nat_lit 0, []),
  (nat_lit 3, nat_lit 1, nat_lit 0, nat_lit 0, [nat_lit 2, nat_lit 0, nat_lit 0]),
  (nat_lit 4, nat_lit 1, nat_lit 0, nat_lit 0, [nat_lit 2, nat_lit 1, nat_lit 0]),
  (nat_lit 5, nat_lit 15, nat_lit 2, nat_lit 3, [nat_lit 1, nat_lit 10]),
  (nat_lit 8, nat_lit 5, nat_lit 15, nat_lit 1, []),
  (nat_lit 11, nat_lit 1, nat_lit 0, nat_lit 0, [nat_lit 0, nat_lit 1, nat_lit 0]),
  (nat_lit 12, nat_lit 7, nat_lit 16, nat_lit 0, []),
  (nat_lit 15, nat_lit 1, nat_lit 0, nat_lit 0, [nat_lit 0, nat_lit 0, nat_lit 0]),
  (nat_lit 16, nat_lit 15, nat_lit 5, nat_lit 2, [nat_lit 0, nat_lit 10]),
  (nat_lit 19, nat_lit 5, nat_lit 44, nat_lit 1, []),
  (nat_lit 22, nat_lit 0, nat_lit 0, nat_lit 4, []),
  (nat_lit 23, nat_lit 0, nat_lit 0, nat_lit 4, []),
  (nat_lit 24, nat_lit 8, nat_lit 10, nat_lit 5, []),
  (nat_lit 27, nat_lit 0, nat_lit 1, nat_lit 0, []),
  (nat_lit 28, nat_lit 10, nat_lit 0, nat_lit 101, []),
  (nat_lit 29, nat_lit 5, nat_lit 36, nat_lit 1, []),
  (nat_lit 32, nat_lit 1, nat_lit 0, nat_lit 0, [nat_lit 0, nat_lit 1, nat_lit 0]),
  (nat_lit 33, nat_lit 7, nat_lit 37, nat_lit 0, []),
  (nat_lit 36, nat_lit 99, nat_lit 0, nat_lit 0, []),
  (nat_lit 37, nat_lit 1, nat_lit 0, nat_lit 0, [nat_lit 0, nat_lit 2, nat_lit 0]),
  (nat_lit 38, nat_lit 15, nat_lit 164, nat_lit 3, [nat_lit 0, nat_lit 10]),
  (nat_lit 41, nat_lit 5, nat_lit 46, nat_lit 0, []),
  (nat_lit 44, nat_lit 1, nat_lit 0, nat_lit 0, [nat_lit 0, nat_lit 0, nat_lit 0]),
  (nat_lit 45, nat_lit 16, nat_lit 0, nat_lit 0, []),
  (nat_lit 46, nat_lit 99, nat_lit 0, nat_lit 0, []),
  (nat_lit 47, nat_lit 99, nat_lit 0, nat_lit 0, []),
  (nat_lit 50, nat_lit 99, nat_lit 0, nat_lit 0, []),
  (nat_lit 51, nat_lit 99, nat_lit 0, nat_lit 0, []),
  (nat_lit 54, nat_lit 99, nat_lit 0, nat_lit 0, []),
  (nat_lit 55, nat_lit 99, nat_lit 0, nat_lit 0, []),
  (nat_lit 56, nat_lit 99, nat_lit 0, nat_lit 0, []),
  (nat_lit 59, nat_lit 99, nat_lit 0, nat_lit 0, []),
  (nat_lit 60, nat_lit 99, nat_lit 0, nat_lit 0, []),
  (nat_lit 63, nat_lit 99, nat_lit 0, nat_lit 0, []),
  (nat_lit 64, nat_lit 99, nat_lit 0, nat_lit 0, []),
  (nat_lit 65, nat_lit 99, nat_lit 0, nat_lit 0, []),
  (nat_lit 68, nat_lit 99, nat_lit 0, nat_lit 0, []),
  (nat_lit 69, nat_lit 99, nat_lit 0, nat_lit 0, []),
  (nat_lit 72, nat_lit 99, nat_lit 0, nat_lit 0, []),
  (nat_lit 73, nat_lit 99, nat_lit 0, nat_lit 0, []),
  (nat_lit 74, nat_lit 99, nat_lit 0, nat_lit 0, []),
  (nat_lit 75, nat_lit 99, nat_lit 0, nat_lit 0, [])]
/-- SpeechKeeperModel.safeLines(int) -/
def zk_169 : List zE := [(nat_lit 0, nat_lit 0, nat_lit 0, nat_lit 4, []),
  (nat_lit 1, nat_lit 15, nat_lit 141, nat_lit 1, [nat_lit 0, nat_lit 10]),
  (nat_lit 4, nat_lit 0, nat_lit 0, nat_lit 4, []),
  (nat_lit 5, nat_lit 0, nat_lit 1, nat_lit 0, []),
  (nat_lit 6, nat_lit 15, nat_lit 137, nat_lit 1, [nat_lit 1, nat_lit 10]),
  (nat_lit 9, nat_lit 5, nat_lit 16, nat_lit 1, []),
  (nat_lit 12, nat_lit 1, nat_lit 0, nat_lit 0, [nat_lit 0, nat_lit 1, nat_lit 0]),
  (nat_lit 13, nat_lit 7, nat_lit 17, nat_lit 0, []),
  (nat_lit 16, nat_lit 1, nat_lit 0, nat_lit 0, [nat_lit 0, nat_lit 0, nat_lit 0]),
  (nat_lit 17, nat_lit 15, nat_lit 5, nat_lit 2, [nat_lit 0, nat_lit 10]),
  (nat_lit 20, nat_lit 5, nat_lit 25, nat_lit 0, []),
  (nat_lit 23, nat_lit 1, nat_lit 0, nat_lit 0, [nat_lit 0, nat_lit 0, nat_lit 0]),
  (nat_lit 24, nat_lit 16, nat_lit 0, nat_lit 0, []),
  (nat_lit 25, nat_lit 1, nat_lit 0, nat_lit 0, [nat_lit 0, nat_lit 1, nat_lit 0]),
  (nat_lit 26, nat_lit 0, nat_lit 0, nat_lit 4, []),
  (nat_lit 27, nat_lit 1, nat_lit 0, nat_lit 0, [nat_lit 0, nat_lit 0, nat_lit 0]),
  (nat_lit 28, nat_lit 15, nat_lit 147, nat_lit 2, [nat_lit 0, nat_lit 10]),
  (nat_lit 31, nat_lit 4, nat_lit 6, nat_lit 0, []),
  (nat_lit 32, nat_lit 1, nat_lit 0, nat_lit 0, [nat_lit 0, nat_lit 1, nat_lit 0]),
  (nat_lit 33, nat_lit 4, nat_lit 1, nat_lit 0, []),
  (nat_lit 34, nat_lit 2, nat_lit 2, nat_lit 0, []),
  (nat_lit 35, nat_lit 1, nat_lit 0, nat_lit 0, [nat_lit 0, nat_lit 21, nat_lit 0]),
  (nat_lit 37, nat_lit 1, nat_lit 0, nat_lit 0, [nat_lit 0, nat_lit 1, nat_lit 0]),
  (nat_lit 38, nat_lit 0, nat_lit 1, nat_lit 0, []),
  (nat_lit 39, nat_lit 4, nat_lit 1, nat_lit 0, []),
  (nat_lit 40, nat_lit 4, nat_lit 2, nat_lit 0, []),
  (nat_lit 41, nat_lit 2, nat_lit 3, nat_lit 0, []),
  (nat_lit 42, nat_lit 0, nat_lit 3, nat_lit 0, []),
  (nat_lit 43, nat_lit 2, nat_lit 4, nat_lit 0, []),
  (nat_lit 45, nat_lit 0, nat_lit 4, nat_lit 0, []),
  (nat_lit 47, nat_lit 0, nat_lit 3, nat_lit 0, []),
  (nat_lit 48, nat_lit 0, nat_lit 0, nat_lit 4, []),
  (nat_lit 49, nat_lit 8, nat_lit 10, nat_lit 24, []),
  (nat_lit 52, nat_lit 1, nat_lit 0, nat_lit 0, [nat_lit 0, nat_lit 1, nat_lit 0]),
  (nat_lit 53, nat_lit 0, nat_lit 1, nat_lit 0, []),
  (nat_lit 54, nat_lit 4, nat_lit 1, nat_lit 0, []),
  (nat_lit 55, nat_lit 10, nat_lit 0, nat_lit 100, []),
  (nat_lit 56, nat_lit 4, nat_lit 0, nat_lit 0, []),
  (nat_lit 57, nat_lit 6, nat_lit 102, nat_lit 3, []),
  (nat_lit 60, nat_lit 99, nat_lit 0, nat_lit 0, []),
  (nat_lit 61, nat_lit 99, nat_lit 0, nat_lit 0, []),
  (nat_lit 64, nat_lit 99, nat_lit 0, nat_lit 0, []),
  (nat_lit 66, nat_lit 99, nat_lit 0, nat_lit 0, []),
  (nat_lit 67, nat_lit 99, nat_lit 0, nat_lit 0, []),
  (nat_lit 69, nat_lit 99, nat_lit 0, nat_lit 0, []),
  (nat_lit 71, nat_lit 99, nat_lit 0, nat_lit 0, []),
  (nat_lit 72, nat_lit 99, nat_lit 0, nat_lit 0, []),
  (nat_lit 75, nat_lit 99, nat_lit 0, nat_lit 0, []),
  (nat_lit 77, nat_lit 99, nat_lit 0, nat_lit 0, []),
  (nat_lit 78, nat_lit 99, nat_lit 0, nat_lit 0, []),
  (nat_lit 81, nat_lit 99, nat_lit 0, nat_lit 0, []),
  (nat_lit 82, nat_lit 99, nat_lit 0, nat_lit 0, []),
  (nat_lit 83, nat_lit 99, nat_lit 0, nat_lit 0, []),
  (nat_lit 85, nat_lit 99, nat_lit 0, nat_lit 0, []),
  (nat_lit 86, nat_lit 99, nat_lit 0, nat_lit 0, []),
  (nat_lit 87, nat_lit 99, nat_lit 0, nat_lit 0, []),
  (nat_lit 88, nat_lit 99, nat_lit 0, nat_lit 0, []),
  (nat_lit 89, nat_lit 99, nat_lit 0, nat_lit 0, []),
  (nat_lit 90, nat_lit 99, nat_lit 0, nat_lit 0, []),
  (nat_lit 93, nat_lit 99, nat_lit 0, nat_lit 0, []),
  (nat_lit 96, nat_lit 99, nat_lit 0, nat_lit 0, []),
  (nat_lit 99, nat_lit 99, nat_lit 0, nat_lit 0, []),
  (nat_lit 102, nat_lit 0, nat_lit 2, nat_lit 0, []),
  (nat_lit 103, nat_lit 16, nat_lit 0, nat_lit 0, [])]
/-- SpeechKeeperModel.saveSnapshot(int) -/
def zk_170 : List zE := [(nat_lit 0, nat_lit 0, nat_lit 0, nat_lit 4, []),
  (nat_lit 1, nat_lit 0, nat_lit 1, nat_lit 0, []),
  (nat_lit 2, nat_lit 20, nat_lit 0, nat_lit 0, []),
  (nat_lit 3, nat_lit 1, nat_lit 0, nat_lit 0, [nat_lit 2, nat_lit 0, nat_lit 0]),
  (nat_lit 4, nat_lit 1, nat_lit 0, nat_lit 0, [nat_lit 2, nat_lit 1, nat_lit 0]),
  (nat_lit 5, nat_lit 15, nat_lit 2, nat_lit 3, [nat_lit 1, nat_lit 10]),
  (nat_lit 8, nat_lit 5, nat_lit 15, nat_lit 1, []),
  (nat_lit 11, nat_lit 1, nat_lit 0, nat_lit 0, [nat_lit 0, nat_lit 1, nat_lit 0]),
  (nat_lit 12, nat_lit 7, nat_lit 16, nat_lit 0, []),
  (nat_lit 15, nat_lit 1, nat_lit 0, nat_lit 0, [nat_lit 0, nat_lit 0, nat_lit 0]),
  (nat_lit 16, nat_lit 15, nat_lit 5, nat_lit 2, [nat_lit 0, nat_lit 10]),
  (nat_lit 19, nat_lit 5, nat_lit 24, nat_lit 0, []),
  (nat_lit 22, nat_lit 1, nat_lit 0, nat_lit 0, [nat_lit 0, nat_lit 0, nat_lit 0]),
  (nat_lit 23, nat_lit 16, nat_lit 0, nat_lit 6, []),
  (nat_lit 24, nat_lit 0, nat_lit 0, nat_lit 4, []),
  (nat_lit 25, nat_lit 8, nat_lit 10, nat_lit 5, []),
  (nat_lit 28, nat_lit 0, nat_lit 1, nat_lit 0, []),
  (nat_lit 29, nat_lit 10, nat_lit 0, nat_lit 101, []),
  (nat_lit 30, nat_lit 2, nat_lit 2, nat_lit 0, []),
  (nat_lit 31, nat_lit 0, nat_lit 0, nat_lit 4, []),
  (nat_lit 32, nat_lit 8, nat_lit 10, nat_lit 0, []),
  (nat_lit 35, nat_lit 1, nat_lit 0, nat_lit 0, [nat_lit 0, nat_lit 0, nat_lit 0]),
  (nat_lit 36, nat_lit 0, nat_lit 0, nat_lit 4, []),
  (nat_lit 37, nat_lit 8, nat_lit 10, nat_lit 4, []),
  (nat_lit 40, nat_lit 0, nat_lit 1, nat_lit 0, []),
  (nat_lit 41, nat_lit 1, nat_lit 0, nat_lit 0, [nat_lit 0, nat_lit 692, nat_lit 0]),
  (nat_lit 44, nat_lit 4, nat_lit 2, nat_lit 0, []),
  (nat_lit 45, nat_lit 15, nat_lit 3, nat_lit 4, [nat_lit 1, nat_lit 10]),
  (nat_lit 48, nat_lit 0, nat_lit 0, nat_lit 4, []),
  (nat_lit 49, nat_lit 8, nat_lit 10, nat_lit 5, []),
  (nat_lit 52, nat_lit 0, nat_lit 1, nat_lit 0, []),
  (nat_lit 53, nat_lit 1, nat_lit 0, nat_lit 0, [nat_lit 0, nat_lit 1, nat_lit 0]),
  (nat_lit 54, nat_lit 11, nat_lit 0, nat_lit 101, []),
  (nat_lit 55, nat_lit 0, nat_lit 2, nat_lit 0, []),
  (nat_lit 56, nat_lit 16, nat_lit 0, nat_lit 6, [])]
/-- SpeechKeeperModel.scans() -/
def zk_171 : List zE := [(nat_lit 0, nat_lit 0, nat_lit 0, nat_lit 4, []),
  (nat_lit 1, nat_lit 0, nat_lit 0, nat_lit 4, []),
  (nat_lit 2, nat_lit 8, nat_lit 10, nat_lit 39, []),
  (nat_lit 5, nat_lit 15, nat_lit 114, nat_lit 2, [nat_lit 0, nat_lit 10]),
  (nat_lit 8, nat_lit 1, nat_lit 0, nat_lit 0, [nat_lit 0, nat_lit 32, nat_lit 0]),
  (nat_lit 10, nat_lit 6, nat_lit 26, nat_lit 0, []),
  (nat_lit 13, nat_lit 0, nat_lit 0, nat_lit 4, []),
  (nat_lit 14, nat_lit 0, nat_lit 0, nat_lit 4, []),
  (nat_lit 15, nat_lit 8, nat_lit 10, nat_lit 39, []),
  (nat_lit 18, nat_lit 15, nat_lit 114, nat_lit 2, [nat_lit 0, nat_lit 10]),
  (nat_lit 21, nat_lit 1, nat_lit 0, nat_lit 0, [nat_lit 0, nat_lit 10, nat_lit 0]),
  (nat_lit 23, nat_lit 6, nat_lit 39, nat_lit 1, []),
  (nat_lit 26, nat_lit 99, nat_lit 0, nat_lit 0, []),
  (nat_lit 27, nat_lit 99, nat_lit 0, nat_lit 0, []),
  (nat_lit 28, nat_lit 99, nat_lit 0, nat_lit 0, []),
  (nat_lit 31, nat_lit 99, nat_lit 0, nat_lit 0, []),
  (nat_lit 32, nat_lit 99, nat_lit 0, nat_lit 0, []),
  (nat_lit 33, nat_lit 99, nat_lit 0, nat_lit 0, []),
  (nat_lit 36, nat_lit 99, nat_lit 0, nat_lit 0, []),
  (nat_lit 39, nat_lit 0, nat_lit 0, nat_lit 4, []),
  (nat_lit 40, nat_lit 0, nat_lit 0, nat_lit 4, []),
  (nat_lit 41, nat_lit 8, nat_lit 10, nat_lit 39, []),
  (nat_lit 44, nat_lit 9, nat_lit 10, nat_lit 40, [nat_lit 0]),
  (nat_lit 47, nat_lit 0, nat_lit 0, nat_lit 4, []),
  (nat_lit 48, nat_lit 0, nat_lit 0, nat_lit 4, []),
  (nat_lit 49, nat_lit 8, nat_lit 10, nat_lit 39, []),
  (nat_lit 52, nat_lit 15, nat_lit 114, nat_lit 2, [nat_lit 0, nat_lit 10]),
  (nat_lit 55, nat_lit 2, nat_lit 1, nat_lit 0, []),
  (nat_lit 56, nat_lit 0, nat_lit 1, nat_lit 0, []),
  (nat_lit 57, nat_lit 1, nat_lit 0, nat_lit 0, [nat_lit 0, nat_lit 4294967295, nat_lit 0]),
  (nat_lit 58, nat_lit 6, nat_lit 69, nat_lit 1, []),
  (nat_lit 61, nat_lit 0, nat_lit 0, nat_lit 4, []),
  (nat_lit 62, nat_lit 1, nat_lit 0, nat_lit 0, [nat_lit 0, nat_lit 0, nat_lit 0]),
  (nat_lit 63, nat_lit 9, nat_lit 10, nat_lit 41, [nat_lit 0]),
  (nat_lit 66, nat_lit 7, nat_lit 156, nat_lit 0, []),
  (nat_lit 69, nat_lit 99, nat_lit 0, nat_lit 0, []),
  (nat_lit 70, nat_lit 99, nat_lit 0, nat_lit 0, []),
  (nat_lit 71, nat_lit 99, nat_lit 0, nat_lit 0, []),
  (nat_lit 74, nat_lit 99, nat_lit 0, nat_lit 0, []),
  (nat_lit 77, nat_lit 99, nat_lit 0, nat_lit 0, []),
  (nat_lit 80, nat_lit 99, nat_lit 0, nat_lit 0, []),
  (nat_lit 83, nat_lit 99, nat_lit 0, nat_lit 0, []),
  (nat_lit 84, nat_lit 99, nat_lit 0, nat_lit 0, []),
  (nat_lit 85, nat_lit 99, nat_lit 0, nat_lit 0, []),
  (nat_lit 88, nat_lit 99, nat_lit 0, nat_lit 0, []),
  (nat_lit 91, nat_lit 99, nat_lit 0, nat_lit 0, []),
  (nat_lit 92, nat_lit 99, nat_lit 0, nat_lit 0, []),
  (nat_lit 95, nat_lit 99, nat_lit 0, nat_lit 0, []),
  (nat_lit 98, nat_lit 99, nat_lit 0, nat_lit 0, []),
  (nat_lit 101, nat_lit 99, nat_lit 0, nat_lit 0, []),
  (nat_lit 104, nat_lit 99, nat_lit 0, nat_lit 0, []),
  (nat_lit 105, nat_lit 99, nat_lit 0, nat_lit 0, []),
  (nat_lit 106, nat_lit 99, nat_lit 0, nat_lit 0, []),
  (nat_lit 109, nat_lit 99, nat_lit 0, nat_lit 0, []),
  (nat_lit 110, nat_lit 99, nat_lit 0, nat_lit 0, []),
  (nat_lit 111, nat_lit 99, nat_lit 0, nat_lit 0, []),
  (nat_lit 114, nat_lit 99, nat_lit 0, nat_lit 0, []),
  (nat_lit 117, nat_lit 99, nat_lit 0, nat_lit 0, []),
  (nat_lit 118, nat_lit 99, nat_lit 0, nat_lit 0, []),
  (nat_lit 119, nat_lit 99, nat_lit 0, nat_lit 0, []),
  (nat_lit 122, nat_lit 99, nat_lit 0, nat_lit 0, []),
  (nat_lit 125, nat_lit 99, nat_lit 0, nat_lit 0, []),
  (nat_lit 126, nat_lit 99, nat_lit 0, nat_lit 0, []),
  (nat_lit 127, nat_lit 99, nat_lit 0, nat_lit 0, []),
  (nat_lit 130, nat_lit 99, nat_lit 0, nat_lit 0, []),
  (nat_lit 131, nat_lit 99, nat_lit 0, nat_lit 0, []),
  (nat_lit 132, nat_lit 99, nat_lit 0, nat_lit 0, []),
  (nat_lit 135, nat_lit 99, nat_lit 0, nat_lit 0, []),
  (nat_lit 136, nat_lit 99, nat_lit 0, nat_lit 0, []),
  (nat_lit 137, nat_lit 99, nat_lit 0, nat_lit 0, []),
  (nat_lit 139, nat_lit 99, nat_lit 0, nat_lit 0, []),
  (nat_lit 142, nat_lit 99, nat_lit 0, nat_lit 0, []),
  (nat_lit 143, nat_lit 99, nat_lit 0, nat_lit 0, []),
  (nat_lit 145, nat_lit 99, nat_lit 0, nat_lit 0, []),
  (nat_lit 148, nat_lit 99, nat_lit 0, nat_lit 0, []),
  (nat_lit 149, nat_lit 99, nat_lit 0, nat_lit 0, []),
  (nat_lit 152, nat_lit 99, nat_lit 0, nat_lit 0, []),
  (nat_lit 153, nat_lit 99, nat_lit 0, nat_lit 0, []),
  (nat_lit 156, nat_lit 16, nat_lit 0, nat_lit 5, [])]
/-- SpeechKeeperModel.share(int) -/
def zk_172 : List zE := [(nat_lit 0, nat_lit 0, nat_lit 0, nat_lit 4, []),
  (nat_lit 1, nat_lit 15, nat_lit 141, nat_lit 1, [nat_lit 0, nat_lit 10]),
  (nat_lit 4, nat_lit 0, nat_lit 0, nat_lit 4, []),
  (nat_lit 5, nat_lit 0, nat_lit 1, nat_lit 0, []),
  (nat_lit 6, nat_lit 20, nat_lit 0, nat_lit 0, []),
  (nat_lit 7, nat_lit 1, nat_lit 0, nat_lit 0, [nat_lit 2, nat_lit 0, nat_lit 0]),
  (nat_lit 8, nat_lit 1, nat_lit 0, nat_lit 0, [nat_lit 2, nat_lit 3, nat_lit 0]),
  (nat_lit 11, nat_lit 15, nat_lit 2, nat_lit 3, [nat_lit 1, nat_lit 10]),
  (nat_lit 14, nat_lit 5, nat_lit 21, nat_lit 1, []),
  (nat_lit 17, nat_lit 1, nat_lit 0, nat_lit 0, [nat_lit 0, nat_lit 1, nat_lit 0]),
  (nat_lit 18, nat_lit 7, nat_lit 22, nat_lit 0, []),
  (nat_lit 21, nat_lit 1, nat_lit 0, nat_lit 0, [nat_lit 0, nat_lit 0, nat_lit 0]),
  (nat_lit 22, nat_lit 15, nat_lit 5, nat_lit 2, [nat_lit 0, nat_lit 10]),
  (nat_lit 25, nat_lit 5, nat_lit 30, nat_lit 0, []),
  (nat_lit 28, nat_lit 1, nat_lit 0, nat_lit 0, [nat_lit 6, nat_lit 0, nat_lit 0]),
  (nat_lit 29, nat_lit 16, nat_lit 0, nat_lit 2, []),
  (nat_lit 30, nat_lit 1, nat_lit 0, nat_lit 0, [nat_lit 0, nat_lit 0, nat_lit 0]),
  (nat_lit 31, nat_lit 2, nat_lit 2, nat_lit 0, []),
  (nat_lit 32, nat_lit 1, nat_lit 0, nat_lit 0, [nat_lit 0, nat_lit 0, nat_lit 0]),
  (nat_lit 33, nat_lit 2, nat_lit 3, nat_lit 0, []),
  (nat_lit 34, nat_lit 0, nat_lit 3, nat_lit 0, []),
  (nat_lit 35, nat_lit 0, nat_lit 0, nat_lit 4, []),
  (nat_lit 36, nat_lit 8, nat_lit 10, nat_lit 10, []),
  (nat_lit 39, nat_lit 6, nat_lit 88, nat_lit 3, []),
  (nat_lit 42, nat_lit 99, nat_lit 0, nat_lit 0, []),
  (nat_lit 43, nat_lit 99, nat_lit 0, nat_lit 0, []),
  (nat_lit 45, nat_lit 99, nat_lit 0, nat_lit 0, []),
  (nat_lit 47, nat_lit 99, nat_lit 0, nat_lit 0, []),
  (nat_lit 48, nat_lit 99, nat_lit 0, nat_lit 0, []),
  (nat_lit 49, nat_lit 99, nat_lit 0, nat_lit 0, []),
  (nat_lit 50, nat_lit 99, nat_lit 0, nat_lit 0, []),
  (nat_lit 53, nat_lit 99, nat_lit 0, nat_lit 0, []),
  (nat_lit 56, nat_lit 99, nat_lit 0, nat_lit 0, []),
  (nat_lit 57, nat_lit 99, nat_lit 0, nat_lit 0, []),
  (nat_lit 58, nat_lit 99, nat_lit 0, nat_lit 0, []),
  (nat_lit 59, nat_lit 99, nat_lit 0, nat_lit 0, []),
  (nat_lit 60, nat_lit 99, nat_lit 0, nat_lit 0, []),
  (nat_lit 62, nat_lit 99, nat_lit 0, nat_lit 0, []),
  (nat_lit 65, nat_lit 99, nat_lit 0, nat_lit 0, []),
  (nat_lit 66, nat_lit 99, nat_lit 0, nat_lit 0, []),
  (nat_lit 69, nat_lit 99, nat_lit 0, nat_lit 0, []),
  (nat_lit 70, nat_lit 99, nat_lit 0, nat_lit 0, []),
  (nat_lit 73, nat_lit 99, nat_lit 0, nat_lit 0, []),
  (nat_lit 74, nat_lit 99, nat_lit 0, nat_lit 0, []),
  (nat_lit 75, nat_lit 99, nat_lit 0, nat_lit 0, []),
  (nat_lit 76, nat_lit 99, nat_lit 0, nat_lit 0, []),
  (nat_lit 79, nat_lit 99, nat_lit 0, nat_lit 0, []),
  (nat_lit 82, nat_lit 99, nat_lit 0, nat_lit 0, []),
  (nat_lit 85, nat_lit 99, nat_lit 0, nat_lit 0, []),
  (nat_lit 88, nat_lit 0, nat_lit 0, nat_lit 4, []),
  (nat_lit 89, nat_lit 1, nat_lit 0, nat_lit 0, [nat_lit 0, nat_lit 3, nat_lit 0]),
  (nat_lit 90, nat_lit 15, nat_lit 109, nat_lit 2, [nat_lit 0, nat_lit 10]),
  (nat_lit 93, nat_lit 2, nat_lit 3, nat_lit 0, []),
  (nat_lit 94, nat_lit 0, nat_lit 3, nat_lit 0, []),
  (nat_lit 95, nat_lit 5, nat_lit 102, nat_lit 1, []),
  (nat_lit 98, nat_lit 1, nat_lit 0, nat_lit 0, [nat_lit 6, nat_lit 0, nat_lit 0]),
  (nat_lit 99, nat_lit 7, nat_lit 107, nat_lit 0, []),
  (nat_lit 102, nat_lit 99, nat_lit 0, nat_lit 0, []),
  (nat_lit 103, nat_lit 99, nat_lit 0, nat_lit 0, []),
  (nat_lit 104, nat_lit 99, nat_lit 0, nat_lit 0, []),
  (nat_lit 105, nat_lit 99, nat_lit 0, nat_lit 0, []),
  (nat_lit 106, nat_lit 99, nat_lit 0, nat_lit 0, []),
  (nat_lit 107, nat_lit 16, nat_lit 0, nat_lit 2, [])]
/-- SpeechKeeperModel.size(int) -/
def zk_173 : List zE := [(nat_lit 0, nat_lit 0, nat_lit 0, nat_lit 4, []),
  (nat_lit 1, nat_lit 15, nat_lit 141, nat_lit 1, [nat_lit 0, nat_lit 10]),
  (nat_lit 4, nat_lit 0, nat_lit 0, nat_lit 4, []),
  (nat_lit 5, nat_lit 0, nat_lit 1, nat_lit 0, []),
  (nat_lit 6, nat_lit 20, nat_lit 0, nat_lit 0, []),
  (nat_lit 7, nat_lit 1, nat_lit 0, nat_lit 0, [nat_lit 2, nat_lit 0, nat_lit 0]),
  (nat_lit 8, nat_lit 1, nat_lit 0, nat_lit 0, [nat_lit 2, nat_lit 12, nat_lit 0]),
  (nat_lit 11, nat_lit 15, nat_lit 2, nat_lit 3, [nat_lit 1, nat_lit 10]),
  (nat_lit 14, nat_lit 5, nat_lit 21, nat_lit 1, []),
  (nat_lit 17, nat_lit 1, nat_lit 0, nat_lit 0, [nat_lit 0, nat_lit 1, nat_lit 0]),
  (nat_lit 18, nat_lit 7, nat_lit 22, nat_lit 0, []),
  (nat_lit 21, nat_lit 1, nat_lit 0, nat_lit 0, [nat_lit 0, nat_lit 0, nat_lit 0]),
  (nat_lit 22, nat_lit 15, nat_lit 5, nat_lit 2, [nat_lit 0, nat_lit 10]),
  (nat_lit 25, nat_lit 5, nat_lit 32, nat_lit 0, []),
  (nat_lit 28, nat_lit 1, nat_lit 0, nat_lit 0, [nat_lit 0, nat_lit 0, nat_lit 0]),
  (nat_lit 29, nat_lit 7, nat_lit 37, nat_lit 0, []),
  (nat_lit 32, nat_lit 0, nat_lit 0, nat_lit 4, []),
  (nat_lit 33, nat_lit 0, nat_lit 1, nat_lit 0, []),
  (nat_lit 34, nat_lit 15, nat_lit 174, nat_lit 2, [nat_lit 0, nat_lit 10]),
  (nat_lit 37, nat_lit 16, nat_lit 0, nat_lit 0, [])]
/-- SpeechKeeperModel.sizeOf(int) -/
def zk_174 : List zE := [(nat_lit 0, nat_lit 0, nat_lit 1, nat_lit 0, []),
  (nat_lit 1, nat_lit 24, nat_lit 4, nat_lit 101, [nat_lit 52, nat_lit 60, nat_lit 60, nat_lit 69, nat_lit 74, nat_lit 80, nat_lit 85, nat_lit 91, nat_lit 96]),
  (nat_lit 52, nat_lit 0, nat_lit 0, nat_lit 4, []),
  (nat_lit 53, nat_lit 8, nat_lit 10, nat_lit 0, []),
  (nat_lit 56, nat_lit 1, nat_lit 0, nat_lit 0, [nat_lit 0, nat_lit 0, nat_lit 0]),
  (nat_lit 57, nat_lit 10, nat_lit 0, nat_lit 103, []),
  (nat_lit 58, nat_lit 20, nat_lit 1, nat_lit 0, []),
  (nat_lit 59, nat_lit 16, nat_lit 0, nat_lit 0, []),
  (nat_lit 60, nat_lit 0, nat_lit 0, nat_lit 4, []),
  (nat_lit 61, nat_lit 8, nat_lit 10, nat_lit 24, []),
  (nat_lit 64, nat_lit 0, nat_lit 1, nat_lit 0, []),
  (nat_lit 65, nat_lit 1, nat_lit 0, nat_lit 0, [nat_lit 0, nat_lit 5, nat_lit 0]),
  (nat_lit 66, nat_lit 4, nat_lit 1, nat_lit 0, []),
  (nat_lit 67, nat_lit 10, nat_lit 0, nat_lit 100, []),
  (nat_lit 68, nat_lit 16, nat_lit 0, nat_lit 0, []),
  (nat_lit 69, nat_lit 0, nat_lit 0, nat_lit 4, []),
  (nat_lit 70, nat_lit 8, nat_lit 10, nat_lit 31, []),
  (nat_lit 73, nat_lit 16, nat_lit 0, nat_lit 0, []),
  (nat_lit 74, nat_lit 0, nat_lit 0, nat_lit 4, []),
  (nat_lit 75, nat_lit 1, nat_lit 0, nat_lit 0, [nat_lit 0, nat_lit 3, nat_lit 0]),
  (nat_lit 76, nat_lit 15, nat_lit 157, nat_lit 2, [nat_lit 0, nat_lit 10]),
  (nat_lit 79, nat_lit 16, nat_lit 0, nat_lit 0, []),
  (nat_lit 80, nat_lit 0, nat_lit 0, nat_lit 4, []),
  (nat_lit 81, nat_lit 15, nat_lit 158, nat_lit 1, [nat_lit 0, nat_lit 10]),
  (nat_lit 84, nat_lit 16, nat_lit 0, nat_lit 0, []),
  (nat_lit 85, nat_lit 0, nat_lit 0, nat_lit 4, []),
  (nat_lit 86, nat_lit 1, nat_lit 0, nat_lit 0, [nat_lit 0, nat_lit 2, nat_lit 0]),
  (nat_lit 87, nat_lit 15, nat_lit 157, nat_lit 2, [nat_lit 0, nat_lit 10]),
  (nat_lit 90, nat_lit 16, nat_lit 0, nat_lit 0, []),
  (nat_lit 91, nat_lit 0, nat_lit 0, nat_lit 4, []),
  (nat_lit 92, nat_lit 8, nat_lit 10, nat_lit 6, []),
  (nat_lit 95, nat_lit 16, nat_lit 0, nat_lit 0, []),
  (nat_lit 96, nat_lit 0, nat_lit 0, nat_lit 4, []),
  (nat_lit 97, nat_lit 8, nat_lit 10, nat_lit 37, []),
  (nat_lit 100, nat_lit 16, nat_lit 0, nat_lit 0, []),
  (nat_lit 101, nat_lit 0, nat_lit 0, nat_lit 4, []),
  (nat_lit 102, nat_lit 0, nat_lit 1, nat_lit 0, []),
  (nat_lit 103, nat_lit 15, nat_lit 147, nat_lit 2, [nat_lit 0, nat_lit 10]),
  (nat_lit 106, nat_lit 16, nat_lit 0, nat_lit 0, [])]
/-- SpeechKeeperModel.takeBack(int, int) -/
def zk_175 : List zE := [(nat_lit 0, nat_lit 0, nat_lit 0, nat_lit 4, []),
  (nat_lit 1, nat_lit 0, nat_lit 1, nat_lit 0, []),
  (nat_lit 2, nat_lit 0, nat_lit 2, nat_lit 0, []),
  (nat_lit 3, nat_lit 15, nat_lit 154, nat_lit 3, [nat_lit 0, nat_lit 10]),
  (nat_lit 6, nat_lit 5, nat_lit 11, nat_lit 0, []),
  (nat_lit 9, nat_lit 1, nat_lit 0, nat_lit 0, [nat_lit 0, nat_lit 0, nat_lit 0]),
  (nat_lit 10, nat_lit 16, nat_lit 0, nat_lit 0, []),
  (nat_lit 11, nat_lit 99, nat_lit 0, nat_lit 0, []),
  (nat_lit 13, nat_lit 99, nat_lit 0, nat_lit 0, []),
  (nat_lit 14, nat_lit 99, nat_lit 0, nat_lit 0, []),
  (nat_lit 15, nat_lit 99, nat_lit 0, nat_lit 0, []),
  (nat_lit 16, nat_lit 99, nat_lit 0, nat_lit 0, []),
  (nat_lit 17, nat_lit 99, nat_lit 0, nat_lit 0, []),
  (nat_lit 18, nat_lit 99, nat_lit 0, nat_lit 0, []),
  (nat_lit 19, nat_lit 99, nat_lit 0, nat_lit 0, []),
  (nat_lit 22, nat_lit 99, nat_lit 0, nat_lit 0, []),
  (nat_lit 23, nat_lit 99, nat_lit 0, nat_lit 0, []),
  (nat_lit 24, nat_lit 99, nat_lit 0, nat_lit 0, []),
  (nat_lit 25, nat_lit 99, nat_lit 0, nat_lit 0, []),
  (nat_lit 28, nat_lit 99, nat_lit 0, nat_lit 0, []),
  (nat_lit 29, nat_lit 99, nat_lit 0, nat_lit 0, []),
  (nat_lit 30, nat_lit 99, nat_lit 0, nat_lit 0, []),
  (nat_lit 31, nat_lit 99, nat_lit 0, nat_lit 0, []),
  (nat_lit 33, nat_lit 99, nat_lit 0, nat_lit 0, []),
  (nat_lit 34, nat_lit 99, nat_lit 0, nat_lit 0, []),
  (nat_lit 37, nat_lit 99, nat_lit 0, nat_lit 0, []),
  (nat_lit 38, nat_lit 99, nat_lit 0, nat_lit 0, []),
  (nat_lit 39, nat_lit 99, nat_lit 0, nat_lit 0, []),
  (nat_lit 40, nat_lit 99, nat_lit 0, nat_lit 0, []),
  (nat_lit 43, nat_lit 99, nat_lit 0, nat_lit 0, []),
  (nat_lit 44, nat_lit 99, nat_lit 0, nat_lit 0, []),
  (nat_lit 45, nat_lit 99, nat_lit 0, nat_lit 0, []),
  (nat_lit 46, nat_lit 99, nat_lit 0, nat_lit 0, []),
  (nat_lit 48, nat_lit 99, nat_lit 0, nat_lit 0, []),
  (nat_lit 49, nat_lit 99, nat_lit 0, nat_lit 0, []),
  (nat_lit 50, nat_lit 99, nat_lit 0, nat_lit 0, []),
  (nat_lit 51, nat_lit 99, nat_lit 0, nat_lit 0, []),
  (nat_lit 52, nat_lit 99, nat_lit 0, nat_lit 0, []),
  (nat_lit 55, nat_lit 99, nat_lit 0, nat_lit 0, []),
  (nat_lit 57, nat_lit 99, nat_lit 0, nat_lit 0, []),
  (nat_lit 58, nat_lit 99, nat_lit 0, nat_lit 0, []),
  (nat_lit 60, nat_lit 99, nat_lit 0, nat_lit 0, []),
  (nat_lit 61, nat_lit 99, nat_lit 0, nat_lit 0, []),
  (nat_lit 63, nat_lit 99, nat_lit 0, nat_lit 0, []),
  (nat_lit 66, nat_lit 99, nat_lit 0, nat_lit 0, []),
  (nat_lit 67, nat_lit 99, nat_lit 0, nat_lit 0, []),
  (nat_lit 68, nat_lit 99, nat_lit 0, nat_lit 0, []),
  (nat_lit 69, nat_lit 99, nat_lit 0, nat_lit 0, []),
  (nat_lit 72, nat_lit 99, nat_lit 0, nat_lit 0, []),
  (nat_lit 73, nat_lit 99, nat_lit 0, nat_lit 0, []),
  (nat_lit 74, nat_lit 99, nat_lit 0, nat_lit 0, []),
  (nat_lit 76, nat_lit 99, nat_lit 0, nat_lit 0, []),
  (nat_lit 77, nat_lit 99, nat_lit 0, nat_lit 0, []),
  (nat_lit 80, nat_lit 99, nat_lit 0, nat_lit 0, []),
  (nat_lit 81, nat_lit 99, nat_lit 0, nat_lit 0, []),
  (nat_lit 82, nat_lit 99, nat_lit 0, nat_lit 0, []),
  (nat_lit 84, nat_lit 99, nat_lit 0, nat_lit 0, []),
  (nat_lit 85, nat_lit 99, nat_lit 0, nat_lit 0, []),
  (nat_lit 88, nat_lit 99, nat_lit 0, nat_lit 0, []),
  (nat_lit 89, nat_lit 99, nat_lit 0, nat_lit 0, []),
  (nat_lit 91, nat_lit 99, nat_lit 0, nat_lit 0, []),
  (nat_lit 93, nat_lit 99, nat_lit 0, nat_lit 0, []),
  (nat_lit 95, nat_lit 99, nat_lit 0, nat_lit 0, []),
  (nat_lit 98, nat_lit 99, nat_lit 0, nat_lit 0, []),
  (nat_lit 99, nat_lit 99, nat_lit 0, nat_lit 0, []),
  (nat_lit 100, nat_lit 99, nat_lit 0, nat_lit 0, []),
  (nat_lit 101, nat_lit 99, nat_lit 0, nat_lit 0, []),
  (nat_lit 102, nat_lit 99, nat_lit 0, nat_lit 0, []),
  (nat_lit 104, nat_lit 99, nat_lit 0, nat_lit 0, []),
  (nat_lit 107, nat_lit 99, nat_lit 0, nat_lit 0, []),
  (nat_lit 110, nat_lit 99, nat_lit 0, nat_lit 0, []),
  (nat_lit 113, nat_lit 99, nat_lit 0, nat_lit 0, []),
  (nat_lit 114, nat_lit 99, nat_lit 0, nat_lit 0, []),
  (nat_lit 116, nat_lit 99, nat_lit 0, nat_lit 0, []),
  (nat_lit 118, nat_lit 99, nat_lit 0, nat_lit 0, []),
  (nat_lit 120, nat_lit 99, nat_lit 0, nat_lit 0, []),
  (nat_lit 123, nat_lit 99, nat_lit 0, nat_lit 0, []),
  (nat_lit 124, nat_lit 99, nat_lit 0, nat_lit 0, []),
  (nat_lit 125, nat_lit 99, nat_lit 0, nat_lit 0, []),
  (nat_lit 126, nat_lit 99, nat_lit 0, nat_lit 0, []),
  (nat_lit 127, nat_lit 99, nat_lit 0, nat_lit 0, []),
  (nat_lit 129, nat_lit 99, nat_lit 0, nat_lit 0, []),
  (nat_lit 131, nat_lit 99, nat_lit 0, nat_lit 0, []),
  (nat_lit 132, nat_lit 99, nat_lit 0, nat_lit 0, []),
  (nat_lit 135, nat_lit 99, nat_lit 0, nat_lit 0, []),
  (nat_lit 136, nat_lit 99, nat_lit 0, nat_lit 0, []),
  (nat_lit 138, nat_lit 99, nat_lit 0, nat_lit 0, []),
  (nat_lit 140, nat_lit 99, nat_lit 0, nat_lit 0, []),
  (nat_lit 142, nat_lit 99, nat_lit 0, nat_lit 0, []),
  (nat_lit 145, nat_lit 99, nat_lit 0, nat_lit 0, []),
  (nat_lit 146, nat_lit 99, nat_lit 0, nat_lit 0, []),
  (nat_lit 149, nat_lit 99, nat_lit 0, nat_lit 0, []),
  (nat_lit 150, nat_lit 99, nat_lit 0, nat_lit 0, []),
  (nat_lit 151, nat_lit 99, nat_lit 0, nat_lit 0, []),
  (nat_lit 152, nat_lit 99, nat_lit 0, nat_lit 0, []),
  (nat_lit 154, nat_lit 99, nat_lit 0, nat_lit 0, []),
  (nat_lit 156, nat_lit 99, nat_lit 0, nat_lit 0, []),
  (nat_lit 157, nat_lit 99, nat_lit 0, nat_lit 0, []),
  (nat_lit 159, nat_lit 99, nat_lit 0, nat_lit 0, []),
  (nat_lit 162, nat_lit 99, nat_lit 0, nat_lit 0, []),
  (nat_lit 163, nat_lit 99, nat_lit 0, nat_lit 0, []),
  (nat_lit 166, nat_lit 99, nat_lit 0, nat_lit 0, []),
  (nat_lit 167, nat_lit 99, nat_lit 0, nat_lit 0, []),
  (nat_lit 169, nat_lit 99, nat_lit 0, nat_lit 0, []),
  (nat_lit 171, nat_lit 99, nat_lit 0, nat_lit 0, []),
  (nat_lit 172, nat_lit 99, nat_lit 0, nat_lit 0, []),
  (nat_lit 174, nat_lit 99, nat_lit 0, nat_lit 0, []),
  (nat_lit 177, nat_lit 99, nat_lit 0, nat_lit 0, []),
  (nat_lit 178, nat_lit 99, nat_lit 0, nat_lit 0, []),
  (nat_lit 179, nat_lit 99, nat_lit 0, nat_lit 0, []),
  (nat_lit 182, nat_lit 99, nat_lit 0, nat_lit 0, []),
  (nat_lit 185, nat_lit 99, nat_lit 0, nat_lit 0, []),
  (nat_lit 188, nat_lit 99, nat_lit 0, nat_lit 0, []),
  (nat_lit 191, nat_lit 99, nat_lit 0, nat_lit 0, []),
  (nat_lit 192, nat_lit 99, nat_lit 0, nat_lit 0, []),
  (nat_lit 193, nat_lit 99, nat_lit 0, nat_lit 0, []),
  (nat_lit 196, nat_lit 99, nat_lit 0, nat_lit 0, [])]
/-- SpeechKeeperModel.takesLines(int, int) -/
def zk_176 : List zE := [(nat_lit 0, nat_lit 0, nat_lit 0, nat_lit 4, []),
  (nat_lit 1, nat_lit 0, nat_lit 0, nat_lit 4, []),
  (nat_lit 2, nat_lit 0, nat_lit 1, nat_lit 0, []),
  (nat_lit 3, nat_lit 15, nat_lit 147, nat_lit 2, [nat_lit 0, nat_lit 10]),
  (nat_lit 6, nat_lit 9, nat_lit 10, nat_lit 16, [nat_lit 0]),
  (nat_lit 9, nat_lit 0, nat_lit 0, nat_lit 4, []),
  (nat_lit 10, nat_lit 0, nat_lit 0, nat_lit 4, []),
  (nat_lit 11, nat_lit 0, nat_lit 2, nat_lit 0, []),
  (nat_lit 12, nat_lit 15, nat_lit 147, nat_lit 2, [nat_lit 0, nat_lit 10]),
  (nat_lit 15, nat_lit 9, nat_lit 10, nat_lit 17, [nat_lit 0]),
  (nat_lit 18, nat_lit 1, nat_lit 0, nat_lit 0, [nat_lit 0, nat_lit 0, nat_lit 0]),
  (nat_lit 19, nat_lit 2, nat_lit 3, nat_lit 0, []),
  (nat_lit 20, nat_lit 0, nat_lit 3, nat_lit 0, []),
  (nat_lit 21, nat_lit 0, nat_lit 0, nat_lit 4, []),
  (nat_lit 22, nat_lit 8, nat_lit 10, nat_lit 16, []),
  (nat_lit 25, nat_lit 6, nat_lit 47, nat_lit 3, []),
  (nat_lit 28, nat_lit 99, nat_lit 0, nat_lit 0, []),
  (nat_lit 29, nat_lit 99, nat_lit 0, nat_lit 0, []),
  (nat_lit 32, nat_lit 99, nat_lit 0, nat_lit 0, []),
  (nat_lit 33, nat_lit 99, nat_lit 0, nat_lit 0, []),
  (nat_lit 34, nat_lit 99, nat_lit 0, nat_lit 0, []),
  (nat_lit 35, nat_lit 99, nat_lit 0, nat_lit 0, []),
  (nat_lit 36, nat_lit 99, nat_lit 0, nat_lit 0, []),
  (nat_lit 39, nat_lit 99, nat_lit 0, nat_lit 0, []),
  (nat_lit 40, nat_lit 99, nat_lit 0, nat_lit 0, []),
  (nat_lit 41, nat_lit 99, nat_lit 0, nat_lit 0, []),
  (nat_lit 44, nat_lit 99, nat_lit 0, nat_lit 0, []),
  (nat_lit 47, nat_lit 1, nat_lit 0, nat_lit 0, [nat_lit 0, nat_lit 0, nat_lit 0]),
  (nat_lit 48, nat_lit 2, nat_lit 3, nat_lit 0, []),
  (nat_lit 49, nat_lit 0, nat_lit 3, nat_lit 0, []),
  (nat_lit 50, nat_lit 0, nat_lit 0, nat_lit 4, []),
  (nat_lit 51, nat_lit 8, nat_lit 10, nat_lit 17, []),
  (nat_lit 54, nat_lit 6, nat_lit 76, nat_lit 3, []),
  (nat_lit 57, nat_lit 99, nat_lit 0, nat_lit 0, []),
  (nat_lit 58, nat_lit 99, nat_lit 0, nat_lit 0, []),
  (nat_lit 61, nat_lit 99, nat_lit 0, nat_lit 0, []),
  (nat_lit 62, nat_lit 99, nat_lit 0, nat_lit 0, []),
  (nat_lit 63, nat_lit 99, nat_lit 0, nat_lit 0, []),
  (nat_lit 64, nat_lit 99, nat_lit 0, nat_lit 0, []),
  (nat_lit 65, nat_lit 99, nat_lit 0, nat_lit 0, []),
  (nat_lit 68, nat_lit 99, nat_lit 0, nat_lit 0, []),
  (nat_lit 69, nat_lit 99, nat_lit 0, nat_lit 0, []),
  (nat_lit 70, nat_lit 99, nat_lit 0, nat_lit 0, []),
  (nat_lit 73, nat_lit 99, nat_lit 0, nat_lit 0, []),
  (nat_lit 76, nat_lit 16, nat_lit 0, nat_lit 5, [])]
/-- SpeechKeeperModel.thrown() -/
def zk_177 : List zE := [(nat_lit 0, nat_lit 0, nat_lit 0, nat_lit 4, []),
  (nat_lit 1, nat_lit 8, nat_lit 10, nat_lit 7, []),
  (nat_lit 4, nat_lit 16, nat_lit 0, nat_lit 0, [])]
/-- SpeechKeeperModel.undo() -/
def zk_178 : List zE := [(nat_lit 0, nat_lit 0, nat_lit 0, nat_lit 4, []),
  (nat_lit 1, nat_lit 1, nat_lit 0, nat_lit 0, [nat_lit 0, nat_lit 0, nat_lit 0]),
  (nat_lit 2, nat_lit 9, nat_lit 10, nat_lit 7, [nat_lit 0]),
  (nat_lit 5, nat_lit 0, nat_lit 0, nat_lit 4, []),
  (nat_lit 6, nat_lit 8, nat_lit 10, nat_lit 6, []),
  (nat_lit 9, nat_lit 5, nat_lit 14, nat_lit 1, []),
  (nat_lit 12, nat_lit 1, nat_lit 0, nat_lit 0, [nat_lit 0, nat_lit 4294967295, nat_lit 0]),
  (nat_lit 13, nat_lit 16, nat_lit 0, nat_lit 0, []),
  (nat_lit 14, nat_lit 99, nat_lit 0, nat_lit 0, []),
  (nat_lit 15, nat_lit 99, nat_lit 0, nat_lit 0, []),
  (nat_lit 16, nat_lit 99, nat_lit 0, nat_lit 0, []),
  (nat_lit 19, nat_lit 99, nat_lit 0, nat_lit 0, []),
  (nat_lit 20, nat_lit 99, nat_lit 0, nat_lit 0, []),
  (nat_lit 21, nat_lit 99, nat_lit 0, nat_lit 0, []),
  (nat_lit 24, nat_lit 99, nat_lit 0, nat_lit 0, []),
  (nat_lit 25, nat_lit 99, nat_lit 0, nat_lit 0, []),
  (nat_lit 28, nat_lit 99, nat_lit 0, nat_lit 0, []),
  (nat_lit 29, nat_lit 99, nat_lit 0, nat_lit 0, []),
  (nat_lit 32, nat_lit 99, nat_lit 0, nat_lit 0, []),
  (nat_lit 35, nat_lit 99, nat_lit 0, nat_lit 0, []),
  (nat_lit 36, nat_lit 99, nat_lit 0, nat_lit 0, []),
  (nat_lit 37, nat_lit 99, nat_lit 0, nat_lit 0, []),
  (nat_lit 40, nat_lit 99, nat_lit 0, nat_lit 0, []),
  (nat_lit 41, nat_lit 99, nat_lit 0, nat_lit 0, []),
  (nat_lit 44, nat_lit 99, nat_lit 0, nat_lit 0, []),
  (nat_lit 45, nat_lit 99, nat_lit 0, nat_lit 0, []),
  (nat_lit 48, nat_lit 99, nat_lit 0, nat_lit 0, [])]
/-- SpeechKeeperModel.wordsBetween(int, int) -/
def zk_179 : List zE := [(nat_lit 0, nat_lit 1, nat_lit 0, nat_lit 0, [nat_lit 0, nat_lit 0, nat_lit 0]),
  (nat_lit 1, nat_lit 2, nat_lit 3, nat_lit 0, []),
  (nat_lit 2, nat_lit 0, nat_lit 1, nat_lit 0, []),
  (nat_lit 3, nat_lit 2, nat_lit 4, nat_lit 0, []),
  (nat_lit 5, nat_lit 0, nat_lit 4, nat_lit 0, []),
  (nat_lit 7, nat_lit 0, nat_lit 2, nat_lit 0, []),
  (nat_lit 8, nat_lit 6, nat_lit 27, nat_lit 3, []),
  (nat_lit 11, nat_lit 99, nat_lit 0, nat_lit 0, []),
  (nat_lit 12, nat_lit 99, nat_lit 0, nat_lit 0, []),
  (nat_lit 13, nat_lit 99, nat_lit 0, nat_lit 0, []),
  (nat_lit 14, nat_lit 99, nat_lit 0, nat_lit 0, []),
  (nat_lit 16, nat_lit 99, nat_lit 0, nat_lit 0, []),
  (nat_lit 19, nat_lit 99, nat_lit 0, nat_lit 0, []),
  (nat_lit 20, nat_lit 99, nat_lit 0, nat_lit 0, []),
  (nat_lit 21, nat_lit 99, nat_lit 0, nat_lit 0, []),
  (nat_lit 24, nat_lit 99, nat_lit 0, nat_lit 0, []),
  (nat_lit 27, nat_lit 0, nat_lit 3, nat_lit 0, []),
  (nat_lit 28, nat_lit 16, nat_lit 0, nat_lit 0, [])]
/-- SpeechKeeperModel.wouldClash(int, int) -/
def zk_180 : List zE := [(nat_lit 0, nat_lit 0, nat_lit 0, nat_lit 4, []),
  (nat_lit 1, nat_lit 0, nat_lit 1, nat_lit 0, []),
  (nat_lit 2, nat_lit 0, nat_lit 2, nat_lit 0, []),
  (nat_lit 3, nat_lit 15, nat_lit 155, nat_lit 3, [nat_lit 0, nat_lit 10]),
  (nat_lit 6, nat_lit 5, nat_lit 11, nat_lit 0, []),
  (nat_lit 9, nat_lit 1, nat_lit 0, nat_lit 0, [nat_lit 0, nat_lit 0, nat_lit 0]),
  (nat_lit 10, nat_lit 16, nat_lit 0, nat_lit 6, []),
  (nat_lit 11, nat_lit 99, nat_lit 0, nat_lit 0, []),
  (nat_lit 12, nat_lit 99, nat_lit 0, nat_lit 0, []),
  (nat_lit 15, nat_lit 99, nat_lit 0, nat_lit 0, []),
  (nat_lit 16, nat_lit 99, nat_lit 0, nat_lit 0, []),
  (nat_lit 17, nat_lit 99, nat_lit 0, nat_lit 0, []),
  (nat_lit 20, nat_lit 99, nat_lit 0, nat_lit 0, []),
  (nat_lit 21, nat_lit 99, nat_lit 0, nat_lit 0, []),
  (nat_lit 22, nat_lit 99, nat_lit 0, nat_lit 0, []),
  (nat_lit 25, nat_lit 99, nat_lit 0, nat_lit 0, []),
  (nat_lit 26, nat_lit 99, nat_lit 0, nat_lit 0, []),
  (nat_lit 27, nat_lit 99, nat_lit 0, nat_lit 0, []),
  (nat_lit 30, nat_lit 99, nat_lit 0, nat_lit 0, []),
  (nat_lit 31, nat_lit 99, nat_lit 0, nat_lit 0, []),
  (nat_lit 34, nat_lit 99, nat_lit 0, nat_lit 0, []),
  (nat_lit 35, nat_lit 99, nat_lit 0, nat_lit 0, []),
  (nat_lit 36, nat_lit 99, nat_lit 0, nat_lit 0, []),
  (nat_lit 37, nat_lit 99, nat_lit 0, nat_lit 0, []),
  (nat_lit 38, nat_lit 99, nat_lit 0, nat_lit 0, []),
  (nat_lit 39, nat_lit 99, nat_lit 0, nat_lit 0, []),
  (nat_lit 42, nat_lit 99, nat_lit 0, nat_lit 0, []),
  (nat_lit 43, nat_lit 99, nat_lit 0, nat_lit 0, []),
  (nat_lit 46, nat_lit 99, nat_lit 0, nat_lit 0, []),
  (nat_lit 47, nat_lit 99, nat_lit 0, nat_lit 0, []),
  (nat_lit 48, nat_lit 99, nat_lit 0, nat_lit 0, []),
  (nat_lit 51, nat_lit 99, nat_lit 0, nat_lit 0, []),
  (nat_lit 53, nat_lit 99, nat_lit 0, nat_lit 0, []),
  (nat_lit 54, nat_lit 99, nat_lit 0, nat_lit 0, []),
  (nat_lit 57, nat_lit 99, nat_lit 0, nat_lit 0, []),
  (nat_lit 58, nat_lit 99, nat_lit 0, nat_lit 0, []),
  (nat_lit 59, nat_lit 99, nat_lit 0, nat_lit 0, []),
  (nat_lit 62, nat_lit 99, nat_lit 0, nat_lit 0, []),
  (nat_lit 63, nat_lit 99, nat_lit 0, nat_lit 0, []),
  (nat_lit 66, nat_lit 99, nat_lit 0, nat_lit 0, []),
  (nat_lit 68, nat_lit 99, nat_lit 0, nat_lit 0, []),
  (nat_lit 69, nat_lit 99, nat_lit 0, nat_lit 0, []),
  (nat_lit 72, nat_lit 99, nat_lit 0, nat_lit 0, []),
  (nat_lit 73, nat_lit 99, nat_lit 0, nat_lit 0, []),
  (nat_lit 76, nat_lit 99, nat_lit 0, nat_lit 0, []),
  (nat_lit 77, nat_lit 99, nat_lit 0, nat_lit 0, [])]
/-- SpeechKeeperLaw.adopt(SpeechKeeper, int, long[]) -/
def zk_181 : List zE := [(nat_lit 0, nat_lit 0, nat_lit 2, nat_lit 4, []),
  (nat_lit 1, nat_lit 1, nat_lit 0, nat_lit 0, [nat_lit 0, nat_lit 0, nat_lit 0]),
  (nat_lit 2, nat_lit 0, nat_lit 0, nat_lit 4, []),
  (nat_lit 3, nat_lit 0, nat_lit 1, nat_lit 0, []),
  (nat_lit 4, nat_lit 15, nat_lit 58, nat_lit 2, [nat_lit 0, nat_lit 9, nat_lit 1, nat_lit 12]),
  (nat_lit 7, nat_lit 20, nat_lit 0, nat_lit 0, []),
  (nat_lit 8, nat_lit 11, nat_lit 0, nat_lit 103, []),
  (nat_lit 9, nat_lit 7, nat_lit 15, nat_lit 0, []),
  (nat_lit 12, nat_lit 2, nat_lit 3, nat_lit 4, []),
  (nat_lit 13, nat_lit 1, nat_lit 0, nat_lit 0, [nat_lit 0, nat_lit 1, nat_lit 0]),
  (nat_lit 14, nat_lit 16, nat_lit 0, nat_lit 0, []),
  (nat_lit 15, nat_lit 1, nat_lit 0, nat_lit 0, [nat_lit 0, nat_lit 0, nat_lit 0]),
  (nat_lit 16, nat_lit 16, nat_lit 0, nat_lit 0, [])]
/-- SpeechKeeperLaw.author(SpeechKeeper, boolean, int, int, long[]) -/
def zk_182 : List zE := [(nat_lit 0, nat_lit 0, nat_lit 4, nat_lit 4, []),
  (nat_lit 2, nat_lit 1, nat_lit 0, nat_lit 0, [nat_lit 0, nat_lit 0, nat_lit 0]),
  (nat_lit 3, nat_lit 0, nat_lit 0, nat_lit 4, []),
  (nat_lit 4, nat_lit 0, nat_lit 1, nat_lit 0, []),
  (nat_lit 5, nat_lit 0, nat_lit 2, nat_lit 0, []),
  (nat_lit 6, nat_lit 0, nat_lit 3, nat_lit 0, []),
  (nat_lit 7, nat_lit 15, nat_lit 60, nat_lit 4, [nat_lit 0, nat_lit 9, nat_lit 1, nat_lit 15]),
  (nat_lit 10, nat_lit 99, nat_lit 0, nat_lit 0, []),
  (nat_lit 11, nat_lit 99, nat_lit 0, nat_lit 0, []),
  (nat_lit 12, nat_lit 99, nat_lit 0, nat_lit 0, []),
  (nat_lit 15, nat_lit 2, nat_lit 5, nat_lit 4, []),
  (nat_lit 17, nat_lit 1, nat_lit 0, nat_lit 0, [nat_lit 0, nat_lit 1, nat_lit 0]),
  (nat_lit 18, nat_lit 16, nat_lit 0, nat_lit 0, []),
  (nat_lit 19, nat_lit 99, nat_lit 0, nat_lit 0, []),
  (nat_lit 20, nat_lit 99, nat_lit 0, nat_lit 0, [])]
/-- SpeechKeeperLaw.block(SpeechKeeper, int, int, long[]) -/
def zk_183 : List zE := [(nat_lit 0, nat_lit 0, nat_lit 3, nat_lit 4, []),
  (nat_lit 1, nat_lit 1, nat_lit 0, nat_lit 0, [nat_lit 0, nat_lit 0, nat_lit 0]),
  (nat_lit 2, nat_lit 0, nat_lit 0, nat_lit 4, []),
  (nat_lit 3, nat_lit 0, nat_lit 1, nat_lit 0, []),
  (nat_lit 4, nat_lit 0, nat_lit 2, nat_lit 0, []),
  (nat_lit 5, nat_lit 15, nat_lit 61, nat_lit 3, [nat_lit 0, nat_lit 9, nat_lit 1, nat_lit 13, nat_lit 0, nat_lit 17]),
  (nat_lit 8, nat_lit 99, nat_lit 0, nat_lit 0, []),
  (nat_lit 9, nat_lit 99, nat_lit 0, nat_lit 0, []),
  (nat_lit 10, nat_lit 99, nat_lit 0, nat_lit 0, []),
  (nat_lit 13, nat_lit 2, nat_lit 4, nat_lit 4, []),
  (nat_lit 15, nat_lit 1, nat_lit 0, nat_lit 0, [nat_lit 0, nat_lit 1, nat_lit 0]),
  (nat_lit 16, nat_lit 16, nat_lit 0, nat_lit 0, []),
  (nat_lit 17, nat_lit 99, nat_lit 0, nat_lit 0, []),
  (nat_lit 19, nat_lit 99, nat_lit 0, nat_lit 0, []),
  (nat_lit 20, nat_lit 99, nat_lit 0, nat_lit 0, []),
  (nat_lit 21, nat_lit 99, nat_lit 0, nat_lit 0, []),
  (nat_lit 22, nat_lit 99, nat_lit 0, nat_lit 0, [])]
/-- SpeechKeeperLaw.change(SpeechKeeper, int, int, int, long[]) -/
def zk_184 : List zE := [(nat_lit 0, nat_lit 0, nat_lit 4, nat_lit 4, []),
  (nat_lit 2, nat_lit 1, nat_lit 0, nat_lit 0, [nat_lit 0, nat_lit 0, nat_lit 0]),
  (nat_lit 3, nat_lit 0, nat_lit 0, nat_lit 4, []),
  (nat_lit 4, nat_lit 0, nat_lit 1, nat_lit 0, []),
  (nat_lit 5, nat_lit 0, nat_lit 2, nat_lit 0, []),
  (nat_lit 6, nat_lit 0, nat_lit 3, nat_lit 0, []),
  (nat_lit 7, nat_lit 15, nat_lit 62, nat_lit 4, [nat_lit 0, nat_lit 9, nat_lit 1, nat_lit 15, nat_lit 0, nat_lit 19]),
  (nat_lit 10, nat_lit 99, nat_lit 0, nat_lit 0, []),
  (nat_lit 11, nat_lit 99, nat_lit 0, nat_lit 0, []),
  (nat_lit 12, nat_lit 99, nat_lit 0, nat_lit 0, []),
  (nat_lit 15, nat_lit 2, nat_lit 5, nat_lit 4, []),
  (nat_lit 17, nat_lit 1, nat_lit 0, nat_lit 0, [nat_lit 0, nat_lit 1, nat_lit 0]),
  (nat_lit 18, nat_lit 16, nat_lit 0, nat_lit 0, []),
  (nat_lit 19, nat_lit 99, nat_lit 0, nat_lit 0, []),
  (nat_lit 21, nat_lit 99, nat_lit 0, nat_lit 0, []),
  (nat_lit 22, nat_lit 99, nat_lit 0, nat_lit 0, []),
  (nat_lit 23, nat_lit 99, nat_lit 0, nat_lit 0, []),
  (nat_lit 24, nat_lit 99, nat_lit 0, nat_lit 0, [])]
/-- SpeechKeeperLaw.common(SpeechKeeper, int, int, int, int, long[]) -/
def zk_185 : List zE := [(nat_lit 0, nat_lit 0, nat_lit 5, nat_lit 4, []),
  (nat_lit 2, nat_lit 1, nat_lit 0, nat_lit 0, [nat_lit 0, nat_lit 0, nat_lit 0]),
  (nat_lit 3, nat_lit 0, nat_lit 0, nat_lit 4, []),
  (nat_lit 4, nat_lit 0, nat_lit 1, nat_lit 0, []),
  (nat_lit 5, nat_lit 0, nat_lit 2, nat_lit 0, []),
  (nat_lit 6, nat_lit 0, nat_lit 3, nat_lit 0, []),
  (nat_lit 7, nat_lit 0, nat_lit 4, nat_lit 0, []),
  (nat_lit 9, nat_lit 15, nat_lit 64, nat_lit 5, [nat_lit 0, nat_lit 9, nat_lit 0, nat_lit 17, nat_lit 1, nat_lit 21]),
  (nat_lit 12, nat_lit 20, nat_lit 0, nat_lit 0, []),
  (nat_lit 13, nat_lit 11, nat_lit 0, nat_lit 103, []),
  (nat_lit 14, nat_lit 7, nat_lit 25, nat_lit 0, []),
  (nat_lit 17, nat_lit 2, nat_lit 6, nat_lit 4, []),
  (nat_lit 19, nat_lit 1, nat_lit 0, nat_lit 0, [nat_lit 0, nat_lit 1, nat_lit 0]),
  (nat_lit 20, nat_lit 16, nat_lit 0, nat_lit 0, []),
  (nat_lit 21, nat_lit 2, nat_lit 6, nat_lit 4, []),
  (nat_lit 23, nat_lit 1, nat_lit 0, nat_lit 0, [nat_lit 0, nat_lit 2, nat_lit 0]),
  (nat_lit 24, nat_lit 16, nat_lit 0, nat_lit 0, []),
  (nat_lit 25, nat_lit 1, nat_lit 0, nat_lit 0, [nat_lit 0, nat_lit 0, nat_lit 0]),
  (nat_lit 26, nat_lit 16, nat_lit 0, nat_lit 0, [])]
/-- SpeechKeeperLaw.decide(SpeechKeeper, int, int, long[]) -/
def zk_186 : List zE := [(nat_lit 0, nat_lit 0, nat_lit 3, nat_lit 4, []),
  (nat_lit 1, nat_lit 1, nat_lit 0, nat_lit 0, [nat_lit 0, nat_lit 0, nat_lit 0]),
  (nat_lit 2, nat_lit 0, nat_lit 0, nat_lit 4, []),
  (nat_lit 3, nat_lit 0, nat_lit 1, nat_lit 0, []),
  (nat_lit 4, nat_lit 0, nat_lit 2, nat_lit 0, []),
  (nat_lit 5, nat_lit 15, nat_lit 65, nat_lit 3, [nat_lit 0, nat_lit 9, nat_lit 1, nat_lit 13, nat_lit 0, nat_lit 17]),
  (nat_lit 8, nat_lit 99, nat_lit 0, nat_lit 0, []),
  (nat_lit 9, nat_lit 99, nat_lit 0, nat_lit 0, []),
  (nat_lit 10, nat_lit 99, nat_lit 0, nat_lit 0, []),
  (nat_lit 13, nat_lit 2, nat_lit 4, nat_lit 4, []),
  (nat_lit 15, nat_lit 1, nat_lit 0, nat_lit 0, [nat_lit 0, nat_lit 1, nat_lit 0]),
  (nat_lit 16, nat_lit 16, nat_lit 0, nat_lit 0, []),
  (nat_lit 17, nat_lit 99, nat_lit 0, nat_lit 0, []),
  (nat_lit 19, nat_lit 99, nat_lit 0, nat_lit 0, []),
  (nat_lit 20, nat_lit 99, nat_lit 0, nat_lit 0, []),
  (nat_lit 21, nat_lit 99, nat_lit 0, nat_lit 0, []),
  (nat_lit 22, nat_lit 99, nat_lit 0, nat_lit 0, [])]
/-- SpeechKeeperLaw.delete(SpeechKeeper, int, int, long[]) -/
def zk_187 : List zE := [(nat_lit 0, nat_lit 0, nat_lit 3, nat_lit 4, []),
  (nat_lit 1, nat_lit 1, nat_lit 0, nat_lit 0, [nat_lit 0, nat_lit 0, nat_lit 0]),
  (nat_lit 2, nat_lit 0, nat_lit 0, nat_lit 4, []),
  (nat_lit 3, nat_lit 0, nat_lit 1, nat_lit 0, []),
  (nat_lit 4, nat_lit 0, nat_lit 2, nat_lit 0, []),
  (nat_lit 5, nat_lit 15, nat_lit 66, nat_lit 3, [nat_lit 0, nat_lit 9, nat_lit 1, nat_lit 13]),
  (nat_lit 8, nat_lit 99, nat_lit 0, nat_lit 0, []),
  (nat_lit 9, nat_lit 99, nat_lit 0, nat_lit 0, []),
  (nat_lit 10, nat_lit 99, nat_lit 0, nat_lit 0, []),
  (nat_lit 13, nat_lit 2, nat_lit 4, nat_lit 4, []),
  (nat_lit 15, nat_lit 1, nat_lit 0, nat_lit 0, [nat_lit 0, nat_lit 1, nat_lit 0]),
  (nat_lit 16, nat_lit 16, nat_lit 0, nat_lit 0, []),
  (nat_lit 17, nat_lit 99, nat_lit 0, nat_lit 0, []),
  (nat_lit 18, nat_lit 99, nat_lit 0, nat_lit 0, [])]
/-- SpeechKeeperLaw.deleteWord(SpeechKeeper, int, int, int, long[]) -/
def zk_188 : List zE := [(nat_lit 0, nat_lit 0, nat_lit 4, nat_lit 4, []),
  (nat_lit 2, nat_lit 1, nat_lit 0, nat_lit 0, [nat_lit 0, nat_lit 0, nat_lit 0]),
  (nat_lit 3, nat_lit 0, nat_lit 0, nat_lit 4, []),
  (nat_lit 4, nat_lit 0, nat_lit 1, nat_lit 0, []),
  (nat_lit 5, nat_lit 0, nat_lit 2, nat_lit 0, []),
  (nat_lit 6, nat_lit 0, nat_lit 3, nat_lit 0, []),
  (nat_lit 7, nat_lit 15, nat_lit 67, nat_lit 4, [nat_lit 0, nat_lit 9, nat_lit 1, nat_lit 15]),
  (nat_lit 10, nat_lit 99, nat_lit 0, nat_lit 0, []),
  (nat_lit 11, nat_lit 99, nat_lit 0, nat_lit 0, []),
  (nat_lit 12, nat_lit 99, nat_lit 0, nat_lit 0, []),
  (nat_lit 15, nat_lit 2, nat_lit 5, nat_lit 4, []),
  (nat_lit 17, nat_lit 1, nat_lit 0, nat_lit 0, [nat_lit 0, nat_lit 1, nat_lit 0]),
  (nat_lit 18, nat_lit 16, nat_lit 0, nat_lit 0, []),
  (nat_lit 19, nat_lit 99, nat_lit 0, nat_lit 0, []),
  (nat_lit 20, nat_lit 99, nat_lit 0, nat_lit 0, [])]
/-- SpeechKeeperLaw.discard(SpeechKeeper, int, long[]) -/
def zk_189 : List zE := [(nat_lit 0, nat_lit 0, nat_lit 2, nat_lit 4, []),
  (nat_lit 1, nat_lit 1, nat_lit 0, nat_lit 0, [nat_lit 0, nat_lit 0, nat_lit 0]),
  (nat_lit 2, nat_lit 0, nat_lit 0, nat_lit 4, []),
  (nat_lit 3, nat_lit 0, nat_lit 1, nat_lit 0, []),
  (nat_lit 4, nat_lit 15, nat_lit 68, nat_lit 2, [nat_lit 0, nat_lit 9, nat_lit 1, nat_lit 12]),
  (nat_lit 7, nat_lit 20, nat_lit 0, nat_lit 0, []),
  (nat_lit 8, nat_lit 11, nat_lit 0, nat_lit 103, []),
  (nat_lit 9, nat_lit 7, nat_lit 15, nat_lit 0, []),
  (nat_lit 12, nat_lit 2, nat_lit 3, nat_lit 4, []),
  (nat_lit 13, nat_lit 1, nat_lit 0, nat_lit 0, [nat_lit 0, nat_lit 1, nat_lit 0]),
  (nat_lit 14, nat_lit 16, nat_lit 0, nat_lit 0, []),
  (nat_lit 15, nat_lit 1, nat_lit 0, nat_lit 0, [nat_lit 0, nat_lit 0, nat_lit 0]),
  (nat_lit 16, nat_lit 16, nat_lit 0, nat_lit 0, [])]
/-- java/util/Arrays.fill(int[], int) -/
def zk_190 : List zE := [(nat_lit 0, nat_lit 1, nat_lit 0, nat_lit 0, [nat_lit 0, nat_lit 0, nat_lit 0]),
  (nat_lit 1, nat_lit 2, nat_lit 2, nat_lit 0, []),
  (nat_lit 2, nat_lit 0, nat_lit 0, nat_lit 4, []),
  (nat_lit 3, nat_lit 12, nat_lit 0, nat_lit 0, []),
  (nat_lit 4, nat_lit 2, nat_lit 3, nat_lit 0, []),
  (nat_lit 5, nat_lit 0, nat_lit 2, nat_lit 0, []),
  (nat_lit 6, nat_lit 0, nat_lit 3, nat_lit 0, []),
  (nat_lit 7, nat_lit 6, nat_lit 20, nat_lit 3, []),
  (nat_lit 10, nat_lit 0, nat_lit 0, nat_lit 4, []),
  (nat_lit 11, nat_lit 0, nat_lit 2, nat_lit 0, []),
  (nat_lit 12, nat_lit 0, nat_lit 1, nat_lit 0, []),
  (nat_lit 13, nat_lit 11, nat_lit 0, nat_lit 100, []),
  (nat_lit 14, nat_lit 3, nat_lit 2, nat_lit 0, [nat_lit 1]),
  (nat_lit 17, nat_lit 7, nat_lit 5, nat_lit 0, []),
  (nat_lit 20, nat_lit 16, nat_lit 0, nat_lit 5, [])]
/-- SpeechKeeperLaw.insert(SpeechKeeper, int, int, int, long[]) -/
def zk_191 : List zE := [(nat_lit 0, nat_lit 0, nat_lit 4, nat_lit 4, []),
  (nat_lit 2, nat_lit 1, nat_lit 0, nat_lit 0, [nat_lit 0, nat_lit 0, nat_lit 0]),
  (nat_lit 3, nat_lit 0, nat_lit 0, nat_lit 4, []),
  (nat_lit 4, nat_lit 0, nat_lit 1, nat_lit 0, []),
  (nat_lit 5, nat_lit 0, nat_lit 2, nat_lit 0, []),
  (nat_lit 6, nat_lit 0, nat_lit 3, nat_lit 0, []),
  (nat_lit 7, nat_lit 15, nat_lit 72, nat_lit 4, [nat_lit 0, nat_lit 9, nat_lit 1, nat_lit 15, nat_lit 0, nat_lit 19]),
  (nat_lit 10, nat_lit 99, nat_lit 0, nat_lit 0, []),
  (nat_lit 11, nat_lit 99, nat_lit 0, nat_lit 0, []),
  (nat_lit 12, nat_lit 99, nat_lit 0, nat_lit 0, []),
  (nat_lit 15, nat_lit 2, nat_lit 5, nat_lit 4, []),
  (nat_lit 17, nat_lit 1, nat_lit 0, nat_lit 0, [nat_lit 0, nat_lit 1, nat_lit 0]),
  (nat_lit 18, nat_lit 16, nat_lit 0, nat_lit 0, []),
  (nat_lit 19, nat_lit 2, nat_lit 5, nat_lit 4, []),
  (nat_lit 21, nat_lit 1, nat_lit 0, nat_lit 0, [nat_lit 0, nat_lit 2, nat_lit 0]),
  (nat_lit 22, nat_lit 16, nat_lit 0, nat_lit 0, []),
  (nat_lit 23, nat_lit 99, nat_lit 0, nat_lit 0, []),
  (nat_lit 24, nat_lit 99, nat_lit 0, nat_lit 0, [])]
/-- SpeechKeeperLaw.letter(SpeechKeeper, int, int, int, int, long[]) -/
def zk_192 : List zE := [(nat_lit 0, nat_lit 0, nat_lit 5, nat_lit 4, []),
  (nat_lit 2, nat_lit 1, nat_lit 0, nat_lit 0, [nat_lit 0, nat_lit 0, nat_lit 0]),
  (nat_lit 3, nat_lit 0, nat_lit 0, nat_lit 4, []),
  (nat_lit 4, nat_lit 0, nat_lit 1, nat_lit 0, []),
  (nat_lit 5, nat_lit 0, nat_lit 2, nat_lit 0, []),
  (nat_lit 6, nat_lit 0, nat_lit 3, nat_lit 0, []),
  (nat_lit 7, nat_lit 0, nat_lit 4, nat_lit 0, []),
  (nat_lit 9, nat_lit 15, nat_lit 74, nat_lit 5, [nat_lit 0, nat_lit 9, nat_lit 0, nat_lit 17, nat_lit 1, nat_lit 21]),
  (nat_lit 12, nat_lit 99, nat_lit 0, nat_lit 0, []),
  (nat_lit 13, nat_lit 99, nat_lit 0, nat_lit 0, []),
  (nat_lit 14, nat_lit 99, nat_lit 0, nat_lit 0, []),
  (nat_lit 17, nat_lit 2, nat_lit 6, nat_lit 4, []),
  (nat_lit 19, nat_lit 1, nat_lit 0, nat_lit 0, [nat_lit 0, nat_lit 1, nat_lit 0]),
  (nat_lit 20, nat_lit 16, nat_lit 0, nat_lit 0, []),
  (nat_lit 21, nat_lit 2, nat_lit 6, nat_lit 4, []),
  (nat_lit 23, nat_lit 1, nat_lit 0, nat_lit 0, [nat_lit 0, nat_lit 2, nat_lit 0]),
  (nat_lit 24, nat_lit 16, nat_lit 0, nat_lit 0, []),
  (nat_lit 25, nat_lit 99, nat_lit 0, nat_lit 0, []),
  (nat_lit 26, nat_lit 99, nat_lit 0, nat_lit 0, [])]
/-- SpeechKeeperLaw.line(SpeechKeeper, int, int, int, long[]) -/
def zk_193 : List zE := [(nat_lit 0, nat_lit 0, nat_lit 4, nat_lit 4, []),
  (nat_lit 2, nat_lit 1, nat_lit 0, nat_lit 0, [nat_lit 0, nat_lit 0, nat_lit 0]),
  (nat_lit 3, nat_lit 0, nat_lit 0, nat_lit 4, []),
  (nat_lit 4, nat_lit 0, nat_lit 1, nat_lit 0, []),
  (nat_lit 5, nat_lit 0, nat_lit 2, nat_lit 0, []),
  (nat_lit 6, nat_lit 0, nat_lit 3, nat_lit 0, []),
  (nat_lit 7, nat_lit 15, nat_lit 75, nat_lit 4, [nat_lit 0, nat_lit 9, nat_lit 0, nat_lit 15, nat_lit 1, nat_lit 19]),
  (nat_lit 10, nat_lit 99, nat_lit 0, nat_lit 0, []),
  (nat_lit 11, nat_lit 99, nat_lit 0, nat_lit 0, []),
  (nat_lit 12, nat_lit 99, nat_lit 0, nat_lit 0, []),
  (nat_lit 15, nat_lit 2, nat_lit 5, nat_lit 4, []),
  (nat_lit 17, nat_lit 1, nat_lit 0, nat_lit 0, [nat_lit 0, nat_lit 1, nat_lit 0]),
  (nat_lit 18, nat_lit 16, nat_lit 0, nat_lit 0, []),
  (nat_lit 19, nat_lit 2, nat_lit 5, nat_lit 4, []),
  (nat_lit 21, nat_lit 1, nat_lit 0, nat_lit 0, [nat_lit 0, nat_lit 2, nat_lit 0]),
  (nat_lit 22, nat_lit 16, nat_lit 0, nat_lit 0, []),
  (nat_lit 23, nat_lit 99, nat_lit 0, nat_lit 0, []),
  (nat_lit 24, nat_lit 99, nat_lit 0, nat_lit 0, [])]
/-- SpeechKeeperLaw.meanWords(SpeechKeeper, int, double[]) -/
def zk_194 : List zE := [(nat_lit 0, nat_lit 0, nat_lit 2, nat_lit 4, []),
  (nat_lit 1, nat_lit 1, nat_lit 0, nat_lit 0, [nat_lit 0, nat_lit 0, nat_lit 0]),
  (nat_lit 2, nat_lit 0, nat_lit 0, nat_lit 4, []),
  (nat_lit 3, nat_lit 0, nat_lit 1, nat_lit 0, []),
  (nat_lit 4, nat_lit 15, nat_lit 76, nat_lit 2, [nat_lit 0, nat_lit 9, nat_lit 0, nat_lit 11]),
  (nat_lit 7, nat_lit 11, nat_lit 0, nat_lit 104, []),
  (nat_lit 8, nat_lit 7, nat_lit 14, nat_lit 0, []),
  (nat_lit 11, nat_lit 2, nat_lit 3, nat_lit 4, []),
  (nat_lit 12, nat_lit 1, nat_lit 0, nat_lit 0, [nat_lit 0, nat_lit 1, nat_lit 0]),
  (nat_lit 13, nat_lit 16, nat_lit 0, nat_lit 0, []),
  (nat_lit 14, nat_lit 1, nat_lit 0, nat_lit 0, [nat_lit 0, nat_lit 0, nat_lit 0]),
  (nat_lit 15, nat_lit 16, nat_lit 0, nat_lit 0, [])]
/-- SpeechKeeperLaw.meet(SpeechKeeper, int, int, long[]) -/
def zk_195 : List zE := [(nat_lit 0, nat_lit 0, nat_lit 3, nat_lit 4, []),
  (nat_lit 1, nat_lit 1, nat_lit 0, nat_lit 0, [nat_lit 0, nat_lit 0, nat_lit 0]),
  (nat_lit 2, nat_lit 0, nat_lit 0, nat_lit 4, []),
  (nat_lit 3, nat_lit 0, nat_lit 1, nat_lit 0, []),
  (nat_lit 4, nat_lit 0, nat_lit 2, nat_lit 0, []),
  (nat_lit 5, nat_lit 15, nat_lit 77, nat_lit 3, [nat_lit 0, nat_lit 9, nat_lit 1, nat_lit 20]),
  (nat_lit 8, nat_lit 99, nat_lit 0, nat_lit 0, []),
  (nat_lit 11, nat_lit 99, nat_lit 0, nat_lit 0, []),
  (nat_lit 12, nat_lit 99, nat_lit 0, nat_lit 0, []),
  (nat_lit 15, nat_lit 99, nat_lit 0, nat_lit 0, []),
  (nat_lit 16, nat_lit 99, nat_lit 0, nat_lit 0, []),
  (nat_lit 17, nat_lit 99, nat_lit 0, nat_lit 0, []),
  (nat_lit 20, nat_lit 2, nat_lit 4, nat_lit 4, []),
  (nat_lit 22, nat_lit 1, nat_lit 0, nat_lit 0, [nat_lit 0, nat_lit 1, nat_lit 0]),
  (nat_lit 23, nat_lit 16, nat_lit 0, nat_lit 0, []),
  (nat_lit 24, nat_lit 99, nat_lit 0, nat_lit 0, []),
  (nat_lit 25, nat_lit 99, nat_lit 0, nat_lit 0, [])]
/-- SpeechKeeperLaw.move(SpeechKeeper, int, int, int, long[]) -/
def zk_196 : List zE := [(nat_lit 0, nat_lit 0, nat_lit 4, nat_lit 4, []),
  (nat_lit 2, nat_lit 1, nat_lit 0, nat_lit 0, [nat_lit 0, nat_lit 0, nat_lit 0]),
  (nat_lit 3, nat_lit 0, nat_lit 0, nat_lit 4, []),
  (nat_lit 4, nat_lit 0, nat_lit 1, nat_lit 0, []),
  (nat_lit 5, nat_lit 0, nat_lit 2, nat_lit 0, []),
  (nat_lit 6, nat_lit 0, nat_lit 3, nat_lit 0, []),
  (nat_lit 7, nat_lit 15, nat_lit 80, nat_lit 4, [nat_lit 0, nat_lit 9, nat_lit 1, nat_lit 15]),
  (nat_lit 10, nat_lit 99, nat_lit 0, nat_lit 0, []),
  (nat_lit 11, nat_lit 99, nat_lit 0, nat_lit 0, []),
  (nat_lit 12, nat_lit 99, nat_lit 0, nat_lit 0, []),
  (nat_lit 15, nat_lit 2, nat_lit 5, nat_lit 4, []),
  (nat_lit 17, nat_lit 1, nat_lit 0, nat_lit 0, [nat_lit 0, nat_lit 1, nat_lit 0]),
  (nat_lit 18, nat_lit 16, nat_lit 0, nat_lit 0, []),
  (nat_lit 19, nat_lit 99, nat_lit 0, nat_lit 0, []),
  (nat_lit 20, nat_lit 99, nat_lit 0, nat_lit 0, [])]
/-- SpeechKeeperLaw.occurrences(SpeechKeeper, int, int, long[]) -/
def zk_197 : List zE := [(nat_lit 0, nat_lit 0, nat_lit 3, nat_lit 4, []),
  (nat_lit 1, nat_lit 1, nat_lit 0, nat_lit 0, [nat_lit 0, nat_lit 0, nat_lit 0]),
  (nat_lit 2, nat_lit 0, nat_lit 0, nat_lit 4, []),
  (nat_lit 3, nat_lit 0, nat_lit 1, nat_lit 0, []),
  (nat_lit 4, nat_lit 0, nat_lit 2, nat_lit 0, []),
  (nat_lit 5, nat_lit 15, nat_lit 86, nat_lit 3, [nat_lit 0, nat_lit 9, nat_lit 0, nat_lit 13]),
  (nat_lit 8, nat_lit 99, nat_lit 0, nat_lit 0, []),
  (nat_lit 9, nat_lit 99, nat_lit 0, nat_lit 0, []),
  (nat_lit 10, nat_lit 99, nat_lit 0, nat_lit 0, []),
  (nat_lit 13, nat_lit 2, nat_lit 4, nat_lit 4, []),
  (nat_lit 15, nat_lit 1, nat_lit 0, nat_lit 0, [nat_lit 0, nat_lit 1, nat_lit 0]),
  (nat_lit 16, nat_lit 16, nat_lit 0, nat_lit 0, []),
  (nat_lit 17, nat_lit 99, nat_lit 0, nat_lit 0, []),
  (nat_lit 18, nat_lit 99, nat_lit 0, nat_lit 0, [])]
/-- SpeechKeeperLaw.parse(SpeechKeeper, int, long[]) -/
def zk_198 : List zE := [(nat_lit 0, nat_lit 0, nat_lit 2, nat_lit 4, []),
  (nat_lit 1, nat_lit 1, nat_lit 0, nat_lit 0, [nat_lit 0, nat_lit 0, nat_lit 0]),
  (nat_lit 2, nat_lit 0, nat_lit 0, nat_lit 4, []),
  (nat_lit 3, nat_lit 0, nat_lit 1, nat_lit 0, []),
  (nat_lit 4, nat_lit 15, nat_lit 89, nat_lit 2, [nat_lit 0, nat_lit 9, nat_lit 0, nat_lit 12]),
  (nat_lit 7, nat_lit 20, nat_lit 0, nat_lit 0, []),
  (nat_lit 8, nat_lit 11, nat_lit 0, nat_lit 103, []),
  (nat_lit 9, nat_lit 7, nat_lit 15, nat_lit 0, []),
  (nat_lit 12, nat_lit 2, nat_lit 3, nat_lit 4, []),
  (nat_lit 13, nat_lit 1, nat_lit 0, nat_lit 0, [nat_lit 0, nat_lit 1, nat_lit 0]),
  (nat_lit 14, nat_lit 16, nat_lit 0, nat_lit 0, []),
  (nat_lit 15, nat_lit 1, nat_lit 0, nat_lit 0, [nat_lit 0, nat_lit 0, nat_lit 0]),
  (nat_lit 16, nat_lit 16, nat_lit 0, nat_lit 0, [])]
/-- SpeechKeeperLaw.replace(SpeechKeeper, int, int, int, long[]) -/
def zk_199 : List zE := [(nat_lit 0, nat_lit 0, nat_lit 4, nat_lit 4, []),
  (nat_lit 2, nat_lit 1, nat_lit 0, nat_lit 0, [nat_lit 0, nat_lit 0, nat_lit 0]),
  (nat_lit 3, nat_lit 0, nat_lit 0, nat_lit 4, []),
  (nat_lit 4, nat_lit 0, nat_lit 1, nat_lit 0, []),
  (nat_lit 5, nat_lit 0, nat_lit 2, nat_lit 0, []),
  (nat_lit 6, nat_lit 0, nat_lit 3, nat_lit 0, []),
  (nat_lit 7, nat_lit 15, nat_lit 92, nat_lit 4, [nat_lit 0, nat_lit 9, nat_lit 1, nat_lit 15, nat_lit 0, nat_lit 19]),
  (nat_lit 10, nat_lit 99, nat_lit 0, nat_lit 0, []),
  (nat_lit 11, nat_lit 99, nat_lit 0, nat_lit 0, []),
  (nat_lit 12, nat_lit 99, nat_lit 0, nat_lit 0, []),
  (nat_lit 15, nat_lit 2, nat_lit 5, nat_lit 4, []),
  (nat_lit 17, nat_lit 1, nat_lit 0, nat_lit 0, [nat_lit 0, nat_lit 1, nat_lit 0]),
  (nat_lit 18, nat_lit 16, nat_lit 0, nat_lit 0, []),
  (nat_lit 19, nat_lit 99, nat_lit 0, nat_lit 0, []),
  (nat_lit 21, nat_lit 99, nat_lit 0, nat_lit 0, []),
  (nat_lit 22, nat_lit 99, nat_lit 0, nat_lit 0, []),
  (nat_lit 23, nat_lit 99, nat_lit 0, nat_lit 0, []),
  (nat_lit 24, nat_lit 99, nat_lit 0, nat_lit 0, [])]
/-- SpeechKeeperLaw.report(SpeechKeeper, int, long[]) -/
def zk_200 : List zE := [(nat_lit 0, nat_lit 0, nat_lit 2, nat_lit 4, []),
  (nat_lit 1, nat_lit 1, nat_lit 0, nat_lit 0, [nat_lit 0, nat_lit 0, nat_lit 0]),
  (nat_lit 2, nat_lit 0, nat_lit 0, nat_lit 4, []),
  (nat_lit 3, nat_lit 0, nat_lit 1, nat_lit 0, []),
  (nat_lit 4, nat_lit 15, nat_lit 93, nat_lit 2, [nat_lit 0, nat_lit 9, nat_lit 0, nat_lit 12]),
  (nat_lit 7, nat_lit 20, nat_lit 0, nat_lit 0, []),
  (nat_lit 8, nat_lit 11, nat_lit 0, nat_lit 103, []),
  (nat_lit 9, nat_lit 7, nat_lit 15, nat_lit 0, []),
  (nat_lit 12, nat_lit 2, nat_lit 3, nat_lit 4, []),
  (nat_lit 13, nat_lit 1, nat_lit 0, nat_lit 0, [nat_lit 0, nat_lit 1, nat_lit 0]),
  (nat_lit 14, nat_lit 16, nat_lit 0, nat_lit 0, []),
  (nat_lit 15, nat_lit 1, nat_lit 0, nat_lit 0, [nat_lit 0, nat_lit 0, nat_lit 0]),
  (nat_lit 16, nat_lit 16, nat_lit 0, nat_lit 0, [])]
/-- SpeechKeeperLaw.restoreSnapshot(SpeechKeeper, int, long[]) -/
def zk_201 : List zE := [(nat_lit 0, nat_lit 0, nat_lit 2, nat_lit 4, []),
  (nat_lit 1, nat_lit 1, nat_lit 0, nat_lit 0, [nat_lit 0, nat_lit 0, nat_lit 0]),
  (nat_lit 2, nat_lit 0, nat_lit 0, nat_lit 4, []),
  (nat_lit 3, nat_lit 0, nat_lit 1, nat_lit 0, []),
  (nat_lit 4, nat_lit 15, nat_lit 95, nat_lit 2, [nat_lit 0, nat_lit 9, nat_lit 0, nat_lit 12, nat_lit 2, nat_lit 15]),
  (nat_lit 7, nat_lit 99, nat_lit 0, nat_lit 0, []),
  (nat_lit 8, nat_lit 99, nat_lit 0, nat_lit 0, []),
  (nat_lit 9, nat_lit 99, nat_lit 0, nat_lit 0, []),
  (nat_lit 12, nat_lit 2, nat_lit 3, nat_lit 4, []),
  (nat_lit 13, nat_lit 1, nat_lit 0, nat_lit 0, [nat_lit 0, nat_lit 1, nat_lit 0]),
  (nat_lit 14, nat_lit 16, nat_lit 0, nat_lit 0, []),
  (nat_lit 15, nat_lit 2, nat_lit 3, nat_lit 4, []),
  (nat_lit 16, nat_lit 1, nat_lit 0, nat_lit 0, [nat_lit 0, nat_lit 2, nat_lit 0]),
  (nat_lit 17, nat_lit 16, nat_lit 0, nat_lit 0, []),
  (nat_lit 18, nat_lit 99, nat_lit 0, nat_lit 0, []),
  (nat_lit 19, nat_lit 99, nat_lit 0, nat_lit 0, [])]
/-- SpeechKeeperLaw.safeLines(SpeechKeeper, int, long[]) -/
def zk_202 : List zE := [(nat_lit 0, nat_lit 0, nat_lit 2, nat_lit 4, []),
  (nat_lit 1, nat_lit 1, nat_lit 0, nat_lit 0, [nat_lit 0, nat_lit 0, nat_lit 0]),
  (nat_lit 2, nat_lit 0, nat_lit 0, nat_lit 4, []),
  (nat_lit 3, nat_lit 0, nat_lit 1, nat_lit 0, []),
  (nat_lit 4, nat_lit 15, nat_lit 96, nat_lit 2, [nat_lit 0, nat_lit 9, nat_lit 1, nat_lit 12]),
  (nat_lit 7, nat_lit 20, nat_lit 0, nat_lit 0, []),
  (nat_lit 8, nat_lit 11, nat_lit 0, nat_lit 103, []),
  (nat_lit 9, nat_lit 7, nat_lit 15, nat_lit 0, []),
  (nat_lit 12, nat_lit 2, nat_lit 3, nat_lit 4, []),
  (nat_lit 13, nat_lit 1, nat_lit 0, nat_lit 0, [nat_lit 0, nat_lit 1, nat_lit 0]),
  (nat_lit 14, nat_lit 16, nat_lit 0, nat_lit 0, []),
  (nat_lit 15, nat_lit 1, nat_lit 0, nat_lit 0, [nat_lit 0, nat_lit 0, nat_lit 0]),
  (nat_lit 16, nat_lit 16, nat_lit 0, nat_lit 0, [])]
/-- SpeechKeeperLaw.saveSnapshot(SpeechKeeper, int, long[]) -/
def zk_203 : List zE := [(nat_lit 0, nat_lit 0, nat_lit 2, nat_lit 4, []),
  (nat_lit 1, nat_lit 1, nat_lit 0, nat_lit 0, [nat_lit 0, nat_lit 0, nat_lit 0]),
  (nat_lit 2, nat_lit 0, nat_lit 0, nat_lit 4, []),
  (nat_lit 3, nat_lit 0, nat_lit 1, nat_lit 0, []),
  (nat_lit 4, nat_lit 15, nat_lit 97, nat_lit 2, [nat_lit 0, nat_lit 9, nat_lit 0, nat_lit 19]),
  (nat_lit 7, nat_lit 5, nat_lit 14, nat_lit 0, []),
  (nat_lit 10, nat_lit 99, nat_lit 0, nat_lit 0, []),
  (nat_lit 11, nat_lit 99, nat_lit 0, nat_lit 0, []),
  (nat_lit 14, nat_lit 1, nat_lit 0, nat_lit 0, [nat_lit 2, nat_lit 0, nat_lit 0]),
  (nat_lit 15, nat_lit 11, nat_lit 0, nat_lit 103, []),
  (nat_lit 16, nat_lit 7, nat_lit 22, nat_lit 0, []),
  (nat_lit 19, nat_lit 2, nat_lit 3, nat_lit 4, []),
  (nat_lit 20, nat_lit 1, nat_lit 0, nat_lit 0, [nat_lit 0, nat_lit 1, nat_lit 0]),
  (nat_lit 21, nat_lit 16, nat_lit 0, nat_lit 0, []),
  (nat_lit 22, nat_lit 1, nat_lit 0, nat_lit 0, [nat_lit 0, nat_lit 0, nat_lit 0]),
  (nat_lit 23, nat_lit 16, nat_lit 0, nat_lit 0, [])]
/-- SpeechKeeperLaw.share(SpeechKeeper, int, double[]) -/
def zk_204 : List zE := [(nat_lit 0, nat_lit 0, nat_lit 2, nat_lit 4, []),
  (nat_lit 1, nat_lit 1, nat_lit 0, nat_lit 0, [nat_lit 0, nat_lit 0, nat_lit 0]),
  (nat_lit 2, nat_lit 0, nat_lit 0, nat_lit 4, []),
  (nat_lit 3, nat_lit 0, nat_lit 1, nat_lit 0, []),
  (nat_lit 4, nat_lit 15, nat_lit 98, nat_lit 2, [nat_lit 0, nat_lit 9, nat_lit 0, nat_lit 12]),
  (nat_lit 7, nat_lit 20, nat_lit 3, nat_lit 0, []),
  (nat_lit 8, nat_lit 11, nat_lit 0, nat_lit 104, []),
  (nat_lit 9, nat_lit 7, nat_lit 15, nat_lit 0, []),
  (nat_lit 12, nat_lit 2, nat_lit 3, nat_lit 4, []),
  (nat_lit 13, nat_lit 1, nat_lit 0, nat_lit 0, [nat_lit 0, nat_lit 1, nat_lit 0]),
  (nat_lit 14, nat_lit 16, nat_lit 0, nat_lit 0, []),
  (nat_lit 15, nat_lit 1, nat_lit 0, nat_lit 0, [nat_lit 0, nat_lit 0, nat_lit 0]),
  (nat_lit 16, nat_lit 16, nat_lit 0, nat_lit 0, [])]
/-- SpeechKeeperLaw.size(SpeechKeeper, int, long[]) -/
def zk_205 : List zE := [(nat_lit 0, nat_lit 0, nat_lit 2, nat_lit 4, []),
  (nat_lit 1, nat_lit 1, nat_lit 0, nat_lit 0, [nat_lit 0, nat_lit 0, nat_lit 0]),
  (nat_lit 2, nat_lit 0, nat_lit 0, nat_lit 4, []),
  (nat_lit 3, nat_lit 0, nat_lit 1, nat_lit 0, []),
  (nat_lit 4, nat_lit 15, nat_lit 99, nat_lit 2, [nat_lit 0, nat_lit 9, nat_lit 0, nat_lit 12]),
  (nat_lit 7, nat_lit 20, nat_lit 0, nat_lit 0, []),
  (nat_lit 8, nat_lit 11, nat_lit 0, nat_lit 103, []),
  (nat_lit 9, nat_lit 7, nat_lit 15, nat_lit 0, []),
  (nat_lit 12, nat_lit 2, nat_lit 3, nat_lit 4, []),
  (nat_lit 13, nat_lit 1, nat_lit 0, nat_lit 0, [nat_lit 0, nat_lit 1, nat_lit 0]),
  (nat_lit 14, nat_lit 16, nat_lit 0, nat_lit 0, []),
  (nat_lit 15, nat_lit 1, nat_lit 0, nat_lit 0, [nat_lit 0, nat_lit 0, nat_lit 0]),
  (nat_lit 16, nat_lit 16, nat_lit 0, nat_lit 0, [])]
/-- SpeechKeeperLaw.takeBack(SpeechKeeper, int, int, long[]) -/
def zk_206 : List zE := [(nat_lit 0, nat_lit 0, nat_lit 3, nat_lit 4, []),
  (nat_lit 1, nat_lit 1, nat_lit 0, nat_lit 0, [nat_lit 0, nat_lit 0, nat_lit 0]),
  (nat_lit 2, nat_lit 0, nat_lit 0, nat_lit 4, []),
  (nat_lit 3, nat_lit 0, nat_lit 1, nat_lit 0, []),
  (nat_lit 4, nat_lit 0, nat_lit 2, nat_lit 0, []),
  (nat_lit 5, nat_lit 15, nat_lit 101, nat_lit 3, [nat_lit 0, nat_lit 9, nat_lit 1, nat_lit 13]),
  (nat_lit 8, nat_lit 99, nat_lit 0, nat_lit 0, []),
  (nat_lit 9, nat_lit 99, nat_lit 0, nat_lit 0, []),
  (nat_lit 10, nat_lit 99, nat_lit 0, nat_lit 0, []),
  (nat_lit 13, nat_lit 2, nat_lit 4, nat_lit 4, []),
  (nat_lit 15, nat_lit 1, nat_lit 0, nat_lit 0, [nat_lit 0, nat_lit 1, nat_lit 0]),
  (nat_lit 16, nat_lit 16, nat_lit 0, nat_lit 0, []),
  (nat_lit 17, nat_lit 99, nat_lit 0, nat_lit 0, []),
  (nat_lit 18, nat_lit 99, nat_lit 0, nat_lit 0, [])]
/-- SpeechKeeperLaw.wouldClash(SpeechKeeper, int, int, long[]) -/
def zk_207 : List zE := [(nat_lit 0, nat_lit 0, nat_lit 3, nat_lit 4, []),
  (nat_lit 1, nat_lit 1, nat_lit 0, nat_lit 0, [nat_lit 0, nat_lit 0, nat_lit 0]),
  (nat_lit 2, nat_lit 0, nat_lit 0, nat_lit 4, []),
  (nat_lit 3, nat_lit 0, nat_lit 1, nat_lit 0, []),
  (nat_lit 4, nat_lit 0, nat_lit 2, nat_lit 0, []),
  (nat_lit 5, nat_lit 15, nat_lit 104, nat_lit 3, [nat_lit 0, nat_lit 9, nat_lit 1, nat_lit 20]),
  (nat_lit 8, nat_lit 99, nat_lit 0, nat_lit 0, []),
  (nat_lit 11, nat_lit 99, nat_lit 0, nat_lit 0, []),
  (nat_lit 12, nat_lit 99, nat_lit 0, nat_lit 0, []),
  (nat_lit 15, nat_lit 99, nat_lit 0, nat_lit 0, []),
  (nat_lit 16, nat_lit 99, nat_lit 0, nat_lit 0, []),
  (nat_lit 17, nat_lit 99, nat_lit 0, nat_lit 0, []),
  (nat_lit 20, nat_lit 2, nat_lit 4, nat_lit 4, []),
  (nat_lit 22, nat_lit 1, nat_lit 0, nat_lit 0, [nat_lit 0, nat_lit 1, nat_lit 0]),
  (nat_lit 23, nat_lit 16, nat_lit 0, nat_lit 0, []),
  (nat_lit 24, nat_lit 99, nat_lit 0, nat_lit 0, []),
  (nat_lit 25, nat_lit 99, nat_lit 0, nat_lit 0, [])]
def zk_law : List zE := [(nat_lit 0, nat_lit 13, nat_lit 9, nat_lit 0, []),
  (nat_lit 3, nat_lit 17, nat_lit 0, nat_lit 0, []),
  (nat_lit 4, nat_lit 15, nat_lit 57, nat_lit 1, [nat_lit 2, nat_lit 9]),
  (nat_lit 7, nat_lit 2, nat_lit 1, nat_lit 4, []),
  (nat_lit 8, nat_lit 13, nat_lit 10, nat_lit 0, []),
  (nat_lit 11, nat_lit 17, nat_lit 0, nat_lit 0, []),
  (nat_lit 12, nat_lit 15, nat_lit 105, nat_lit 1, [nat_lit 2, nat_lit 10]),
  (nat_lit 15, nat_lit 2, nat_lit 2, nat_lit 4, []),
  (nat_lit 16, nat_lit 1, nat_lit 0, nat_lit 0, [nat_lit 0, nat_lit 1, nat_lit 0]),
  (nat_lit 17, nat_lit 14, nat_lit 103, nat_lit 0, []),
  (nat_lit 19, nat_lit 2, nat_lit 3, nat_lit 4, []),
  (nat_lit 20, nat_lit 1, nat_lit 0, nat_lit 0, [nat_lit 0, nat_lit 1, nat_lit 0]),
  (nat_lit 21, nat_lit 14, nat_lit 104, nat_lit 0, []),
  (nat_lit 23, nat_lit 2, nat_lit 4, nat_lit 4, []),
  (nat_lit 25, nat_lit 1, nat_lit 0, nat_lit 0, [nat_lit 0, nat_lit 0, nat_lit 0]),
  (nat_lit 26, nat_lit 2, nat_lit 5, nat_lit 0, []),
  (nat_lit 28, nat_lit 0, nat_lit 5, nat_lit 0, []),
  (nat_lit 30, nat_lit 0, nat_lit 0, nat_lit 4, []),
  (nat_lit 31, nat_lit 12, nat_lit 0, nat_lit 0, []),
  (nat_lit 32, nat_lit 1, nat_lit 0, nat_lit 0, [nat_lit 0, nat_lit 6, nat_lit 0]),
  (nat_lit 34, nat_lit 4, nat_lit 1, nat_lit 0, []),
  (nat_lit 35, nat_lit 6, nat_lit 2239, nat_lit 4, []),
  (nat_lit 38, nat_lit 0, nat_lit 0, nat_lit 4, []),
  (nat_lit 39, nat_lit 0, nat_lit 5, nat_lit 0, []),
  (nat_lit 41, nat_lit 10, nat_lit 0, nat_lit 100, []),
  (nat_lit 42, nat_lit 1, nat_lit 0, nat_lit 0, [nat_lit 0, nat_lit 63, nat_lit 0]),
  (nat_lit 44, nat_lit 4, nat_lit 5, nat_lit 0, []),
  (nat_lit 45, nat_lit 24, nat_lit 0, nat_lit 2233, [nat_lit 196, nat_lit 269, nat_lit 325, nat_lit 381, nat_lit 461, nat_lit 553, nat_lit 649, nat_lit 729, nat_lit 804, nat_lit 872, nat_lit 964, nat_lit 1032, nat_lit 1110, nat_lit 1187, nat_lit 1243, nat_lit 1318, nat_lit 1331, nat_lit 1344, nat_lit 1357, nat_lit 1437, nat_lit 1517, nat_lit 1585, nat_lit 1665, nat_lit 1745, nat_lit 1813, nat_lit 1881, nat_lit 1894, nat_lit 1950, nat_lit 2006, nat_lit 2062, nat_lit 2087, nat_lit 2100, nat_lit 2163, nat_lit 2219]),
  (nat_lit 196, nat_lit 0, nat_lit 1, nat_lit 4, []),
  (nat_lit 197, nat_lit 0, nat_lit 0, nat_lit 4, []),
  (nat_lit 198, nat_lit 0, nat_lit 5, nat_lit 0, []),
  (nat_lit 200, nat_lit 1, nat_lit 0, nat_lit 0, [nat_lit 0, nat_lit 1, nat_lit 0]),
  (nat_lit 201, nat_lit 4, nat_lit 0, nat_lit 0, []),
  (nat_lit 202, nat_lit 10, nat_lit 0, nat_lit 100, []),
  (nat_lit 203, nat_lit 0, nat_lit 0, nat_lit 4, []),
  (nat_lit 204, nat_lit 0, nat_lit 5, nat_lit 0, []),
  (nat_lit 206, nat_lit 1, nat_lit 0, nat_lit 0, [nat_lit 0, nat_lit 2, nat_lit 0]),
  (nat_lit 207, nat_lit 4, nat_lit 0, nat_lit 0, []),
  (nat_lit 208, nat_lit 10, nat_lit 0, nat_lit 100, []),
  (nat_lit 209, nat_lit 0, nat_lit 0, nat_lit 4, []),
  (nat_lit 210, nat_lit 0, nat_lit 5, nat_lit 0, []),
  (nat_lit 212, nat_lit 1, nat_lit 0, nat_lit 0, [nat_lit 0, nat_lit 3, nat_lit 0]),
  (nat_lit 213, nat_lit 4, nat_lit 0, nat_lit 0, []),
  (nat_lit 214, nat_lit 10, nat_lit 0, nat_lit 100, []),
  (nat_lit 215, nat_lit 0, nat_lit 0, nat_lit 4, []),
  (nat_lit 216, nat_lit 0, nat_lit 5, nat_lit 0, []),
  (nat_lit 218, nat_lit 1, nat_lit 0, nat_lit 0, [nat_lit 0, nat_lit 4, nat_lit 0]),
  (nat_lit 219, nat_lit 4, nat_lit 0, nat_lit 0, []),
  (nat_lit 220, nat_lit 10, nat_lit 0, nat_lit 100, []),
  (nat_lit 221, nat_lit 0, nat_lit 0, nat_lit 4, []),
  (nat_lit 222, nat_lit 0, nat_lit 5, nat_lit 0, []),
  (nat_lit 224, nat_lit 1, nat_lit 0, nat_lit 0, [nat_lit 0, nat_lit 5, nat_lit 0]),
  (nat_lit 225, nat_lit 4, nat_lit 0, nat_lit 0, []),
  (nat_lit 226, nat_lit 10, nat_lit 0, nat_lit 100, []),
  (nat_lit 227, nat_lit 15, nat_lit 59, nat_lit 6, [nat_lit 0, nat_lit 9]),
  (nat_lit 230, nat_lit 0, nat_lit 2, nat_lit 4, []),
  (nat_lit 231, nat_lit 0, nat_lit 0, nat_lit 4, []),
  (nat_lit 232, nat_lit 0, nat_lit 5, nat_lit 0, []),
  (nat_lit 234, nat_lit 1, nat_lit 0, nat_lit 0, [nat_lit 0, nat_lit 1, nat_lit 0]),
  (nat_lit 235, nat_lit 4, nat_lit 0, nat_lit 0, []),
  (nat_lit 236, nat_lit 10, nat_lit 0, nat_lit 100, []),
  (nat_lit 237, nat_lit 0, nat_lit 0, nat_lit 4, []),
  (nat_lit 238, nat_lit 0, nat_lit 5, nat_lit 0, []),
  (nat_lit 240, nat_lit 1, nat_lit 0, nat_lit 0, [nat_lit 0, nat_lit 2, nat_lit 0]),
  (nat_lit 241, nat_lit 4, nat_lit 0, nat_lit 0, []),
  (nat_lit 242, nat_lit 10, nat_lit 0, nat_lit 100, []),
  (nat_lit 243, nat_lit 0, nat_lit 0, nat_lit 4, []),
  (nat_lit 244, nat_lit 0, nat_lit 5, nat_lit 0, []),
  (nat_lit 246, nat_lit 1, nat_lit 0, nat_lit 0, [nat_lit 0, nat_lit 3, nat_lit 0]),
  (nat_lit 247, nat_lit 4, nat_lit 0, nat_lit 0, []),
  (nat_lit 248, nat_lit 10, nat_lit 0, nat_lit 100, []),
  (nat_lit 249, nat_lit 0, nat_lit 0, nat_lit 4, []),
  (nat_lit 250, nat_lit 0, nat_lit 5, nat_lit 0, []),
  (nat_lit 252, nat_lit 1, nat_lit 0, nat_lit 0, [nat_lit 0, nat_lit 4, nat_lit 0]),
  (nat_lit 253, nat_lit 4, nat_lit 0, nat_lit 0, []),
  (nat_lit 254, nat_lit 10, nat_lit 0, nat_lit 100, []),
  (nat_lit 255, nat_lit 0, nat_lit 0, nat_lit 4, []),
  (nat_lit 256, nat_lit 0, nat_lit 5, nat_lit 0, []),
  (nat_lit 258, nat_lit 1, nat_lit 0, nat_lit 0, [nat_lit 0, nat_lit 5, nat_lit 0]),
  (nat_lit 259, nat_lit 4, nat_lit 0, nat_lit 0, []),
  (nat_lit 260, nat_lit 10, nat_lit 0, nat_lit 100, []),
  (nat_lit 261, nat_lit 15, nat_lit 110, nat_lit 6, [nat_lit 0, nat_lit 10]),
  (nat_lit 264, nat_lit 6, nat_lit 2233, nat_lit 0, []),
  (nat_lit 267, nat_lit 99, nat_lit 0, nat_lit 0, []),
  (nat_lit 268, nat_lit 99, nat_lit 0, nat_lit 0, []),
  (nat_lit 269, nat_lit 0, nat_lit 1, nat_lit 4, []),
  (nat_lit 270, nat_lit 0, nat_lit 0, nat_lit 4, []),
  (nat_lit 271, nat_lit 0, nat_lit 5, nat_lit 0, []),
  (nat_lit 273, nat_lit 1, nat_lit 0, nat_lit 0, [nat_lit 0, nat_lit 1, nat_lit 0]),
  (nat_lit 274, nat_lit 4, nat_lit 0, nat_lit 0, []),
  (nat_lit 275, nat_lit 10, nat_lit 0, nat_lit 100, []),
  (nat_lit 276, nat_lit 0, nat_lit 3, nat_lit 4, []),
  (nat_lit 277, nat_lit 15, nat_lit 198, nat_lit 3, [nat_lit 4, nat_lit 99]),
  (nat_lit 280, nat_lit 2, nat_lit 6, nat_lit 0, []),
  (nat_lit 282, nat_lit 0, nat_lit 2, nat_lit 4, []),
  (nat_lit 283, nat_lit 0, nat_lit 0, nat_lit 4, []),
  (nat_lit 284, nat_lit 0, nat_lit 5, nat_lit 0, []),
  (nat_lit 286, nat_lit 1, nat_lit 0, nat_lit 0, [nat_lit 0, nat_lit 1, nat_lit 0]),
  (nat_lit 287, nat_lit 4, nat_lit 0, nat_lit 0, []),
  (nat_lit 288, nat_lit 10, nat_lit 0, nat_lit 100, []),
  (nat_lit 289, nat_lit 15, nat_lit 159, nat_lit 2, [nat_lit 0, nat_lit 10]),
  (nat_lit 292, nat_lit 2, nat_lit 7, nat_lit 0, []),
  (nat_lit 294, nat_lit 0, nat_lit 2, nat_lit 4, []),
  (nat_lit 295, nat_lit 15, nat_lit 177, nat_lit 1, [nat_lit 0, nat_lit 10]),
  (nat_lit 298, nat_lit 0, nat_lit 6, nat_lit 0, []),
  (nat_lit 300, nat_lit 6, nat_lit 305, nat_lit 0, []),
  (nat_lit 303, nat_lit 99, nat_lit 0, nat_lit 0, []),
  (nat_lit 304, nat_lit 99, nat_lit 0, nat_lit 0, []),
  (nat_lit 305, nat_lit 0, nat_lit 6, nat_lit 0, []),
  (nat_lit 307, nat_lit 5, nat_lit 322, nat_lit 1, []),
  (nat_lit 310, nat_lit 0, nat_lit 3, nat_lit 4, []),
  (nat_lit 311, nat_lit 1, nat_lit 0, nat_lit 0, [nat_lit 0, nat_lit 0, nat_lit 0]),
  (nat_lit 312, nat_lit 10, nat_lit 0, nat_lit 103, []),
  (nat_lit 313, nat_lit 0, nat_lit 7, nat_lit 0, []),
  (nat_lit 315, nat_lit 20, nat_lit 0, nat_lit 0, []),
  (nat_lit 316, nat_lit 21, nat_lit 0, nat_lit 0, []),
  (nat_lit 317, nat_lit 5, nat_lit 322, nat_lit 0, []),
  (nat_lit 320, nat_lit 99, nat_lit 0, nat_lit 0, []),
  (nat_lit 321, nat_lit 99, nat_lit 0, nat_lit 0, []),
  (nat_lit 322, nat_lit 7, nat_lit 2233, nat_lit 0, []),
  (nat_lit 325, nat_lit 0, nat_lit 1, nat_lit 4, []),
  (nat_lit 326, nat_lit 0, nat_lit 0, nat_lit 4, []),
  (nat_lit 327, nat_lit 0, nat_lit 5, nat_lit 0, []),
  (nat_lit 329, nat_lit 1, nat_lit 0, nat_lit 0, [nat_lit 0, nat_lit 1, nat_lit 0]),
  (nat_lit 330, nat_lit 4, nat_lit 0, nat_lit 0, []),
  (nat_lit 331, nat_lit 10, nat_lit 0, nat_lit 100, []),
  (nat_lit 332, nat_lit 0, nat_lit 3, nat_lit 4, []),
  (nat_lit 333, nat_lit 15, nat_lit 205, nat_lit 3, [nat_lit 4, nat_lit 99]),
  (nat_lit 336, nat_lit 2, nat_lit 6, nat_lit 0, []),
  (nat_lit 338, nat_lit 0, nat_lit 2, nat_lit 4, []),
  (nat_lit 339, nat_lit 0, nat_lit 0, nat_lit 4, []),
  (nat_lit 340, nat_lit 0, nat_lit 5, nat_lit 0, []),
  (nat_lit 342, nat_lit 1, nat_lit 0, nat_lit 0, [nat_lit 0, nat_lit 1, nat_lit 0]),
  (nat_lit 343, nat_lit 4, nat_lit 0, nat_lit 0, []),
  (nat_lit 344, nat_lit 10, nat_lit 0, nat_lit 100, []),
  (nat_lit 345, nat_lit 15, nat_lit 173, nat_lit 2, [nat_lit 0, nat_lit 10]),
  (nat_lit 348, nat_lit 2, nat_lit 7, nat_lit 0, []),
  (nat_lit 350, nat_lit 0, nat_lit 2, nat_lit 4, []),
  (nat_lit 351, nat_lit 15, nat_lit 177, nat_lit 1, [nat_lit 0, nat_lit 10]),
  (nat_lit 354, nat_lit 0, nat_lit 6, nat_lit 0, []),
  (nat_lit 356, nat_lit 6, nat_lit 361, nat_lit 0, []),
  (nat_lit 359, nat_lit 99, nat_lit 0, nat_lit 0, []),
  (nat_lit 360, nat_lit 99, nat_lit 0, nat_lit 0, []),
  (nat_lit 361, nat_lit 0, nat_lit 6, nat_lit 0, []),
  (nat_lit 363, nat_lit 5, nat_lit 378, nat_lit 1, []),
  (nat_lit 366, nat_lit 0, nat_lit 3, nat_lit 4, []),
  (nat_lit 367, nat_lit 1, nat_lit 0, nat_lit 0, [nat_lit 0, nat_lit 0, nat_lit 0]),
  (nat_lit 368, nat_lit 10, nat_lit 0, nat_lit 103, []),
  (nat_lit 369, nat_lit 0, nat_lit 7, nat_lit 0, []),
  (nat_lit 371, nat_lit 20, nat_lit 0, nat_lit 0, []),
  (nat_lit 372, nat_lit 21, nat_lit 0, nat_lit 0, []),
  (nat_lit 373, nat_lit 5, nat_lit 378, nat_lit 0, []),
  (nat_lit 376, nat_lit 99, nat_lit 0, nat_lit 0, []),
  (nat_lit 377, nat_lit 99, nat_lit 0, nat_lit 0, []),
  (nat_lit 378, nat_lit 7, nat_lit 2233, nat_lit 0, []),
  (nat_lit 381, nat_lit 0, nat_lit 1, nat_lit 4, []),
  (nat_lit 382, nat_lit 0, nat_lit 0, nat_lit 4, []),
  (nat_lit 383, nat_lit 0, nat_lit 5, nat_lit 0, []),
  (nat_lit 385, nat_lit 1, nat_lit 0, nat_lit 0, [nat_lit 0, nat_lit 1, nat_lit 0]),
  (nat_lit 386, nat_lit 4, nat_lit 0, nat_lit 0, []),
  (nat_lit 387, nat_lit 10, nat_lit 0, nat_lit 100, []),
  (nat_lit 388, nat_lit 0, nat_lit 0, nat_lit 4, []),
  (nat_lit 389, nat_lit 0, nat_lit 5, nat_lit 0, []),
  (nat_lit 391, nat_lit 1, nat_lit 0, nat_lit 0, [nat_lit 0, nat_lit 2, nat_lit 0]),
  (nat_lit 392, nat_lit 4, nat_lit 0, nat_lit 0, []),
  (nat_lit 393, nat_lit 10, nat_lit 0, nat_lit 100, []),
  (nat_lit 394, nat_lit 0, nat_lit 0, nat_lit 4, []),
  (nat_lit 395, nat_lit 0, nat_lit 5, nat_lit 0, []),
  (nat_lit 397, nat_lit 1, nat_lit 0, nat_lit 0, [nat_lit 0, nat_lit 3, nat_lit 0]),
  (nat_lit 398, nat_lit 4, nat_lit 0, nat_lit 0, []),
  (nat_lit 399, nat_lit 10, nat_lit 0, nat_lit 100, []),
  (nat_lit 400, nat_lit 0, nat_lit 3, nat_lit 4, []),
  (nat_lit 401, nat_lit 15, nat_lit 193, nat_lit 5, [nat_lit 4, nat_lit 99]),
  (nat_lit 404, nat_lit 2, nat_lit 6, nat_lit 0, []),
  (nat_lit 406, nat_lit 0, nat_lit 2, nat_lit 4, []),
  (nat_lit 407, nat_lit 0, nat_lit 0, nat_lit 4, []),
  (nat_lit 408, nat_lit 0, nat_lit 5, nat_lit 0, []),
  (nat_lit 410, nat_lit 1, nat_lit 0, nat_lit 0, [nat_lit 0, nat_lit 1, nat_lit 0]),
  (nat_lit 411, nat_lit 4, nat_lit 0, nat_lit 0, []),
  (nat_lit 412, nat_lit 10, nat_lit 0, nat_lit 100, []),
  (nat_lit 413, nat_lit 0, nat_lit 0, nat_lit 4, []),
  (nat_lit 414, nat_lit 0, nat_lit 5, nat_lit 0, []),
  (nat_lit 416, nat_lit 1, nat_lit 0, nat_lit 0, [nat_lit 0, nat_lit 2, nat_lit 0]),
  (nat_lit 417, nat_lit 4, nat_lit 0, nat_lit 0, []),
  (nat_lit 418, nat_lit 10, nat_lit 0, nat_lit 100, []),
  (nat_lit 419, nat_lit 0, nat_lit 0, nat_lit 4, []),
  (nat_lit 420, nat_lit 0, nat_lit 5, nat_lit 0, []),
  (nat_lit 422, nat_lit 1, nat_lit 0, nat_lit 0, [nat_lit 0, nat_lit 3, nat_lit 0]),
  (nat_lit 423, nat_lit 4, nat_lit 0, nat_lit 0, []),
  (nat_lit 424, nat_lit 10, nat_lit 0, nat_lit 100, []),
  (nat_lit 425, nat_lit 15, nat_lit 146, nat_lit 4, [nat_lit 0, nat_lit 10]),
  (nat_lit 428, nat_lit 2, nat_lit 7, nat_lit 0, []),
  (nat_lit 430, nat_lit 0, nat_lit 2, nat_lit 4, []),
  (nat_lit 431, nat_lit 15, nat_lit 177, nat_lit 1, [nat_lit 0, nat_lit 10]),
  (nat_lit 434, nat_lit 0, nat_lit 6, nat_lit 0, []),
  (nat_lit 436, nat_lit 6, nat_lit 441, nat_lit 0, []),
  (nat_lit 439, nat_lit 99, nat_lit 0, nat_lit 0, []),
  (nat_lit 440, nat_lit 99, nat_lit 0, nat_lit 0, []),
  (nat_lit 441, nat_lit 0, nat_lit 6, nat_lit 0, []),
  (nat_lit 443, nat_lit 5, nat_lit 458, nat_lit 1, []),
  (nat_lit 446, nat_lit 99, nat_lit 0, nat_lit 0, []),
  (nat_lit 447, nat_lit 99, nat_lit 0, nat_lit 0, []),
  (nat_lit 448, nat_lit 99, nat_lit 0, nat_lit 0, []),
  (nat_lit 449, nat_lit 99, nat_lit 0, nat_lit 0, []),
  (nat_lit 451, nat_lit 99, nat_lit 0, nat_lit 0, []),
  (nat_lit 452, nat_lit 99, nat_lit 0, nat_lit 0, []),
  (nat_lit 453, nat_lit 99, nat_lit 0, nat_lit 0, []),
  (nat_lit 456, nat_lit 99, nat_lit 0, nat_lit 0, []),
  (nat_lit 457, nat_lit 99, nat_lit 0, nat_lit 0, []),
  (nat_lit 458, nat_lit 7, nat_lit 2233, nat_lit 0, []),
  (nat_lit 461, nat_lit 0, nat_lit 1, nat_lit 4, []),
  (nat_lit 462, nat_lit 0, nat_lit 0, nat_lit 4, []),
  (nat_lit 463, nat_lit 0, nat_lit 5, nat_lit 0, []),
  (nat_lit 465, nat_lit 1, nat_lit 0, nat_lit 0, [nat_lit 0, nat_lit 1, nat_lit 0]),
  (nat_lit 466, nat_lit 4, nat_lit 0, nat_lit 0, []),
  (nat_lit 467, nat_lit 10, nat_lit 0, nat_lit 100, []),
  (nat_lit 468, nat_lit 0, nat_lit 0, nat_lit 4, []),
  (nat_lit 469, nat_lit 0, nat_lit 5, nat_lit 0, []),
  (nat_lit 471, nat_lit 1, nat_lit 0, nat_lit 0, [nat_lit 0, nat_lit 2, nat_lit 0]),
  (nat_lit 472, nat_lit 4, nat_lit 0, nat_lit 0, []),
  (nat_lit 473, nat_lit 10, nat_lit 0, nat_lit 100, []),
  (nat_lit 474, nat_lit 0, nat_lit 0, nat_lit 4, []),
  (nat_lit 475, nat_lit 0, nat_lit 5, nat_lit 0, []),
  (nat_lit 477, nat_lit 1, nat_lit 0, nat_lit 0, [nat_lit 0, nat_lit 3, nat_lit 0]),
  (nat_lit 478, nat_lit 4, nat_lit 0, nat_lit 0, []),
  (nat_lit 479, nat_lit 10, nat_lit 0, nat_lit 100, []),
  (nat_lit 480, nat_lit 0, nat_lit 0, nat_lit 4, []),
  (nat_lit 481, nat_lit 0, nat_lit 5, nat_lit 0, []),
  (nat_lit 483, nat_lit 1, nat_lit 0, nat_lit 0, [nat_lit 0, nat_lit 4, nat_lit 0]),
  (nat_lit 484, nat_lit 4, nat_lit 0, nat_lit 0, []),
  (nat_lit 485, nat_lit 10, nat_lit 0, nat_lit 100, []),
  (nat_lit 486, nat_lit 0, nat_lit 3, nat_lit 4, []),
  (nat_lit 487, nat_lit 15, nat_lit 192, nat_lit 6, [nat_lit 4, nat_lit 99]),
  (nat_lit 490, nat_lit 2, nat_lit 6, nat_lit 0, []),
  (nat_lit 492, nat_lit 0, nat_lit 2, nat_lit 4, []),
  (nat_lit 493, nat_lit 0, nat_lit 0, nat_lit 4, []),
  (nat_lit 494, nat_lit 0, nat_lit 5, nat_lit 0, []),
  (nat_lit 496, nat_lit 1, nat_lit 0, nat_lit 0, [nat_lit 0, nat_lit 1, nat_lit 0]),
  (nat_lit 497, nat_lit 4, nat_lit 0, nat_lit 0, []),
  (nat_lit 498, nat_lit 10, nat_lit 0, nat_lit 100, []),
  (nat_lit 499, nat_lit 0, nat_lit 0, nat_lit 4, []),
  (nat_lit 500, nat_lit 0, nat_lit 5, nat_lit 0, []),
  (nat_lit 502, nat_lit 1, nat_lit 0, nat_lit 0, [nat_lit 0, nat_lit 2, nat_lit 0]),
  (nat_lit 503, nat_lit 4, nat_lit 0, nat_lit 0, []),
  (nat_lit 504, nat_lit 10, nat_lit 0, nat_lit 100, []),
  (nat_lit 505, nat_lit 0, nat_lit 0, nat_lit 4, []),
  (nat_lit 506, nat_lit 0, nat_lit 5, nat_lit 0, []),
  (nat_lit 508, nat_lit 1, nat_lit 0, nat_lit 0, [nat_lit 0, nat_lit 3, nat_lit 0]),
  (nat_lit 509, nat_lit 4, nat_lit 0, nat_lit 0, []),
  (nat_lit 510, nat_lit 10, nat_lit 0, nat_lit 100, []),
  (nat_lit 511, nat_lit 0, nat_lit 0, nat_lit 4, []),
  (nat_lit 512, nat_lit 0, nat_lit 5, nat_lit 0, []),
  (nat_lit 514, nat_lit 1, nat_lit 0, nat_lit 0, [nat_lit 0, nat_lit 4, nat_lit 0]),
  (nat_lit 515, nat_lit 4, nat_lit 0, nat_lit 0, []),
  (nat_lit 516, nat_lit 10, nat_lit 0, nat_lit 100, []),
  (nat_lit 517, nat_lit 15, nat_lit 145, nat_lit 5, [nat_lit 0, nat_lit 10]),
  (nat_lit 520, nat_lit 2, nat_lit 7, nat_lit 0, []),
  (nat_lit 522, nat_lit 0, nat_lit 2, nat_lit 4, []),
  (nat_lit 523, nat_lit 15, nat_lit 177, nat_lit 1, [nat_lit 0, nat_lit 10]),
  (nat_lit 526, nat_lit 0, nat_lit 6, nat_lit 0, []),
  (nat_lit 528, nat_lit 6, nat_lit 533, nat_lit 0, []),
  (nat_lit 531, nat_lit 99, nat_lit 0, nat_lit 0, []),
  (nat_lit 532, nat_lit 99, nat_lit 0, nat_lit 0, []),
  (nat_lit 533, nat_lit 0, nat_lit 6, nat_lit 0, []),
  (nat_lit 535, nat_lit 5, nat_lit 550, nat_lit 1, []),
  (nat_lit 538, nat_lit 99, nat_lit 0, nat_lit 0, []),
  (nat_lit 539, nat_lit 99, nat_lit 0, nat_lit 0, []),
  (nat_lit 540, nat_lit 99, nat_lit 0, nat_lit 0, []),
  (nat_lit 541, nat_lit 99, nat_lit 0, nat_lit 0, []),
  (nat_lit 543, nat_lit 99, nat_lit 0, nat_lit 0, []),
  (nat_lit 544, nat_lit 99, nat_lit 0, nat_lit 0, []),
  (nat_lit 545, nat_lit 99, nat_lit 0, nat_lit 0, []),
  (nat_lit 548, nat_lit 99, nat_lit 0, nat_lit 0, []),
  (nat_lit 549, nat_lit 99, nat_lit 0, nat_lit 0, []),
  (nat_lit 550, nat_lit 7, nat_lit 2233, nat_lit 0, []),
  (nat_lit 553, nat_lit 0, nat_lit 1, nat_lit 4, []),
  (nat_lit 554, nat_lit 0, nat_lit 0, nat_lit 4, []),
  (nat_lit 555, nat_lit 0, nat_lit 5, nat_lit 0, []),
  (nat_lit 557, nat_lit 1, nat_lit 0, nat_lit 0, [nat_lit 0, nat_lit 1, nat_lit 0]),
  (nat_lit 558, nat_lit 4, nat_lit 0, nat_lit 0, []),
  (nat_lit 559, nat_lit 10, nat_lit 0, nat_lit 100, []),
  (nat_lit 560, nat_lit 5, nat_lit 567, nat_lit 0, []),
  (nat_lit 563, nat_lit 1, nat_lit 0, nat_lit 0, [nat_lit 0, nat_lit 1, nat_lit 0]),
  (nat_lit 564, nat_lit 7, nat_lit 568, nat_lit 0, []),
  (nat_lit 567, nat_lit 1, nat_lit 0, nat_lit 0, [nat_lit 0, nat_lit 0, nat_lit 0]),
  (nat_lit 568, nat_lit 0, nat_lit 0, nat_lit 4, []),
  (nat_lit 569, nat_lit 0, nat_lit 5, nat_lit 0, []),
  (nat_lit 571, nat_lit 1, nat_lit 0, nat_lit 0, [nat_lit 0, nat_lit 2, nat_lit 0]),
  (nat_lit 572, nat_lit 4, nat_lit 0, nat_lit 0, []),
  (nat_lit 573, nat_lit 10, nat_lit 0, nat_lit 100, []),
  (nat_lit 574, nat_lit 0, nat_lit 0, nat_lit 4, []),
  (nat_lit 575, nat_lit 0, nat_lit 5, nat_lit 0, []),
  (nat_lit 577, nat_lit 1, nat_lit 0, nat_lit 0, [nat_lit 0, nat_lit 3, nat_lit 0]),
  (nat_lit 578, nat_lit 4, nat_lit 0, nat_lit 0, []),
  (nat_lit 579, nat_lit 10, nat_lit 0, nat_lit 100, []),
  (nat_lit 580, nat_lit 0, nat_lit 3, nat_lit 4, []),
  (nat_lit 581, nat_lit 15, nat_lit 182, nat_lit 5, [nat_lit 4, nat_lit 99]),
  (nat_lit 584, nat_lit 2, nat_lit 6, nat_lit 0, []),
  (nat_lit 586, nat_lit 0, nat_lit 2, nat_lit 4, []),
  (nat_lit 587, nat_lit 0, nat_lit 0, nat_lit 4, []),
  (nat_lit 588, nat_lit 0, nat_lit 5, nat_lit 0, []),
  (nat_lit 590, nat_lit 1, nat_lit 0, nat_lit 0, [nat_lit 0, nat_lit 1, nat_lit 0]),
  (nat_lit 591, nat_lit 4, nat_lit 0, nat_lit 0, []),
  (nat_lit 592, nat_lit 10, nat_lit 0, nat_lit 100, []),
  (nat_lit 593, nat_lit 5, nat_lit 600, nat_lit 0, []),
  (nat_lit 596, nat_lit 1, nat_lit 0, nat_lit 0, [nat_lit 0, nat_lit 1, nat_lit 0]),
  (nat_lit 597, nat_lit 7, nat_lit 601, nat_lit 0, []),
  (nat_lit 600, nat_lit 1, nat_lit 0, nat_lit 0, [nat_lit 0, nat_lit 0, nat_lit 0]),
  (nat_lit 601, nat_lit 0, nat_lit 0, nat_lit 4, []),
  (nat_lit 602, nat_lit 0, nat_lit 5, nat_lit 0, []),
  (nat_lit 604, nat_lit 1, nat_lit 0, nat_lit 0, [nat_lit 0, nat_lit 2, nat_lit 0]),
  (nat_lit 605, nat_lit 4, nat_lit 0, nat_lit 0, []),
  (nat_lit 606, nat_lit 10, nat_lit 0, nat_lit 100, []),
  (nat_lit 607, nat_lit 0, nat_lit 0, nat_lit 4, []),
  (nat_lit 608, nat_lit 0, nat_lit 5, nat_lit 0, []),
  (nat_lit 610, nat_lit 1, nat_lit 0, nat_lit 0, [nat_lit 0, nat_lit 3, nat_lit 0]),
  (nat_lit 611, nat_lit 4, nat_lit 0, nat_lit 0, []),
  (nat_lit 612, nat_lit 10, nat_lit 0, nat_lit 100, []),
  (nat_lit 613, nat_lit 15, nat_lit 112, nat_lit 4, [nat_lit 0, nat_lit 10]),
  (nat_lit 616, nat_lit 2, nat_lit 7, nat_lit 0, []),
  (nat_lit 618, nat_lit 0, nat_lit 2, nat_lit 4, []),
  (nat_lit 619, nat_lit 15, nat_lit 177, nat_lit 1, [nat_lit 0, nat_lit 10]),
  (nat_lit 622, nat_lit 0, nat_lit 6, nat_lit 0, []),
  (nat_lit 624, nat_lit 6, nat_lit 629, nat_lit 0, []),
  (nat_lit 627, nat_lit 99, nat_lit 0, nat_lit 0, []),
  (nat_lit 628, nat_lit 99, nat_lit 0, nat_lit 0, []),
  (nat_lit 629, nat_lit 0, nat_lit 6, nat_lit 0, []),
  (nat_lit 631, nat_lit 5, nat_lit 646, nat_lit 1, []),
  (nat_lit 634, nat_lit 99, nat_lit 0, nat_lit 0, []),
  (nat_lit 635, nat_lit 99, nat_lit 0, nat_lit 0, []),
  (nat_lit 636, nat_lit 99, nat_lit 0, nat_lit 0, []),
  (nat_lit 637, nat_lit 99, nat_lit 0, nat_lit 0, []),
  (nat_lit 639, nat_lit 99, nat_lit 0, nat_lit 0, []),
  (nat_lit 640, nat_lit 99, nat_lit 0, nat_lit 0, []),
  (nat_lit 641, nat_lit 99, nat_lit 0, nat_lit 0, []),
  (nat_lit 644, nat_lit 99, nat_lit 0, nat_lit 0, []),
  (nat_lit 645, nat_lit 99, nat_lit 0, nat_lit 0, []),
  (nat_lit 646, nat_lit 7, nat_lit 2233, nat_lit 0, []),
  (nat_lit 649, nat_lit 0, nat_lit 1, nat_lit 4, []),
  (nat_lit 650, nat_lit 0, nat_lit 0, nat_lit 4, []),
  (nat_lit 651, nat_lit 0, nat_lit 5, nat_lit 0, []),
  (nat_lit 653, nat_lit 1, nat_lit 0, nat_lit 0, [nat_lit 0, nat_lit 1, nat_lit 0]),
  (nat_lit 654, nat_lit 4, nat_lit 0, nat_lit 0, []),
  (nat_lit 655, nat_lit 10, nat_lit 0, nat_lit 100, []),
  (nat_lit 656, nat_lit 0, nat_lit 0, nat_lit 4, []),
  (nat_lit 657, nat_lit 0, nat_lit 5, nat_lit 0, []),
  (nat_lit 659, nat_lit 1, nat_lit 0, nat_lit 0, [nat_lit 0, nat_lit 2, nat_lit 0]),
  (nat_lit 660, nat_lit 4, nat_lit 0, nat_lit 0, []),
  (nat_lit 661, nat_lit 10, nat_lit 0, nat_lit 100, []),
  (nat_lit 662, nat_lit 0, nat_lit 0, nat_lit 4, []),
  (nat_lit 663, nat_lit 0, nat_lit 5, nat_lit 0, []),
  (nat_lit 665, nat_lit 1, nat_lit 0, nat_lit 0, [nat_lit 0, nat_lit 3, nat_lit 0]),
  (nat_lit 666, nat_lit 4, nat_lit 0, nat_lit 0, []),
  (nat_lit 667, nat_lit 10, nat_lit 0, nat_lit 100, []),
  (nat_lit 668, nat_lit 0, nat_lit 3, nat_lit 4, []),
  (nat_lit 669, nat_lit 15, nat_lit 184, nat_lit 5, [nat_lit 4, nat_lit 99]),
  (nat_lit 672, nat_lit 2, nat_lit 6, nat_lit 0, []),
  (nat_lit 674, nat_lit 0, nat_lit 2, nat_lit 4, []),
  (nat_lit 675, nat_lit 0, nat_lit 0, nat_lit 4, []),
  (nat_lit 676, nat_lit 0, nat_lit 5, nat_lit 0, []),
  (nat_lit 678, nat_lit 1, nat_lit 0, nat_lit 0, [nat_lit 0, nat_lit 1, nat_lit 0]),
  (nat_lit 679, nat_lit 4, nat_lit 0, nat_lit 0, []),
  (nat_lit 680, nat_lit 10, nat_lit 0, nat_lit 100, []),
  (nat_lit 681, nat_lit 0, nat_lit 0, nat_lit 4, []),
  (nat_lit 682, nat_lit 0, nat_lit 5, nat_lit 0, []),
  (nat_lit 684, nat_lit 1, nat_lit 0, nat_lit 0, [nat_lit 0, nat_lit 2, nat_lit 0]),
  (nat_lit 685, nat_lit 4, nat_lit 0, nat_lit 0, []),
  (nat_lit 686, nat_lit 10, nat_lit 0, nat_lit 100, []),
  (nat_lit 687, nat_lit 0, nat_lit 0, nat_lit 4, []),
  (nat_lit 688, nat_lit 0, nat_lit 5, nat_lit 0, []),
  (nat_lit 690, nat_lit 1, nat_lit 0, nat_lit 0, [nat_lit 0, nat_lit 3, nat_lit 0]),
  (nat_lit 691, nat_lit 4, nat_lit 0, nat_lit 0, []),
  (nat_lit 692, nat_lit 10, nat_lit 0, nat_lit 100, []),
  (nat_lit 693, nat_lit 15, nat_lit 115, nat_lit 4, [nat_lit 0, nat_lit 10]),
  (nat_lit 696, nat_lit 2, nat_lit 7, nat_lit 0, []),
  (nat_lit 698, nat_lit 0, nat_lit 2, nat_lit 4, []),
  (nat_lit 699, nat_lit 15, nat_lit 177, nat_lit 1, [nat_lit 0, nat_lit 10]),
  (nat_lit 702, nat_lit 0, nat_lit 6, nat_lit 0, []),
  (nat_lit 704, nat_lit 6, nat_lit 709, nat_lit 0, []),
  (nat_lit 707, nat_lit 99, nat_lit 0, nat_lit 0, []),
  (nat_lit 708, nat_lit 99, nat_lit 0, nat_lit 0, []),
  (nat_lit 709, nat_lit 0, nat_lit 6, nat_lit 0, []),
  (nat_lit 711, nat_lit 5, nat_lit 726, nat_lit 1, []),
  (nat_lit 714, nat_lit 99, nat_lit 0, nat_lit 0, []),
  (nat_lit 715, nat_lit 99, nat_lit 0, nat_lit 0, []),
  (nat_lit 716, nat_lit 99, nat_lit 0, nat_lit 0, []),
  (nat_lit 717, nat_lit 99, nat_lit 0, nat_lit 0, []),
  (nat_lit 719, nat_lit 99, nat_lit 0, nat_lit 0, []),
  (nat_lit 720, nat_lit 99, nat_lit 0, nat_lit 0, []),
  (nat_lit 721, nat_lit 99, nat_lit 0, nat_lit 0, []),
  (nat_lit 724, nat_lit 99, nat_lit 0, nat_lit 0, []),
  (nat_lit 725, nat_lit 99, nat_lit 0, nat_lit 0, []),
  (nat_lit 726, nat_lit 7, nat_lit 2233, nat_lit 0, []),
  (nat_lit 729, nat_lit 0, nat_lit 1, nat_lit 4, []),
  (nat_lit 730, nat_lit 0, nat_lit 0, nat_lit 4, []),
  (nat_lit 731, nat_lit 0, nat_lit 5, nat_lit 0, []),
  (nat_lit 733, nat_lit 1, nat_lit 0, nat_lit 0, [nat_lit 0, nat_lit 1, nat_lit 0]),
  (nat_lit 734, nat_lit 4, nat_lit 0, nat_lit 0, []),
  (nat_lit 735, nat_lit 10, nat_lit 0, nat_lit 100, []),
  (nat_lit 736, nat_lit 0, nat_lit 0, nat_lit 4, []),
  (nat_lit 737, nat_lit 0, nat_lit 5, nat_lit 0, []),
  (nat_lit 739, nat_lit 1, nat_lit 0, nat_lit 0, [nat_lit 0, nat_lit 2, nat_lit 0]),
  (nat_lit 740, nat_lit 4, nat_lit 0, nat_lit 0, []),
  (nat_lit 741, nat_lit 10, nat_lit 0, nat_lit 100, []),
  (nat_lit 742, nat_lit 0, nat_lit 3, nat_lit 4, []),
  (nat_lit 743, nat_lit 15, nat_lit 195, nat_lit 4, [nat_lit 4, nat_lit 99]),
  (nat_lit 746, nat_lit 2, nat_lit 6, nat_lit 0, []),
  (nat_lit 748, nat_lit 0, nat_lit 2, nat_lit 4, []),
  (nat_lit 749, nat_lit 0, nat_lit 0, nat_lit 4, []),
  (nat_lit 750, nat_lit 0, nat_lit 5, nat_lit 0, []),
  (nat_lit 752, nat_lit 1, nat_lit 0, nat_lit 0, [nat_lit 0, nat_lit 1, nat_lit 0]),
  (nat_lit 753, nat_lit 4, nat_lit 0, nat_lit 0, []),
  (nat_lit 754, nat_lit 10, nat_lit 0, nat_lit 100, []),
  (nat_lit 755, nat_lit 0, nat_lit 0, nat_lit 4, []),
  (nat_lit 756, nat_lit 0, nat_lit 5, nat_lit 0, []),
  (nat_lit 758, nat_lit 1, nat_lit 0, nat_lit 0, [nat_lit 0, nat_lit 2, nat_lit 0]),
  (nat_lit 759, nat_lit 4, nat_lit 0, nat_lit 0, []),
  (nat_lit 760, nat_lit 10, nat_lit 0, nat_lit 100, []),
  (nat_lit 761, nat_lit 15, nat_lit 149, nat_lit 3, [nat_lit 0, nat_lit 10]),
  (nat_lit 764, nat_lit 2, nat_lit 7, nat_lit 0, []),
  (nat_lit 766, nat_lit 0, nat_lit 2, nat_lit 4, []),
  (nat_lit 767, nat_lit 15, nat_lit 177, nat_lit 1, [nat_lit 0, nat_lit 10]),
  (nat_lit 770, nat_lit 0, nat_lit 6, nat_lit 0, []),
  (nat_lit 772, nat_lit 6, nat_lit 777, nat_lit 0, []),
  (nat_lit 775, nat_lit 99, nat_lit 0, nat_lit 0, []),
  (nat_lit 776, nat_lit 99, nat_lit 0, nat_lit 0, []),
  (nat_lit 777, nat_lit 0, nat_lit 6, nat_lit 0, []),
  (nat_lit 779, nat_lit 5, nat_lit 801, nat_lit 1, []),
  (nat_lit 782, nat_lit 99, nat_lit 0, nat_lit 0, []),
  (nat_lit 783, nat_lit 99, nat_lit 0, nat_lit 0, []),
  (nat_lit 784, nat_lit 99, nat_lit 0, nat_lit 0, []),
  (nat_lit 785, nat_lit 99, nat_lit 0, nat_lit 0, []),
  (nat_lit 787, nat_lit 99, nat_lit 0, nat_lit 0, []),
  (nat_lit 790, nat_lit 99, nat_lit 0, nat_lit 0, []),
  (nat_lit 791, nat_lit 99, nat_lit 0, nat_lit 0, []),
  (nat_lit 794, nat_lit 99, nat_lit 0, nat_lit 0, []),
  (nat_lit 795, nat_lit 99, nat_lit 0, nat_lit 0, []),
  (nat_lit 796, nat_lit 99, nat_lit 0, nat_lit 0, []),
  (nat_lit 799, nat_lit 99, nat_lit 0, nat_lit 0, []),
  (nat_lit 800, nat_lit 99, nat_lit 0, nat_lit 0, []),
  (nat_lit 801, nat_lit 7, nat_lit 2233, nat_lit 0, []),
  (nat_lit 804, nat_lit 0, nat_lit 1, nat_lit 4, []),
  (nat_lit 805, nat_lit 0, nat_lit 0, nat_lit 4, []),
  (nat_lit 806, nat_lit 0, nat_lit 5, nat_lit 0, []),
  (nat_lit 808, nat_lit 1, nat_lit 0, nat_lit 0, [nat_lit 0, nat_lit 1, nat_lit 0]),
  (nat_lit 809, nat_lit 4, nat_lit 0, nat_lit 0, []),
  (nat_lit 810, nat_lit 10, nat_lit 0, nat_lit 100, []),
  (nat_lit 811, nat_lit 0, nat_lit 0, nat_lit 4, []),
  (nat_lit 812, nat_lit 0, nat_lit 5, nat_lit 0, []),
  (nat_lit 814, nat_lit 1, nat_lit 0, nat_lit 0, [nat_lit 0, nat_lit 2, nat_lit 0]),
  (nat_lit 815, nat_lit 4, nat_lit 0, nat_lit 0, []),
  (nat_lit 816, nat_lit 10, nat_lit 0, nat_lit 100, []),
  (nat_lit 817, nat_lit 0, nat_lit 3, nat_lit 4, []),
  (nat_lit 818, nat_lit 15, nat_lit 183, nat_lit 4, [nat_lit 4, nat_lit 99]),
  (nat_lit 821, nat_lit 2, nat_lit 6, nat_lit 0, []),
  (nat_lit 823, nat_lit 0, nat_lit 2, nat_lit 4, []),
  (nat_lit 824, nat_lit 0, nat_lit 0, nat_lit 4, []),
  (nat_lit 825, nat_lit 0, nat_lit 5, nat_lit 0, []),
  (nat_lit 827, nat_lit 1, nat_lit 0, nat_lit 0, [nat_lit 0, nat_lit 1, nat_lit 0]),
  (nat_lit 828, nat_lit 4, nat_lit 0, nat_lit 0, []),
  (nat_lit 829, nat_lit 10, nat_lit 0, nat_lit 100, []),
  (nat_lit 830, nat_lit 0, nat_lit 0, nat_lit 4, []),
  (nat_lit 831, nat_lit 0, nat_lit 5, nat_lit 0, []),
  (nat_lit 833, nat_lit 1, nat_lit 0, nat_lit 0, [nat_lit 0, nat_lit 2, nat_lit 0]),
  (nat_lit 834, nat_lit 4, nat_lit 0, nat_lit 0, []),
  (nat_lit 835, nat_lit 10, nat_lit 0, nat_lit 100, []),
  (nat_lit 836, nat_lit 15, nat_lit 113, nat_lit 3, [nat_lit 0, nat_lit 10]),
  (nat_lit 839, nat_lit 2, nat_lit 7, nat_lit 0, []),
  (nat_lit 841, nat_lit 0, nat_lit 2, nat_lit 4, []),
  (nat_lit 842, nat_lit 15, nat_lit 177, nat_lit 1, [nat_lit 0, nat_lit 10]),
  (nat_lit 845, nat_lit 0, nat_lit 6, nat_lit 0, []),
  (nat_lit 847, nat_lit 6, nat_lit 852, nat_lit 0, []),
  (nat_lit 850, nat_lit 99, nat_lit 0, nat_lit 0, []),
  (nat_lit 851, nat_lit 99, nat_lit 0, nat_lit 0, []),
  (nat_lit 852, nat_lit 0, nat_lit 6, nat_lit 0, []),
  (nat_lit 854, nat_lit 5, nat_lit 869, nat_lit 1, []),
  (nat_lit 857, nat_lit 99, nat_lit 0, nat_lit 0, []),
  (nat_lit 858, nat_lit 99, nat_lit 0, nat_lit 0, []),
  (nat_lit 859, nat_lit 99, nat_lit 0, nat_lit 0, []),
  (nat_lit 860, nat_lit 99, nat_lit 0, nat_lit 0, []),
  (nat_lit 862, nat_lit 99, nat_lit 0, nat_lit 0, []),
  (nat_lit 863, nat_lit 99, nat_lit 0, nat_lit 0, []),
  (nat_lit 864, nat_lit 99, nat_lit 0, nat_lit 0, []),
  (nat_lit 867, nat_lit 99, nat_lit 0, nat_lit 0, []),
  (nat_lit 868, nat_lit 99, nat_lit 0, nat_lit 0, []),
  (nat_lit 869, nat_lit 7, nat_lit 2233, nat_lit 0, []),
  (nat_lit 872, nat_lit 0, nat_lit 1, nat_lit 4, []),
  (nat_lit 873, nat_lit 0, nat_lit 0, nat_lit 4, []),
  (nat_lit 874, nat_lit 0, nat_lit 5, nat_lit 0, []),
  (nat_lit 876, nat_lit 1, nat_lit 0, nat_lit 0, [nat_lit 0, nat_lit 1, nat_lit 0]),
  (nat_lit 877, nat_lit 4, nat_lit 0, nat_lit 0, []),
  (nat_lit 878, nat_lit 10, nat_lit 0, nat_lit 100, []),
  (nat_lit 879, nat_lit 0, nat_lit 0, nat_lit 4, []),
  (nat_lit 880, nat_lit 0, nat_lit 5, nat_lit 0, []),
  (nat_lit 882, nat_lit 1, nat_lit 0, nat_lit 0, [nat_lit 0, nat_lit 2, nat_lit 0]),
  (nat_lit 883, nat_lit 4, nat_lit 0, nat_lit 0, []),
  (nat_lit 884, nat_lit 10, nat_lit 0, nat_lit 100, []),
  (nat_lit 885, nat_lit 0, nat_lit 0, nat_lit 4, []),
  (nat_lit 886, nat_lit 0, nat_lit 5, nat_lit 0, []),
  (nat_lit 888, nat_lit 1, nat_lit 0, nat_lit 0, [nat_lit 0, nat_lit 3, nat_lit 0]),
  (nat_lit 889, nat_lit 4, nat_lit 0, nat_lit 0, []),
  (nat_lit 890, nat_lit 10, nat_lit 0, nat_lit 100, []),
  (nat_lit 891, nat_lit 0, nat_lit 0, nat_lit 4, []),
  (nat_lit 892, nat_lit 0, nat_lit 5, nat_lit 0, []),
  (nat_lit 894, nat_lit 1, nat_lit 0, nat_lit 0, [nat_lit 0, nat_lit 4, nat_lit 0]),
  (nat_lit 895, nat_lit 4, nat_lit 0, nat_lit 0, []),
  (nat_lit 896, nat_lit 10, nat_lit 0, nat_lit 100, []),
  (nat_lit 897, nat_lit 0, nat_lit 3, nat_lit 4, []),
  (nat_lit 898, nat_lit 15, nat_lit 185, nat_lit 6, [nat_lit 4, nat_lit 99]),
  (nat_lit 901, nat_lit 2, nat_lit 6, nat_lit 0, []),
  (nat_lit 903, nat_lit 0, nat_lit 2, nat_lit 4, []),
  (nat_lit 904, nat_lit 0, nat_lit 0, nat_lit 4, []),
  (nat_lit 905, nat_lit 0, nat_lit 5, nat_lit 0, []),
  (nat_lit 907, nat_lit 1, nat_lit 0, nat_lit 0, [nat_lit 0, nat_lit 1, nat_lit 0]),
  (nat_lit 908, nat_lit 4, nat_lit 0, nat_lit 0, []),
  (nat_lit 909, nat_lit 10, nat_lit 0, nat_lit 100, []),
  (nat_lit 910, nat_lit 0, nat_lit 0, nat_lit 4, []),
  (nat_lit 911, nat_lit 0, nat_lit 5, nat_lit 0, []),
  (nat_lit 913, nat_lit 1, nat_lit 0, nat_lit 0, [nat_lit 0, nat_lit 2, nat_lit 0]),
  (nat_lit 914, nat_lit 4, nat_lit 0, nat_lit 0, []),
  (nat_lit 915, nat_lit 10, nat_lit 0, nat_lit 100, []),
  (nat_lit 916, nat_lit 0, nat_lit 0, nat_lit 4, []),
  (nat_lit 917, nat_lit 0, nat_lit 5, nat_lit 0, []),
  (nat_lit 919, nat_lit 1, nat_lit 0, nat_lit 0, [nat_lit 0, nat_lit 3, nat_lit 0]),
  (nat_lit 920, nat_lit 4, nat_lit 0, nat_lit 0, []),
  (nat_lit 921, nat_lit 10, nat_lit 0, nat_lit 100, []),
  (nat_lit 922, nat_lit 0, nat_lit 0, nat_lit 4, []),
  (nat_lit 923, nat_lit 0, nat_lit 5, nat_lit 0, []),
  (nat_lit 925, nat_lit 1, nat_lit 0, nat_lit 0, [nat_lit 0, nat_lit 4, nat_lit 0]),
  (nat_lit 926, nat_lit 4, nat_lit 0, nat_lit 0, []),
  (nat_lit 927, nat_lit 10, nat_lit 0, nat_lit 100, []),
  (nat_lit 928, nat_lit 15, nat_lit 120, nat_lit 5, [nat_lit 0, nat_lit 10]),
  (nat_lit 931, nat_lit 2, nat_lit 7, nat_lit 0, []),
  (nat_lit 933, nat_lit 0, nat_lit 2, nat_lit 4, []),
  (nat_lit 934, nat_lit 15, nat_lit 177, nat_lit 1, [nat_lit 0, nat_lit 10]),
  (nat_lit 937, nat_lit 0, nat_lit 6, nat_lit 0, []),
  (nat_lit 939, nat_lit 6, nat_lit 944, nat_lit 0, []),
  (nat_lit 942, nat_lit 99, nat_lit 0, nat_lit 0, []),
  (nat_lit 943, nat_lit 99, nat_lit 0, nat_lit 0, []),
  (nat_lit 944, nat_lit 0, nat_lit 6, nat_lit 0, []),
  (nat_lit 946, nat_lit 5, nat_lit 961, nat_lit 1, []),
  (nat_lit 949, nat_lit 0, nat_lit 3, nat_lit 4, []),
  (nat_lit 950, nat_lit 1, nat_lit 0, nat_lit 0, [nat_lit 0, nat_lit 0, nat_lit 0]),
  (nat_lit 951, nat_lit 10, nat_lit 0, nat_lit 103, []),
  (nat_lit 952, nat_lit 0, nat_lit 7, nat_lit 0, []),
  (nat_lit 954, nat_lit 20, nat_lit 0, nat_lit 0, []),
  (nat_lit 955, nat_lit 21, nat_lit 0, nat_lit 0, []),
  (nat_lit 956, nat_lit 5, nat_lit 961, nat_lit 0, []),
  (nat_lit 959, nat_lit 99, nat_lit 0, nat_lit 0, []),
  (nat_lit 960, nat_lit 99, nat_lit 0, nat_lit 0, []),
  (nat_lit 961, nat_lit 7, nat_lit 2233, nat_lit 0, []),
  (nat_lit 964, nat_lit 0, nat_lit 1, nat_lit 4, []),
  (nat_lit 965, nat_lit 0, nat_lit 0, nat_lit 4, []),
  (nat_lit 966, nat_lit 0, nat_lit 5, nat_lit 0, []),
  (nat_lit 968, nat_lit 1, nat_lit 0, nat_lit 0, [nat_lit 0, nat_lit 1, nat_lit 0]),
  (nat_lit 969, nat_lit 4, nat_lit 0, nat_lit 0, []),
  (nat_lit 970, nat_lit 10, nat_lit 0, nat_lit 100, []),
  (nat_lit 971, nat_lit 0, nat_lit 0, nat_lit 4, []),
  (nat_lit 972, nat_lit 0, nat_lit 5, nat_lit 0, []),
  (nat_lit 974, nat_lit 1, nat_lit 0, nat_lit 0, [nat_lit 0, nat_lit 2, nat_lit 0]),
  (nat_lit 975, nat_lit 4, nat_lit 0, nat_lit 0, []),
  (nat_lit 976, nat_lit 10, nat_lit 0, nat_lit 100, []),
  (nat_lit 977, nat_lit 0, nat_lit 3, nat_lit 4, []),
  (nat_lit 978, nat_lit 15, nat_lit 197, nat_lit 4, [nat_lit 4, nat_lit 99]),
  (nat_lit 981, nat_lit 2, nat_lit 6, nat_lit 0, []),
  (nat_lit 983, nat_lit 0, nat_lit 2, nat_lit 4, []),
  (nat_lit 984, nat_lit 0, nat_lit 0, nat_lit 4, []),
  (nat_lit 985, nat_lit 0, nat_lit 5, nat_lit 0, []),
  (nat_lit 987, nat_lit 1, nat_lit 0, nat_lit 0, [nat_lit 0, nat_lit 1, nat_lit 0]),
  (nat_lit 988, nat_lit 4, nat_lit 0, nat_lit 0, []),
  (nat_lit 989, nat_lit 10, nat_lit 0, nat_lit 100, []),
  (nat_lit 990, nat_lit 0, nat_lit 0, nat_lit 4, []),
  (nat_lit 991, nat_lit 0, nat_lit 5, nat_lit 0, []),
  (nat_lit 993, nat_lit 1, nat_lit 0, nat_lit 0, [nat_lit 0, nat_lit 2, nat_lit 0]),
  (nat_lit 994, nat_lit 4, nat_lit 0, nat_lit 0, []),
  (nat_lit 995, nat_lit 10, nat_lit 0, nat_lit 100, []),
  (nat_lit 996, nat_lit 15, nat_lit 156, nat_lit 3, [nat_lit 0, nat_lit 10]),
  (nat_lit 999, nat_lit 2, nat_lit 7, nat_lit 0, []),
  (nat_lit 1001, nat_lit 0, nat_lit 2, nat_lit 4, []),
  (nat_lit 1002, nat_lit 15, nat_lit 177, nat_lit 1, [nat_lit 0, nat_lit 10]),
  (nat_lit 1005, nat_lit 0, nat_lit 6, nat_lit 0, []),
  (nat_lit 1007, nat_lit 6, nat_lit 1012, nat_lit 0, []),
  (nat_lit 1010, nat_lit 99, nat_lit 0, nat_lit 0, []),
  (nat_lit 1011, nat_lit 99, nat_lit 0, nat_lit 0, []),
  (nat_lit 1012, nat_lit 0, nat_lit 6, nat_lit 0, []),
  (nat_lit 1014, nat_lit 5, nat_lit 1029, nat_lit 1, []),
  (nat_lit 1017, nat_lit 99, nat_lit 0, nat_lit 0, []),
  (nat_lit 1018, nat_lit 99, nat_lit 0, nat_lit 0, []),
  (nat_lit 1019, nat_lit 99, nat_lit 0, nat_lit 0, []),
  (nat_lit 1020, nat_lit 99, nat_lit 0, nat_lit 0, []),
  (nat_lit 1022, nat_lit 99, nat_lit 0, nat_lit 0, []),
  (nat_lit 1023, nat_lit 99, nat_lit 0, nat_lit 0, []),
  (nat_lit 1024, nat_lit 99, nat_lit 0, nat_lit 0, []),
  (nat_lit 1027, nat_lit 99, nat_lit 0, nat_lit 0, []),
  (nat_lit 1028, nat_lit 99, nat_lit 0, nat_lit 0, []),
  (nat_lit 1029, nat_lit 7, nat_lit 2233, nat_lit 0, []),
  (nat_lit 1032, nat_lit 0, nat_lit 1, nat_lit 4, []),
  (nat_lit 1033, nat_lit 0, nat_lit 0, nat_lit 4, []),
  (nat_lit 1034, nat_lit 0, nat_lit 5, nat_lit 0, []),
  (nat_lit 1036, nat_lit 1, nat_lit 0, nat_lit 0, [nat_lit 0, nat_lit 1, nat_lit 0]),
  (nat_lit 1037, nat_lit 4, nat_lit 0, nat_lit 0, []),
  (nat_lit 1038, nat_lit 10, nat_lit 0, nat_lit 100, []),
  (nat_lit 1039, nat_lit 0, nat_lit 4, nat_lit 4, []),
  (nat_lit 1041, nat_lit 15, nat_lit 204, nat_lit 3, [nat_lit 4, nat_lit 99]),
  (nat_lit 1044, nat_lit 2, nat_lit 6, nat_lit 0, []),
  (nat_lit 1046, nat_lit 0, nat_lit 2, nat_lit 4, []),
  (nat_lit 1047, nat_lit 0, nat_lit 0, nat_lit 4, []),
  (nat_lit 1048, nat_lit 0, nat_lit 5, nat_lit 0, []),
  (nat_lit 1050, nat_lit 1, nat_lit 0, nat_lit 0, [nat_lit 0, nat_lit 1, nat_lit 0]),
  (nat_lit 1051, nat_lit 4, nat_lit 0, nat_lit 0, []),
  (nat_lit 1052, nat_lit 10, nat_lit 0, nat_lit 100, []),
  (nat_lit 1053, nat_lit 15, nat_lit 172, nat_lit 2, [nat_lit 0, nat_lit 10]),
  (nat_lit 1056, nat_lit 2, nat_lit 7, nat_lit 2, []),
  (nat_lit 1058, nat_lit 0, nat_lit 2, nat_lit 4, []),
  (nat_lit 1059, nat_lit 15, nat_lit 177, nat_lit 1, [nat_lit 0, nat_lit 10]),
  (nat_lit 1062, nat_lit 0, nat_lit 6, nat_lit 0, []),
  (nat_lit 1064, nat_lit 6, nat_lit 1069, nat_lit 0, []),
  (nat_lit 1067, nat_lit 99, nat_lit 0, nat_lit 0, []),
  (nat_lit 1068, nat_lit 99, nat_lit 0, nat_lit 0, []),
  (nat_lit 1069, nat_lit 0, nat_lit 6, nat_lit 0, []),
  (nat_lit 1071, nat_lit 5, nat_lit 1107, nat_lit 1, []),
  (nat_lit 1074, nat_lit 0, nat_lit 4, nat_lit 4, []),
  (nat_lit 1076, nat_lit 1, nat_lit 0, nat_lit 0, [nat_lit 0, nat_lit 0, nat_lit 0]),
  (nat_lit 1077, nat_lit 10, nat_lit 0, nat_lit 104, []),
  (nat_lit 1078, nat_lit 0, nat_lit 7, nat_lit 2, []),
  (nat_lit 1080, nat_lit 20, nat_lit 3, nat_lit 0, []),
  (nat_lit 1081, nat_lit 22, nat_lit 0, nat_lit 3, []),
  (nat_lit 1082, nat_lit 5, nat_lit 1107, nat_lit 0, []),
  (nat_lit 1085, nat_lit 99, nat_lit 0, nat_lit 0, []),
  (nat_lit 1087, nat_lit 99, nat_lit 0, nat_lit 0, []),
  (nat_lit 1088, nat_lit 99, nat_lit 0, nat_lit 0, []),
  (nat_lit 1089, nat_lit 99, nat_lit 0, nat_lit 0, []),
  (nat_lit 1091, nat_lit 99, nat_lit 0, nat_lit 0, []),
  (nat_lit 1092, nat_lit 99, nat_lit 0, nat_lit 0, []),
  (nat_lit 1093, nat_lit 99, nat_lit 0, nat_lit 0, []),
  (nat_lit 1094, nat_lit 99, nat_lit 0, nat_lit 0, []),
  (nat_lit 1097, nat_lit 99, nat_lit 0, nat_lit 0, []),
  (nat_lit 1099, nat_lit 99, nat_lit 0, nat_lit 0, []),
  (nat_lit 1101, nat_lit 99, nat_lit 0, nat_lit 0, []),
  (nat_lit 1102, nat_lit 99, nat_lit 0, nat_lit 0, []),
  (nat_lit 1105, nat_lit 99, nat_lit 0, nat_lit 0, []),
  (nat_lit 1106, nat_lit 99, nat_lit 0, nat_lit 0, []),
  (nat_lit 1107, nat_lit 7, nat_lit 2233, nat_lit 0, []),
  (nat_lit 1110, nat_lit 0, nat_lit 1, nat_lit 4, []),
  (nat_lit 1111, nat_lit 0, nat_lit 0, nat_lit 4, []),
  (nat_lit 1112, nat_lit 0, nat_lit 5, nat_lit 0, []),
  (nat_lit 1114, nat_lit 1, nat_lit 0, nat_lit 0, [nat_lit 0, nat_lit 1, nat_lit 0]),
  (nat_lit 1115, nat_lit 4, nat_lit 0, nat_lit 0, []),
  (nat_lit 1116, nat_lit 10, nat_lit 0, nat_lit 100, []),
  (nat_lit 1117, nat_lit 0, nat_lit 4, nat_lit 4, []),
  (nat_lit 1119, nat_lit 15, nat_lit 194, nat_lit 3, [nat_lit 4, nat_lit 99]),
  (nat_lit 1122, nat_lit 2, nat_lit 6, nat_lit 0, []),
  (nat_lit 1124, nat_lit 0, nat_lit 2, nat_lit 4, []),
  (nat_lit 1125, nat_lit 0, nat_lit 0, nat_lit 4, []),
  (nat_lit 1126, nat_lit 0, nat_lit 5, nat_lit 0, []),
  (nat_lit 1128, nat_lit 1, nat_lit 0, nat_lit 0, [nat_lit 0, nat_lit 1, nat_lit 0]),
  (nat_lit 1129, nat_lit 4, nat_lit 0, nat_lit 0, []),
  (nat_lit 1130, nat_lit 10, nat_lit 0, nat_lit 100, []),
  (nat_lit 1131, nat_lit 15, nat_lit 148, nat_lit 2, [nat_lit 0, nat_lit 10]),
  (nat_lit 1134, nat_lit 2, nat_lit 7, nat_lit 3, []),
  (nat_lit 1136, nat_lit 0, nat_lit 2, nat_lit 4, []),
  (nat_lit 1137, nat_lit 15, nat_lit 177, nat_lit 1, [nat_lit 0, nat_lit 10]),
  (nat_lit 1140, nat_lit 0, nat_lit 6, nat_lit 0, []),
  (nat_lit 1142, nat_lit 6, nat_lit 1147, nat_lit 0, []),
  (nat_lit 1145, nat_lit 99, nat_lit 0, nat_lit 0, []),
  (nat_lit 1146, nat_lit 99, nat_lit 0, nat_lit 0, []),
  (nat_lit 1147, nat_lit 0, nat_lit 6, nat_lit 0, []),
  (nat_lit 1149, nat_lit 5, nat_lit 1184, nat_lit 1, []),
  (nat_lit 1152, nat_lit 0, nat_lit 4, nat_lit 4, []),
  (nat_lit 1154, nat_lit 1, nat_lit 0, nat_lit 0, [nat_lit 0, nat_lit 0, nat_lit 0]),
  (nat_lit 1155, nat_lit 10, nat_lit 0, nat_lit 104, []),
  (nat_lit 1156, nat_lit 0, nat_lit 7, nat_lit 3, []),
  (nat_lit 1158, nat_lit 22, nat_lit 0, nat_lit 3, []),
  (nat_lit 1159, nat_lit 5, nat_lit 1184, nat_lit 0, []),
  (nat_lit 1162, nat_lit 99, nat_lit 0, nat_lit 0, []),
  (nat_lit 1164, nat_lit 99, nat_lit 0, nat_lit 0, []),
  (nat_lit 1165, nat_lit 99, nat_lit 0, nat_lit 0, []),
  (nat_lit 1166, nat_lit 99, nat_lit 0, nat_lit 0, []),
  (nat_lit 1168, nat_lit 99, nat_lit 0, nat_lit 0, []),
  (nat_lit 1169, nat_lit 99, nat_lit 0, nat_lit 0, []),
  (nat_lit 1170, nat_lit 99, nat_lit 0, nat_lit 0, []),
  (nat_lit 1171, nat_lit 99, nat_lit 0, nat_lit 0, []),
  (nat_lit 1174, nat_lit 99, nat_lit 0, nat_lit 0, []),
  (nat_lit 1176, nat_lit 99, nat_lit 0, nat_lit 0, []),
  (nat_lit 1178, nat_lit 99, nat_lit 0, nat_lit 0, []),
  (nat_lit 1179, nat_lit 99, nat_lit 0, nat_lit 0, []),
  (nat_lit 1182, nat_lit 99, nat_lit 0, nat_lit 0, []),
  (nat_lit 1183, nat_lit 99, nat_lit 0, nat_lit 0, []),
  (nat_lit 1184, nat_lit 7, nat_lit 2233, nat_lit 0, []),
  (nat_lit 1187, nat_lit 0, nat_lit 1, nat_lit 4, []),
  (nat_lit 1188, nat_lit 0, nat_lit 0, nat_lit 4, []),
  (nat_lit 1189, nat_lit 0, nat_lit 5, nat_lit 0, []),
  (nat_lit 1191, nat_lit 1, nat_lit 0, nat_lit 0, [nat_lit 0, nat_lit 1, nat_lit 0]),
  (nat_lit 1192, nat_lit 4, nat_lit 0, nat_lit 0, []),
  (nat_lit 1193, nat_lit 10, nat_lit 0, nat_lit 100, []),
  (nat_lit 1194, nat_lit 0, nat_lit 3, nat_lit 4, []),
  (nat_lit 1195, nat_lit 15, nat_lit 202, nat_lit 3, [nat_lit 4, nat_lit 99]),
  (nat_lit 1198, nat_lit 2, nat_lit 6, nat_lit 0, []),
  (nat_lit 1200, nat_lit 0, nat_lit 2, nat_lit 4, []),
  (nat_lit 1201, nat_lit 0, nat_lit 0, nat_lit 4, []),
  (nat_lit 1202, nat_lit 0, nat_lit 5, nat_lit 0, []),
  (nat_lit 1204, nat_lit 1, nat_lit 0, nat_lit 0, [nat_lit 0, nat_lit 1, nat_lit 0]),
  (nat_lit 1205, nat_lit 4, nat_lit 0, nat_lit 0, []),
  (nat_lit 1206, nat_lit 10, nat_lit 0, nat_lit 100, []),
  (nat_lit 1207, nat_lit 15, nat_lit 169, nat_lit 2, [nat_lit 0, nat_lit 10]),
  (nat_lit 1210, nat_lit 2, nat_lit 7, nat_lit 0, []),
  (nat_lit 1212, nat_lit 0, nat_lit 2, nat_lit 4, []),
  (nat_lit 1213, nat_lit 15, nat_lit 177, nat_lit 1, [nat_lit 0, nat_lit 10]),
  (nat_lit 1216, nat_lit 0, nat_lit 6, nat_lit 0, []),
  (nat_lit 1218, nat_lit 6, nat_lit 1223, nat_lit 0, []),
  (nat_lit 1221, nat_lit 99, nat_lit 0, nat_lit 0, []),
  (nat_lit 1222, nat_lit 99, nat_lit 0, nat_lit 0, []),
  (nat_lit 1223, nat_lit 0, nat_lit 6, nat_lit 0, []),
  (nat_lit 1225, nat_lit 5, nat_lit 1240, nat_lit 1, []),
  (nat_lit 1228, nat_lit 0, nat_lit 3, nat_lit 4, []),
  (nat_lit 1229, nat_lit 1, nat_lit 0, nat_lit 0, [nat_lit 0, nat_lit 0, nat_lit 0]),
  (nat_lit 1230, nat_lit 10, nat_lit 0, nat_lit 103, []),
  (nat_lit 1231, nat_lit 0, nat_lit 7, nat_lit 0, []),
  (nat_lit 1233, nat_lit 20, nat_lit 0, nat_lit 0, []),
  (nat_lit 1234, nat_lit 21, nat_lit 0, nat_lit 0, []),
  (nat_lit 1235, nat_lit 5, nat_lit 1240, nat_lit 0, []),
  (nat_lit 1238, nat_lit 99, nat_lit 0, nat_lit 0, []),
  (nat_lit 1239, nat_lit 99, nat_lit 0, nat_lit 0, []),
  (nat_lit 1240, nat_lit 7, nat_lit 2233, nat_lit 0, []),
  (nat_lit 1243, nat_lit 0, nat_lit 1, nat_lit 4, []),
  (nat_lit 1244, nat_lit 0, nat_lit 0, nat_lit 4, []),
  (nat_lit 1245, nat_lit 0, nat_lit 5, nat_lit 0, []),
  (nat_lit 1247, nat_lit 1, nat_lit 0, nat_lit 0, [nat_lit 0, nat_lit 1, nat_lit 0]),
  (nat_lit 1248, nat_lit 4, nat_lit 0, nat_lit 0, []),
  (nat_lit 1249, nat_lit 10, nat_lit 0, nat_lit 100, []),
  (nat_lit 1250, nat_lit 0, nat_lit 0, nat_lit 4, []),
  (nat_lit 1251, nat_lit 0, nat_lit 5, nat_lit 0, []),
  (nat_lit 1253, nat_lit 1, nat_lit 0, nat_lit 0, [nat_lit 0, nat_lit 2, nat_lit 0]),
  (nat_lit 1254, nat_lit 4, nat_lit 0, nat_lit 0, []),
  (nat_lit 1255, nat_lit 10, nat_lit 0, nat_lit 100, []),
  (nat_lit 1256, nat_lit 0, nat_lit 3, nat_lit 4, []),
  (nat_lit 1257, nat_lit 15, nat_lit 207, nat_lit 4, [nat_lit 4, nat_lit 99]),
  (nat_lit 1260, nat_lit 2, nat_lit 6, nat_lit 0, []),
  (nat_lit 1262, nat_lit 0, nat_lit 2, nat_lit 4, []),
  (nat_lit 1263, nat_lit 0, nat_lit 0, nat_lit 4, []),
  (nat_lit 1264, nat_lit 0, nat_lit 5, nat_lit 0, []),
  (nat_lit 1266, nat_lit 1, nat_lit 0, nat_lit 0, [nat_lit 0, nat_lit 1, nat_lit 0]),
  (nat_lit 1267, nat_lit 4, nat_lit 0, nat_lit 0, []),
  (nat_lit 1268, nat_lit 10, nat_lit 0, nat_lit 100, []),
  (nat_lit 1269, nat_lit 0, nat_lit 0, nat_lit 4, []),
  (nat_lit 1270, nat_lit 0, nat_lit 5, nat_lit 0, []),
  (nat_lit 1272, nat_lit 1, nat_lit 0, nat_lit 0, [nat_lit 0, nat_lit 2, nat_lit 0]),
  (nat_lit 1273, nat_lit 4, nat_lit 0, nat_lit 0, []),
  (nat_lit 1274, nat_lit 10, nat_lit 0, nat_lit 100, []),
  (nat_lit 1275, nat_lit 15, nat_lit 180, nat_lit 3, [nat_lit 0, nat_lit 10]),
  (nat_lit 1278, nat_lit 2, nat_lit 7, nat_lit 0, []),
  (nat_lit 1280, nat_lit 0, nat_lit 2, nat_lit 4, []),
  (nat_lit 1281, nat_lit 15, nat_lit 177, nat_lit 1, [nat_lit 0, nat_lit 10]),
  (nat_lit 1284, nat_lit 0, nat_lit 6, nat_lit 0, []),
  (nat_lit 1286, nat_lit 6, nat_lit 1291, nat_lit 0, []),
  (nat_lit 1289, nat_lit 99, nat_lit 0, nat_lit 0, []),
  (nat_lit 1290, nat_lit 99, nat_lit 0, nat_lit 0, []),
  (nat_lit 1291, nat_lit 0, nat_lit 6, nat_lit 0, []),
  (nat_lit 1293, nat_lit 5, nat_lit 1315, nat_lit 1, []),
  (nat_lit 1296, nat_lit 99, nat_lit 0, nat_lit 0, []),
  (nat_lit 1297, nat_lit 99, nat_lit 0, nat_lit 0, []),
  (nat_lit 1298, nat_lit 99, nat_lit 0, nat_lit 0, []),
  (nat_lit 1299, nat_lit 99, nat_lit 0, nat_lit 0, []),
  (nat_lit 1301, nat_lit 99, nat_lit 0, nat_lit 0, []),
  (nat_lit 1304, nat_lit 99, nat_lit 0, nat_lit 0, []),
  (nat_lit 1305, nat_lit 99, nat_lit 0, nat_lit 0, []),
  (nat_lit 1308, nat_lit 99, nat_lit 0, nat_lit 0, []),
  (nat_lit 1309, nat_lit 99, nat_lit 0, nat_lit 0, []),
  (nat_lit 1310, nat_lit 99, nat_lit 0, nat_lit 0, []),
  (nat_lit 1313, nat_lit 99, nat_lit 0, nat_lit 0, []),
  (nat_lit 1314, nat_lit 99, nat_lit 0, nat_lit 0, []),
  (nat_lit 1315, nat_lit 7, nat_lit 2233, nat_lit 0, []),
  (nat_lit 1318, nat_lit 0, nat_lit 1, nat_lit 4, []),
  (nat_lit 1319, nat_lit 15, nat_lit 69, nat_lit 1, [nat_lit 0, nat_lit 9]),
  (nat_lit 1322, nat_lit 0, nat_lit 2, nat_lit 4, []),
  (nat_lit 1323, nat_lit 15, nat_lit 126, nat_lit 1, [nat_lit 0, nat_lit 10]),
  (nat_lit 1326, nat_lit 6, nat_lit 2233, nat_lit 0, []),
  (nat_lit 1329, nat_lit 99, nat_lit 0, nat_lit 0, []),
  (nat_lit 1330, nat_lit 99, nat_lit 0, nat_lit 0, []),
  (nat_lit 1331, nat_lit 0, nat_lit 1, nat_lit 4, []),
  (nat_lit 1332, nat_lit 15, nat_lit 70, nat_lit 1, [nat_lit 0, nat_lit 9]),
  (nat_lit 1335, nat_lit 0, nat_lit 2, nat_lit 4, []),
  (nat_lit 1336, nat_lit 15, nat_lit 127, nat_lit 1, [nat_lit 0, nat_lit 10]),
  (nat_lit 1339, nat_lit 6, nat_lit 2233, nat_lit 0, []),
  (nat_lit 1342, nat_lit 99, nat_lit 0, nat_lit 0, []),
  (nat_lit 1343, nat_lit 99, nat_lit 0, nat_lit 0, []),
  (nat_lit 1344, nat_lit 0, nat_lit 1, nat_lit 4, []),
  (nat_lit 1345, nat_lit 15, nat_lit 79, nat_lit 1, [nat_lit 0, nat_lit 9]),
  (nat_lit 1348, nat_lit 0, nat_lit 2, nat_lit 4, []),
  (nat_lit 1349, nat_lit 15, nat_lit 150, nat_lit 1, [nat_lit 0, nat_lit 10]),
  (nat_lit 1352, nat_lit 6, nat_lit 2233, nat_lit 0, []),
  (nat_lit 1355, nat_lit 99, nat_lit 0, nat_lit 0, []),
  (nat_lit 1356, nat_lit 99, nat_lit 0, nat_lit 0, []),
  (nat_lit 1357, nat_lit 0, nat_lit 1, nat_lit 4, []),
  (nat_lit 1358, nat_lit 0, nat_lit 0, nat_lit 4, []),
  (nat_lit 1359, nat_lit 0, nat_lit 5, nat_lit 0, []),
  (nat_lit 1361, nat_lit 1, nat_lit 0, nat_lit 0, [nat_lit 0, nat_lit 1, nat_lit 0]),
  (nat_lit 1362, nat_lit 4, nat_lit 0, nat_lit 0, []),
  (nat_lit 1363, nat_lit 10, nat_lit 0, nat_lit 100, []),
  (nat_lit 1364, nat_lit 0, nat_lit 0, nat_lit 4, []),
  (nat_lit 1365, nat_lit 0, nat_lit 5, nat_lit 0, []),
  (nat_lit 1367, nat_lit 1, nat_lit 0, nat_lit 0, [nat_lit 0, nat_lit 2, nat_lit 0]),
  (nat_lit 1368, nat_lit 4, nat_lit 0, nat_lit 0, []),
  (nat_lit 1369, nat_lit 10, nat_lit 0, nat_lit 100, []),
  (nat_lit 1370, nat_lit 0, nat_lit 0, nat_lit 4, []),
  (nat_lit 1371, nat_lit 0, nat_lit 5, nat_lit 0, []),
  (nat_lit 1373, nat_lit 1, nat_lit 0, nat_lit 0, [nat_lit 0, nat_lit 3, nat_lit 0]),
  (nat_lit 1374, nat_lit 4, nat_lit 0, nat_lit 0, []),
  (nat_lit 1375, nat_lit 10, nat_lit 0, nat_lit 100, []),
  (nat_lit 1376, nat_lit 0, nat_lit 3, nat_lit 4, []),
  (nat_lit 1377, nat_lit 15, nat_lit 191, nat_lit 5, [nat_lit 4, nat_lit 99]),
  (nat_lit 1380, nat_lit 2, nat_lit 6, nat_lit 0, []),
  (nat_lit 1382, nat_lit 0, nat_lit 2, nat_lit 4, []),
  (nat_lit 1383, nat_lit 0, nat_lit 0, nat_lit 4, []),
  (nat_lit 1384, nat_lit 0, nat_lit 5, nat_lit 0, []),
  (nat_lit 1386, nat_lit 1, nat_lit 0, nat_lit 0, [nat_lit 0, nat_lit 1, nat_lit 0]),
  (nat_lit 1387, nat_lit 4, nat_lit 0, nat_lit 0, []),
  (nat_lit 1388, nat_lit 10, nat_lit 0, nat_lit 100, []),
  (nat_lit 1389, nat_lit 0, nat_lit 0, nat_lit 4, []),
  (nat_lit 1390, nat_lit 0, nat_lit 5, nat_lit 0, []),
  (nat_lit 1392, nat_lit 1, nat_lit 0, nat_lit 0, [nat_lit 0, nat_lit 2, nat_lit 0]),
  (nat_lit 1393, nat_lit 4, nat_lit 0, nat_lit 0, []),
  (nat_lit 1394, nat_lit 10, nat_lit 0, nat_lit 100, []),
  (nat_lit 1395, nat_lit 0, nat_lit 0, nat_lit 4, []),
  (nat_lit 1396, nat_lit 0, nat_lit 5, nat_lit 0, []),
  (nat_lit 1398, nat_lit 1, nat_lit 0, nat_lit 0, [nat_lit 0, nat_lit 3, nat_lit 0]),
  (nat_lit 1399, nat_lit 4, nat_lit 0, nat_lit 0, []),
  (nat_lit 1400, nat_lit 10, nat_lit 0, nat_lit 100, []),
  (nat_lit 1401, nat_lit 15, nat_lit 130, nat_lit 4, [nat_lit 0, nat_lit 10]),
  (nat_lit 1404, nat_lit 2, nat_lit 7, nat_lit 0, []),
  (nat_lit 1406, nat_lit 0, nat_lit 2, nat_lit 4, []),
  (nat_lit 1407, nat_lit 15, nat_lit 177, nat_lit 1, [nat_lit 0, nat_lit 10]),
  (nat_lit 1410, nat_lit 0, nat_lit 6, nat_lit 0, []),
  (nat_lit 1412, nat_lit 6, nat_lit 1417, nat_lit 0, []),
  (nat_lit 1415, nat_lit 99, nat_lit 0, nat_lit 0, []),
  (nat_lit 1416, nat_lit 99, nat_lit 0, nat_lit 0, []),
  (nat_lit 1417, nat_lit 0, nat_lit 6, nat_lit 0, []),
  (nat_lit 1419, nat_lit 5, nat_lit 1434, nat_lit 1, []),
  (nat_lit 1422, nat_lit 99, nat_lit 0, nat_lit 0, []),
  (nat_lit 1423, nat_lit 99, nat_lit 0, nat_lit 0, []),
  (nat_lit 1424, nat_lit 99, nat_lit 0, nat_lit 0, []),
  (nat_lit 1425, nat_lit 99, nat_lit 0, nat_lit 0, []),
  (nat_lit 1427, nat_lit 99, nat_lit 0, nat_lit 0, []),
  (nat_lit 1428, nat_lit 99, nat_lit 0, nat_lit 0, []),
  (nat_lit 1429, nat_lit 99, nat_lit 0, nat_lit 0, []),
  (nat_lit 1432, nat_lit 99, nat_lit 0, nat_lit 0, []),
  (nat_lit 1433, nat_lit 99, nat_lit 0, nat_lit 0, []),
  (nat_lit 1434, nat_lit 7, nat_lit 2233, nat_lit 0, []),
  (nat_lit 1437, nat_lit 0, nat_lit 1, nat_lit 4, []),
  (nat_lit 1438, nat_lit 0, nat_lit 0, nat_lit 4, []),
  (nat_lit 1439, nat_lit 0, nat_lit 5, nat_lit 0, []),
  (nat_lit 1441, nat_lit 1, nat_lit 0, nat_lit 0, [nat_lit 0, nat_lit 1, nat_lit 0]),
  (nat_lit 1442, nat_lit 4, nat_lit 0, nat_lit 0, []),
  (nat_lit 1443, nat_lit 10, nat_lit 0, nat_lit 100, []),
  (nat_lit 1444, nat_lit 0, nat_lit 0, nat_lit 4, []),
  (nat_lit 1445, nat_lit 0, nat_lit 5, nat_lit 0, []),
  (nat_lit 1447, nat_lit 1, nat_lit 0, nat_lit 0, [nat_lit 0, nat_lit 2, nat_lit 0]),
  (nat_lit 1448, nat_lit 4, nat_lit 0, nat_lit 0, []),
  (nat_lit 1449, nat_lit 10, nat_lit 0, nat_lit 100, []),
  (nat_lit 1450, nat_lit 0, nat_lit 0, nat_lit 4, []),
  (nat_lit 1451, nat_lit 0, nat_lit 5, nat_lit 0, []),
  (nat_lit 1453, nat_lit 1, nat_lit 0, nat_lit 0, [nat_lit 0, nat_lit 3, nat_lit 0]),
  (nat_lit 1454, nat_lit 4, nat_lit 0, nat_lit 0, []),
  (nat_lit 1455, nat_lit 10, nat_lit 0, nat_lit 100, []),
  (nat_lit 1456, nat_lit 0, nat_lit 3, nat_lit 4, []),
  (nat_lit 1457, nat_lit 15, nat_lit 199, nat_lit 5, [nat_lit 4, nat_lit 99]),
  (nat_lit 1460, nat_lit 2, nat_lit 6, nat_lit 0, []),
  (nat_lit 1462, nat_lit 0, nat_lit 2, nat_lit 4, []),
  (nat_lit 1463, nat_lit 0, nat_lit 0, nat_lit 4, []),
  (nat_lit 1464, nat_lit 0, nat_lit 5, nat_lit 0, []),
  (nat_lit 1466, nat_lit 1, nat_lit 0, nat_lit 0, [nat_lit 0, nat_lit 1, nat_lit 0]),
  (nat_lit 1467, nat_lit 4, nat_lit 0, nat_lit 0, []),
  (nat_lit 1468, nat_lit 10, nat_lit 0, nat_lit 100, []),
  (nat_lit 1469, nat_lit 0, nat_lit 0, nat_lit 4, []),
  (nat_lit 1470, nat_lit 0, nat_lit 5, nat_lit 0, []),
  (nat_lit 1472, nat_lit 1, nat_lit 0, nat_lit 0, [nat_lit 0, nat_lit 2, nat_lit 0]),
  (nat_lit 1473, nat_lit 4, nat_lit 0, nat_lit 0, []),
  (nat_lit 1474, nat_lit 10, nat_lit 0, nat_lit 100, []),
  (nat_lit 1475, nat_lit 0, nat_lit 0, nat_lit 4, []),
  (nat_lit 1476, nat_lit 0, nat_lit 5, nat_lit 0, []),
  (nat_lit 1478, nat_lit 1, nat_lit 0, nat_lit 0, [nat_lit 0, nat_lit 3, nat_lit 0]),
  (nat_lit 1479, nat_lit 4, nat_lit 0, nat_lit 0, []),
  (nat_lit 1480, nat_lit 10, nat_lit 0, nat_lit 100, []),
  (nat_lit 1481, nat_lit 15, nat_lit 165, nat_lit 4, [nat_lit 0, nat_lit 10]),
  (nat_lit 1484, nat_lit 2, nat_lit 7, nat_lit 0, []),
  (nat_lit 1486, nat_lit 0, nat_lit 2, nat_lit 4, []),
  (nat_lit 1487, nat_lit 15, nat_lit 177, nat_lit 1, [nat_lit 0, nat_lit 10]),
  (nat_lit 1490, nat_lit 0, nat_lit 6, nat_lit 0, []),
  (nat_lit 1492, nat_lit 6, nat_lit 1497, nat_lit 0, []),
  (nat_lit 1495, nat_lit 99, nat_lit 0, nat_lit 0, []),
  (nat_lit 1496, nat_lit 99, nat_lit 0, nat_lit 0, []),
  (nat_lit 1497, nat_lit 0, nat_lit 6, nat_lit 0, []),
  (nat_lit 1499, nat_lit 5, nat_lit 1514, nat_lit 1, []),
  (nat_lit 1502, nat_lit 99, nat_lit 0, nat_lit 0, []),
  (nat_lit 1503, nat_lit 99, nat_lit 0, nat_lit 0, []),
  (nat_lit 1504, nat_lit 99, nat_lit 0, nat_lit 0, []),
  (nat_lit 1505, nat_lit 99, nat_lit 0, nat_lit 0, []),
  (nat_lit 1507, nat_lit 99, nat_lit 0, nat_lit 0, []),
  (nat_lit 1508, nat_lit 99, nat_lit 0, nat_lit 0, []),
  (nat_lit 1509, nat_lit 99, nat_lit 0, nat_lit 0, []),
  (nat_lit 1512, nat_lit 99, nat_lit 0, nat_lit 0, []),
  (nat_lit 1513, nat_lit 99, nat_lit 0, nat_lit 0, []),
  (nat_lit 1514, nat_lit 7, nat_lit 2233, nat_lit 0, []),
  (nat_lit 1517, nat_lit 0, nat_lit 1, nat_lit 4, []),
  (nat_lit 1518, nat_lit 0, nat_lit 0, nat_lit 4, []),
  (nat_lit 1519, nat_lit 0, nat_lit 5, nat_lit 0, []),
  (nat_lit 1521, nat_lit 1, nat_lit 0, nat_lit 0, [nat_lit 0, nat_lit 1, nat_lit 0]),
  (nat_lit 1522, nat_lit 4, nat_lit 0, nat_lit 0, []),
  (nat_lit 1523, nat_lit 10, nat_lit 0, nat_lit 100, []),
  (nat_lit 1524, nat_lit 0, nat_lit 0, nat_lit 4, []),
  (nat_lit 1525, nat_lit 0, nat_lit 5, nat_lit 0, []),
  (nat_lit 1527, nat_lit 1, nat_lit 0, nat_lit 0, [nat_lit 0, nat_lit 2, nat_lit 0]),
  (nat_lit 1528, nat_lit 4, nat_lit 0, nat_lit 0, []),
  (nat_lit 1529, nat_lit 10, nat_lit 0, nat_lit 100, []),
  (nat_lit 1530, nat_lit 0, nat_lit 3, nat_lit 4, []),
  (nat_lit 1531, nat_lit 15, nat_lit 187, nat_lit 4, [nat_lit 4, nat_lit 99]),
  (nat_lit 1534, nat_lit 2, nat_lit 6, nat_lit 0, []),
  (nat_lit 1536, nat_lit 0, nat_lit 2, nat_lit 4, []),
  (nat_lit 1537, nat_lit 0, nat_lit 0, nat_lit 4, []),
  (nat_lit 1538, nat_lit 0, nat_lit 5, nat_lit 0, []),
  (nat_lit 1540, nat_lit 1, nat_lit 0, nat_lit 0, [nat_lit 0, nat_lit 1, nat_lit 0]),
  (nat_lit 1541, nat_lit 4, nat_lit 0, nat_lit 0, []),
  (nat_lit 1542, nat_lit 10, nat_lit 0, nat_lit 100, []),
  (nat_lit 1543, nat_lit 0, nat_lit 0, nat_lit 4, []),
  (nat_lit 1544, nat_lit 0, nat_lit 5, nat_lit 0, []),
  (nat_lit 1546, nat_lit 1, nat_lit 0, nat_lit 0, [nat_lit 0, nat_lit 2, nat_lit 0]),
  (nat_lit 1547, nat_lit 4, nat_lit 0, nat_lit 0, []),
  (nat_lit 1548, nat_lit 10, nat_lit 0, nat_lit 100, []),
  (nat_lit 1549, nat_lit 15, nat_lit 123, nat_lit 3, [nat_lit 0, nat_lit 10]),
  (nat_lit 1552, nat_lit 2, nat_lit 7, nat_lit 0, []),
  (nat_lit 1554, nat_lit 0, nat_lit 2, nat_lit 4, []),
  (nat_lit 1555, nat_lit 15, nat_lit 177, nat_lit 1, [nat_lit 0, nat_lit 10]),
  (nat_lit 1558, nat_lit 0, nat_lit 6, nat_lit 0, []),
  (nat_lit 1560, nat_lit 6, nat_lit 1565, nat_lit 0, []),
  (nat_lit 1563, nat_lit 99, nat_lit 0, nat_lit 0, []),
  (nat_lit 1564, nat_lit 99, nat_lit 0, nat_lit 0, []),
  (nat_lit 1565, nat_lit 0, nat_lit 6, nat_lit 0, []),
  (nat_lit 1567, nat_lit 5, nat_lit 1582, nat_lit 1, []),
  (nat_lit 1570, nat_lit 99, nat_lit 0, nat_lit 0, []),
  (nat_lit 1571, nat_lit 99, nat_lit 0, nat_lit 0, []),
  (nat_lit 1572, nat_lit 99, nat_lit 0, nat_lit 0, []),
  (nat_lit 1573, nat_lit 99, nat_lit 0, nat_lit 0, []),
  (nat_lit 1575, nat_lit 99, nat_lit 0, nat_lit 0, []),
  (nat_lit 1576, nat_lit 99, nat_lit 0, nat_lit 0, []),
  (nat_lit 1577, nat_lit 99, nat_lit 0, nat_lit 0, []),
  (nat_lit 1580, nat_lit 99, nat_lit 0, nat_lit 0, []),
  (nat_lit 1581, nat_lit 99, nat_lit 0, nat_lit 0, []),
  (nat_lit 1582, nat_lit 7, nat_lit 2233, nat_lit 0, []),
  (nat_lit 1585, nat_lit 0, nat_lit 1, nat_lit 4, []),
  (nat_lit 1586, nat_lit 0, nat_lit 0, nat_lit 4, []),
  (nat_lit 1587, nat_lit 0, nat_lit 5, nat_lit 0, []),
  (nat_lit 1589, nat_lit 1, nat_lit 0, nat_lit 0, [nat_lit 0, nat_lit 1, nat_lit 0]),
  (nat_lit 1590, nat_lit 4, nat_lit 0, nat_lit 0, []),
  (nat_lit 1591, nat_lit 10, nat_lit 0, nat_lit 100, []),
  (nat_lit 1592, nat_lit 0, nat_lit 0, nat_lit 4, []),
  (nat_lit 1593, nat_lit 0, nat_lit 5, nat_lit 0, []),
  (nat_lit 1595, nat_lit 1, nat_lit 0, nat_lit 0, [nat_lit 0, nat_lit 2, nat_lit 0]),
  (nat_lit 1596, nat_lit 4, nat_lit 0, nat_lit 0, []),
  (nat_lit 1597, nat_lit 10, nat_lit 0, nat_lit 100, []),
  (nat_lit 1598, nat_lit 0, nat_lit 0, nat_lit 4, []),
  (nat_lit 1599, nat_lit 0, nat_lit 5, nat_lit 0, []),
  (nat_lit 1601, nat_lit 1, nat_lit 0, nat_lit 0, [nat_lit 0, nat_lit 3, nat_lit 0]),
  (nat_lit 1602, nat_lit 4, nat_lit 0, nat_lit 0, []),
  (nat_lit 1603, nat_lit 10, nat_lit 0, nat_lit 100, []),
  (nat_lit 1604, nat_lit 0, nat_lit 3, nat_lit 4, []),
  (nat_lit 1605, nat_lit 15, nat_lit 188, nat_lit 5, [nat_lit 4, nat_lit 99]),
  (nat_lit 1608, nat_lit 2, nat_lit 6, nat_lit 0, []),
  (nat_lit 1610, nat_lit 0, nat_lit 2, nat_lit 4, []),
  (nat_lit 1611, nat_lit 0, nat_lit 0, nat_lit 4, []),
  (nat_lit 1612, nat_lit 0, nat_lit 5, nat_lit 0, []),
  (nat_lit 1614, nat_lit 1, nat_lit 0, nat_lit 0, [nat_lit 0, nat_lit 1, nat_lit 0]),
  (nat_lit 1615, nat_lit 4, nat_lit 0, nat_lit 0, []),
  (nat_lit 1616, nat_lit 10, nat_lit 0, nat_lit 100, []),
  (nat_lit 1617, nat_lit 0, nat_lit 0, nat_lit 4, []),
  (nat_lit 1618, nat_lit 0, nat_lit 5, nat_lit 0, []),
  (nat_lit 1620, nat_lit 1, nat_lit 0, nat_lit 0, [nat_lit 0, nat_lit 2, nat_lit 0]),
  (nat_lit 1621, nat_lit 4, nat_lit 0, nat_lit 0, []),
  (nat_lit 1622, nat_lit 10, nat_lit 0, nat_lit 100, []),
  (nat_lit 1623, nat_lit 0, nat_lit 0, nat_lit 4, []),
  (nat_lit 1624, nat_lit 0, nat_lit 5, nat_lit 0, []),
  (nat_lit 1626, nat_lit 1, nat_lit 0, nat_lit 0, [nat_lit 0, nat_lit 3, nat_lit 0]),
  (nat_lit 1627, nat_lit 4, nat_lit 0, nat_lit 0, []),
  (nat_lit 1628, nat_lit 10, nat_lit 0, nat_lit 100, []),
  (nat_lit 1629, nat_lit 15, nat_lit 124, nat_lit 4, [nat_lit 0, nat_lit 10]),
  (nat_lit 1632, nat_lit 2, nat_lit 7, nat_lit 0, []),
  (nat_lit 1634, nat_lit 0, nat_lit 2, nat_lit 4, []),
  (nat_lit 1635, nat_lit 15, nat_lit 177, nat_lit 1, [nat_lit 0, nat_lit 10]),
  (nat_lit 1638, nat_lit 0, nat_lit 6, nat_lit 0, []),
  (nat_lit 1640, nat_lit 6, nat_lit 1645, nat_lit 0, []),
  (nat_lit 1643, nat_lit 99, nat_lit 0, nat_lit 0, []),
  (nat_lit 1644, nat_lit 99, nat_lit 0, nat_lit 0, []),
  (nat_lit 1645, nat_lit 0, nat_lit 6, nat_lit 0, []),
  (nat_lit 1647, nat_lit 5, nat_lit 1662, nat_lit 1, []),
  (nat_lit 1650, nat_lit 99, nat_lit 0, nat_lit 0, []),
  (nat_lit 1651, nat_lit 99, nat_lit 0, nat_lit 0, []),
  (nat_lit 1652, nat_lit 99, nat_lit 0, nat_lit 0, []),
  (nat_lit 1653, nat_lit 99, nat_lit 0, nat_lit 0, []),
  (nat_lit 1655, nat_lit 99, nat_lit 0, nat_lit 0, []),
  (nat_lit 1656, nat_lit 99, nat_lit 0, nat_lit 0, []),
  (nat_lit 1657, nat_lit 99, nat_lit 0, nat_lit 0, []),
  (nat_lit 1660, nat_lit 99, nat_lit 0, nat_lit 0, []),
  (nat_lit 1661, nat_lit 99, nat_lit 0, nat_lit 0, []),
  (nat_lit 1662, nat_lit 7, nat_lit 2233, nat_lit 0, []),
  (nat_lit 1665, nat_lit 0, nat_lit 1, nat_lit 4, []),
  (nat_lit 1666, nat_lit 0, nat_lit 0, nat_lit 4, []),
  (nat_lit 1667, nat_lit 0, nat_lit 5, nat_lit 0, []),
  (nat_lit 1669, nat_lit 1, nat_lit 0, nat_lit 0, [nat_lit 0, nat_lit 1, nat_lit 0]),
  (nat_lit 1670, nat_lit 4, nat_lit 0, nat_lit 0, []),
  (nat_lit 1671, nat_lit 10, nat_lit 0, nat_lit 100, []),
  (nat_lit 1672, nat_lit 0, nat_lit 0, nat_lit 4, []),
  (nat_lit 1673, nat_lit 0, nat_lit 5, nat_lit 0, []),
  (nat_lit 1675, nat_lit 1, nat_lit 0, nat_lit 0, [nat_lit 0, nat_lit 2, nat_lit 0]),
  (nat_lit 1676, nat_lit 4, nat_lit 0, nat_lit 0, []),
  (nat_lit 1677, nat_lit 10, nat_lit 0, nat_lit 100, []),
  (nat_lit 1678, nat_lit 0, nat_lit 0, nat_lit 4, []),
  (nat_lit 1679, nat_lit 0, nat_lit 5, nat_lit 0, []),
  (nat_lit 1681, nat_lit 1, nat_lit 0, nat_lit 0, [nat_lit 0, nat_lit 3, nat_lit 0]),
  (nat_lit 1682, nat_lit 4, nat_lit 0, nat_lit 0, []),
  (nat_lit 1683, nat_lit 10, nat_lit 0, nat_lit 100, []),
  (nat_lit 1684, nat_lit 0, nat_lit 3, nat_lit 4, []),
  (nat_lit 1685, nat_lit 15, nat_lit 196, nat_lit 5, [nat_lit 4, nat_lit 99]),
  (nat_lit 1688, nat_lit 2, nat_lit 6, nat_lit 0, []),
  (nat_lit 1690, nat_lit 0, nat_lit 2, nat_lit 4, []),
  (nat_lit 1691, nat_lit 0, nat_lit 0, nat_lit 4, []),
  (nat_lit 1692, nat_lit 0, nat_lit 5, nat_lit 0, []),
  (nat_lit 1694, nat_lit 1, nat_lit 0, nat_lit 0, [nat_lit 0, nat_lit 1, nat_lit 0]),
  (nat_lit 1695, nat_lit 4, nat_lit 0, nat_lit 0, []),
  (nat_lit 1696, nat_lit 10, nat_lit 0, nat_lit 100, []),
  (nat_lit 1697, nat_lit 0, nat_lit 0, nat_lit 4, []),
  (nat_lit 1698, nat_lit 0, nat_lit 5, nat_lit 0, []),
  (nat_lit 1700, nat_lit 1, nat_lit 0, nat_lit 0, [nat_lit 0, nat_lit 2, nat_lit 0]),
  (nat_lit 1701, nat_lit 4, nat_lit 0, nat_lit 0, []),
  (nat_lit 1702, nat_lit 10, nat_lit 0, nat_lit 100, []),
  (nat_lit 1703, nat_lit 0, nat_lit 0, nat_lit 4, []),
  (nat_lit 1704, nat_lit 0, nat_lit 5, nat_lit 0, []),
  (nat_lit 1706, nat_lit 1, nat_lit 0, nat_lit 0, [nat_lit 0, nat_lit 3, nat_lit 0]),
  (nat_lit 1707, nat_lit 4, nat_lit 0, nat_lit 0, []),
  (nat_lit 1708, nat_lit 10, nat_lit 0, nat_lit 100, []),
  (nat_lit 1709, nat_lit 15, nat_lit 151, nat_lit 4, [nat_lit 0, nat_lit 10]),
  (nat_lit 1712, nat_lit 2, nat_lit 7, nat_lit 0, []),
  (nat_lit 1714, nat_lit 0, nat_lit 2, nat_lit 4, []),
  (nat_lit 1715, nat_lit 15, nat_lit 177, nat_lit 1, [nat_lit 0, nat_lit 10]),
  (nat_lit 1718, nat_lit 0, nat_lit 6, nat_lit 0, []),
  (nat_lit 1720, nat_lit 6, nat_lit 1725, nat_lit 0, []),
  (nat_lit 1723, nat_lit 99, nat_lit 0, nat_lit 0, []),
  (nat_lit 1724, nat_lit 99, nat_lit 0, nat_lit 0, []),
  (nat_lit 1725, nat_lit 0, nat_lit 6, nat_lit 0, []),
  (nat_lit 1727, nat_lit 5, nat_lit 1742, nat_lit 1, []),
  (nat_lit 1730, nat_lit 99, nat_lit 0, nat_lit 0, []),
  (nat_lit 1731, nat_lit 99, nat_lit 0, nat_lit 0, []),
  (nat_lit 1732, nat_lit 99, nat_lit 0, nat_lit 0, []),
  (nat_lit 1733, nat_lit 99, nat_lit 0, nat_lit 0, []),
  (nat_lit 1735, nat_lit 99, nat_lit 0, nat_lit 0, []),
  (nat_lit 1736, nat_lit 99, nat_lit 0, nat_lit 0, []),
  (nat_lit 1737, nat_lit 99, nat_lit 0, nat_lit 0, []),
  (nat_lit 1740, nat_lit 99, nat_lit 0, nat_lit 0, []),
  (nat_lit 1741, nat_lit 99, nat_lit 0, nat_lit 0, []),
  (nat_lit 1742, nat_lit 7, nat_lit 2233, nat_lit 0, []),
  (nat_lit 1745, nat_lit 0, nat_lit 1, nat_lit 4, []),
  (nat_lit 1746, nat_lit 0, nat_lit 0, nat_lit 4, []),
  (nat_lit 1747, nat_lit 0, nat_lit 5, nat_lit 0, []),
  (nat_lit 1749, nat_lit 1, nat_lit 0, nat_lit 0, [nat_lit 0, nat_lit 1, nat_lit 0]),
  (nat_lit 1750, nat_lit 4, nat_lit 0, nat_lit 0, []),
  (nat_lit 1751, nat_lit 10, nat_lit 0, nat_lit 100, []),
  (nat_lit 1752, nat_lit 0, nat_lit 0, nat_lit 4, []),
  (nat_lit 1753, nat_lit 0, nat_lit 5, nat_lit 0, []),
  (nat_lit 1755, nat_lit 1, nat_lit 0, nat_lit 0, [nat_lit 0, nat_lit 2, nat_lit 0]),
  (nat_lit 1756, nat_lit 4, nat_lit 0, nat_lit 0, []),
  (nat_lit 1757, nat_lit 10, nat_lit 0, nat_lit 100, []),
  (nat_lit 1758, nat_lit 0, nat_lit 3, nat_lit 4, []),
  (nat_lit 1759, nat_lit 15, nat_lit 206, nat_lit 4, [nat_lit 4, nat_lit 99]),
  (nat_lit 1762, nat_lit 2, nat_lit 6, nat_lit 0, []),
  (nat_lit 1764, nat_lit 0, nat_lit 2, nat_lit 4, []),
  (nat_lit 1765, nat_lit 0, nat_lit 0, nat_lit 4, []),
  (nat_lit 1766, nat_lit 0, nat_lit 5, nat_lit 0, []),
  (nat_lit 1768, nat_lit 1, nat_lit 0, nat_lit 0, [nat_lit 0, nat_lit 1, nat_lit 0]),
  (nat_lit 1769, nat_lit 4, nat_lit 0, nat_lit 0, []),
  (nat_lit 1770, nat_lit 10, nat_lit 0, nat_lit 100, []),
  (nat_lit 1771, nat_lit 0, nat_lit 0, nat_lit 4, []),
  (nat_lit 1772, nat_lit 0, nat_lit 5, nat_lit 0, []),
  (nat_lit 1774, nat_lit 1, nat_lit 0, nat_lit 0, [nat_lit 0, nat_lit 2, nat_lit 0]),
  (nat_lit 1775, nat_lit 4, nat_lit 0, nat_lit 0, []),
  (nat_lit 1776, nat_lit 10, nat_lit 0, nat_lit 100, []),
  (nat_lit 1777, nat_lit 15, nat_lit 175, nat_lit 3, [nat_lit 0, nat_lit 10]),
  (nat_lit 1780, nat_lit 2, nat_lit 7, nat_lit 0, []),
  (nat_lit 1782, nat_lit 0, nat_lit 2, nat_lit 4, []),
  (nat_lit 1783, nat_lit 15, nat_lit 177, nat_lit 1, [nat_lit 0, nat_lit 10]),
  (nat_lit 1786, nat_lit 0, nat_lit 6, nat_lit 0, []),
  (nat_lit 1788, nat_lit 6, nat_lit 1793, nat_lit 0, []),
  (nat_lit 1791, nat_lit 99, nat_lit 0, nat_lit 0, []),
  (nat_lit 1792, nat_lit 99, nat_lit 0, nat_lit 0, []),
  (nat_lit 1793, nat_lit 0, nat_lit 6, nat_lit 0, []),
  (nat_lit 1795, nat_lit 5, nat_lit 1810, nat_lit 1, []),
  (nat_lit 1798, nat_lit 99, nat_lit 0, nat_lit 0, []),
  (nat_lit 1799, nat_lit 99, nat_lit 0, nat_lit 0, []),
  (nat_lit 1800, nat_lit 99, nat_lit 0, nat_lit 0, []),
  (nat_lit 1801, nat_lit 99, nat_lit 0, nat_lit 0, []),
  (nat_lit 1803, nat_lit 99, nat_lit 0, nat_lit 0, []),
  (nat_lit 1804, nat_lit 99, nat_lit 0, nat_lit 0, []),
  (nat_lit 1805, nat_lit 99, nat_lit 0, nat_lit 0, []),
  (nat_lit 1808, nat_lit 99, nat_lit 0, nat_lit 0, []),
  (nat_lit 1809, nat_lit 99, nat_lit 0, nat_lit 0, []),
  (nat_lit 1810, nat_lit 7, nat_lit 2233, nat_lit 0, []),
  (nat_lit 1813, nat_lit 0, nat_lit 1, nat_lit 4, []),
  (nat_lit 1814, nat_lit 0, nat_lit 0, nat_lit 4, []),
  (nat_lit 1815, nat_lit 0, nat_lit 5, nat_lit 0, []),
  (nat_lit 1817, nat_lit 1, nat_lit 0, nat_lit 0, [nat_lit 0, nat_lit 1, nat_lit 0]),
  (nat_lit 1818, nat_lit 4, nat_lit 0, nat_lit 0, []),
  (nat_lit 1819, nat_lit 10, nat_lit 0, nat_lit 100, []),
  (nat_lit 1820, nat_lit 0, nat_lit 0, nat_lit 4, []),
  (nat_lit 1821, nat_lit 0, nat_lit 5, nat_lit 0, []),
  (nat_lit 1823, nat_lit 1, nat_lit 0, nat_lit 0, [nat_lit 0, nat_lit 2, nat_lit 0]),
  (nat_lit 1824, nat_lit 4, nat_lit 0, nat_lit 0, []),
  (nat_lit 1825, nat_lit 10, nat_lit 0, nat_lit 100, []),
  (nat_lit 1826, nat_lit 0, nat_lit 3, nat_lit 4, []),
  (nat_lit 1827, nat_lit 15, nat_lit 186, nat_lit 4, [nat_lit 4, nat_lit 99]),
  (nat_lit 1830, nat_lit 2, nat_lit 6, nat_lit 0, []),
  (nat_lit 1832, nat_lit 0, nat_lit 2, nat_lit 4, []),
  (nat_lit 1833, nat_lit 0, nat_lit 0, nat_lit 4, []),
  (nat_lit 1834, nat_lit 0, nat_lit 5, nat_lit 0, []),
  (nat_lit 1836, nat_lit 1, nat_lit 0, nat_lit 0, [nat_lit 0, nat_lit 1, nat_lit 0]),
  (nat_lit 1837, nat_lit 4, nat_lit 0, nat_lit 0, []),
  (nat_lit 1838, nat_lit 10, nat_lit 0, nat_lit 100, []),
  (nat_lit 1839, nat_lit 0, nat_lit 0, nat_lit 4, []),
  (nat_lit 1840, nat_lit 0, nat_lit 5, nat_lit 0, []),
  (nat_lit 1842, nat_lit 1, nat_lit 0, nat_lit 0, [nat_lit 0, nat_lit 2, nat_lit 0]),
  (nat_lit 1843, nat_lit 4, nat_lit 0, nat_lit 0, []),
  (nat_lit 1844, nat_lit 10, nat_lit 0, nat_lit 100, []),
  (nat_lit 1845, nat_lit 15, nat_lit 122, nat_lit 3, [nat_lit 0, nat_lit 10]),
  (nat_lit 1848, nat_lit 2, nat_lit 7, nat_lit 0, []),
  (nat_lit 1850, nat_lit 0, nat_lit 2, nat_lit 4, []),
  (nat_lit 1851, nat_lit 15, nat_lit 177, nat_lit 1, [nat_lit 0, nat_lit 10]),
  (nat_lit 1854, nat_lit 0, nat_lit 6, nat_lit 0, []),
  (nat_lit 1856, nat_lit 6, nat_lit 1861, nat_lit 0, []),
  (nat_lit 1859, nat_lit 99, nat_lit 0, nat_lit 0, []),
  (nat_lit 1860, nat_lit 99, nat_lit 0, nat_lit 0, []),
  (nat_lit 1861, nat_lit 0, nat_lit 6, nat_lit 0, []),
  (nat_lit 1863, nat_lit 5, nat_lit 1878, nat_lit 1, []),
  (nat_lit 1866, nat_lit 99, nat_lit 0, nat_lit 0, []),
  (nat_lit 1867, nat_lit 99, nat_lit 0, nat_lit 0, []),
  (nat_lit 1868, nat_lit 99, nat_lit 0, nat_lit 0, []),
  (nat_lit 1869, nat_lit 99, nat_lit 0, nat_lit 0, []),
  (nat_lit 1871, nat_lit 99, nat_lit 0, nat_lit 0, []),
  (nat_lit 1872, nat_lit 99, nat_lit 0, nat_lit 0, []),
  (nat_lit 1873, nat_lit 99, nat_lit 0, nat_lit 0, []),
  (nat_lit 1876, nat_lit 99, nat_lit 0, nat_lit 0, []),
  (nat_lit 1877, nat_lit 99, nat_lit 0, nat_lit 0, []),
  (nat_lit 1878, nat_lit 7, nat_lit 2233, nat_lit 0, []),
  (nat_lit 1881, nat_lit 0, nat_lit 1, nat_lit 4, []),
  (nat_lit 1882, nat_lit 15, nat_lit 73, nat_lit 1, [nat_lit 0, nat_lit 9]),
  (nat_lit 1885, nat_lit 0, nat_lit 2, nat_lit 4, []),
  (nat_lit 1886, nat_lit 15, nat_lit 138, nat_lit 1, [nat_lit 0, nat_lit 10]),
  (nat_lit 1889, nat_lit 6, nat_lit 2233, nat_lit 0, []),
  (nat_lit 1892, nat_lit 99, nat_lit 0, nat_lit 0, []),
  (nat_lit 1893, nat_lit 99, nat_lit 0, nat_lit 0, []),
  (nat_lit 1894, nat_lit 0, nat_lit 1, nat_lit 4, []),
  (nat_lit 1895, nat_lit 0, nat_lit 0, nat_lit 4, []),
  (nat_lit 1896, nat_lit 0, nat_lit 5, nat_lit 0, []),
  (nat_lit 1898, nat_lit 1, nat_lit 0, nat_lit 0, [nat_lit 0, nat_lit 1, nat_lit 0]),
  (nat_lit 1899, nat_lit 4, nat_lit 0, nat_lit 0, []),
  (nat_lit 1900, nat_lit 10, nat_lit 0, nat_lit 100, []),
  (nat_lit 1901, nat_lit 0, nat_lit 3, nat_lit 4, []),
  (nat_lit 1902, nat_lit 15, nat_lit 189, nat_lit 3, [nat_lit 4, nat_lit 99]),
  (nat_lit 1905, nat_lit 2, nat_lit 6, nat_lit 0, []),
  (nat_lit 1907, nat_lit 0, nat_lit 2, nat_lit 4, []),
  (nat_lit 1908, nat_lit 0, nat_lit 0, nat_lit 4, []),
  (nat_lit 1909, nat_lit 0, nat_lit 5, nat_lit 0, []),
  (nat_lit 1911, nat_lit 1, nat_lit 0, nat_lit 0, [nat_lit 0, nat_lit 1, nat_lit 0]),
  (nat_lit 1912, nat_lit 4, nat_lit 0, nat_lit 0, []),
  (nat_lit 1913, nat_lit 10, nat_lit 0, nat_lit 100, []),
  (nat_lit 1914, nat_lit 15, nat_lit 125, nat_lit 2, [nat_lit 0, nat_lit 10]),
  (nat_lit 1917, nat_lit 2, nat_lit 7, nat_lit 0, []),
  (nat_lit 1919, nat_lit 0, nat_lit 2, nat_lit 4, []),
  (nat_lit 1920, nat_lit 15, nat_lit 177, nat_lit 1, [nat_lit 0, nat_lit 10]),
  (nat_lit 1923, nat_lit 0, nat_lit 6, nat_lit 0, []),
  (nat_lit 1925, nat_lit 6, nat_lit 1930, nat_lit 0, []),
  (nat_lit 1928, nat_lit 99, nat_lit 0, nat_lit 0, []),
  (nat_lit 1929, nat_lit 99, nat_lit 0, nat_lit 0, []),
  (nat_lit 1930, nat_lit 0, nat_lit 6, nat_lit 0, []),
  (nat_lit 1932, nat_lit 5, nat_lit 1947, nat_lit 1, []),
  (nat_lit 1935, nat_lit 0, nat_lit 3, nat_lit 4, []),
  (nat_lit 1936, nat_lit 1, nat_lit 0, nat_lit 0, [nat_lit 0, nat_lit 0, nat_lit 0]),
  (nat_lit 1937, nat_lit 10, nat_lit 0, nat_lit 103, []),
  (nat_lit 1938, nat_lit 0, nat_lit 7, nat_lit 0, []),
  (nat_lit 1940, nat_lit 20, nat_lit 0, nat_lit 0, []),
  (nat_lit 1941, nat_lit 21, nat_lit 0, nat_lit 0, []),
  (nat_lit 1942, nat_lit 5, nat_lit 1947, nat_lit 0, []),
  (nat_lit 1945, nat_lit 99, nat_lit 0, nat_lit 0, []),
  (nat_lit 1946, nat_lit 99, nat_lit 0, nat_lit 0, []),
  (nat_lit 1947, nat_lit 7, nat_lit 2233, nat_lit 0, []),
  (nat_lit 1950, nat_lit 0, nat_lit 1, nat_lit 4, []),
  (nat_lit 1951, nat_lit 0, nat_lit 0, nat_lit 4, []),
  (nat_lit 1952, nat_lit 0, nat_lit 5, nat_lit 0, []),
  (nat_lit 1954, nat_lit 1, nat_lit 0, nat_lit 0, [nat_lit 0, nat_lit 1, nat_lit 0]),
  (nat_lit 1955, nat_lit 4, nat_lit 0, nat_lit 0, []),
  (nat_lit 1956, nat_lit 10, nat_lit 0, nat_lit 100, []),
  (nat_lit 1957, nat_lit 0, nat_lit 3, nat_lit 4, []),
  (nat_lit 1958, nat_lit 15, nat_lit 181, nat_lit 3, [nat_lit 4, nat_lit 99]),
  (nat_lit 1961, nat_lit 2, nat_lit 6, nat_lit 0, []),
  (nat_lit 1963, nat_lit 0, nat_lit 2, nat_lit 4, []),
  (nat_lit 1964, nat_lit 0, nat_lit 0, nat_lit 4, []),
  (nat_lit 1965, nat_lit 0, nat_lit 5, nat_lit 0, []),
  (nat_lit 1967, nat_lit 1, nat_lit 0, nat_lit 0, [nat_lit 0, nat_lit 1, nat_lit 0]),
  (nat_lit 1968, nat_lit 4, nat_lit 0, nat_lit 0, []),
  (nat_lit 1969, nat_lit 10, nat_lit 0, nat_lit 100, []),
  (nat_lit 1970, nat_lit 15, nat_lit 108, nat_lit 2, [nat_lit 0, nat_lit 10]),
  (nat_lit 1973, nat_lit 2, nat_lit 7, nat_lit 0, []),
  (nat_lit 1975, nat_lit 0, nat_lit 2, nat_lit 4, []),
  (nat_lit 1976, nat_lit 15, nat_lit 177, nat_lit 1, [nat_lit 0, nat_lit 10]),
  (nat_lit 1979, nat_lit 0, nat_lit 6, nat_lit 0, []),
  (nat_lit 1981, nat_lit 6, nat_lit 1986, nat_lit 0, []),
  (nat_lit 1984, nat_lit 99, nat_lit 0, nat_lit 0, []),
  (nat_lit 1985, nat_lit 99, nat_lit 0, nat_lit 0, []),
  (nat_lit 1986, nat_lit 0, nat_lit 6, nat_lit 0, []),
  (nat_lit 1988, nat_lit 5, nat_lit 2003, nat_lit 1, []),
  (nat_lit 1991, nat_lit 0, nat_lit 3, nat_lit 4, []),
  (nat_lit 1992, nat_lit 1, nat_lit 0, nat_lit 0, [nat_lit 0, nat_lit 0, nat_lit 0]),
  (nat_lit 1993, nat_lit 10, nat_lit 0, nat_lit 103, []),
  (nat_lit 1994, nat_lit 0, nat_lit 7, nat_lit 0, []),
  (nat_lit 1996, nat_lit 20, nat_lit 0, nat_lit 0, []),
  (nat_lit 1997, nat_lit 21, nat_lit 0, nat_lit 0, []),
  (nat_lit 1998, nat_lit 5, nat_lit 2003, nat_lit 0, []),
  (nat_lit 2001, nat_lit 99, nat_lit 0, nat_lit 0, []),
  (nat_lit 2002, nat_lit 99, nat_lit 0, nat_lit 0, []),
  (nat_lit 2003, nat_lit 7, nat_lit 2233, nat_lit 0, []),
  (nat_lit 2006, nat_lit 0, nat_lit 1, nat_lit 4, []),
  (nat_lit 2007, nat_lit 0, nat_lit 0, nat_lit 4, []),
  (nat_lit 2008, nat_lit 0, nat_lit 5, nat_lit 0, []),
  (nat_lit 2010, nat_lit 1, nat_lit 0, nat_lit 0, [nat_lit 0, nat_lit 1, nat_lit 0]),
  (nat_lit 2011, nat_lit 4, nat_lit 0, nat_lit 0, []),
  (nat_lit 2012, nat_lit 10, nat_lit 0, nat_lit 100, []),
  (nat_lit 2013, nat_lit 0, nat_lit 3, nat_lit 4, []),
  (nat_lit 2014, nat_lit 15, nat_lit 200, nat_lit 3, [nat_lit 4, nat_lit 99]),
  (nat_lit 2017, nat_lit 2, nat_lit 6, nat_lit 0, []),
  (nat_lit 2019, nat_lit 0, nat_lit 2, nat_lit 4, []),
  (nat_lit 2020, nat_lit 0, nat_lit 0, nat_lit 4, []),
  (nat_lit 2021, nat_lit 0, nat_lit 5, nat_lit 0, []),
  (nat_lit 2023, nat_lit 1, nat_lit 0, nat_lit 0, [nat_lit 0, nat_lit 1, nat_lit 0]),
  (nat_lit 2024, nat_lit 4, nat_lit 0, nat_lit 0, []),
  (nat_lit 2025, nat_lit 10, nat_lit 0, nat_lit 100, []),
  (nat_lit 2026, nat_lit 15, nat_lit 166, nat_lit 2, [nat_lit 0, nat_lit 10]),
  (nat_lit 2029, nat_lit 2, nat_lit 7, nat_lit 0, []),
  (nat_lit 2031, nat_lit 0, nat_lit 2, nat_lit 4, []),
  (nat_lit 2032, nat_lit 15, nat_lit 177, nat_lit 1, [nat_lit 0, nat_lit 10]),
  (nat_lit 2035, nat_lit 0, nat_lit 6, nat_lit 0, []),
  (nat_lit 2037, nat_lit 6, nat_lit 2042, nat_lit 0, []),
  (nat_lit 2040, nat_lit 99, nat_lit 0, nat_lit 0, []),
  (nat_lit 2041, nat_lit 99, nat_lit 0, nat_lit 0, []),
  (nat_lit 2042, nat_lit 0, nat_lit 6, nat_lit 0, []),
  (nat_lit 2044, nat_lit 5, nat_lit 2059, nat_lit 1, []),
  (nat_lit 2047, nat_lit 0, nat_lit 3, nat_lit 4, []),
  (nat_lit 2048, nat_lit 1, nat_lit 0, nat_lit 0, [nat_lit 0, nat_lit 0, nat_lit 0]),
  (nat_lit 2049, nat_lit 10, nat_lit 0, nat_lit 103, []),
  (nat_lit 2050, nat_lit 0, nat_lit 7, nat_lit 0, []),
  (nat_lit 2052, nat_lit 20, nat_lit 0, nat_lit 0, []),
  (nat_lit 2053, nat_lit 21, nat_lit 0, nat_lit 0, []),
  (nat_lit 2054, nat_lit 5, nat_lit 2059, nat_lit 0, []),
  (nat_lit 2057, nat_lit 99, nat_lit 0, nat_lit 0, []),
  (nat_lit 2058, nat_lit 99, nat_lit 0, nat_lit 0, []),
  (nat_lit 2059, nat_lit 7, nat_lit 2233, nat_lit 0, []),
  (nat_lit 2062, nat_lit 0, nat_lit 1, nat_lit 4, []),
  (nat_lit 2063, nat_lit 0, nat_lit 0, nat_lit 4, []),
  (nat_lit 2064, nat_lit 0, nat_lit 5, nat_lit 0, []),
  (nat_lit 2066, nat_lit 1, nat_lit 0, nat_lit 0, [nat_lit 0, nat_lit 1, nat_lit 0]),
  (nat_lit 2067, nat_lit 4, nat_lit 0, nat_lit 0, []),
  (nat_lit 2068, nat_lit 10, nat_lit 0, nat_lit 100, []),
  (nat_lit 2069, nat_lit 15, nat_lit 94, nat_lit 2, [nat_lit 0, nat_lit 9]),
  (nat_lit 2072, nat_lit 0, nat_lit 2, nat_lit 4, []),
  (nat_lit 2073, nat_lit 0, nat_lit 0, nat_lit 4, []),
  (nat_lit 2074, nat_lit 0, nat_lit 5, nat_lit 0, []),
  (nat_lit 2076, nat_lit 1, nat_lit 0, nat_lit 0, [nat_lit 0, nat_lit 1, nat_lit 0]),
  (nat_lit 2077, nat_lit 4, nat_lit 0, nat_lit 0, []),
  (nat_lit 2078, nat_lit 10, nat_lit 0, nat_lit 100, []),
  (nat_lit 2079, nat_lit 15, nat_lit 167, nat_lit 2, [nat_lit 0, nat_lit 10]),
  (nat_lit 2082, nat_lit 6, nat_lit 2233, nat_lit 0, []),
  (nat_lit 2085, nat_lit 99, nat_lit 0, nat_lit 0, []),
  (nat_lit 2086, nat_lit 99, nat_lit 0, nat_lit 0, []),
  (nat_lit 2087, nat_lit 0, nat_lit 1, nat_lit 4, []),
  (nat_lit 2088, nat_lit 15, nat_lit 103, nat_lit 1, [nat_lit 0, nat_lit 9]),
  (nat_lit 2091, nat_lit 0, nat_lit 2, nat_lit 4, []),
  (nat_lit 2092, nat_lit 15, nat_lit 178, nat_lit 1, [nat_lit 0, nat_lit 10]),
  (nat_lit 2095, nat_lit 6, nat_lit 2233, nat_lit 0, []),
  (nat_lit 2098, nat_lit 99, nat_lit 0, nat_lit 0, []),
  (nat_lit 2099, nat_lit 99, nat_lit 0, nat_lit 0, []),
  (nat_lit 2100, nat_lit 0, nat_lit 1, nat_lit 4, []),
  (nat_lit 2101, nat_lit 0, nat_lit 0, nat_lit 4, []),
  (nat_lit 2102, nat_lit 0, nat_lit 5, nat_lit 0, []),
  (nat_lit 2104, nat_lit 1, nat_lit 0, nat_lit 0, [nat_lit 0, nat_lit 1, nat_lit 0]),
  (nat_lit 2105, nat_lit 4, nat_lit 0, nat_lit 0, []),
  (nat_lit 2106, nat_lit 10, nat_lit 0, nat_lit 100, []),
  (nat_lit 2107, nat_lit 0, nat_lit 3, nat_lit 4, []),
  (nat_lit 2108, nat_lit 15, nat_lit 203, nat_lit 3, [nat_lit 4, nat_lit 99]),
  (nat_lit 2111, nat_lit 2, nat_lit 6, nat_lit 0, []),
  (nat_lit 2113, nat_lit 0, nat_lit 2, nat_lit 4, []),
  (nat_lit 2114, nat_lit 0, nat_lit 0, nat_lit 4, []),
  (nat_lit 2115, nat_lit 0, nat_lit 5, nat_lit 0, []),
  (nat_lit 2117, nat_lit 1, nat_lit 0, nat_lit 0, [nat_lit 0, nat_lit 1, nat_lit 0]),
  (nat_lit 2118, nat_lit 4, nat_lit 0, nat_lit 0, []),
  (nat_lit 2119, nat_lit 10, nat_lit 0, nat_lit 100, []),
  (nat_lit 2120, nat_lit 15, nat_lit 170, nat_lit 2, [nat_lit 0, nat_lit 10]),
  (nat_lit 2123, nat_lit 2, nat_lit 7, nat_lit 0, []),
  (nat_lit 2125, nat_lit 0, nat_lit 2, nat_lit 4, []),
  (nat_lit 2126, nat_lit 15, nat_lit 177, nat_lit 1, [nat_lit 0, nat_lit 10]),
  (nat_lit 2129, nat_lit 0, nat_lit 6, nat_lit 0, []),
  (nat_lit 2131, nat_lit 6, nat_lit 2136, nat_lit 0, []),
  (nat_lit 2134, nat_lit 99, nat_lit 0, nat_lit 0, []),
  (nat_lit 2135, nat_lit 99, nat_lit 0, nat_lit 0, []),
  (nat_lit 2136, nat_lit 0, nat_lit 6, nat_lit 0, []),
  (nat_lit 2138, nat_lit 5, nat_lit 2160, nat_lit 1, []),
  (nat_lit 2141, nat_lit 0, nat_lit 3, nat_lit 4, []),
  (nat_lit 2142, nat_lit 1, nat_lit 0, nat_lit 0, [nat_lit 0, nat_lit 0, nat_lit 0]),
  (nat_lit 2143, nat_lit 10, nat_lit 0, nat_lit 103, []),
  (nat_lit 2144, nat_lit 0, nat_lit 7, nat_lit 0, []),
  (nat_lit 2146, nat_lit 5, nat_lit 2153, nat_lit 0, []),
  (nat_lit 2149, nat_lit 99, nat_lit 0, nat_lit 0, []),
  (nat_lit 2150, nat_lit 99, nat_lit 0, nat_lit 0, []),
  (nat_lit 2153, nat_lit 1, nat_lit 0, nat_lit 0, [nat_lit 2, nat_lit 0, nat_lit 0]),
  (nat_lit 2154, nat_lit 21, nat_lit 0, nat_lit 0, []),
  (nat_lit 2155, nat_lit 5, nat_lit 2160, nat_lit 0, []),
  (nat_lit 2158, nat_lit 99, nat_lit 0, nat_lit 0, []),
  (nat_lit 2159, nat_lit 99, nat_lit 0, nat_lit 0, []),
  (nat_lit 2160, nat_lit 7, nat_lit 2233, nat_lit 0, []),
  (nat_lit 2163, nat_lit 0, nat_lit 1, nat_lit 4, []),
  (nat_lit 2164, nat_lit 0, nat_lit 0, nat_lit 4, []),
  (nat_lit 2165, nat_lit 0, nat_lit 5, nat_lit 0, []),
  (nat_lit 2167, nat_lit 1, nat_lit 0, nat_lit 0, [nat_lit 0, nat_lit 1, nat_lit 0]),
  (nat_lit 2168, nat_lit 4, nat_lit 0, nat_lit 0, []),
  (nat_lit 2169, nat_lit 10, nat_lit 0, nat_lit 100, []),
  (nat_lit 2170, nat_lit 0, nat_lit 3, nat_lit 4, []),
  (nat_lit 2171, nat_lit 15, nat_lit 201, nat_lit 3, [nat_lit 4, nat_lit 99]),
  (nat_lit 2174, nat_lit 2, nat_lit 6, nat_lit 0, []),
  (nat_lit 2176, nat_lit 0, nat_lit 2, nat_lit 4, []),
  (nat_lit 2177, nat_lit 0, nat_lit 0, nat_lit 4, []),
  (nat_lit 2178, nat_lit 0, nat_lit 5, nat_lit 0, []),
  (nat_lit 2180, nat_lit 1, nat_lit 0, nat_lit 0, [nat_lit 0, nat_lit 1, nat_lit 0]),
  (nat_lit 2181, nat_lit 4, nat_lit 0, nat_lit 0, []),
  (nat_lit 2182, nat_lit 10, nat_lit 0, nat_lit 100, []),
  (nat_lit 2183, nat_lit 15, nat_lit 168, nat_lit 2, [nat_lit 0, nat_lit 10]),
  (nat_lit 2186, nat_lit 2, nat_lit 7, nat_lit 0, []),
  (nat_lit 2188, nat_lit 0, nat_lit 2, nat_lit 4, []),
  (nat_lit 2189, nat_lit 15, nat_lit 177, nat_lit 1, [nat_lit 0, nat_lit 10]),
  (nat_lit 2192, nat_lit 0, nat_lit 6, nat_lit 0, []),
  (nat_lit 2194, nat_lit 6, nat_lit 2199, nat_lit 0, []),
  (nat_lit 2197, nat_lit 99, nat_lit 0, nat_lit 0, []),
  (nat_lit 2198, nat_lit 99, nat_lit 0, nat_lit 0, []),
  (nat_lit 2199, nat_lit 0, nat_lit 6, nat_lit 0, []),
  (nat_lit 2201, nat_lit 5, nat_lit 2216, nat_lit 1, []),
  (nat_lit 2204, nat_lit 99, nat_lit 0, nat_lit 0, []),
  (nat_lit 2205, nat_lit 99, nat_lit 0, nat_lit 0, []),
  (nat_lit 2206, nat_lit 99, nat_lit 0, nat_lit 0, []),
  (nat_lit 2207, nat_lit 99, nat_lit 0, nat_lit 0, []),
  (nat_lit 2209, nat_lit 99, nat_lit 0, nat_lit 0, []),
  (nat_lit 2210, nat_lit 99, nat_lit 0, nat_lit 0, []),
  (nat_lit 2211, nat_lit 99, nat_lit 0, nat_lit 0, []),
  (nat_lit 2214, nat_lit 99, nat_lit 0, nat_lit 0, []),
  (nat_lit 2215, nat_lit 99, nat_lit 0, nat_lit 0, []),
  (nat_lit 2216, nat_lit 7, nat_lit 2233, nat_lit 0, []),
  (nat_lit 2219, nat_lit 0, nat_lit 1, nat_lit 4, []),
  (nat_lit 2220, nat_lit 15, nat_lit 63, nat_lit 1, [nat_lit 0, nat_lit 9]),
  (nat_lit 2223, nat_lit 0, nat_lit 2, nat_lit 4, []),
  (nat_lit 2224, nat_lit 15, nat_lit 118, nat_lit 1, [nat_lit 0, nat_lit 10]),
  (nat_lit 2227, nat_lit 21, nat_lit 0, nat_lit 0, []),
  (nat_lit 2228, nat_lit 5, nat_lit 2233, nat_lit 0, []),
  (nat_lit 2231, nat_lit 99, nat_lit 0, nat_lit 0, []),
  (nat_lit 2232, nat_lit 99, nat_lit 0, nat_lit 0, []),
  (nat_lit 2233, nat_lit 3, nat_lit 5, nat_lit 0, [nat_lit 6]),
  (nat_lit 2236, nat_lit 7, nat_lit 28, nat_lit 0, []),
  (nat_lit 2239, nat_lit 1, nat_lit 0, nat_lit 0, [nat_lit 0, nat_lit 1, nat_lit 0]),
  (nat_lit 2240, nat_lit 16, nat_lit 0, nat_lit 6, [])]
def zcodes : List (List zE) := [zk_0, zk_1, zk_2, zk_3, zk_4, zk_5, zk_6, zk_7, zk_8, zk_9, zk_10, zk_11, zk_12, zk_13, zk_14, zk_15, zk_16, zk_17, zk_18, zk_19, zk_20, zk_21, zk_22, zk_23, zk_24, zk_25, zk_26, zk_27, zk_28, zk_29, zk_30, zk_31, zk_32, zk_33, zk_34, zk_35, zk_36, zk_37, zk_38, zk_39, zk_40, zk_41, zk_42, zk_43, zk_44, zk_45, zk_46, zk_47, zk_48, zk_49, zk_50, zk_51, zk_52, zk_53, zk_54, zk_55, zk_56, zk_57, zk_58, zk_59, zk_60, zk_61, zk_62, zk_63, zk_64, zk_65, zk_66, zk_67, zk_68, zk_69, zk_70, zk_71, zk_72, zk_73, zk_74, zk_75, zk_76, zk_77, zk_78, zk_79, zk_80, zk_81, zk_82, zk_83, zk_84, zk_85, zk_86, zk_87, zk_88, zk_89, zk_90, zk_91, zk_92, zk_93, zk_94, zk_95, zk_96, zk_97, zk_98, zk_99, zk_100, zk_101, zk_102, zk_103, zk_104, zk_105, zk_106, zk_107, zk_108, zk_109, zk_110, zk_111, zk_112, zk_113, zk_114, zk_115, zk_116, zk_117, zk_118, zk_119, zk_120, zk_121, zk_122, zk_123, zk_124, zk_125, zk_126, zk_127, zk_128, zk_129, zk_130, zk_131, zk_132, zk_133, zk_134, zk_135, zk_136, zk_137, zk_138, zk_139, zk_140, zk_141, zk_142, zk_143, zk_144, zk_145, zk_146, zk_147, zk_148, zk_149, zk_150, zk_151, zk_152, zk_153, zk_154, zk_155, zk_156, zk_157, zk_158, zk_159, zk_160, zk_161, zk_162, zk_163, zk_164, zk_165, zk_166, zk_167, zk_168, zk_169, zk_170, zk_171, zk_172, zk_173, zk_174, zk_175, zk_176, zk_177, zk_178, zk_179, zk_180, zk_181, zk_182, zk_183, zk_184, zk_185, zk_186, zk_187, zk_188, zk_189, zk_190, zk_191, zk_192, zk_193, zk_194, zk_195, zk_196, zk_197, zk_198, zk_199, zk_200, zk_201, zk_202, zk_203, zk_204, zk_205, zk_206, zk_207]
def zobjs : List (Nat × zA) := [(nat_lit 3, [(nat_lit 0, (nat_lit 5, nat_lit 0, nat_lit 0)), (nat_lit 1, (nat_lit 0, nat_lit 0, nat_lit 0)), (nat_lit 2, (nat_lit 0, nat_lit 0, nat_lit 0))]),
  (nat_lit 6, [(nat_lit 0, (nat_lit 5, nat_lit 0, nat_lit 0)), (nat_lit 1, (nat_lit 5, nat_lit 0, nat_lit 0)), (nat_lit 2, (nat_lit 5, nat_lit 0, nat_lit 0)), (nat_lit 3, (nat_lit 5, nat_lit 0, nat_lit 0)), (nat_lit 4, (nat_lit 5, nat_lit 0, nat_lit 0)), (nat_lit 5, (nat_lit 5, nat_lit 0, nat_lit 0))]),
  (nat_lit 7, [(nat_lit 0, (nat_lit 5, nat_lit 0, nat_lit 0)), (nat_lit 1, (nat_lit 5, nat_lit 0, nat_lit 0)), (nat_lit 2, (nat_lit 5, nat_lit 0, nat_lit 0)), (nat_lit 3, (nat_lit 5, nat_lit 0, nat_lit 0)), (nat_lit 4, (nat_lit 0, nat_lit 0, nat_lit 0)), (nat_lit 5, (nat_lit 0, nat_lit 0, nat_lit 0)), (nat_lit 6, (nat_lit 0, nat_lit 0, nat_lit 0))]),
  (nat_lit 4, [(nat_lit 0, (nat_lit 5, nat_lit 0, nat_lit 0)), (nat_lit 1, (nat_lit 5, nat_lit 0, nat_lit 0)), (nat_lit 2, (nat_lit 5, nat_lit 0, nat_lit 0)), (nat_lit 3, (nat_lit 5, nat_lit 0, nat_lit 0))]),
  (nat_lit 8, [(nat_lit 0, (nat_lit 5, nat_lit 0, nat_lit 0)), (nat_lit 1, (nat_lit 0, nat_lit 0, nat_lit 0)), (nat_lit 2, (nat_lit 0, nat_lit 0, nat_lit 0)), (nat_lit 3, (nat_lit 0, nat_lit 0, nat_lit 0)), (nat_lit 4, (nat_lit 0, nat_lit 0, nat_lit 0)), (nat_lit 5, (nat_lit 0, nat_lit 0, nat_lit 0)), (nat_lit 6, (nat_lit 2, nat_lit 0, nat_lit 0)), (nat_lit 7, (nat_lit 0, nat_lit 0, nat_lit 0))]),
  (nat_lit 2, [(nat_lit 0, (nat_lit 5, nat_lit 0, nat_lit 0)), (nat_lit 1, (nat_lit 5, nat_lit 0, nat_lit 0))]),
  (nat_lit 5, [(nat_lit 0, (nat_lit 5, nat_lit 0, nat_lit 0)), (nat_lit 1, (nat_lit 5, nat_lit 0, nat_lit 0)), (nat_lit 2, (nat_lit 5, nat_lit 0, nat_lit 0)), (nat_lit 3, (nat_lit 5, nat_lit 0, nat_lit 0)), (nat_lit 4, (nat_lit 0, nat_lit 0, nat_lit 0))]),
  (nat_lit 3, [(nat_lit 0, (nat_lit 0, nat_lit 0, nat_lit 0)), (nat_lit 1, (nat_lit 5, nat_lit 0, nat_lit 0)), (nat_lit 2, (nat_lit 0, nat_lit 0, nat_lit 0))]),
  (nat_lit 4, [(nat_lit 0, (nat_lit 5, nat_lit 0, nat_lit 0)), (nat_lit 1, (nat_lit 5, nat_lit 0, nat_lit 0)), (nat_lit 2, (nat_lit 5, nat_lit 0, nat_lit 0)), (nat_lit 3, (nat_lit 0, nat_lit 0, nat_lit 0))]),
  (nat_lit 14, [(nat_lit 0, (nat_lit 5, nat_lit 0, nat_lit 0)), (nat_lit 1, (nat_lit 5, nat_lit 0, nat_lit 0)), (nat_lit 2, (nat_lit 5, nat_lit 0, nat_lit 0)), (nat_lit 3, (nat_lit 5, nat_lit 0, nat_lit 0)), (nat_lit 4, (nat_lit 5, nat_lit 0, nat_lit 0)), (nat_lit 5, (nat_lit 5, nat_lit 0, nat_lit 0)), (nat_lit 6, (nat_lit 5, nat_lit 0, nat_lit 0)), (nat_lit 7, (nat_lit 5, nat_lit 0, nat_lit 0)), (nat_lit 8, (nat_lit 5, nat_lit 0, nat_lit 0)), (nat_lit 9, (nat_lit 5, nat_lit 0, nat_lit 0)), (nat_lit 10, (nat_lit 5, nat_lit 0, nat_lit 0)), (nat_lit 11, (nat_lit 0, nat_lit 0, nat_lit 0)), (nat_lit 12, (nat_lit 0, nat_lit 0, nat_lit 0)), (nat_lit 13, (nat_lit 0, nat_lit 0, nat_lit 0))]),
  (nat_lit 53, [(nat_lit 0, (nat_lit 5, nat_lit 0, nat_lit 0)), (nat_lit 1, (nat_lit 5, nat_lit 0, nat_lit 0)), (nat_lit 2, (nat_lit 5, nat_lit 0, nat_lit 0)), (nat_lit 3, (nat_lit 5, nat_lit 0, nat_lit 0)), (nat_lit 4, (nat_lit 5, nat_lit 0, nat_lit 0)), (nat_lit 5, (nat_lit 5, nat_lit 0, nat_lit 0)), (nat_lit 6, (nat_lit 0, nat_lit 0, nat_lit 0)), (nat_lit 7, (nat_lit 0, nat_lit 0, nat_lit 0)), (nat_lit 8, (nat_lit 5, nat_lit 0, nat_lit 0)), (nat_lit 9, (nat_lit 5, nat_lit 0, nat_lit 0)), (nat_lit 10, (nat_lit 0, nat_lit 0, nat_lit 0)), (nat_lit 11, (nat_lit 5, nat_lit 0, nat_lit 0)), (nat_lit 12, (nat_lit 5, nat_lit 0, nat_lit 0)), (nat_lit 13, (nat_lit 5, nat_lit 0, nat_lit 0)), (nat_lit 14, (nat_lit 5, nat_lit 0, nat_lit 0)), (nat_lit 15, (nat_lit 5, nat_lit 0, nat_lit 0)), (nat_lit 16, (nat_lit 0, nat_lit 0, nat_lit 0)), (nat_lit 17, (nat_lit 0, nat_lit 0, nat_lit 0)), (nat_lit 18, (nat_lit 5, nat_lit 0, nat_lit 0)), (nat_lit 19, (nat_lit 5, nat_lit 0, nat_lit 0)), (nat_lit 20, (nat_lit 5, nat_lit 0, nat_lit 0)), (nat_lit 21, (nat_lit 5, nat_lit 0, nat_lit 0)), (nat_lit 22, (nat_lit 5, nat_lit 0, nat_lit 0)), (nat_lit 23, (nat_lit 5, nat_lit 0, nat_lit 0)), (nat_lit 24, (nat_lit 5, nat_lit 0, nat_lit 0)), (nat_lit 25, (nat_lit 5, nat_lit 0, nat_lit 0)), (nat_lit 26, (nat_lit 5, nat_lit 0, nat_lit 0)), (nat_lit 27, (nat_lit 5, nat_lit 0, nat_lit 0)), (nat_lit 28, (nat_lit 5, nat_lit 0, nat_lit 0)), (nat_lit 29, (nat_lit 5, nat_lit 0, nat_lit 0)), (nat_lit 30, (nat_lit 5, nat_lit 0, nat_lit 0)), (nat_lit 31, (nat_lit 0, nat_lit 0, nat_lit 0)), (nat_lit 32, (nat_lit 5, nat_lit 0, nat_lit 0)), (nat_lit 33, (nat_lit 5, nat_lit 0, nat_lit 0)), (nat_lit 34, (nat_lit 5, nat_lit 0, nat_lit 0)), (nat_lit 35, (nat_lit 5, nat_lit 0, nat_lit 0)), (nat_lit 36, (nat_lit 5, nat_lit 0, nat_lit 0)), (nat_lit 37, (nat_lit 0, nat_lit 0, nat_lit 0)), (nat_lit 38, (nat_lit 0, nat_lit 0, nat_lit 0)), (nat_lit 39, (nat_lit 0, nat_lit 0, nat_lit 0)), (nat_lit 40, (nat_lit 0, nat_lit 0, nat_lit 0)), (nat_lit 41, (nat_lit 0, nat_lit 0, nat_lit 0)), (nat_lit 42, (nat_lit 0, nat_lit 0, nat_lit 0)), (nat_lit 43, (nat_lit 0, nat_lit 0, nat_lit 0)), (nat_lit 44, (nat_lit 5, nat_lit 0, nat_lit 0)), (nat_lit 45, (nat_lit 5, nat_lit 0, nat_lit 0)), (nat_lit 46, (nat_lit 5, nat_lit 0, nat_lit 0)), (nat_lit 47, (nat_lit 5, nat_lit 0, nat_lit 0)), (nat_lit 48, (nat_lit 5, nat_lit 0, nat_lit 0)), (nat_lit 49, (nat_lit 5, nat_lit 0, nat_lit 0)), (nat_lit 50, (nat_lit 5, nat_lit 0, nat_lit 0)), (nat_lit 51, (nat_lit 5, nat_lit 0, nat_lit 0)), (nat_lit 52, (nat_lit 0, nat_lit 0, nat_lit 0))])]
end
section
/-! ===== what the forced rows are ===== -/
theorem zb_tt {α : Type} {t e : α} : zb true t e = t := rfl
theorem zb_ff {α : Type} {t e : α} : zb false t e = e := rfl
theorem zX_inl {S : zS} (h : zX = Sum.inl S) : False := by unfold zX at h; cases h
theorem zb_inl {c : Bool} {o : zO} {S : zS} (h : zb c o zX = Sum.inl S) : c = true ∧ o = Sum.inl S := by
  cases c
  · exact (zX_inl h).elim
  · exact ⟨rfl, h⟩
theorem zfN_eq {α : Type} (n : Nat) (k : Nat → α) : zfN n k = k n := by cases n <;> rfl
theorem zfV_eq {α : Type} (v : zV) (k : zV → α) : zfV v k = k v := rfl
theorem zfC_eq {α : Type} (c : zC) (k : Nat → Nat → zV → zA → α) : zfC c k = k c.1 c.2.1 c.2.2.1 c.2.2.2 := rfl
theorem zfW_eq {α : Type} (w : zW) (k : Nat → List zC → Nat → Nat → α) : zfW w k = k w.1 w.2.1 w.2.2.1 w.2.2.2 := rfl
theorem zfR_eq {α : Type} (r : zR) (k : Nat → zV → Nat → List zC → Nat → Nat → α) : zfR r k = k r.1 r.2.1 r.2.2.1 r.2.2.2.1 r.2.2.2.2.1 r.2.2.2.2.2 := rfl
theorem zbeq {a b : Nat} (h : Nat.beq a b = true) : a = b := Nat.eq_of_beq_eq_true h
theorem zble {a b : Nat} (h : Nat.ble a b = true) : a ≤ b := Nat.le_of_ble_eq_true h
theorem zget_cons (h : Nat × zV) (t : zA) (k : Nat) (d : zV) : zget (h :: t) k d = zb (Nat.beq h.1 k) h.2 (zget t k d) := rfl
noncomputable def zset (l : zA) (k : Nat) (v : zV) : zA := zsetK l k v id
theorem zsetK_cons {α : Type} (h : Nat × zV) (t : zA) (k : Nat) (v : zV) (c : zA → α) : zsetK (h :: t) k v c = zb (Nat.beq h.1 k) (c ((k, v) :: t)) (zsetK t k v (fun r => c (h :: r))) := rfl
theorem zsetK_eq {α : Type} (k : Nat) (v : zV) : ∀ (l : zA) (c : zA → α), zsetK l k v c = c (zset l k v)
  | [], _ => rfl
  | h :: t, c => by
    unfold zset
    rw [zsetK_cons, zsetK_cons]
    cases Nat.beq h.1 k
    · rw [zb_ff, zb_ff, zsetK_eq k v t, zsetK_eq k v t]
      rfl
    · rfl
theorem zget_set (k j : Nat) (v d : zV) : ∀ l : zA, zget (zset l k v) j d = if j = k then v else zget l j d
  | [] => by
    show zb (Nat.beq k j) v d = _
    by_cases h : j = k
    · subst h; rw [if_pos rfl, Nat.beq_refl]; rfl
    · rw [if_neg h]
      have : Nat.beq k j = false := by
        cases q : Nat.beq k j
        · rfl
        · exact absurd (zbeq q).symm h
      rw [this]; rfl
  | h :: t => by
    have ih := zget_set k j v d t
    have e : zset (h :: t) k v = zb (Nat.beq h.1 k) ((k, v) :: t) (h :: zset t k v) := by
      unfold zset
      rw [zsetK_cons]
      cases Nat.beq h.1 k
      · rw [zb_ff, zb_ff, zsetK_eq]; rfl
      · rfl
    rw [e]
    cases q : Nat.beq h.1 k
    · rw [zb_ff, zget_cons, zget_cons, ih]
      by_cases hj : j = k
      · subst hj
        rw [if_pos rfl, if_pos rfl, q]; rfl
      · rw [if_neg hj, if_neg hj]
    · have hk := zbeq q
      rw [zb_tt, zget_cons, zget_cons]
      by_cases hj : j = k
      · subst hj
        rw [if_pos rfl, Nat.beq_refl]; rfl
      · rw [if_neg hj]
        have h1 : Nat.beq k j = false := by
          cases q : Nat.beq k j
          · rfl
          · exact absurd (zbeq q).symm hj
        rw [hk, h1]; rfl
noncomputable def zrem (l : zA) (i : Nat) (c2 : Bool) : zA := l.filter (fun h => !(zgone i c2 h))
theorem zremK_eq {α : Type} (i : Nat) (c2 : Bool) : ∀ (l : zA) (c : zA → α), zremK l i c2 c = c (zrem l i c2)
  | [], _ => rfl
  | h :: t, c => by
    have e : zremK (h :: t) i c2 c = zb (zgone i c2 h) (zremK t i c2 c) (zremK t i c2 (fun r => c (h :: r))) := rfl
    rw [e, zremK_eq i c2 t, zremK_eq i c2 t]
    unfold zrem
    rw [List.filter_cons]
    cases zgone i c2 h <;> rfl
theorem znth_eq : ∀ (l : List zC) (p : Nat), znth l p = (l[p]?).getD (999, 0, (99, 0, 0), [])
  | [], _ => rfl
  | _ :: _, 0 => rfl
  | _ :: t, p + 1 => znth_eq t p
theorem zputK_eq {α : Type} (x : zC) : ∀ (l : List zC) (p : Nat) (c : List zC → α), zputK l p x c = c (l.set p x)
  | [], _, _ => rfl
  | _ :: _, 0, _ => rfl
  | h :: t, p + 1, c => zputK_eq x t p (fun r => c (h :: r))
theorem zscr_eq : ∀ (l : List zV) (p : Nat), zscr l p = (l[p]?).getD (99, 0, 0)
  | [], _ => rfl
  | _ :: _, 0 => rfl
  | _ :: t, p + 1 => zscr_eq t p
theorem ztgt_eq (d : Nat) : ∀ (l : List Nat) (p : Nat), ztgt l p d = (l[p]?).getD d
  | [], _ => rfl
  | _ :: _, 0 => rfl
  | _ :: t, p + 1 => ztgt_eq d t p
theorem zselK_eq (k : List zE → zR) : ∀ (l : List (List zE)) (i : Nat), zselK l i k = ((l[i]?).map k).getD zR0
  | [], _ => rfl
  | _ :: _, 0 => rfl
  | _ :: t, p + 1 => zselK_eq k t p
theorem zobjK_eq (k : Nat → zA → zO) : ∀ (l : List (Nat × zA)) (i : Nat), zobjK l i k = ((l[i]?).map (fun h => k h.1 h.2)).getD zX
  | [], _ => rfl
  | _ :: _, 0 => rfl
  | _ :: t, p + 1 => zobjK_eq k t p
theorem zfindK_eq (t : Nat) (c : List zE → zO) : ∀ l : List zE, zfindK l t c = match zfindS l t with
    | [] => zX
    | h :: r => c (h :: r)
  | [] => rfl
  | h :: r => by
    have e1 : zfindK (h :: r) t c = zb (Nat.beq h.1 t) (c (h :: r)) (zfindK r t c) := rfl
    have e2 : zfindS (h :: r) t = zb (Nat.beq h.1 t) (h :: r) (zfindS r t) := rfl
    rw [e1, e2]
    cases Nat.beq h.1 t
    · rw [zb_ff, zb_ff]; exact zfindK_eq t c r
    · rfl
theorem zfindS_head {t : Nat} : ∀ {l : List zE} {h : zE} {r : List zE}, zfindS l t = h :: r → h.1 = t
  | [], _, _, e => by cases e
  | x :: l, h, r, e => by
    have e2 : zfindS (x :: l) t = zb (Nat.beq x.1 t) (x :: l) (zfindS l t) := rfl
    rw [e2] at e
    cases q : Nat.beq x.1 t
    · rw [q, zb_ff] at e; exact zfindS_head e
    · rw [q, zb_tt] at e; cases e; exact zbeq q
def zpc (l : List zE) : Nat := match l with
  | [] => 0
  | e :: _ => e.1
theorem zgo_inl {full : List zE} {t : Nat} {ls : zA} {st : List zV} {w : zW} {S : zS} (h : zgo full t ls st w = Sum.inl S) : S = (zfindS full t, ls, st, w) ∧ zpc (zfindS full t) = t := by
  unfold zgo at h
  rw [zfindK_eq] at h
  cases q : zfindS full t with
  | nil => rw [q] at h; exact (zX_inl h).elim
  | cons x r =>
    rw [q] at h
    exact ⟨(Sum.inl.inj h).symm, zfindS_head q⟩
/-! ===== numbers ===== -/
theorem zmod (n : Nat) : nI (n % 4294967296) = nI n := by
  apply Int32.toBitVec_inj.1
  show BitVec.ofNat 32 (n % 4294967296) = BitVec.ofNat 32 n
  apply BitVec.eq_of_toNat_eq
  rw [BitVec.toNat_ofNat, BitVec.toNat_ofNat]
  show n % 4294967296 % 4294967296 = n % 4294967296
  rw [Nat.mod_mod]
theorem zmodL (n : Nat) : lN (n % 18446744073709551616) = lN n := by
  apply Int64.toBitVec_inj.1
  show BitVec.ofNat 64 (n % 18446744073709551616) = BitVec.ofNat 64 n
  apply BitVec.eq_of_toNat_eq
  rw [BitVec.toNat_ofNat, BitVec.toNat_ofNat]
  show n % 18446744073709551616 % 18446744073709551616 = n % 18446744073709551616
  rw [Nat.mod_mod]
theorem zsub (x y : Nat) : nI (x + (4294967296 - y % 4294967296)) = nI x - nI y := by
  have h : nI (x + (4294967296 - y % 4294967296)) + nI y = nI x := by
    rw [nI_add, ← zmod (x + (4294967296 - y % 4294967296) + y), ← zmod x]
    congr 1
    have := Nat.mod_lt y (show 0 < 4294967296 by decide)
    have := Nat.mod_add_div y 4294967296
    omega
  rw [← h, Int32.add_sub_cancel]
theorem zand (a b : Nat) : nI a &&& nI b = nI (a &&& b) := by
  apply Int32.toBitVec_inj.1
  show BitVec.ofNat 32 a &&& BitVec.ofNat 32 b = BitVec.ofNat 32 (a &&& b)
  apply BitVec.eq_of_getLsbD_eq
  intro i hi
  simp [hi]
def zbias (x : Int32) : Nat := (x.toBitVec.toNat + 2147483648) % 4294967296
def zbias64 (x : Int64) : Nat := (x.toBitVec.toNat + 9223372036854775808) % 18446744073709551616
theorem zbias_lt (x : Int32) : zbias x ≤ 4294967295 := by
  have := Nat.mod_lt (x.toBitVec.toNat + 2147483648) (show 0 < 4294967296 by decide)
  unfold zbias; omega
theorem zbias_toInt (x : Int32) : x.toInt = (zbias x : Int) - 2147483648 := by
  have h := x.toBitVec.isLt
  show x.toBitVec.toInt = _
  rw [BitVec.toInt_eq_toNat_cond]
  unfold zbias
  split <;> omega
theorem zbias64_toInt (x : Int64) : x.toInt = (zbias64 x : Int) - 9223372036854775808 := by
  have h := x.toBitVec.isLt
  show x.toBitVec.toInt = _
  rw [BitVec.toInt_eq_toNat_cond]
  unfold zbias64
  split <;> omega
theorem zbias_nI (n : Nat) : zbias (nI n) = (n + 2147483648) % 4294967296 := by
  have e : (nI n).toBitVec.toNat = n % 4294967296 := by
    show (BitVec.ofNat 32 n).toNat = _
    rw [BitVec.toNat_ofNat]
  unfold zbias
  rw [e]; omega
theorem zbias64_lN (n : Nat) : zbias64 (lN n) = (n + 9223372036854775808) % 18446744073709551616 := by
  have e : (lN n).toBitVec.toNat = n % 18446744073709551616 := by
    show (BitVec.ofNat 64 n).toNat = _
    rw [BitVec.toNat_ofNat]
  unfold zbias64
  rw [e]; omega
theorem zbias64_wide (x : Int32) : zbias64 x.toInt64 = zbias x + 9223372034707292160 := by
  have h1 := zbias64_toInt x.toInt64
  have h2 := zbias_toInt x
  rw [Int32.toInt_toInt64] at h1
  omega
theorem zlt_iff {x y : Int32} : x < y ↔ zbias x < zbias y := by
  rw [Int32.lt_iff_toInt_lt, zbias_toInt, zbias_toInt]; omega
theorem zle_iff {x y : Int32} : x ≤ y ↔ zbias x ≤ zbias y := by
  rw [Int32.le_iff_toInt_le, zbias_toInt, zbias_toInt]; omega
theorem zeq_iff {x y : Int32} : x = y ↔ zbias x = zbias y := by
  rw [← Int32.toInt_inj, zbias_toInt, zbias_toInt]; omega
theorem zltL_iff {x y : Int64} : x < y ↔ zbias64 x < zbias64 y := by
  rw [Int64.lt_iff_toInt_lt, zbias64_toInt, zbias64_toInt]; omega
theorem zeqL_iff {x y : Int64} : x = y ↔ zbias64 x = zbias64 y := by
  rw [← Int64.toInt_inj, zbias64_toInt, zbias64_toInt]; omega
theorem zdivE {a d : Nat} (ha : a ≤ 2147483647) (h0 : 1 ≤ d) (hd : d ≤ 2147483647) : nI a / nI d = nI (a / d) := pk_div (by omega) h0 (by omega)
theorem zremE {a d : Nat} (ha : a ≤ 2147483647) (h0 : 1 ≤ d) (hd : d ≤ 2147483647) : nI a - nI a / nI d * nI d = nI (a % d) := pk_rem (by omega) h0 (by omega)
theorem znI0 {n : Nat} (h0 : 1 ≤ n) (h : n ≤ 2147483647) : ¬ nI n = 0 := nI_ne0 h0 (by omega)
/-! ===== what a number stands for ===== -/
def zRV (ad : List Nat) (b : Nat) (a : zV) (v : Value) : Prop := match a.1 with
  | 0 => v = .int (nI a.2.1)
  | 1 => ∃ x : Int32, v = .int x ∧ a.2.1 ≤ zbias x ∧ zbias x ≤ a.2.2
  | 2 => v = .long (lN a.2.1)
  | 3 => ∃ x : Int32, v = .long x.toInt64 ∧ a.2.1 ≤ zbias x ∧ zbias x ≤ a.2.2
  | 4 => ∃ q, ad[a.2.1]? = some q ∧ v = .ref q
  | 5 => v = .null
  | 6 => v = .float (UInt32.ofNat a.2.1)
  | 7 => v = .double (UInt64.ofNat a.2.1)
  | 8 => v = .ref b
  | 9 => ∃ q, v = .ref q
  | _ => False
theorem zRV_mono {ad ext : List Nat} {b : Nat} {a : zV} {v : Value} (h : zRV ad b a v) : zRV (ad ++ ext) b a v := by
  obtain ⟨t, x, y⟩ := a
  unfold zRV at h ⊢
  split at h <;> try exact h
  obtain ⟨q, h1, h2⟩ := h
  exact ⟨q, by rw [List.getElem?_append_left (List.getElem?_eq_some_iff.mp h1).1]; exact h1, h2⟩
theorem zis_int {a : zV} (h : zis 0 a = true) : a.1 = 0 ∨ a.1 = 1 := by
  have h1 : a.1 ≤ 1 := zble (show Nat.ble a.1 1 = true from h)
  omega
theorem zbeq_ne {a b : Nat} (h : ¬ a = b) : Nat.beq a b = false := by
  cases q : Nat.beq a b
  · rfl
  · exact absurd (zbeq q) h
theorem zlo_0 (x y : Nat) : zlo (0, x, y) = (x + 2147483648) % 4294967296 := by
  show zb true _ _ = _
  rw [zb_tt]
theorem zlo_1 (x y : Nat) : zlo (1, x, y) = x := by
  show zb false _ _ = _
  rw [zb_ff]
theorem zhi_0 (x y : Nat) : zhi (0, x, y) = (x + 2147483648) % 4294967296 := by
  show zb true _ _ = _
  rw [zb_tt]
theorem zhi_1 (x y : Nat) : zhi (1, x, y) = y := by
  show zb false _ _ = _
  rw [zb_ff]
theorem zlo64_2 (x y : Nat) : zlo64 (2, x, y) = (x + 9223372036854775808) % 18446744073709551616 := by
  show zb true _ _ = _
  rw [zb_tt]
theorem zlo64_3 (x y : Nat) : zlo64 (3, x, y) = x + 9223372034707292160 := by
  show zb false _ _ = _
  rw [zb_ff]
theorem zhi64_2 (x y : Nat) : zhi64 (2, x, y) = (x + 9223372036854775808) % 18446744073709551616 := by
  show zb true _ _ = _
  rw [zb_tt]
theorem zhi64_3 (x y : Nat) : zhi64 (3, x, y) = y + 9223372034707292160 := by
  show zb false _ _ = _
  rw [zb_ff]
theorem zRV_0 {ad : List Nat} {b x y : Nat} {v : Value} (hv : zRV ad b (0, x, y) v) : v = .int (nI x) := hv
theorem zRV_1 {ad : List Nat} {b x y : Nat} {v : Value} (hv : zRV ad b (1, x, y) v) : ∃ z : Int32, v = .int z ∧ x ≤ zbias z ∧ zbias z ≤ y := hv
theorem zRV_2 {ad : List Nat} {b x y : Nat} {v : Value} (hv : zRV ad b (2, x, y) v) : v = .long (lN x) := hv
theorem zRV_3 {ad : List Nat} {b x y : Nat} {v : Value} (hv : zRV ad b (3, x, y) v) : ∃ z : Int32, v = .long z.toInt64 ∧ x ≤ zbias z ∧ zbias z ≤ y := hv
theorem zRV_int {ad : List Nat} {b : Nat} {a : zV} {v : Value} (h : zis 0 a = true) (hv : zRV ad b a v) : ∃ x : Int32, v = .int x ∧ zlo a ≤ zbias x ∧ zbias x ≤ zhi a := by
  obtain ⟨t, x, y⟩ := a
  rcases zis_int h with e | e
  · have e : t = 0 := e
    subst e
    refine ⟨nI x, zRV_0 hv, ?_, ?_⟩
    · rw [zbias_nI, zlo_0]; exact Nat.le_refl _
    · rw [zbias_nI, zhi_0]; exact Nat.le_refl _
  · have e : t = 1 := e
    subst e
    rw [zlo_1, zhi_1]
    exact zRV_1 hv
theorem zRV_k {ad : List Nat} {b n y : Nat} {v : Value} (hv : zRV ad b (0, n, y) v) : v = .int (nI n) := hv
theorem zis_long {a : zV} (h : zis 1 a = true) : a.1 = 2 ∨ a.1 = 3 := by
  have h1 : zb (Nat.beq a.1 2) true (Nat.beq a.1 3) = true := h
  cases q : Nat.beq a.1 2
  · rw [q] at h1; exact Or.inr (zbeq h1)
  · exact Or.inl (zbeq q)
theorem zRV_long {ad : List Nat} {b : Nat} {a : zV} {v : Value} (h : zis 1 a = true) (hv : zRV ad b a v) : ∃ x : Int64, v = .long x ∧ zlo64 a ≤ zbias64 x ∧ zbias64 x ≤ zhi64 a := by
  obtain ⟨t, x, y⟩ := a
  rcases zis_long h with e | e
  · have e : t = 2 := e
    subst e
    refine ⟨lN x, zRV_2 hv, ?_, ?_⟩
    · rw [zbias64_lN, zlo64_2]; exact Nat.le_refl _
    · rw [zbias64_lN, zhi64_2]; exact Nat.le_refl _
  · have e : t = 3 := e
    subst e
    obtain ⟨z, h1, h2, h3⟩ := zRV_3 hv
    refine ⟨z.toInt64, h1, ?_, ?_⟩
    · rw [zbias64_wide, zlo64_3]; exact Nat.add_le_add_right h2 _
    · rw [zbias64_wide, zhi64_3]; exact Nat.add_le_add_right h3 _
theorem zis_float {a : zV} (h : zis 2 a = true) : a.1 = 6 := zbeq h
theorem zis_double {a : zV} (h : zis 3 a = true) : a.1 = 7 := zbeq h
theorem zRV_float {ad : List Nat} {b : Nat} {a : zV} {v : Value} (h : zis 2 a = true) (hv : zRV ad b a v) : ∃ x : UInt32, v = .float x := by
  obtain ⟨t, x, y⟩ := a
  cases (show t = 6 from zis_float h)
  exact ⟨_, hv⟩
theorem zRV_double {ad : List Nat} {b : Nat} {a : zV} {v : Value} (h : zis 3 a = true) (hv : zRV ad b a v) : ∃ x : UInt64, v = .double x := by
  obtain ⟨t, x, y⟩ := a
  cases (show t = 7 from zis_double h)
  exact ⟨_, hv⟩
theorem zis_ref {a : zV} (h : zis 4 a = true) : a.1 = 4 ∨ a.1 = 5 ∨ a.1 = 8 ∨ a.1 = 9 := by
  have h1 : zb (Nat.beq a.1 4) true (zb (Nat.beq a.1 5) true (zb (Nat.beq a.1 8) true (Nat.beq a.1 9))) = true := h
  cases q : Nat.beq a.1 4
  · cases q2 : Nat.beq a.1 5
    · cases q3 : Nat.beq a.1 8
      · rw [q, q2, q3] at h1; exact Or.inr (Or.inr (Or.inr (zbeq h1)))
      · exact Or.inr (Or.inr (Or.inl (zbeq q3)))
    · exact Or.inr (Or.inl (zbeq q2))
  · exact Or.inl (zbeq q)
theorem zRV_ref {ad : List Nat} {b : Nat} {a : zV} {v : Value} (h : zis 4 a = true) (hv : zRV ad b a v) : (∃ q, v = .ref q) ∨ v = .null := by
  obtain ⟨t, x, y⟩ := a
  rcases zis_ref h with e | e | e | e
  · cases (show t = 4 from e)
    obtain ⟨q, -, h⟩ := hv
    exact Or.inl ⟨q, h⟩
  · cases (show t = 5 from e)
    exact Or.inr hv
  · cases (show t = 8 from e)
    exact Or.inl ⟨b, hv⟩
  · cases (show t = 9 from e)
    exact Or.inl hv
theorem zRV_cat {ad : List Nat} {b : Nat} {a : zV} {v : Value} (hv : zRV ad b a v) : v.category = zb (zcat2 a) 2 1 := by
  obtain ⟨t, x, y⟩ := a
  unfold zRV at hv
  split at hv
  · rename_i e; cases (show t = 0 from e); rw [hv]; rfl
  · rename_i e; cases (show t = 1 from e); obtain ⟨z, h, -⟩ := hv; rw [h]; rfl
  · rename_i e; cases (show t = 2 from e); rw [hv]; rfl
  · rename_i e; cases (show t = 3 from e); obtain ⟨z, h, -⟩ := hv; rw [h]; rfl
  · rename_i e; cases (show t = 4 from e); obtain ⟨z, -, h⟩ := hv; rw [h]; rfl
  · rename_i e; cases (show t = 5 from e); rw [hv]; rfl
  · rename_i e; cases (show t = 6 from e); rw [hv]; rfl
  · rename_i e; cases (show t = 7 from e); rw [hv]; rfl
  · rename_i e; cases (show t = 8 from e); rw [hv]; rfl
  · rename_i e; cases (show t = 9 from e); obtain ⟨z, h⟩ := hv; rw [h]; rfl
  · exact hv.elim
/-- the locals -/
def zLR (ad : List Nat) (b : Nat) : zA → List (Nat × Value) → Prop
  | [], [] => True
  | h :: t, q :: r => h.1 = q.1 ∧ zRV ad b h.2 q.2 ∧ zLR ad b t r
  | _, _ => False
theorem zLR_mono {ad ext : List Nat} {b : Nat} : ∀ {l : zA} {lv : List (Nat × Value)}, zLR ad b l lv → zLR (ad ++ ext) b l lv
  | [], [], _ => trivial
  | _ :: _, _ :: _, h => ⟨h.1, zRV_mono h.2.1, zLR_mono h.2.2⟩
  | [], _ :: _, h => h.elim
  | _ :: _, [], h => h.elim
theorem zLR_get {ad : List Nat} {b i : Nat} {d : zV} : ∀ {l : zA} {lv : List (Nat × Value)}, zLR ad b l lv → zget l i d = d ∨ ∃ v, (i, v) ∈ lv ∧ zRV ad b (zget l i d) v
  | [], _, _ => Or.inl rfl
  | h :: t, [], e => e.elim
  | h :: t, q :: r, e => by
    rw [zget_cons]
    cases x : Nat.beq h.1 i
    · rcases zLR_get (d := d) (i := i) e.2.2 with g | ⟨v, g1, g2⟩
      · exact Or.inl g
      · exact Or.inr ⟨v, List.mem_cons_of_mem _ g1, g2⟩
    · refine Or.inr ⟨q.2, ?_, e.2.1⟩
      have e1 : q.1 = i := by rw [← e.1]; exact zbeq x
      rw [← e1]; exact List.mem_cons_self
theorem zLR_at {ad : List Nat} {b i t nL : Nat} {l : zA} {lv : List (Nat × Value)} {ls : Array Slot} (h : zLR ad b l lv) (hl : lv_has ls nL lv) (ht : zis t (zget l i (99, 0, 0)) = true) (hn : zis t (99, 0, 0) = false) : ∃ v, ls[i]? = some (.val v) ∧ zRV ad b (zget l i (99, 0, 0)) v := by
  rcases zLR_get (d := (99, 0, 0)) (i := i) h with g | ⟨v, g1, g2⟩
  · rw [g, hn] at ht; cases ht
  · exact ⟨v, hl.2.2 (i, v) g1, g2⟩
theorem zLR_filter {ad : List Nat} {b : Nat} (f : Nat × zV → Bool) (g : Nat × Value → Bool) (hfg : ∀ h q, h.1 = q.1 → zRV ad b h.2 q.2 → f h = g q) : ∀ {l : zA} {lv : List (Nat × Value)}, zLR ad b l lv → zLR ad b (l.filter f) (lv.filter g)
  | [], [], _ => trivial
  | [], _ :: _, h => h.elim
  | _ :: _, [], h => h.elim
  | h :: t, q :: r, e => by
    rw [List.filter_cons, List.filter_cons, hfg h q e.1 e.2.1]
    cases g q
    · exact zLR_filter f g hfg e.2.2
    · exact ⟨e.1, e.2.1, zLR_filter f g hfg e.2.2⟩
theorem zcat_eq {ad : List Nat} {b : Nat} {a : zV} {v : Value} (hv : zRV ad b a v) : (v.category == 2) = zcat2 a := by
  rw [zRV_cat hv]
  cases zcat2 a <;> rfl
theorem zbeq_b (a b : Nat) : Nat.beq a b = (a == b) := by
  by_cases h : a = b
  · subst h; rw [Nat.beq_refl]; simp
  · rw [zbeq_ne h]; simp [h]
theorem zLR_rem1 {ad : List Nat} {b i : Nat} {l : zA} {lv : List (Nat × Value)} (h : zLR ad b l lv) : zLR ad b (zrem l i false) (lv.filter (fun q => !(q.1 == i) && !(q.1 + 1 == i && q.2.category == 2))) := by
  refine zLR_filter _ _ (fun h q e1 e2 => ?_) h
  show (!(zb (Nat.beq h.1 i) true (zb (Nat.beq (Nat.succ h.1) i) (zcat2 h.2) false))) = _
  rw [zcat_eq e2, ← e1, ← zbeq_b, ← zbeq_b]
  cases Nat.beq h.1 i <;> cases Nat.beq (Nat.succ h.1) i <;> cases zcat2 h.2 <;> rfl
theorem zLR_rem2 {ad : List Nat} {b i : Nat} {l : zA} {lv : List (Nat × Value)} (h : zLR ad b l lv) : zLR ad b (zrem l i true) (lv.filter (fun q => !(q.1 == i) && (!(q.1 == i + 1) && !(q.1 + 1 == i && q.2.category == 2)))) := by
  refine zLR_filter _ _ (fun h q e1 e2 => ?_) h
  show (!(zb (Nat.beq h.1 i) true (zb (Nat.beq (Nat.succ h.1) i) (zcat2 h.2) (Nat.beq h.1 (Nat.succ i))))) = _
  rw [zcat_eq e2, ← e1, ← zbeq_b, ← zbeq_b, ← zbeq_b]
  by_cases q1 : h.1 + 1 = i
  · have e3 : Nat.beq h.1 (i + 1) = false := zbeq_ne (by omega)
    have e4 : Nat.beq h.1 i = false := zbeq_ne (by omega)
    have e5 : Nat.beq (Nat.succ h.1) i = true := by rw [← q1]; exact Nat.beq_refl _
    show (!(zb (Nat.beq h.1 i) true (zb (Nat.beq (Nat.succ h.1) i) (zcat2 h.2) (Nat.beq h.1 (i + 1))))) = _
    rw [e3, e4, show Nat.beq (h.1 + 1) i = Nat.beq (Nat.succ h.1) i from rfl, e5]
    cases zcat2 h.2 <;> rfl
  · have e5 : Nat.beq (Nat.succ h.1) i = false := zbeq_ne q1
    show (!(zb (Nat.beq h.1 i) true (zb (Nat.beq (Nat.succ h.1) i) (zcat2 h.2) (Nat.beq h.1 (i + 1))))) = _
    rw [show Nat.beq (h.1 + 1) i = Nat.beq (Nat.succ h.1) i from rfl, e5]
    cases Nat.beq h.1 i <;> cases Nat.beq h.1 (i + 1) <;> rfl
/-- the stack -/
def zVR (ad : List Nat) (b : Nat) : List zV → List Value → Prop
  | [], [] => True
  | h :: t, q :: r => zRV ad b h q ∧ zVR ad b t r
  | _, _ => False
theorem zVR_mono {ad ext : List Nat} {b : Nat} : ∀ {l : List zV} {lv : List Value}, zVR ad b l lv → zVR (ad ++ ext) b l lv
  | [], [], _ => trivial
  | _ :: _, _ :: _, h => ⟨zRV_mono h.1, zVR_mono h.2⟩
  | [], _ :: _, h => h.elim
  | _ :: _, [], h => h.elim
theorem zVR_cons {ad : List Nat} {b : Nat} {h : zV} {t : List zV} {vs : List Value} (e : zVR ad b (h :: t) vs) : ∃ v r, vs = v :: r ∧ zRV ad b h v ∧ zVR ad b t r := by
  cases vs with
  | nil => exact e.elim
  | cons v r => exact ⟨v, r, rfl, e.1, e.2⟩
theorem zVR_nil {ad : List Nat} {b : Nat} {vs : List Value} (e : zVR ad b [] vs) : vs = [] := by
  cases vs with
  | nil => rfl
  | cons v r => exact e.elim
theorem zcs_cons (h : zV) (t : List zV) : zcs (h :: t) = zcs t + zb (zcat2 h) 2 1 := rfl
theorem zVR_cs {ad : List Nat} {b : Nat} : ∀ {l : List zV} {vs : List Value}, zVR ad b l vs → (vs.map fun v => v.category).sum = zcs l
  | [], [], _ => rfl
  | h :: t, q :: r, e => by
    rw [List.map_cons, List.sum_cons, zVR_cs e.2, zRV_cat e.1, zcs_cons, Nat.add_comm]
  | [], _ :: _, h => h.elim
  | _ :: _, [], h => h.elim
theorem zRV_top {ad : List Nat} {b : Nat} (x : Int32) : zRV ad b (1, 0, 4294967295) (.int x) := ⟨x, rfl, Nat.zero_le _, zbias_lt x⟩
end
section
/-! ===== cells: what the world's things are ===== -/
def zER (ad : List Nat) (b : Nat) (tys : List (ClassId × FieldType)) (c : zC) (e : va_E) : Prop :=
  (c.1 < 100 ∧ ∃ (fs : List Value) (q : vw_C), e = .inr (c.1, fs) ∧ vwCl[c.1]? = some q ∧ q.2.2 = c.2.1 ∧ fs.length = c.2.1 ∧ ∀ k, k < c.2.1 → ∃ v, fs[k]? = some v ∧ zRV ad b (zget c.2.2.2 k c.2.2.1) v) ∨
  (c.2.1 ≤ 60000 ∧ ∃ (cA : ClassId) (f : Nat → Int32), e = .inl (cA, c.2.1, .inl f) ∧ ((c.1 = 100 ∧ (cA, FieldType.int) ∈ tys) ∨ (c.1 = 101 ∧ (cA, FieldType.byte) ∈ tys) ∨ (c.1 = 102 ∧ (cA, FieldType.boolean) ∈ tys)) ∧ ∀ k, k < c.2.1 → zRV ad b (zget c.2.2.2 k c.2.2.1) (.int (f k))) ∨
  (c.2.1 ≤ 60000 ∧ c.1 = 103 ∧ ∃ (cA : ClassId) (f : Nat → Int64), e = .inl (cA, c.2.1, .inr (.inl f)) ∧ (cA, FieldType.long) ∈ tys ∧ ∀ k, k < c.2.1 → zRV ad b (zget c.2.2.2 k c.2.2.1) (.long (f k))) ∨
  (c.2.1 ≤ 60000 ∧ c.1 = 104 ∧ ∃ (cA : ClassId) (f : Nat → UInt64), e = .inl (cA, c.2.1, .inr (.inr (.inr (.inl f)))) ∧ (cA, FieldType.double) ∈ tys ∧ ∀ k, k < c.2.1 → zRV ad b (zget c.2.2.2 k c.2.2.1) (.double (f k))) ∨
  (c.2.1 ≤ 60000 ∧ c.1 = 105 ∧ ∃ (cA : ClassId) (f : Nat → Option Nat), e = .inl (cA, c.2.1, .inr (.inr (.inr (.inr f)))) ∧ (cA, FieldType.object RX6) ∈ tys ∧ ∀ k, k < c.2.1 → zRV ad b (zget c.2.2.2 k c.2.2.1) (va_rf (f k)))
theorem zER_mono {ad ext : List Nat} {b : Nat} {tys tys' : List (ClassId × FieldType)} (ht : ∀ t ∈ tys, t ∈ tys') {c : zC} {e : va_E} (h : zER ad b tys c e) : zER (ad ++ ext) b tys' c e := by
  rcases h with ⟨h0, fs, q, h1, h2, h3, h4, h5⟩ | ⟨h0, cA, f, h1, h2, h3⟩ | ⟨h0, h9, cA, f, h1, h2, h3⟩ | ⟨h0, h9, cA, f, h1, h2, h3⟩ | ⟨h0, h9, cA, f, h1, h2, h3⟩
  · refine Or.inl ⟨h0, fs, q, h1, h2, h3, h4, fun k hk => ?_⟩
    obtain ⟨v, g1, g2⟩ := h5 k hk
    exact ⟨v, g1, zRV_mono g2⟩
  · refine Or.inr (Or.inl ⟨h0, cA, f, h1, ?_, fun k hk => zRV_mono (h3 k hk)⟩)
    rcases h2 with ⟨a, g⟩ | ⟨a, g⟩ | ⟨a, g⟩
    · exact Or.inl ⟨a, ht _ g⟩
    · exact Or.inr (Or.inl ⟨a, ht _ g⟩)
    · exact Or.inr (Or.inr ⟨a, ht _ g⟩)
  · exact Or.inr (Or.inr (Or.inl ⟨h0, h9, cA, f, h1, ht _ h2, fun k hk => zRV_mono (h3 k hk)⟩))
  · exact Or.inr (Or.inr (Or.inr (Or.inl ⟨h0, h9, cA, f, h1, ht _ h2, fun k hk => zRV_mono (h3 k hk)⟩)))
  · exact Or.inr (Or.inr (Or.inr (Or.inr ⟨h0, h9, cA, f, h1, ht _ h2, fun k hk => zRV_mono (h3 k hk)⟩)))
abbrev zad (cw : va_W) : List Nat := cw.map Prod.fst
def zWR (b : Nat) (tys : List (ClassId × FieldType)) (w : zW) (cw : va_W) : Prop :=
  w.1 = cw.length ∧ w.2.1.length = cw.length ∧ ∀ k, k < cw.length → ∃ (cc : zC) (x : Nat × va_E), w.2.1[cw.length - (k + 1)]? = some cc ∧ cw[k]? = some x ∧ zER (zad cw) b tys cc x.2
theorem zad_at {cw : va_W} {k q : Nat} (h : (zad cw)[k]? = some q) : ∃ e, cw[k]? = some (q, e) := by
  rw [List.getElem?_map] at h
  cases hx : cw[k]? with
  | none => rw [hx] at h; cases h
  | some x =>
    rw [hx] at h
    have := Option.some.inj h
    subst this
    exact ⟨x.2, rfl⟩
/-- the cell that a reference names -/
theorem zcell_at {b : Nat} {tys : List (ClassId × FieldType)} {w : zW} {cw : va_W} (h : zWR b tys w cw) {x y : Nat} {v : Value} (hv : zRV (zad cw) b (4, x, y) v) :
    ∃ (q : Nat) (e : va_E), v = .ref q ∧ cw[x]? = some (q, e) ∧ x < cw.length ∧ w.2.1[w.1 - (x + 1)]? = some (znth w.2.1 (w.1 - (x + 1))) ∧ zER (zad cw) b tys (znth w.2.1 (w.1 - (x + 1))) e := by
  obtain ⟨q, h1, h2⟩ := hv
  obtain ⟨e, h3⟩ := zad_at h1
  have hx : x < cw.length := (List.getElem?_eq_some_iff.mp h3).1
  obtain ⟨g1, g2, g3⟩ := h
  obtain ⟨cc, z, k1, k2, k3⟩ := g3 x hx
  have hz : z = (q, e) := Option.some.inj (k2.symm.trans h3)
  subst hz
  have hn : znth w.2.1 (w.1 - (x + 1)) = cc := by rw [znth_eq, g1, k1]; rfl
  refine ⟨q, e, h2, h3, hx, ?_, ?_⟩
  · rw [hn, g1]; exact k1
  · rw [hn]; exact k3
theorem zad_set {cw : va_W} {k q : Nat} {e e' : va_E} (h : cw[k]? = some (q, e)) : zad (cw.set k (q, e')) = zad cw := by
  show List.map Prod.fst (cw.set k (q, e')) = List.map Prod.fst cw
  rw [List.map_set]
  refine List.ext_getElem? fun i => ?_
  rw [List.getElem?_set]
  by_cases hi : k = i
  · subst hi
    have hl : k < cw.length := (List.getElem?_eq_some_iff.mp h).1
    rw [if_pos rfl, List.length_map, if_pos hl, List.getElem?_map, h]; rfl
  · rw [if_neg hi]
theorem zWR_set {b : Nat} {tys : List (ClassId × FieldType)} {w : zW} {cw : va_W} (h : zWR b tys w cw) {k q nc ns : Nat} {e e' : va_E} {c' : zC} (hk : cw[k]? = some (q, e)) (he : zER (zad cw) b tys c' e') : zWR b tys (w.1, w.2.1.set (w.1 - (k + 1)) c', nc, ns) (cw.set k (q, e')) := by
  obtain ⟨h1, h2, h3⟩ := h
  have hl : k < cw.length := (List.getElem?_eq_some_iff.mp hk).1
  refine ⟨by rw [List.length_set]; exact h1, by rw [List.length_set, List.length_set]; exact h2, fun i hi => ?_⟩
  rw [List.length_set] at hi
  rw [zad_set hk, List.length_set]
  by_cases e1 : k = i
  · subst e1
    refine ⟨c', (q, e'), ?_, ?_, he⟩
    · show (w.2.1.set (w.1 - (k + 1)) c')[cw.length - (k + 1)]? = _
      rw [h1, List.getElem?_set_self (by omega)]
    · rw [List.getElem?_set_self hl]
  · obtain ⟨cc, x, g1, g2, g3⟩ := h3 i hi
    refine ⟨cc, x, ?_, ?_, g3⟩
    · show (w.2.1.set (w.1 - (k + 1)) c')[cw.length - (i + 1)]? = _
      rw [h1, List.getElem?_set_ne (by omega)]; exact g1
    · rw [List.getElem?_set_ne e1]; exact g2
theorem zWR_push {b : Nat} {tys tys' : List (ClassId × FieldType)} (ht : ∀ t ∈ tys, t ∈ tys') {w : zW} {cw : va_W} (h : zWR b tys w cw) {q nc ns : Nat} {e : va_E} {c : zC} (he : zER (zad cw ++ [q]) b tys' c e) : zWR b tys' (w.1 + 1, c :: w.2.1, nc, ns) (cw ++ [(q, e)]) := by
  obtain ⟨h1, h2, h3⟩ := h
  have ha : zad (cw ++ [(q, e)]) = zad cw ++ [q] := by
    show List.map Prod.fst (cw ++ [(q, e)]) = _
    rw [List.map_append]; rfl
  refine ⟨by rw [List.length_append]; show w.1 + 1 = _; rw [h1]; rfl, by rw [List.length_append]; show (c :: w.2.1).length = _; rw [List.length_cons, h2]; rfl, fun i hi => ?_⟩
  rw [ha, List.length_append]
  rw [List.length_append] at hi
  have hi : i < cw.length + 1 := hi
  show ∃ cc x, (c :: w.2.1)[cw.length + 1 - (i + 1)]? = some cc ∧ _
  by_cases e1 : i = cw.length
  · subst e1
    refine ⟨c, (q, e), ?_, ?_, he⟩
    · rw [Nat.sub_self]; rfl
    · rw [List.getElem?_append_right (Nat.le_refl _), Nat.sub_self]; rfl
  · obtain ⟨cc, x, g1, g2, g3⟩ := h3 i (by omega)
    refine ⟨cc, x, ?_, ?_, zER_mono ht g3⟩
    · rw [show cw.length + 1 - (i + 1) = (cw.length - (i + 1)) + 1 by omega, List.getElem?_cons_succ]; exact g1
    · rw [List.getElem?_append_left (by omega)]; exact g2
theorem zWR_counts {b : Nat} {tys : List (ClassId × FieldType)} {n nc ns nc' ns' : Nat} {cs : List zC} {cw : va_W} (h : zWR b tys (n, cs, nc, ns) cw) : zWR b tys (n, cs, nc', ns') cw := h
/-- the heap holds the world -/
def zHR (D : va_G) (A : Nat → Prop) (b : Nat) (s : State) (w : zW) (cw : va_W) (tys : List (ClassId × FieldType)) (H : Heap) (locs : List Loc) : Prop :=
  va_K D vwCl tys s ∧ va_P D vwCl cw H ∧ va_D A cw ∧ va_S A s.heap H locs ∧ zWR b tys w cw
/-- a state of the abstract machine is good: the machine at this place comes to Q, from every state that it stands for -/
def zG (p : Program) (l : Launch) (e : Env) (R : Room) (s : State) (m : MethodId) (args : Array Value) (below : List Frame) (meth : Method) (c : Code) (nL : Nat) (D : va_G) (A : Nat → Prop) (b : Nat) (ad0 : List Nat) (Q : State → Prop) (S : zS) : Prop :=
  ∀ (cw : va_W) (tys : List (ClassId × FieldType)) (H : Heap) (locs : List Loc) (ls : Array Slot) (lv : List (Nat × Value)) (st : List Value),
    zHR D A b s S.2.2.2 cw tys H locs → (∃ ext, zad cw = ad0 ++ ext) → lv_has ls nL lv → zLR (zad cw) b S.2.1 lv → zVR (zad cw) b S.2.2.1 st →
    W p l e R s m args below meth c H locs S.2.2.2.2.2.1 S.2.2.2.2.2.2 Q (F0 m (zpc S.1) ls st)
end
section
/-! ===== comparisons and arithmetic of the abstract machine ===== -/
theorem zcmpB2 {a1 a2 b1 b2 x y : Nat} {k : Bool → zO} {S : zS} (h : zcmpB 2 a1 a2 b1 b2 k = Sum.inl S) (h1 : a1 ≤ x) (h2 : x ≤ a2) (h3 : b1 ≤ y) (h4 : y ≤ b2) : ∃ t : Bool, (t = true ↔ x < y) ∧ k t = Sum.inl S := by
  have h : zb (Nat.ble (Nat.succ a2) b1) (k true) (zb (Nat.ble b2 a1) (k false) zX) = Sum.inl S := h
  cases q : Nat.ble (Nat.succ a2) b1
  · rw [q, zb_ff] at h
    cases q2 : Nat.ble b2 a1
    · rw [q2, zb_ff] at h; exact (zX_inl h).elim
    · rw [q2, zb_tt] at h
      have := zble q2
      exact ⟨false, ⟨fun z => (by cases z), fun z => absurd z (by omega)⟩, h⟩
  · rw [q, zb_tt] at h
    have : a2 + 1 ≤ b1 := zble q
    exact ⟨true, ⟨fun _ => by omega, fun _ => rfl⟩, h⟩
theorem zcmpB0 {a1 a2 b1 b2 x y : Nat} {k : Bool → zO} {S : zS} (h : zcmpB 0 a1 a2 b1 b2 k = Sum.inl S) (h1 : a1 ≤ x) (h2 : x ≤ a2) (h3 : b1 ≤ y) (h4 : y ≤ b2) : ∃ t : Bool, (t = true ↔ x = y) ∧ k t = Sum.inl S := by
  have h : zb (Nat.ble (Nat.succ a2) b1) (k false) (zb (Nat.ble (Nat.succ b2) a1) (k false) (zb (Nat.beq a1 a2) (zb (Nat.beq b1 b2) (zb (Nat.beq a1 b1) (k true) zX) zX) zX)) = Sum.inl S := h
  cases q : Nat.ble (Nat.succ a2) b1
  · rw [q, zb_ff] at h
    cases q2 : Nat.ble (Nat.succ b2) a1
    · rw [q2, zb_ff] at h
      obtain ⟨e1, h⟩ := zb_inl h
      obtain ⟨e2, h⟩ := zb_inl h
      obtain ⟨e3, h⟩ := zb_inl h
      have := zbeq e1
      have := zbeq e2
      have := zbeq e3
      exact ⟨true, ⟨fun _ => by omega, fun _ => rfl⟩, h⟩
    · rw [q2, zb_tt] at h
      have : b2 + 1 ≤ a1 := zble q2
      exact ⟨false, ⟨fun z => (by cases z), fun z => absurd z (by omega)⟩, h⟩
  · rw [q, zb_tt] at h
    have : a2 + 1 ≤ b1 := zble q
    exact ⟨false, ⟨fun z => (by cases z), fun z => absurd z (by omega)⟩, h⟩
theorem zfalse {t : Bool} (h : ¬ t = true) : t = false := by
  cases t
  · rfl
  · exact absurd rfl h
def zrel (c : Nat) (x y : Int32) : Prop := match c with
  | 0 => x = y
  | 1 => ¬ x = y
  | 2 => x < y
  | 3 => y ≤ x
  | 4 => y < x
  | _ => x ≤ y
theorem znot_t {t : Bool} : (not t = true ↔ ¬ t = true) := by cases t <;> simp
theorem zcmp_spec {ad : List Nat} {b : Nat} {u1 u2 : zV} {v1 v2 : Value} {k : Bool → zO} {S : zS} {c : Nat} (hv1 : zRV ad b u1 v1) (hv2 : zRV ad b u2 v2) (h : zcmp c u1 u2 k = Sum.inl S) : ∃ x y : Int32, v1 = .int x ∧ v2 = .int y ∧ ∃ t : Bool, (t = true ↔ zrel c x y) ∧ k t = Sum.inl S := by
  unfold zcmp at h
  obtain ⟨t1, g0⟩ := zb_inl h
  obtain ⟨t2, g⟩ := zb_inl g0
  clear h g0
  obtain ⟨x, rfl, a1, a2⟩ := zRV_int t1 hv1
  obtain ⟨y, rfl, b1, b2⟩ := zRV_int t2 hv2
  refine ⟨x, y, rfl, rfl, ?_⟩
  cases q0 : Nat.beq c 0
  · rw [q0, zb_ff] at g
    cases q1 : Nat.beq c 1
    · rw [q1, zb_ff] at g
      cases q2 : Nat.beq c 2
      · rw [q2, zb_ff] at g
        cases q3 : Nat.beq c 3
        · rw [q3, zb_ff] at g
          cases q4 : Nat.beq c 4
          · rw [q4, zb_ff] at g
            obtain ⟨q5, g6⟩ := zb_inl g
            clear g
            obtain rfl := zbeq q5
            obtain ⟨t, ht, hk⟩ := zcmpB2 g6 b1 b2 a1 a2
            refine ⟨not t, ?_, hk⟩
            show _ ↔ x ≤ y
            rw [znot_t, ht, zle_iff]; omega
          · rw [q4, zb_tt] at g
            obtain rfl := zbeq q4
            obtain ⟨t, ht, hk⟩ := zcmpB2 g b1 b2 a1 a2
            refine ⟨t, ?_, hk⟩
            show _ ↔ y < x
            rw [ht, zlt_iff]
        · rw [q3, zb_tt] at g
          obtain rfl := zbeq q3
          obtain ⟨t, ht, hk⟩ := zcmpB2 g a1 a2 b1 b2
          refine ⟨not t, ?_, hk⟩
          show _ ↔ y ≤ x
          rw [znot_t, ht, zle_iff]; omega
      · rw [q2, zb_tt] at g
        obtain rfl := zbeq q2
        obtain ⟨t, ht, hk⟩ := zcmpB2 g a1 a2 b1 b2
        refine ⟨t, ?_, hk⟩
        show _ ↔ x < y
        rw [ht, zlt_iff]
    · rw [q1, zb_tt] at g
      obtain rfl := zbeq q1
      obtain ⟨t, ht, hk⟩ := zcmpB0 g a1 a2 b1 b2
      refine ⟨not t, ?_, hk⟩
      show _ ↔ ¬ x = y
      rw [znot_t, ht, zeq_iff]
  · rw [q0, zb_tt] at g
    obtain rfl := zbeq q0
    obtain ⟨t, ht, hk⟩ := zcmpB0 g a1 a2 b1 b2
    refine ⟨t, ?_, hk⟩
    show _ ↔ x = y
    rw [ht, zeq_iff]
theorem zarith_k {rest : List zE} {ls0 : zA} {st1 : List zV} {w : zW} {S : zS} {a xt x1 x2 yt y1 y2 : Nat} (h5 : Nat.ble a 4 = true) (hL : Nat.beq a 5 = false) (h : zoArith rest ls0 ((yt, y1, y2) :: (xt, x1, x2) :: st1) w a = Sum.inl S) :
    xt = 0 ∧ yt = 0 ∧ zar a x1 y1 (fun r => Sum.inl (rest, ls0, (0, r, 0) :: st1, w)) = Sum.inl S := by
  have ha : a ≤ 4 := zble h5
  have h : zb (Nat.beq xt 0) (zb (Nat.beq yt 0) (zar a x1 y1 (fun r => Sum.inl (rest, ls0, (0, r, 0) :: st1, w)))
      (zb (zis 0 (yt, y1, y2)) (zb (Nat.beq a 5) (Sum.inl (rest, ls0, (1, 0, 4294967295) :: st1, w)) zX) zX))
    (zb (Nat.beq xt 2) (zb (Nat.beq yt 2) (zb (Nat.beq a 10) (zfN ((x1 + y1) % 18446744073709551616) (fun r => Sum.inl (rest, ls0, (2, r, 0) :: st1, w)))
      (zb (Nat.beq a 11) (zfN ((x1 * y1) % 18446744073709551616) (fun r => Sum.inl (rest, ls0, (2, r, 0) :: st1, w))) zX)) zX)
    (zb (zis 0 (xt, x1, x2)) (zb (zis 0 (yt, y1, y2)) (zb (Nat.beq a 5) (Sum.inl (rest, ls0, (1, 0, 4294967295) :: st1, w)) (zb (Nat.beq a 7) (Sum.inl (rest, ls0, (1, 0, 4294967295) :: st1, w)) zX)) zX) zX)) = Sum.inl S := h
  have n10 : Nat.beq a 10 = false := zbeq_ne (by omega)
  have n11 : Nat.beq a 11 = false := zbeq_ne (by omega)
  have n7 : Nat.beq a 7 = false := zbeq_ne (by omega)
  rw [n10, n11, n7, hL] at h
  simp only [zb_ff] at h
  cases q : Nat.beq xt 0
  · rw [q, zb_ff] at h
    cases q2 : Nat.beq xt 2
    · rw [q2, zb_ff] at h
      obtain ⟨-, h⟩ := zb_inl h
      obtain ⟨-, h⟩ := zb_inl h
      exact (zX_inl h).elim
    · rw [q2, zb_tt] at h
      obtain ⟨-, h⟩ := zb_inl h
      exact (zX_inl h).elim
  · rw [q, zb_tt] at h
    cases q2 : Nat.beq yt 0
    · rw [q2, zb_ff] at h
      obtain ⟨-, h⟩ := zb_inl h
      exact (zX_inl h).elim
    · rw [q2, zb_tt] at h
      exact ⟨zbeq q, zbeq q2, h⟩
theorem zar_iadd {x y : Nat} {k : Nat → zO} {S : zS} (h : zar 0 x y k = Sum.inl S) : k ((x + y) % 4294967296) = Sum.inl S := by
  have h : zfN ((x + y) % 4294967296) k = Sum.inl S := h
  rwa [zfN_eq] at h
theorem zar_isub {x y : Nat} {k : Nat → zO} {S : zS} (h : zar 1 x y k = Sum.inl S) : k ((x + (4294967296 - y % 4294967296)) % 4294967296) = Sum.inl S := by
  have h : zfN ((x + (4294967296 - y % 4294967296)) % 4294967296) k = Sum.inl S := h
  rwa [zfN_eq] at h
theorem zar_imul {x y : Nat} {k : Nat → zO} {S : zS} (h : zar 2 x y k = Sum.inl S) : k ((x * y) % 4294967296) = Sum.inl S := by
  have h : zfN ((x * y) % 4294967296) k = Sum.inl S := h
  rwa [zfN_eq] at h
theorem zar_idiv {x y : Nat} {k : Nat → zO} {S : zS} (h : zar 3 x y k = Sum.inl S) : x ≤ 2147483647 ∧ 1 ≤ y ∧ y ≤ 2147483647 ∧ k (x / y) = Sum.inl S := by
  have h : zb (Nat.ble x 2147483647) (zb (Nat.ble 1 y) (zb (Nat.ble y 2147483647) (zfN (x / y) k) zX) zX) zX = Sum.inl S := h
  obtain ⟨q1, h⟩ := zb_inl h
  obtain ⟨q2, h⟩ := zb_inl h
  obtain ⟨q3, h⟩ := zb_inl h
  rw [zfN_eq] at h
  exact ⟨zble q1, zble q2, zble q3, h⟩
theorem zar_irem {x y : Nat} {k : Nat → zO} {S : zS} (h : zar 4 x y k = Sum.inl S) : x ≤ 2147483647 ∧ 1 ≤ y ∧ y ≤ 2147483647 ∧ k (x % y) = Sum.inl S := by
  have h : zb (Nat.ble x 2147483647) (zb (Nat.ble 1 y) (zb (Nat.ble y 2147483647) (zfN (x % y) k) zX) zX) zX = Sum.inl S := h
  obtain ⟨q1, h⟩ := zb_inl h
  obtain ⟨q2, h⟩ := zb_inl h
  obtain ⟨q3, h⟩ := zb_inl h
  rw [zfN_eq] at h
  exact ⟨zble q1, zble q2, zble q3, h⟩
/-! ===== an instruction, a row (laid by program) ===== -/
section ZS
variable {p : Program} {l : Launch} {e : Env} {R : Room} {s : State} {m : MethodId} {args : Array Value} {below : List Frame} {meth : Method} {c : Code} {Q : State → Prop} {nL : Nat} {D : va_G} {A : Nat → Prop} {b : Nat} {ad0 : List Nat} {cc : ByteArray} {pc : Nat} {o : Nat × Nat × Nat × List Nat} {rest : List zE} {ls0 : zA} {st0 : List zV} {w : zW} {S1 : zS}
theorem zs_iload (hx : p.tables.exec = Jvm.exec) (hb : c.code = cc) {i : Nat} (hdg : decode cc pc = .ok (.iload i, 2)) (hn : zpc rest = pc + 2) (h : zoLoad rest ls0 st0 w i 0 = Sum.inl S1) (k : zG p l e R s m args below meth c nL D A b ad0 Q S1) : zG p l e R s m args below meth c nL D A b ad0 Q ((pc, o) :: rest, ls0, st0, w) := by
  unfold zoLoad at h
  rw [zfV_eq] at h
  obtain ⟨ht, h⟩ := zb_inl h
  obtain rfl := Sum.inl.inj h
  intro cw tys H locs ls lv st hH hext hl hL hV
  show W p l e R s m args below meth c H locs w.2.2.1 w.2.2.2 Q (F0 m pc ls st)
  have hL : zLR (zad cw) b ls0 lv := hL
  obtain ⟨v, hv, hr⟩ := zLR_at hL hl ht rfl
  obtain ⟨x, rfl, -, -⟩ := zRV_int ht hr
  refine lv_iload hx hb hdg hv ?_
  rw [← hn]
  exact k cw tys H locs ls lv (_ :: st) hH hext hl hL ⟨hr, hV⟩
theorem zs_iload_n (hx : p.tables.exec = Jvm.exec) (hb : c.code = cc) {i : Fin 4} (hdg : decode cc pc = .ok (.iload_n i, 1)) (hn : zpc rest = pc + 1) (h : zoLoad rest ls0 st0 w i.val 0 = Sum.inl S1) (k : zG p l e R s m args below meth c nL D A b ad0 Q S1) : zG p l e R s m args below meth c nL D A b ad0 Q ((pc, o) :: rest, ls0, st0, w) := by
  unfold zoLoad at h
  rw [zfV_eq] at h
  obtain ⟨ht, h⟩ := zb_inl h
  obtain rfl := Sum.inl.inj h
  intro cw tys H locs ls lv st hH hext hl hL hV
  show W p l e R s m args below meth c H locs w.2.2.1 w.2.2.2 Q (F0 m pc ls st)
  have hL : zLR (zad cw) b ls0 lv := hL
  obtain ⟨v, hv, hr⟩ := zLR_at hL hl ht rfl
  obtain ⟨x, rfl, -, -⟩ := zRV_int ht hr
  refine lv_iload_n hx hb hdg rfl hv ?_
  rw [← hn]
  exact k cw tys H locs ls lv (_ :: st) hH hext hl hL ⟨hr, hV⟩
theorem zs_lload (hx : p.tables.exec = Jvm.exec) (hb : c.code = cc) {i : Nat} (hdg : decode cc pc = .ok (.lload i, 2)) (hn : zpc rest = pc + 2) (h : zoLoad rest ls0 st0 w i 1 = Sum.inl S1) (k : zG p l e R s m args below meth c nL D A b ad0 Q S1) : zG p l e R s m args below meth c nL D A b ad0 Q ((pc, o) :: rest, ls0, st0, w) := by
  unfold zoLoad at h
  rw [zfV_eq] at h
  obtain ⟨ht, h⟩ := zb_inl h
  obtain rfl := Sum.inl.inj h
  intro cw tys H locs ls lv st hH hext hl hL hV
  show W p l e R s m args below meth c H locs w.2.2.1 w.2.2.2 Q (F0 m pc ls st)
  have hL : zLR (zad cw) b ls0 lv := hL
  obtain ⟨v, hv, hr⟩ := zLR_at hL hl ht rfl
  obtain ⟨x, rfl, -, -⟩ := zRV_long ht hr
  refine lv_lload hx hb hdg hv ?_
  rw [← hn]
  exact k cw tys H locs ls lv (_ :: st) hH hext hl hL ⟨hr, hV⟩
theorem zs_lload_n (hx : p.tables.exec = Jvm.exec) (hb : c.code = cc) {i : Fin 4} (hdg : decode cc pc = .ok (.lload_n i, 1)) (hn : zpc rest = pc + 1) (h : zoLoad rest ls0 st0 w i.val 1 = Sum.inl S1) (k : zG p l e R s m args below meth c nL D A b ad0 Q S1) : zG p l e R s m args below meth c nL D A b ad0 Q ((pc, o) :: rest, ls0, st0, w) := by
  unfold zoLoad at h
  rw [zfV_eq] at h
  obtain ⟨ht, h⟩ := zb_inl h
  obtain rfl := Sum.inl.inj h
  intro cw tys H locs ls lv st hH hext hl hL hV
  show W p l e R s m args below meth c H locs w.2.2.1 w.2.2.2 Q (F0 m pc ls st)
  have hL : zLR (zad cw) b ls0 lv := hL
  obtain ⟨v, hv, hr⟩ := zLR_at hL hl ht rfl
  obtain ⟨x, rfl, -, -⟩ := zRV_long ht hr
  refine lv_lload_n hx hb hdg rfl hv ?_
  rw [← hn]
  exact k cw tys H locs ls lv (_ :: st) hH hext hl hL ⟨hr, hV⟩
theorem zs_fload (hx : p.tables.exec = Jvm.exec) (hb : c.code = cc) {i : Nat} (hdg : decode cc pc = .ok (.fload i, 2)) (hn : zpc rest = pc + 2) (h : zoLoad rest ls0 st0 w i 2 = Sum.inl S1) (k : zG p l e R s m args below meth c nL D A b ad0 Q S1) : zG p l e R s m args below meth c nL D A b ad0 Q ((pc, o) :: rest, ls0, st0, w) := by
  unfold zoLoad at h
  rw [zfV_eq] at h
  obtain ⟨ht, h⟩ := zb_inl h
  obtain rfl := Sum.inl.inj h
  intro cw tys H locs ls lv st hH hext hl hL hV
  show W p l e R s m args below meth c H locs w.2.2.1 w.2.2.2 Q (F0 m pc ls st)
  have hL : zLR (zad cw) b ls0 lv := hL
  obtain ⟨v, hv, hr⟩ := zLR_at hL hl ht rfl
  obtain ⟨x, rfl⟩ := zRV_float ht hr
  refine lv_fload hx hb hdg hv ?_
  rw [← hn]
  exact k cw tys H locs ls lv (_ :: st) hH hext hl hL ⟨hr, hV⟩
theorem zs_fload_n (hx : p.tables.exec = Jvm.exec) (hb : c.code = cc) {i : Fin 4} (hdg : decode cc pc = .ok (.fload_n i, 1)) (hn : zpc rest = pc + 1) (h : zoLoad rest ls0 st0 w i.val 2 = Sum.inl S1) (k : zG p l e R s m args below meth c nL D A b ad0 Q S1) : zG p l e R s m args below meth c nL D A b ad0 Q ((pc, o) :: rest, ls0, st0, w) := by
  unfold zoLoad at h
  rw [zfV_eq] at h
  obtain ⟨ht, h⟩ := zb_inl h
  obtain rfl := Sum.inl.inj h
  intro cw tys H locs ls lv st hH hext hl hL hV
  show W p l e R s m args below meth c H locs w.2.2.1 w.2.2.2 Q (F0 m pc ls st)
  have hL : zLR (zad cw) b ls0 lv := hL
  obtain ⟨v, hv, hr⟩ := zLR_at hL hl ht rfl
  obtain ⟨x, rfl⟩ := zRV_float ht hr
  refine lv_fload_n hx hb hdg rfl hv ?_
  rw [← hn]
  exact k cw tys H locs ls lv (_ :: st) hH hext hl hL ⟨hr, hV⟩
theorem zs_dload (hx : p.tables.exec = Jvm.exec) (hb : c.code = cc) {i : Nat} (hdg : decode cc pc = .ok (.dload i, 2)) (hn : zpc rest = pc + 2) (h : zoLoad rest ls0 st0 w i 3 = Sum.inl S1) (k : zG p l e R s m args below meth c nL D A b ad0 Q S1) : zG p l e R s m args below meth c nL D A b ad0 Q ((pc, o) :: rest, ls0, st0, w) := by
  unfold zoLoad at h
  rw [zfV_eq] at h
  obtain ⟨ht, h⟩ := zb_inl h
  obtain rfl := Sum.inl.inj h
  intro cw tys H locs ls lv st hH hext hl hL hV
  show W p l e R s m args below meth c H locs w.2.2.1 w.2.2.2 Q (F0 m pc ls st)
  have hL : zLR (zad cw) b ls0 lv := hL
  obtain ⟨v, hv, hr⟩ := zLR_at hL hl ht rfl
  obtain ⟨x, rfl⟩ := zRV_double ht hr
  refine lv_dload hx hb hdg hv ?_
  rw [← hn]
  exact k cw tys H locs ls lv (_ :: st) hH hext hl hL ⟨hr, hV⟩
theorem zs_dload_n (hx : p.tables.exec = Jvm.exec) (hb : c.code = cc) {i : Fin 4} (hdg : decode cc pc = .ok (.dload_n i, 1)) (hn : zpc rest = pc + 1) (h : zoLoad rest ls0 st0 w i.val 3 = Sum.inl S1) (k : zG p l e R s m args below meth c nL D A b ad0 Q S1) : zG p l e R s m args below meth c nL D A b ad0 Q ((pc, o) :: rest, ls0, st0, w) := by
  unfold zoLoad at h
  rw [zfV_eq] at h
  obtain ⟨ht, h⟩ := zb_inl h
  obtain rfl := Sum.inl.inj h
  intro cw tys H locs ls lv st hH hext hl hL hV
  show W p l e R s m args below meth c H locs w.2.2.1 w.2.2.2 Q (F0 m pc ls st)
  have hL : zLR (zad cw) b ls0 lv := hL
  obtain ⟨v, hv, hr⟩ := zLR_at hL hl ht rfl
  obtain ⟨x, rfl⟩ := zRV_double ht hr
  refine lv_dload_n hx hb hdg rfl hv ?_
  rw [← hn]
  exact k cw tys H locs ls lv (_ :: st) hH hext hl hL ⟨hr, hV⟩
theorem zs_aload (hx : p.tables.exec = Jvm.exec) (hb : c.code = cc) {i : Nat} (hdg : decode cc pc = .ok (.aload i, 2)) (hn : zpc rest = pc + 2) (h : zoLoad rest ls0 st0 w i 4 = Sum.inl S1) (k : zG p l e R s m args below meth c nL D A b ad0 Q S1) : zG p l e R s m args below meth c nL D A b ad0 Q ((pc, o) :: rest, ls0, st0, w) := by
  unfold zoLoad at h
  rw [zfV_eq] at h
  obtain ⟨ht, h⟩ := zb_inl h
  obtain rfl := Sum.inl.inj h
  intro cw tys H locs ls lv st hH hext hl hL hV
  show W p l e R s m args below meth c H locs w.2.2.1 w.2.2.2 Q (F0 m pc ls st)
  have hL : zLR (zad cw) b ls0 lv := hL
  obtain ⟨v, hv, hr⟩ := zLR_at hL hl ht rfl
  have K := k cw tys H locs ls lv (v :: st) hH hext hl hL ⟨hr, hV⟩
  rcases zRV_ref ht hr with ⟨x, rfl⟩ | rfl
  · refine lv_aload hx hb hdg hv ?_
    rw [← hn]
    exact K
  · refine lv_aloadN hx hb hdg hv ?_
    rw [← hn]
    exact K
theorem zs_aload_n (hx : p.tables.exec = Jvm.exec) (hb : c.code = cc) {i : Fin 4} (hdg : decode cc pc = .ok (.aload_n i, 1)) (hn : zpc rest = pc + 1) (h : zoLoad rest ls0 st0 w i.val 4 = Sum.inl S1) (k : zG p l e R s m args below meth c nL D A b ad0 Q S1) : zG p l e R s m args below meth c nL D A b ad0 Q ((pc, o) :: rest, ls0, st0, w) := by
  unfold zoLoad at h
  rw [zfV_eq] at h
  obtain ⟨ht, h⟩ := zb_inl h
  obtain rfl := Sum.inl.inj h
  intro cw tys H locs ls lv st hH hext hl hL hV
  show W p l e R s m args below meth c H locs w.2.2.1 w.2.2.2 Q (F0 m pc ls st)
  have hL : zLR (zad cw) b ls0 lv := hL
  obtain ⟨v, hv, hr⟩ := zLR_at hL hl ht rfl
  have K := k cw tys H locs ls lv (v :: st) hH hext hl hL ⟨hr, hV⟩
  rcases zRV_ref ht hr with ⟨x, rfl⟩ | rfl
  · refine lv_aload_n hx hb hdg rfl hv ?_
    rw [← hn]
    exact K
  · refine lv_aload_nN hx hb hdg rfl hv ?_
    rw [← hn]
    exact K
theorem zs_istore (hx : p.tables.exec = Jvm.exec) (hb : c.code = cc) {i : Nat} (hi : i < nL) (hdg : decode cc pc = .ok (.istore i, 2)) (hn : zpc rest = pc + 2) (h : zoStore rest ls0 st0 w i 0 = Sum.inl S1) (k : zG p l e R s m args below meth c nL D A b ad0 Q S1) : zG p l e R s m args below meth c nL D A b ad0 Q ((pc, o) :: rest, ls0, st0, w) := by
  cases st0 with
  | nil => exact (zX_inl h).elim
  | cons v0 st1 =>
    unfold zoStore at h
    simp only [] at h
    obtain ⟨ht, h⟩ := zb_inl h
    rw [zremK_eq] at h
    obtain rfl := Sum.inl.inj h
    intro cw tys H locs ls lv st hH hext hl hL hV
    show W p l e R s m args below meth c H locs w.2.2.1 w.2.2.2 Q (F0 m pc ls st)
    have hL : zLR (zad cw) b ls0 lv := hL
    obtain ⟨v, st2, rfl, hr, hV2⟩ := zVR_cons hV
    obtain ⟨x, rfl, -, -⟩ := zRV_int ht hr
    refine lv_istore hx hb hdg hl hi rfl (fun ls1 hl1 => ?_)
    rw [← hn]
    exact k cw tys H locs ls1 _ st2 hH hext hl1 ⟨rfl, hr, zLR_rem1 hL⟩ hV2
theorem zs_istore_n (hx : p.tables.exec = Jvm.exec) (hb : c.code = cc) {i : Fin 4} (hi : i.val < nL) (hdg : decode cc pc = .ok (.istore_n i, 1)) (hn : zpc rest = pc + 1) (h : zoStore rest ls0 st0 w i.val 0 = Sum.inl S1) (k : zG p l e R s m args below meth c nL D A b ad0 Q S1) : zG p l e R s m args below meth c nL D A b ad0 Q ((pc, o) :: rest, ls0, st0, w) := by
  cases st0 with
  | nil => exact (zX_inl h).elim
  | cons v0 st1 =>
    unfold zoStore at h
    simp only [] at h
    obtain ⟨ht, h⟩ := zb_inl h
    rw [zremK_eq] at h
    obtain rfl := Sum.inl.inj h
    intro cw tys H locs ls lv st hH hext hl hL hV
    show W p l e R s m args below meth c H locs w.2.2.1 w.2.2.2 Q (F0 m pc ls st)
    have hL : zLR (zad cw) b ls0 lv := hL
    obtain ⟨v, st2, rfl, hr, hV2⟩ := zVR_cons hV
    obtain ⟨x, rfl, -, -⟩ := zRV_int ht hr
    refine lv_istore_n hx hb hdg rfl hl hi rfl (fun ls1 hl1 => ?_)
    rw [← hn]
    exact k cw tys H locs ls1 _ st2 hH hext hl1 ⟨rfl, hr, zLR_rem1 hL⟩ hV2
theorem zs_lstore (hx : p.tables.exec = Jvm.exec) (hb : c.code = cc) {i : Nat} (hi : i + 1 < nL) (hdg : decode cc pc = .ok (.lstore i, 2)) (hn : zpc rest = pc + 2) (h : zoStore rest ls0 st0 w i 1 = Sum.inl S1) (k : zG p l e R s m args below meth c nL D A b ad0 Q S1) : zG p l e R s m args below meth c nL D A b ad0 Q ((pc, o) :: rest, ls0, st0, w) := by
  cases st0 with
  | nil => exact (zX_inl h).elim
  | cons v0 st1 =>
    unfold zoStore at h
    simp only [] at h
    obtain ⟨ht, h⟩ := zb_inl h
    rw [zremK_eq] at h
    obtain rfl := Sum.inl.inj h
    intro cw tys H locs ls lv st hH hext hl hL hV
    show W p l e R s m args below meth c H locs w.2.2.1 w.2.2.2 Q (F0 m pc ls st)
    have hL : zLR (zad cw) b ls0 lv := hL
    obtain ⟨v, st2, rfl, hr, hV2⟩ := zVR_cons hV
    obtain ⟨x, rfl, -, -⟩ := zRV_long ht hr
    refine lv_lstore hx hb hdg hl hi rfl (fun ls1 hl1 => ?_)
    rw [← hn]
    exact k cw tys H locs ls1 _ st2 hH hext hl1 ⟨rfl, hr, zLR_rem2 hL⟩ hV2
theorem zs_lstore_n (hx : p.tables.exec = Jvm.exec) (hb : c.code = cc) {i : Fin 4} (hi : i.val + 1 < nL) (hdg : decode cc pc = .ok (.lstore_n i, 1)) (hn : zpc rest = pc + 1) (h : zoStore rest ls0 st0 w i.val 1 = Sum.inl S1) (k : zG p l e R s m args below meth c nL D A b ad0 Q S1) : zG p l e R s m args below meth c nL D A b ad0 Q ((pc, o) :: rest, ls0, st0, w) := by
  cases st0 with
  | nil => exact (zX_inl h).elim
  | cons v0 st1 =>
    unfold zoStore at h
    simp only [] at h
    obtain ⟨ht, h⟩ := zb_inl h
    rw [zremK_eq] at h
    obtain rfl := Sum.inl.inj h
    intro cw tys H locs ls lv st hH hext hl hL hV
    show W p l e R s m args below meth c H locs w.2.2.1 w.2.2.2 Q (F0 m pc ls st)
    have hL : zLR (zad cw) b ls0 lv := hL
    obtain ⟨v, st2, rfl, hr, hV2⟩ := zVR_cons hV
    obtain ⟨x, rfl, -, -⟩ := zRV_long ht hr
    refine lv_lstore_n hx hb hdg rfl hl hi rfl (fun ls1 hl1 => ?_)
    rw [← hn]
    exact k cw tys H locs ls1 _ st2 hH hext hl1 ⟨rfl, hr, zLR_rem2 hL⟩ hV2
theorem zs_fstore (hx : p.tables.exec = Jvm.exec) (hb : c.code = cc) {i : Nat} (hi : i < nL) (hdg : decode cc pc = .ok (.fstore i, 2)) (hn : zpc rest = pc + 2) (h : zoStore rest ls0 st0 w i 2 = Sum.inl S1) (k : zG p l e R s m args below meth c nL D A b ad0 Q S1) : zG p l e R s m args below meth c nL D A b ad0 Q ((pc, o) :: rest, ls0, st0, w) := by
  cases st0 with
  | nil => exact (zX_inl h).elim
  | cons v0 st1 =>
    unfold zoStore at h
    simp only [] at h
    obtain ⟨ht, h⟩ := zb_inl h
    rw [zremK_eq] at h
    obtain rfl := Sum.inl.inj h
    intro cw tys H locs ls lv st hH hext hl hL hV
    show W p l e R s m args below meth c H locs w.2.2.1 w.2.2.2 Q (F0 m pc ls st)
    have hL : zLR (zad cw) b ls0 lv := hL
    obtain ⟨v, st2, rfl, hr, hV2⟩ := zVR_cons hV
    obtain ⟨x, rfl⟩ := zRV_float ht hr
    refine lv_fstore hx hb hdg hl hi rfl (fun ls1 hl1 => ?_)
    rw [← hn]
    exact k cw tys H locs ls1 _ st2 hH hext hl1 ⟨rfl, hr, zLR_rem1 hL⟩ hV2
theorem zs_fstore_n (hx : p.tables.exec = Jvm.exec) (hb : c.code = cc) {i : Fin 4} (hi : i.val < nL) (hdg : decode cc pc = .ok (.fstore_n i, 1)) (hn : zpc rest = pc + 1) (h : zoStore rest ls0 st0 w i.val 2 = Sum.inl S1) (k : zG p l e R s m args below meth c nL D A b ad0 Q S1) : zG p l e R s m args below meth c nL D A b ad0 Q ((pc, o) :: rest, ls0, st0, w) := by
  cases st0 with
  | nil => exact (zX_inl h).elim
  | cons v0 st1 =>
    unfold zoStore at h
    simp only [] at h
    obtain ⟨ht, h⟩ := zb_inl h
    rw [zremK_eq] at h
    obtain rfl := Sum.inl.inj h
    intro cw tys H locs ls lv st hH hext hl hL hV
    show W p l e R s m args below meth c H locs w.2.2.1 w.2.2.2 Q (F0 m pc ls st)
    have hL : zLR (zad cw) b ls0 lv := hL
    obtain ⟨v, st2, rfl, hr, hV2⟩ := zVR_cons hV
    obtain ⟨x, rfl⟩ := zRV_float ht hr
    refine lv_fstore_n hx hb hdg rfl hl hi rfl (fun ls1 hl1 => ?_)
    rw [← hn]
    exact k cw tys H locs ls1 _ st2 hH hext hl1 ⟨rfl, hr, zLR_rem1 hL⟩ hV2
theorem zs_dstore (hx : p.tables.exec = Jvm.exec) (hb : c.code = cc) {i : Nat} (hi : i + 1 < nL) (hdg : decode cc pc = .ok (.dstore i, 2)) (hn : zpc rest = pc + 2) (h : zoStore rest ls0 st0 w i 3 = Sum.inl S1) (k : zG p l e R s m args below meth c nL D A b ad0 Q S1) : zG p l e R s m args below meth c nL D A b ad0 Q ((pc, o) :: rest, ls0, st0, w) := by
  cases st0 with
  | nil => exact (zX_inl h).elim
  | cons v0 st1 =>
    unfold zoStore at h
    simp only [] at h
    obtain ⟨ht, h⟩ := zb_inl h
    rw [zremK_eq] at h
    obtain rfl := Sum.inl.inj h
    intro cw tys H locs ls lv st hH hext hl hL hV
    show W p l e R s m args below meth c H locs w.2.2.1 w.2.2.2 Q (F0 m pc ls st)
    have hL : zLR (zad cw) b ls0 lv := hL
    obtain ⟨v, st2, rfl, hr, hV2⟩ := zVR_cons hV
    obtain ⟨x, rfl⟩ := zRV_double ht hr
    refine lv_dstore hx hb hdg hl hi rfl (fun ls1 hl1 => ?_)
    rw [← hn]
    exact k cw tys H locs ls1 _ st2 hH hext hl1 ⟨rfl, hr, zLR_rem2 hL⟩ hV2
theorem zs_dstore_n (hx : p.tables.exec = Jvm.exec) (hb : c.code = cc) {i : Fin 4} (hi : i.val + 1 < nL) (hdg : decode cc pc = .ok (.dstore_n i, 1)) (hn : zpc rest = pc + 1) (h : zoStore rest ls0 st0 w i.val 3 = Sum.inl S1) (k : zG p l e R s m args below meth c nL D A b ad0 Q S1) : zG p l e R s m args below meth c nL D A b ad0 Q ((pc, o) :: rest, ls0, st0, w) := by
  cases st0 with
  | nil => exact (zX_inl h).elim
  | cons v0 st1 =>
    unfold zoStore at h
    simp only [] at h
    obtain ⟨ht, h⟩ := zb_inl h
    rw [zremK_eq] at h
    obtain rfl := Sum.inl.inj h
    intro cw tys H locs ls lv st hH hext hl hL hV
    show W p l e R s m args below meth c H locs w.2.2.1 w.2.2.2 Q (F0 m pc ls st)
    have hL : zLR (zad cw) b ls0 lv := hL
    obtain ⟨v, st2, rfl, hr, hV2⟩ := zVR_cons hV
    obtain ⟨x, rfl⟩ := zRV_double ht hr
    refine lv_dstore_n hx hb hdg rfl hl hi rfl (fun ls1 hl1 => ?_)
    rw [← hn]
    exact k cw tys H locs ls1 _ st2 hH hext hl1 ⟨rfl, hr, zLR_rem2 hL⟩ hV2
theorem zs_astore (hx : p.tables.exec = Jvm.exec) (hb : c.code = cc) {i : Nat} (hi : i < nL) (hdg : decode cc pc = .ok (.astore i, 2)) (hn : zpc rest = pc + 2) (h : zoStore rest ls0 st0 w i 4 = Sum.inl S1) (k : zG p l e R s m args below meth c nL D A b ad0 Q S1) : zG p l e R s m args below meth c nL D A b ad0 Q ((pc, o) :: rest, ls0, st0, w) := by
  cases st0 with
  | nil => exact (zX_inl h).elim
  | cons v0 st1 =>
    unfold zoStore at h
    simp only [] at h
    obtain ⟨ht, h⟩ := zb_inl h
    rw [zremK_eq] at h
    obtain rfl := Sum.inl.inj h
    intro cw tys H locs ls lv st hH hext hl hL hV
    show W p l e R s m args below meth c H locs w.2.2.1 w.2.2.2 Q (F0 m pc ls st)
    have hL : zLR (zad cw) b ls0 lv := hL
    obtain ⟨v, st2, rfl, hr, hV2⟩ := zVR_cons hV
    rcases zRV_ref ht hr with ⟨x, rfl⟩ | rfl
    · refine lv_astore hx hb hdg hl hi rfl (fun ls1 hl1 => ?_)
      rw [← hn]
      exact k cw tys H locs ls1 _ st2 hH hext hl1 ⟨rfl, hr, zLR_rem1 hL⟩ hV2
    · refine lv_astoreN hx hb hdg hl hi rfl (fun ls1 hl1 => ?_)
      rw [← hn]
      exact k cw tys H locs ls1 _ st2 hH hext hl1 ⟨rfl, hr, zLR_rem1 hL⟩ hV2
theorem zs_astore_n (hx : p.tables.exec = Jvm.exec) (hb : c.code = cc) {i : Fin 4} (hi : i.val < nL) (hdg : decode cc pc = .ok (.astore_n i, 1)) (hn : zpc rest = pc + 1) (h : zoStore rest ls0 st0 w i.val 4 = Sum.inl S1) (k : zG p l e R s m args below meth c nL D A b ad0 Q S1) : zG p l e R s m args below meth c nL D A b ad0 Q ((pc, o) :: rest, ls0, st0, w) := by
  cases st0 with
  | nil => exact (zX_inl h).elim
  | cons v0 st1 =>
    unfold zoStore at h
    simp only [] at h
    obtain ⟨ht, h⟩ := zb_inl h
    rw [zremK_eq] at h
    obtain rfl := Sum.inl.inj h
    intro cw tys H locs ls lv st hH hext hl hL hV
    show W p l e R s m args below meth c H locs w.2.2.1 w.2.2.2 Q (F0 m pc ls st)
    have hL : zLR (zad cw) b ls0 lv := hL
    obtain ⟨v, st2, rfl, hr, hV2⟩ := zVR_cons hV
    rcases zRV_ref ht hr with ⟨x, rfl⟩ | rfl
    · refine lv_astore_n hx hb hdg rfl hl hi rfl (fun ls1 hl1 => ?_)
      rw [← hn]
      exact k cw tys H locs ls1 _ st2 hH hext hl1 ⟨rfl, hr, zLR_rem1 hL⟩ hV2
    · refine lv_astore_nN hx hb hdg rfl hl hi rfl (fun ls1 hl1 => ?_)
      rw [← hn]
      exact k cw tys H locs ls1 _ st2 hH hext hl1 ⟨rfl, hr, zLR_rem1 hL⟩ hV2
theorem zs_iinc (hx : p.tables.exec = Jvm.exec) (hb : c.code = cc) {i : Nat} {n : Int} {x : Nat} (hi : i < nL) (hx2 : Int32.ofInt n = nI x) (hdg : decode cc pc = .ok (.iinc i n, 3)) (hn : zpc rest = pc + 3) (h : zoInc rest ls0 st0 w i [x] = Sum.inl S1) (k : zG p l e R s m args below meth c nL D A b ad0 Q S1) : zG p l e R s m args below meth c nL D A b ad0 Q ((pc, o) :: rest, ls0, st0, w) := by
  unfold zoInc at h
  simp only [] at h
  rw [zfV_eq] at h
  obtain ⟨ht, h⟩ := zb_inl h
  rw [zfN_eq, zremK_eq] at h
  obtain rfl := Sum.inl.inj h
  intro cw tys H locs ls lv st hH hext hl hL hV
  show W p l e R s m args below meth c H locs w.2.2.1 w.2.2.2 Q (F0 m pc ls st)
  have hL : zLR (zad cw) b ls0 lv := hL
  rcases zLR_get (d := (99, 0, 0)) (i := i) hL with g | ⟨v, g1, g2⟩
  · rw [g] at ht; cases ht
  · obtain ⟨j, hj⟩ := List.getElem?_of_mem g1
    generalize zget ls0 i (99, 0, 0) = q at ht g2 k
    obtain ⟨t, x1, y1⟩ := q
    have ht : t = 0 := zbeq ht
    subst ht
    have g2 := zRV_0 g2
    subst g2
    refine lv_iinc (k := j) hx hb hdg hl hj (by rw [hx2, nI_add, ← zmod]) hi rfl (fun ls1 hl1 => ?_)
    rw [← hn]
    exact k cw tys H locs ls1 _ st hH hext hl1 ⟨rfl, rfl, zLR_rem1 hL⟩ hV
theorem zs_iconst (hx : p.tables.exec = Jvm.exec) (hb : c.code = cc) {n : Int} {x : Nat} (hv : Int32.ofInt n = nI x) (hdg : decode cc pc = .ok (.iconst n, 1)) (hn : zpc rest = pc + 1) (h : zoConst rest ls0 st0 w [0, x, 0] = Sum.inl S1) (k : zG p l e R s m args below meth c nL D A b ad0 Q S1) : zG p l e R s m args below meth c nL D A b ad0 Q ((pc, o) :: rest, ls0, st0, w) := by
  obtain rfl := Sum.inl.inj h
  intro cw tys H locs ls lv st hH hext hl hL hV
  show W p l e R s m args below meth c H locs w.2.2.1 w.2.2.2 Q (F0 m pc ls st)
  have hL : zLR (zad cw) b ls0 lv := hL
  refine lv_iconst hx hb hdg hv ?_
  rw [← hn]
  exact k cw tys H locs ls lv (_ :: st) hH hext hl hL ⟨rfl, hV⟩
theorem zs_bipush (hx : p.tables.exec = Jvm.exec) (hb : c.code = cc) {n : Int} {x : Nat} (hv : (Int8.ofInt n).toInt32 = nI x) (hdg : decode cc pc = .ok (.bipush n, 2)) (hn : zpc rest = pc + 2) (h : zoConst rest ls0 st0 w [0, x, 0] = Sum.inl S1) (k : zG p l e R s m args below meth c nL D A b ad0 Q S1) : zG p l e R s m args below meth c nL D A b ad0 Q ((pc, o) :: rest, ls0, st0, w) := by
  obtain rfl := Sum.inl.inj h
  intro cw tys H locs ls lv st hH hext hl hL hV
  show W p l e R s m args below meth c H locs w.2.2.1 w.2.2.2 Q (F0 m pc ls st)
  have hL : zLR (zad cw) b ls0 lv := hL
  refine lv_bipush hx hb hdg hv ?_
  rw [← hn]
  exact k cw tys H locs ls lv (_ :: st) hH hext hl hL ⟨rfl, hV⟩
theorem zs_sipush (hx : p.tables.exec = Jvm.exec) (hb : c.code = cc) {n : Int} {x : Nat} (hv : (Int16.ofInt n).toInt32 = nI x) (hdg : decode cc pc = .ok (.sipush n, 3)) (hn : zpc rest = pc + 3) (h : zoConst rest ls0 st0 w [0, x, 0] = Sum.inl S1) (k : zG p l e R s m args below meth c nL D A b ad0 Q S1) : zG p l e R s m args below meth c nL D A b ad0 Q ((pc, o) :: rest, ls0, st0, w) := by
  obtain rfl := Sum.inl.inj h
  intro cw tys H locs ls lv st hH hext hl hL hV
  show W p l e R s m args below meth c H locs w.2.2.1 w.2.2.2 Q (F0 m pc ls st)
  have hL : zLR (zad cw) b ls0 lv := hL
  refine lv_sipush hx hb hdg hv ?_
  rw [← hn]
  exact k cw tys H locs ls lv (_ :: st) hH hext hl hL ⟨rfl, hV⟩
theorem zs_lconst (hx : p.tables.exec = Jvm.exec) (hb : c.code = cc) {n : Fin 2} {x : Nat} (hv : Int64.ofNat (n : Nat) = lN x) (hdg : decode cc pc = .ok (.lconst n, 1)) (hn : zpc rest = pc + 1) (h : zoConst rest ls0 st0 w [2, x, 0] = Sum.inl S1) (k : zG p l e R s m args below meth c nL D A b ad0 Q S1) : zG p l e R s m args below meth c nL D A b ad0 Q ((pc, o) :: rest, ls0, st0, w) := by
  obtain rfl := Sum.inl.inj h
  intro cw tys H locs ls lv st hH hext hl hL hV
  show W p l e R s m args below meth c H locs w.2.2.1 w.2.2.2 Q (F0 m pc ls st)
  have hL : zLR (zad cw) b ls0 lv := hL
  refine lv_lconst hx hb hdg hv ?_
  rw [← hn]
  exact k cw tys H locs ls lv (_ :: st) hH hext hl hL ⟨rfl, hV⟩
theorem zs_fconst0 (hx : p.tables.exec = Jvm.exec) (hb : c.code = cc) (hdg : decode cc pc = .ok (.fconst 0, 1)) (hn : zpc rest = pc + 1) (h : zoConst rest ls0 st0 w [6, 0, 0] = Sum.inl S1) (k : zG p l e R s m args below meth c nL D A b ad0 Q S1) : zG p l e R s m args below meth c nL D A b ad0 Q ((pc, o) :: rest, ls0, st0, w) := by
  obtain rfl := Sum.inl.inj h
  intro cw tys H locs ls lv st hH hext hl hL hV
  show W p l e R s m args below meth c H locs w.2.2.1 w.2.2.2 Q (F0 m pc ls st)
  have hL : zLR (zad cw) b ls0 lv := hL
  refine lv_fconst0 hx hb hdg ?_
  rw [← hn]
  exact k cw tys H locs ls lv (_ :: st) hH hext hl hL ⟨rfl, hV⟩
theorem zs_dconst0 (hx : p.tables.exec = Jvm.exec) (hb : c.code = cc) (hdg : decode cc pc = .ok (.dconst 0, 1)) (hn : zpc rest = pc + 1) (h : zoConst rest ls0 st0 w [7, 0, 0] = Sum.inl S1) (k : zG p l e R s m args below meth c nL D A b ad0 Q S1) : zG p l e R s m args below meth c nL D A b ad0 Q ((pc, o) :: rest, ls0, st0, w) := by
  obtain rfl := Sum.inl.inj h
  intro cw tys H locs ls lv st hH hext hl hL hV
  show W p l e R s m args below meth c H locs w.2.2.1 w.2.2.2 Q (F0 m pc ls st)
  have hL : zLR (zad cw) b ls0 lv := hL
  refine lv_dconst0 hx hb hdg ?_
  rw [← hn]
  exact k cw tys H locs ls lv (_ :: st) hH hext hl hL ⟨rfl, hV⟩
theorem zs_ldc2 (hx : p.tables.exec = Jvm.exec) (hb : c.code = cc) {own : String} {index x : Nat} (hown : s.vm.findClass own = some m.cls) (hc : (Jvm.Cond.constantLong own index (lN x)).before args s = true) (hdg : decode cc pc = .ok (.ldc2_w index, 3)) (hn : zpc rest = pc + 3) (h : zoConst rest ls0 st0 w [2, x, 0] = Sum.inl S1) (k : zG p l e R s m args below meth c nL D A b ad0 Q S1) : zG p l e R s m args below meth c nL D A b ad0 Q ((pc, o) :: rest, ls0, st0, w) := by
  obtain rfl := Sum.inl.inj h
  intro cw tys H locs ls lv st hH hext hl hL hV
  show W p l e R s m args below meth c H locs w.2.2.1 w.2.2.2 Q (F0 m pc ls st)
  have hL : zLR (zad cw) b ls0 lv := hL
  refine lv_ldc2 hx hb hown hc hdg ?_
  rw [← hn]
  exact k cw tys H locs ls lv (_ :: st) hH hext hl hL ⟨rfl, hV⟩
theorem zs_ldcS (hx : p.tables.exec = Jvm.exec) (hb : c.code = cc) {own tx : String} {index q : Nat} (hown : s.vm.findClass own = some m.cls) (hZ : vk_R own index tx q s) (hdg : decode cc pc = .ok (.ldc index, 2)) (hn : zpc rest = pc + 2) (h : zoConst rest ls0 st0 w [9, 0, 0] = Sum.inl S1) (k : zG p l e R s m args below meth c nL D A b ad0 Q S1) : zG p l e R s m args below meth c nL D A b ad0 Q ((pc, o) :: rest, ls0, st0, w) := by
  obtain rfl := Sum.inl.inj h
  intro cw tys H locs ls lv st hH hext hl hL hV
  show W p l e R s m args below meth c H locs w.2.2.1 w.2.2.2 Q (F0 m pc ls st)
  have hL : zLR (zad cw) b ls0 lv := hL
  refine va_ldcS hx hb hown hZ hdg ?_
  rw [← hn]
  exact k cw tys H locs ls lv (_ :: st) hH hext hl hL ⟨⟨q, rfl⟩, hV⟩
theorem zs_iadd (hx : p.tables.exec = Jvm.exec) (hb : c.code = cc) (hdg : decode cc pc = .ok (.iadd, 1)) (hn : zpc rest = pc + 1) (h : zoArith rest ls0 st0 w 0 = Sum.inl S1) (k : zG p l e R s m args below meth c nL D A b ad0 Q S1) : zG p l e R s m args below meth c nL D A b ad0 Q ((pc, o) :: rest, ls0, st0, w) := by
  cases st0 with
  | nil => exact (zX_inl h).elim
  | cons y0 st1 =>
    cases st1 with
    | nil => exact (zX_inl h).elim
    | cons x0 st1 =>
      obtain ⟨xt, x1, x2⟩ := x0
      obtain ⟨yt, y1, y2⟩ := y0
      obtain ⟨e1, e2, g⟩ := zarith_k (by decide) (by decide) h
      subst e1
      subst e2
      have g2 := zar_iadd g
      obtain rfl := Sum.inl.inj g2
      intro cw tys H locs ls lv st hH hext hl hL hV
      show W p l e R s m args below meth c H locs w.2.2.1 w.2.2.2 Q (F0 m pc ls st)
      have hL : zLR (zad cw) b ls0 lv := hL
      obtain ⟨v, st3, rfl, hr, hV1⟩ := zVR_cons hV
      obtain ⟨v2, st2, rfl, hr2, hV2⟩ := zVR_cons hV1
      have hr := zRV_0 hr
      have hr2 := zRV_0 hr2
      subst hr
      subst hr2
      refine lv_iadd hx hb hdg ?_
      rw [nI_add, ← zmod, ← hn]
      exact k cw tys H locs ls lv (_ :: st2) hH hext hl hL ⟨rfl, hV2⟩
theorem zs_isub (hx : p.tables.exec = Jvm.exec) (hb : c.code = cc) (hdg : decode cc pc = .ok (.isub, 1)) (hn : zpc rest = pc + 1) (h : zoArith rest ls0 st0 w 1 = Sum.inl S1) (k : zG p l e R s m args below meth c nL D A b ad0 Q S1) : zG p l e R s m args below meth c nL D A b ad0 Q ((pc, o) :: rest, ls0, st0, w) := by
  cases st0 with
  | nil => exact (zX_inl h).elim
  | cons y0 st1 =>
    cases st1 with
    | nil => exact (zX_inl h).elim
    | cons x0 st1 =>
      obtain ⟨xt, x1, x2⟩ := x0
      obtain ⟨yt, y1, y2⟩ := y0
      obtain ⟨e1, e2, g⟩ := zarith_k (by decide) (by decide) h
      subst e1
      subst e2
      have g2 := zar_isub g
      obtain rfl := Sum.inl.inj g2
      intro cw tys H locs ls lv st hH hext hl hL hV
      show W p l e R s m args below meth c H locs w.2.2.1 w.2.2.2 Q (F0 m pc ls st)
      have hL : zLR (zad cw) b ls0 lv := hL
      obtain ⟨v, st3, rfl, hr, hV1⟩ := zVR_cons hV
      obtain ⟨v2, st2, rfl, hr2, hV2⟩ := zVR_cons hV1
      have hr := zRV_0 hr
      have hr2 := zRV_0 hr2
      subst hr
      subst hr2
      refine lv_isub hx hb hdg ?_
      rw [← zsub, ← zmod, ← hn]
      exact k cw tys H locs ls lv (_ :: st2) hH hext hl hL ⟨rfl, hV2⟩
theorem zs_imul (hx : p.tables.exec = Jvm.exec) (hb : c.code = cc) (hdg : decode cc pc = .ok (.imul, 1)) (hn : zpc rest = pc + 1) (h : zoArith rest ls0 st0 w 2 = Sum.inl S1) (k : zG p l e R s m args below meth c nL D A b ad0 Q S1) : zG p l e R s m args below meth c nL D A b ad0 Q ((pc, o) :: rest, ls0, st0, w) := by
  cases st0 with
  | nil => exact (zX_inl h).elim
  | cons y0 st1 =>
    cases st1 with
    | nil => exact (zX_inl h).elim
    | cons x0 st1 =>
      obtain ⟨xt, x1, x2⟩ := x0
      obtain ⟨yt, y1, y2⟩ := y0
      obtain ⟨e1, e2, g⟩ := zarith_k (by decide) (by decide) h
      subst e1
      subst e2
      have g2 := zar_imul g
      obtain rfl := Sum.inl.inj g2
      intro cw tys H locs ls lv st hH hext hl hL hV
      show W p l e R s m args below meth c H locs w.2.2.1 w.2.2.2 Q (F0 m pc ls st)
      have hL : zLR (zad cw) b ls0 lv := hL
      obtain ⟨v, st3, rfl, hr, hV1⟩ := zVR_cons hV
      obtain ⟨v2, st2, rfl, hr2, hV2⟩ := zVR_cons hV1
      have hr := zRV_0 hr
      have hr2 := zRV_0 hr2
      subst hr
      subst hr2
      refine lv_imul hx hb hdg ?_
      rw [pk_mul, ← zmod, ← hn]
      exact k cw tys H locs ls lv (_ :: st2) hH hext hl hL ⟨rfl, hV2⟩
theorem zs_idiv (hx : p.tables.exec = Jvm.exec) (hb : c.code = cc) (hdg : decode cc pc = .ok (.idiv, 1)) (hn : zpc rest = pc + 1) (h : zoArith rest ls0 st0 w 3 = Sum.inl S1) (k : zG p l e R s m args below meth c nL D A b ad0 Q S1) : zG p l e R s m args below meth c nL D A b ad0 Q ((pc, o) :: rest, ls0, st0, w) := by
  cases st0 with
  | nil => exact (zX_inl h).elim
  | cons y0 st1 =>
    cases st1 with
    | nil => exact (zX_inl h).elim
    | cons x0 st1 =>
      obtain ⟨xt, x1, x2⟩ := x0
      obtain ⟨yt, y1, y2⟩ := y0
      obtain ⟨e1, e2, g⟩ := zarith_k (by decide) (by decide) h
      subst e1
      subst e2
      obtain ⟨d1, d2, d3, g2⟩ := zar_idiv g
      obtain rfl := Sum.inl.inj g2
      intro cw tys H locs ls lv st hH hext hl hL hV
      show W p l e R s m args below meth c H locs w.2.2.1 w.2.2.2 Q (F0 m pc ls st)
      have hL : zLR (zad cw) b ls0 lv := hL
      obtain ⟨v, st3, rfl, hr, hV1⟩ := zVR_cons hV
      obtain ⟨v2, st2, rfl, hr2, hV2⟩ := zVR_cons hV1
      have hr := zRV_0 hr
      have hr2 := zRV_0 hr2
      subst hr
      subst hr2
      refine lv_idiv hx hb hdg (znI0 d2 d3) ?_
      rw [zdivE d1 d2 d3, ← hn]
      exact k cw tys H locs ls lv (_ :: st2) hH hext hl hL ⟨rfl, hV2⟩
theorem zs_irem (hx : p.tables.exec = Jvm.exec) (hb : c.code = cc) (hdg : decode cc pc = .ok (.irem, 1)) (hn : zpc rest = pc + 1) (h : zoArith rest ls0 st0 w 4 = Sum.inl S1) (k : zG p l e R s m args below meth c nL D A b ad0 Q S1) : zG p l e R s m args below meth c nL D A b ad0 Q ((pc, o) :: rest, ls0, st0, w) := by
  cases st0 with
  | nil => exact (zX_inl h).elim
  | cons y0 st1 =>
    cases st1 with
    | nil => exact (zX_inl h).elim
    | cons x0 st1 =>
      obtain ⟨xt, x1, x2⟩ := x0
      obtain ⟨yt, y1, y2⟩ := y0
      obtain ⟨e1, e2, g⟩ := zarith_k (by decide) (by decide) h
      subst e1
      subst e2
      obtain ⟨d1, d2, d3, g2⟩ := zar_irem g
      obtain rfl := Sum.inl.inj g2
      intro cw tys H locs ls lv st hH hext hl hL hV
      show W p l e R s m args below meth c H locs w.2.2.1 w.2.2.2 Q (F0 m pc ls st)
      have hL : zLR (zad cw) b ls0 lv := hL
      obtain ⟨v, st3, rfl, hr, hV1⟩ := zVR_cons hV
      obtain ⟨v2, st2, rfl, hr2, hV2⟩ := zVR_cons hV1
      have hr := zRV_0 hr
      have hr2 := zRV_0 hr2
      subst hr
      subst hr2
      refine lv_irem hx hb hdg (znI0 d2 d3) ?_
      rw [zremE d1 d2 d3, ← hn]
      exact k cw tys H locs ls lv (_ :: st2) hH hext hl hL ⟨rfl, hV2⟩
theorem zs_icmp_eq (hx : p.tables.exec = Jvm.exec) (hb : c.code = cc) {off : Int} {tgt : Nat} {full : List zE} (hoff : (pc : Int) + off = (tgt : Int)) (hdg : decode cc pc = .ok (.if_icmp .eq off, 3)) (hn : zpc rest = pc + 3) (h : zoIcmp rest ls0 st0 w full tgt 0 = Sum.inl S1) (k : zG p l e R s m args below meth c nL D A b ad0 Q S1) : zG p l e R s m args below meth c nL D A b ad0 Q ((pc, o) :: rest, ls0, st0, w) := by
  cases st0 with
  | nil => exact (zX_inl h).elim
  | cons y0 st1 =>
    cases st1 with
    | nil => exact (zX_inl h).elim
    | cons x0 st1 =>
      intro cw tys H locs ls lv st hH hext hl hL hV
      show W p l e R s m args below meth c H locs w.2.2.1 w.2.2.2 Q (F0 m pc ls st)
      have hL : zLR (zad cw) b ls0 lv := hL
      obtain ⟨v, st3, rfl, hr, hV1⟩ := zVR_cons hV
      obtain ⟨v2, st2, rfl, hr2, hV2⟩ := zVR_cons hV1
      obtain ⟨x, y, rfl, rfl, t, ht, hk⟩ := zcmp_spec hr2 hr (c := 0) h
      refine lv_icmp_eq (tgt := tgt) hx hb hdg hoff (fun q => ?_) (fun q => ?_)
      · have ht : t = true := ht.mpr q
        subst ht
        obtain ⟨rfl, g⟩ := zgo_inl hk
        rw [← g]
        exact k cw tys H locs ls lv st2 hH hext hl hL hV2
      · have ht : t = false := zfalse (fun z => q (ht.mp z))
        subst ht
        obtain rfl := Sum.inl.inj hk
        rw [← hn]
        exact k cw tys H locs ls lv st2 hH hext hl hL hV2
theorem zs_if_eq (hx : p.tables.exec = Jvm.exec) (hb : c.code = cc) {off : Int} {tgt : Nat} {full : List zE} (hoff : (pc : Int) + off = (tgt : Int)) (hdg : decode cc pc = .ok (.ifCond .eq off, 3)) (hn : zpc rest = pc + 3) (h : zoIf rest ls0 st0 w full tgt 0 = Sum.inl S1) (k : zG p l e R s m args below meth c nL D A b ad0 Q S1) : zG p l e R s m args below meth c nL D A b ad0 Q ((pc, o) :: rest, ls0, st0, w) := by
  cases st0 with
  | nil => exact (zX_inl h).elim
  | cons x0 st1 =>
    intro cw tys H locs ls lv st hH hext hl hL hV
    show W p l e R s m args below meth c H locs w.2.2.1 w.2.2.2 Q (F0 m pc ls st)
    have hL : zLR (zad cw) b ls0 lv := hL
    obtain ⟨v2, st2, rfl, hr2, hV2⟩ := zVR_cons hV
    obtain ⟨x, y, rfl, e0, t, ht, hk⟩ := zcmp_spec (v2 := .int (nI 0)) hr2 (show zRV (zad cw) b (0, 0, 0) (.int (nI 0)) from rfl) (c := 0) h
    have e0 : y = 0 := by cases e0; rfl
    subst e0
    refine lv_if_eq (tgt := tgt) hx hb hdg hoff (fun q => ?_) (fun q => ?_)
    · have ht : t = true := ht.mpr q
      subst ht
      obtain ⟨rfl, g⟩ := zgo_inl hk
      rw [← g]
      exact k cw tys H locs ls lv st2 hH hext hl hL hV2
    · have ht : t = false := zfalse (fun z => q (ht.mp z))
      subst ht
      obtain rfl := Sum.inl.inj hk
      rw [← hn]
      exact k cw tys H locs ls lv st2 hH hext hl hL hV2
theorem zs_icmp_ne (hx : p.tables.exec = Jvm.exec) (hb : c.code = cc) {off : Int} {tgt : Nat} {full : List zE} (hoff : (pc : Int) + off = (tgt : Int)) (hdg : decode cc pc = .ok (.if_icmp .ne off, 3)) (hn : zpc rest = pc + 3) (h : zoIcmp rest ls0 st0 w full tgt 1 = Sum.inl S1) (k : zG p l e R s m args below meth c nL D A b ad0 Q S1) : zG p l e R s m args below meth c nL D A b ad0 Q ((pc, o) :: rest, ls0, st0, w) := by
  cases st0 with
  | nil => exact (zX_inl h).elim
  | cons y0 st1 =>
    cases st1 with
    | nil => exact (zX_inl h).elim
    | cons x0 st1 =>
      intro cw tys H locs ls lv st hH hext hl hL hV
      show W p l e R s m args below meth c H locs w.2.2.1 w.2.2.2 Q (F0 m pc ls st)
      have hL : zLR (zad cw) b ls0 lv := hL
      obtain ⟨v, st3, rfl, hr, hV1⟩ := zVR_cons hV
      obtain ⟨v2, st2, rfl, hr2, hV2⟩ := zVR_cons hV1
      obtain ⟨x, y, rfl, rfl, t, ht, hk⟩ := zcmp_spec hr2 hr (c := 1) h
      refine lv_icmp_ne (tgt := tgt) hx hb hdg hoff (fun q => ?_) (fun q => ?_)
      · have ht : t = true := ht.mpr q
        subst ht
        obtain ⟨rfl, g⟩ := zgo_inl hk
        rw [← g]
        exact k cw tys H locs ls lv st2 hH hext hl hL hV2
      · have ht : t = false := zfalse (fun z => ht.mp z q)
        subst ht
        obtain rfl := Sum.inl.inj hk
        rw [← hn]
        exact k cw tys H locs ls lv st2 hH hext hl hL hV2
theorem zs_if_ne (hx : p.tables.exec = Jvm.exec) (hb : c.code = cc) {off : Int} {tgt : Nat} {full : List zE} (hoff : (pc : Int) + off = (tgt : Int)) (hdg : decode cc pc = .ok (.ifCond .ne off, 3)) (hn : zpc rest = pc + 3) (h : zoIf rest ls0 st0 w full tgt 1 = Sum.inl S1) (k : zG p l e R s m args below meth c nL D A b ad0 Q S1) : zG p l e R s m args below meth c nL D A b ad0 Q ((pc, o) :: rest, ls0, st0, w) := by
  cases st0 with
  | nil => exact (zX_inl h).elim
  | cons x0 st1 =>
    intro cw tys H locs ls lv st hH hext hl hL hV
    show W p l e R s m args below meth c H locs w.2.2.1 w.2.2.2 Q (F0 m pc ls st)
    have hL : zLR (zad cw) b ls0 lv := hL
    obtain ⟨v2, st2, rfl, hr2, hV2⟩ := zVR_cons hV
    obtain ⟨x, y, rfl, e0, t, ht, hk⟩ := zcmp_spec (v2 := .int (nI 0)) hr2 (show zRV (zad cw) b (0, 0, 0) (.int (nI 0)) from rfl) (c := 1) h
    have e0 : y = 0 := by cases e0; rfl
    subst e0
    refine lv_if_ne (tgt := tgt) hx hb hdg hoff (fun q => ?_) (fun q => ?_)
    · have ht : t = true := ht.mpr q
      subst ht
      obtain ⟨rfl, g⟩ := zgo_inl hk
      rw [← g]
      exact k cw tys H locs ls lv st2 hH hext hl hL hV2
    · have ht : t = false := zfalse (fun z => ht.mp z q)
      subst ht
      obtain rfl := Sum.inl.inj hk
      rw [← hn]
      exact k cw tys H locs ls lv st2 hH hext hl hL hV2
theorem zs_icmp_lt (hx : p.tables.exec = Jvm.exec) (hb : c.code = cc) {off : Int} {tgt : Nat} {full : List zE} (hoff : (pc : Int) + off = (tgt : Int)) (hdg : decode cc pc = .ok (.if_icmp .lt off, 3)) (hn : zpc rest = pc + 3) (h : zoIcmp rest ls0 st0 w full tgt 2 = Sum.inl S1) (k : zG p l e R s m args below meth c nL D A b ad0 Q S1) : zG p l e R s m args below meth c nL D A b ad0 Q ((pc, o) :: rest, ls0, st0, w) := by
  cases st0 with
  | nil => exact (zX_inl h).elim
  | cons y0 st1 =>
    cases st1 with
    | nil => exact (zX_inl h).elim
    | cons x0 st1 =>
      intro cw tys H locs ls lv st hH hext hl hL hV
      show W p l e R s m args below meth c H locs w.2.2.1 w.2.2.2 Q (F0 m pc ls st)
      have hL : zLR (zad cw) b ls0 lv := hL
      obtain ⟨v, st3, rfl, hr, hV1⟩ := zVR_cons hV
      obtain ⟨v2, st2, rfl, hr2, hV2⟩ := zVR_cons hV1
      obtain ⟨x, y, rfl, rfl, t, ht, hk⟩ := zcmp_spec hr2 hr (c := 2) h
      refine lv_icmp_lt (tgt := tgt) hx hb hdg hoff (fun q => ?_) (fun q => ?_)
      · have ht : t = true := ht.mpr q
        subst ht
        obtain ⟨rfl, g⟩ := zgo_inl hk
        rw [← g]
        exact k cw tys H locs ls lv st2 hH hext hl hL hV2
      · have ht : t = false := zfalse (fun z => q (ht.mp z))
        subst ht
        obtain rfl := Sum.inl.inj hk
        rw [← hn]
        exact k cw tys H locs ls lv st2 hH hext hl hL hV2
theorem zs_if_lt (hx : p.tables.exec = Jvm.exec) (hb : c.code = cc) {off : Int} {tgt : Nat} {full : List zE} (hoff : (pc : Int) + off = (tgt : Int)) (hdg : decode cc pc = .ok (.ifCond .lt off, 3)) (hn : zpc rest = pc + 3) (h : zoIf rest ls0 st0 w full tgt 2 = Sum.inl S1) (k : zG p l e R s m args below meth c nL D A b ad0 Q S1) : zG p l e R s m args below meth c nL D A b ad0 Q ((pc, o) :: rest, ls0, st0, w) := by
  cases st0 with
  | nil => exact (zX_inl h).elim
  | cons x0 st1 =>
    intro cw tys H locs ls lv st hH hext hl hL hV
    show W p l e R s m args below meth c H locs w.2.2.1 w.2.2.2 Q (F0 m pc ls st)
    have hL : zLR (zad cw) b ls0 lv := hL
    obtain ⟨v2, st2, rfl, hr2, hV2⟩ := zVR_cons hV
    obtain ⟨x, y, rfl, e0, t, ht, hk⟩ := zcmp_spec (v2 := .int (nI 0)) hr2 (show zRV (zad cw) b (0, 0, 0) (.int (nI 0)) from rfl) (c := 2) h
    have e0 : y = 0 := by cases e0; rfl
    subst e0
    refine lv_if_lt (tgt := tgt) hx hb hdg hoff (fun q => ?_) (fun q => ?_)
    · have ht : t = true := ht.mpr q
      subst ht
      obtain ⟨rfl, g⟩ := zgo_inl hk
      rw [← g]
      exact k cw tys H locs ls lv st2 hH hext hl hL hV2
    · have ht : t = false := zfalse (fun z => q (ht.mp z))
      subst ht
      obtain rfl := Sum.inl.inj hk
      rw [← hn]
      exact k cw tys H locs ls lv st2 hH hext hl hL hV2
theorem zs_icmp_ge (hx : p.tables.exec = Jvm.exec) (hb : c.code = cc) {off : Int} {tgt : Nat} {full : List zE} (hoff : (pc : Int) + off = (tgt : Int)) (hdg : decode cc pc = .ok (.if_icmp .ge off, 3)) (hn : zpc rest = pc + 3) (h : zoIcmp rest ls0 st0 w full tgt 3 = Sum.inl S1) (k : zG p l e R s m args below meth c nL D A b ad0 Q S1) : zG p l e R s m args below meth c nL D A b ad0 Q ((pc, o) :: rest, ls0, st0, w) := by
  cases st0 with
  | nil => exact (zX_inl h).elim
  | cons y0 st1 =>
    cases st1 with
    | nil => exact (zX_inl h).elim
    | cons x0 st1 =>
      intro cw tys H locs ls lv st hH hext hl hL hV
      show W p l e R s m args below meth c H locs w.2.2.1 w.2.2.2 Q (F0 m pc ls st)
      have hL : zLR (zad cw) b ls0 lv := hL
      obtain ⟨v, st3, rfl, hr, hV1⟩ := zVR_cons hV
      obtain ⟨v2, st2, rfl, hr2, hV2⟩ := zVR_cons hV1
      obtain ⟨x, y, rfl, rfl, t, ht, hk⟩ := zcmp_spec hr2 hr (c := 3) h
      refine lv_icmp_ge (tgt := tgt) hx hb hdg hoff (fun q => ?_) (fun q => ?_)
      · have ht : t = true := ht.mpr q
        subst ht
        obtain ⟨rfl, g⟩ := zgo_inl hk
        rw [← g]
        exact k cw tys H locs ls lv st2 hH hext hl hL hV2
      · have ht : t = false := zfalse (fun z => q (ht.mp z))
        subst ht
        obtain rfl := Sum.inl.inj hk
        rw [← hn]
        exact k cw tys H locs ls lv st2 hH hext hl hL hV2
theorem zs_if_ge (hx : p.tables.exec = Jvm.exec) (hb : c.code = cc) {off : Int} {tgt : Nat} {full : List zE} (hoff : (pc : Int) + off = (tgt : Int)) (hdg : decode cc pc = .ok (.ifCond .ge off, 3)) (hn : zpc rest = pc + 3) (h : zoIf rest ls0 st0 w full tgt 3 = Sum.inl S1) (k : zG p l e R s m args below meth c nL D A b ad0 Q S1) : zG p l e R s m args below meth c nL D A b ad0 Q ((pc, o) :: rest, ls0, st0, w) := by
  cases st0 with
  | nil => exact (zX_inl h).elim
  | cons x0 st1 =>
    intro cw tys H locs ls lv st hH hext hl hL hV
    show W p l e R s m args below meth c H locs w.2.2.1 w.2.2.2 Q (F0 m pc ls st)
    have hL : zLR (zad cw) b ls0 lv := hL
    obtain ⟨v2, st2, rfl, hr2, hV2⟩ := zVR_cons hV
    obtain ⟨x, y, rfl, e0, t, ht, hk⟩ := zcmp_spec (v2 := .int (nI 0)) hr2 (show zRV (zad cw) b (0, 0, 0) (.int (nI 0)) from rfl) (c := 3) h
    have e0 : y = 0 := by cases e0; rfl
    subst e0
    refine lv_if_ge (tgt := tgt) hx hb hdg hoff (fun q => ?_) (fun q => ?_)
    · have ht : t = true := ht.mpr q
      subst ht
      obtain ⟨rfl, g⟩ := zgo_inl hk
      rw [← g]
      exact k cw tys H locs ls lv st2 hH hext hl hL hV2
    · have ht : t = false := zfalse (fun z => q (ht.mp z))
      subst ht
      obtain rfl := Sum.inl.inj hk
      rw [← hn]
      exact k cw tys H locs ls lv st2 hH hext hl hL hV2
theorem zs_icmp_gt (hx : p.tables.exec = Jvm.exec) (hb : c.code = cc) {off : Int} {tgt : Nat} {full : List zE} (hoff : (pc : Int) + off = (tgt : Int)) (hdg : decode cc pc = .ok (.if_icmp .gt off, 3)) (hn : zpc rest = pc + 3) (h : zoIcmp rest ls0 st0 w full tgt 4 = Sum.inl S1) (k : zG p l e R s m args below meth c nL D A b ad0 Q S1) : zG p l e R s m args below meth c nL D A b ad0 Q ((pc, o) :: rest, ls0, st0, w) := by
  cases st0 with
  | nil => exact (zX_inl h).elim
  | cons y0 st1 =>
    cases st1 with
    | nil => exact (zX_inl h).elim
    | cons x0 st1 =>
      intro cw tys H locs ls lv st hH hext hl hL hV
      show W p l e R s m args below meth c H locs w.2.2.1 w.2.2.2 Q (F0 m pc ls st)
      have hL : zLR (zad cw) b ls0 lv := hL
      obtain ⟨v, st3, rfl, hr, hV1⟩ := zVR_cons hV
      obtain ⟨v2, st2, rfl, hr2, hV2⟩ := zVR_cons hV1
      obtain ⟨x, y, rfl, rfl, t, ht, hk⟩ := zcmp_spec hr2 hr (c := 4) h
      refine lv_icmp_gt (tgt := tgt) hx hb hdg hoff (fun q => ?_) (fun q => ?_)
      · have ht : t = true := ht.mpr q
        subst ht
        obtain ⟨rfl, g⟩ := zgo_inl hk
        rw [← g]
        exact k cw tys H locs ls lv st2 hH hext hl hL hV2
      · have ht : t = false := zfalse (fun z => q (ht.mp z))
        subst ht
        obtain rfl := Sum.inl.inj hk
        rw [← hn]
        exact k cw tys H locs ls lv st2 hH hext hl hL hV2
theorem zs_if_gt (hx : p.tables.exec = Jvm.exec) (hb : c.code = cc) {off : Int} {tgt : Nat} {full : List zE} (hoff : (pc : Int) + off = (tgt : Int)) (hdg : decode cc pc = .ok (.ifCond .gt off, 3)) (hn : zpc rest = pc + 3) (h : zoIf rest ls0 st0 w full tgt 4 = Sum.inl S1) (k : zG p l e R s m args below meth c nL D A b ad0 Q S1) : zG p l e R s m args below meth c nL D A b ad0 Q ((pc, o) :: rest, ls0, st0, w) := by
  cases st0 with
  | nil => exact (zX_inl h).elim
  | cons x0 st1 =>
    intro cw tys H locs ls lv st hH hext hl hL hV
    show W p l e R s m args below meth c H locs w.2.2.1 w.2.2.2 Q (F0 m pc ls st)
    have hL : zLR (zad cw) b ls0 lv := hL
    obtain ⟨v2, st2, rfl, hr2, hV2⟩ := zVR_cons hV
    obtain ⟨x, y, rfl, e0, t, ht, hk⟩ := zcmp_spec (v2 := .int (nI 0)) hr2 (show zRV (zad cw) b (0, 0, 0) (.int (nI 0)) from rfl) (c := 4) h
    have e0 : y = 0 := by cases e0; rfl
    subst e0
    refine lv_if_gt (tgt := tgt) hx hb hdg hoff (fun q => ?_) (fun q => ?_)
    · have ht : t = true := ht.mpr q
      subst ht
      obtain ⟨rfl, g⟩ := zgo_inl hk
      rw [← g]
      exact k cw tys H locs ls lv st2 hH hext hl hL hV2
    · have ht : t = false := zfalse (fun z => q (ht.mp z))
      subst ht
      obtain rfl := Sum.inl.inj hk
      rw [← hn]
      exact k cw tys H locs ls lv st2 hH hext hl hL hV2
theorem zs_icmp_le (hx : p.tables.exec = Jvm.exec) (hb : c.code = cc) {off : Int} {tgt : Nat} {full : List zE} (hoff : (pc : Int) + off = (tgt : Int)) (hdg : decode cc pc = .ok (.if_icmp .le off, 3)) (hn : zpc rest = pc + 3) (h : zoIcmp rest ls0 st0 w full tgt 5 = Sum.inl S1) (k : zG p l e R s m args below meth c nL D A b ad0 Q S1) : zG p l e R s m args below meth c nL D A b ad0 Q ((pc, o) :: rest, ls0, st0, w) := by
  cases st0 with
  | nil => exact (zX_inl h).elim
  | cons y0 st1 =>
    cases st1 with
    | nil => exact (zX_inl h).elim
    | cons x0 st1 =>
      intro cw tys H locs ls lv st hH hext hl hL hV
      show W p l e R s m args below meth c H locs w.2.2.1 w.2.2.2 Q (F0 m pc ls st)
      have hL : zLR (zad cw) b ls0 lv := hL
      obtain ⟨v, st3, rfl, hr, hV1⟩ := zVR_cons hV
      obtain ⟨v2, st2, rfl, hr2, hV2⟩ := zVR_cons hV1
      obtain ⟨x, y, rfl, rfl, t, ht, hk⟩ := zcmp_spec hr2 hr (c := 5) h
      refine lv_icmp_le (tgt := tgt) hx hb hdg hoff (fun q => ?_) (fun q => ?_)
      · have ht : t = true := ht.mpr q
        subst ht
        obtain ⟨rfl, g⟩ := zgo_inl hk
        rw [← g]
        exact k cw tys H locs ls lv st2 hH hext hl hL hV2
      · have ht : t = false := zfalse (fun z => q (ht.mp z))
        subst ht
        obtain rfl := Sum.inl.inj hk
        rw [← hn]
        exact k cw tys H locs ls lv st2 hH hext hl hL hV2
theorem zs_if_le (hx : p.tables.exec = Jvm.exec) (hb : c.code = cc) {off : Int} {tgt : Nat} {full : List zE} (hoff : (pc : Int) + off = (tgt : Int)) (hdg : decode cc pc = .ok (.ifCond .le off, 3)) (hn : zpc rest = pc + 3) (h : zoIf rest ls0 st0 w full tgt 5 = Sum.inl S1) (k : zG p l e R s m args below meth c nL D A b ad0 Q S1) : zG p l e R s m args below meth c nL D A b ad0 Q ((pc, o) :: rest, ls0, st0, w) := by
  cases st0 with
  | nil => exact (zX_inl h).elim
  | cons x0 st1 =>
    intro cw tys H locs ls lv st hH hext hl hL hV
    show W p l e R s m args below meth c H locs w.2.2.1 w.2.2.2 Q (F0 m pc ls st)
    have hL : zLR (zad cw) b ls0 lv := hL
    obtain ⟨v2, st2, rfl, hr2, hV2⟩ := zVR_cons hV
    obtain ⟨x, y, rfl, e0, t, ht, hk⟩ := zcmp_spec (v2 := .int (nI 0)) hr2 (show zRV (zad cw) b (0, 0, 0) (.int (nI 0)) from rfl) (c := 5) h
    have e0 : y = 0 := by cases e0; rfl
    subst e0
    refine lv_if_le (tgt := tgt) hx hb hdg hoff (fun q => ?_) (fun q => ?_)
    · have ht : t = true := ht.mpr q
      subst ht
      obtain ⟨rfl, g⟩ := zgo_inl hk
      rw [← g]
      exact k cw tys H locs ls lv st2 hH hext hl hL hV2
    · have ht : t = false := zfalse (fun z => q (ht.mp z))
      subst ht
      obtain rfl := Sum.inl.inj hk
      rw [← hn]
      exact k cw tys H locs ls lv st2 hH hext hl hL hV2
theorem zs_goto (hx : p.tables.exec = Jvm.exec) (hb : c.code = cc) {off : Int} {tgt : Nat} {full : List zE} (hoff : (pc : Int) + off = (tgt : Int)) (hdg : decode cc pc = .ok (.goto off, 3)) (h : zgo full tgt ls0 st0 w = Sum.inl S1) (k : zG p l e R s m args below meth c nL D A b ad0 Q S1) : zG p l e R s m args below meth c nL D A b ad0 Q ((pc, o) :: rest, ls0, st0, w) := by
  obtain ⟨rfl, g⟩ := zgo_inl h
  intro cw tys H locs ls lv st hH hext hl hL hV
  show W p l e R s m args below meth c H locs w.2.2.1 w.2.2.2 Q (F0 m pc ls st)
  have hL : zLR (zad cw) b ls0 lv := hL
  refine lv_goto (tgt := tgt) hx hb hdg hoff ?_
  rw [← g]
  exact k cw tys H locs ls lv st hH hext hl hL hV
end ZS
end
section
/-! ===== instructions, part two: small numbers, conversions, switches ===== -/
theorem zcellK_inl {w : zW} {v : zV} {K : Nat → Nat → Nat → zV → zA → zO} {S : zS} (h : zcellK w v K = Sum.inl S) : v.1 = 4 ∧ K (w.1 - (v.2.1 + 1)) (znth w.2.1 (w.1 - (v.2.1 + 1))).1 (znth w.2.1 (w.1 - (v.2.1 + 1))).2.1 (znth w.2.1 (w.1 - (v.2.1 + 1))).2.2.1 (znth w.2.1 (w.1 - (v.2.1 + 1))).2.2.2 = Sum.inl S := by
  unfold zcellK at h
  obtain ⟨h1, h2⟩ := zb_inl h
  rw [zfN_eq, zfC_eq] at h2
  exact ⟨zbeq h1, h2⟩
theorem zbyteE {x : Int32} (h1 : -128 ≤ x.toInt) (h2 : x.toInt ≤ 127) : x.toInt8.toInt32 = x := by
  apply Int32.toInt_inj.mp
  rw [Int8.toInt_toInt32, Int32.toInt_toInt8]
  exact Int.bmod_eq_of_le (by omega) (by omega)
theorem zbyteR (x : Int32) : 2147483520 ≤ zbias x.toInt8.toInt32 ∧ zbias x.toInt8.toInt32 ≤ 2147483775 := by
  have h1 := zbias_toInt x.toInt8.toInt32
  rw [Int8.toInt_toInt32] at h1
  have h2 := Int8.le_toInt x.toInt8
  have h3 := Int8.toInt_lt x.toInt8
  omega
theorem zsmall_spec {ad : List Nat} {b : Nat} {u : zV} {v : Value} (h : zsmall 5 u = true) (hv : zRV ad b u v) : u.1 = 0 ∧ (v = .int 0 ∨ v = .int 1) := by
  obtain ⟨t, x, y⟩ := u
  replace h : zb (Nat.beq t 0) (Nat.ble x 1) false = true := h
  obtain ⟨h1, h2⟩ := zb_and h
  have h1 := zbeq h1
  subst h1
  have h3 := zble h2
  have hv := zRV_0 hv
  subst hv
  refine ⟨rfl, ?_⟩
  rcases Nat.le_one_iff_eq_zero_or_eq_one.mp h3 with rfl | rfl
  · exact Or.inl rfl
  · exact Or.inr rfl
theorem zsmall6_spec {ad : List Nat} {b : Nat} {u : zV} {v : Value} (h : zsmall 6 u = true) (hv : zRV ad b u v) : ∃ x : Int32, v = .int x ∧ x.toInt8.toInt32 = x := by
  obtain ⟨t, n, y⟩ := u
  replace h : zb (Nat.beq t 0) (zb (Nat.ble n 127) true (zb (Nat.ble 4294967168 n) (Nat.ble n 4294967295) false)) (zb (Nat.beq t 1) (zb (Nat.ble 2147483520 n) (Nat.ble y 2147483775) false) false) = true := h
  cases q : Nat.beq t 0
  · rw [q, zb_ff] at h
    obtain ⟨h1, h2⟩ := zb_and h
    obtain ⟨h3, h4⟩ := zb_and h2
    have h1 := zbeq h1
    subst h1
    obtain ⟨x, g1, g2, g3⟩ := zRV_1 hv
    have := zble h3
    have := zble h4
    have := zbias_toInt x
    exact ⟨x, g1, zbyteE (by omega) (by omega)⟩
  · rw [q, zb_tt] at h
    have q := zbeq q
    subst q
    refine ⟨nI n, zRV_0 hv, ?_⟩
    have e1 := zbias_toInt (nI n)
    rw [zbias_nI] at e1
    cases q2 : Nat.ble n 127
    · rw [q2, zb_ff] at h
      obtain ⟨h1, h2⟩ := zb_and h
      have := zble h1
      have := zble h2
      exact zbyteE (by omega) (by omega)
    · have := zble q2
      exact zbyteE (by omega) (by omega)
theorem zwide_neg {n : Nat} (h1 : ¬ n ≤ 2147483647) (h2 : n ≤ 4294967295) : (nI n).toInt64 = lN (n + 18446744069414584320) := by
  rw [zeqL_iff, zbias64_wide, zbias_nI, zbias64_lN]
  omega
section ZT
variable {p : Program} {l : Launch} {e : Env} {R : Room} {s : State} {m : MethodId} {args : Array Value} {below : List Frame} {meth : Method} {c : Code} {Q : State → Prop} {nL : Nat} {D : va_G} {A : Nat → Prop} {b : Nat} {ad0 : List Nat} {cc : ByteArray} {pc : Nat} {o : Nat × Nat × Nat × List Nat} {rest : List zE} {ls0 : zA} {st0 : List zV} {w : zW} {S1 : zS}
theorem zVc {ad : List Nat} {b : Nat} {u : zV} {t : List zV} {v : Value} {vs : List Value} (h1 : zRV ad b u v) (h2 : zVR ad b t vs) : zVR ad b (u :: t) (v :: vs) := ⟨h1, h2⟩
/-- what a row without a change of the world or the locals owes -/
theorem zG_st {st1 : List zV} (k : zG p l e R s m args below meth c nL D A b ad0 Q (rest, ls0, st1, w)) {cw : va_W} {tys : List (ClassId × FieldType)} {H : Heap} {locs : List Loc} {ls : Array Slot} {lv : List (Nat × Value)} {st : List Value}
    (hH : zHR D A b s w cw tys H locs) (hext : ∃ ext, zad cw = ad0 ++ ext) (hl : lv_has ls nL lv) (hL : zLR (zad cw) b ls0 lv) (hV : zVR (zad cw) b st1 st) {n : Nat} (hn : zpc rest = n) :
    W p l e R s m args below meth c H locs w.2.2.1 w.2.2.2 Q (F0 m n ls st) := by
  subst hn
  exact k cw tys H locs ls lv st hH hext hl hL hV
theorem zs_iand (hx : p.tables.exec = Jvm.exec) (hb : c.code = cc) (hdg : decode cc pc = .ok (.iand, 1)) (hn : zpc rest = pc + 1) (h : zoArith rest ls0 st0 w 5 = Sum.inl S1) (k : zG p l e R s m args below meth c nL D A b ad0 Q S1) : zG p l e R s m args below meth c nL D A b ad0 Q ((pc, o) :: rest, ls0, st0, w) := by
  cases st0 with
  | nil => exact (zX_inl h).elim
  | cons y0 st1 =>
    cases st1 with
    | nil => exact (zX_inl h).elim
    | cons x0 st1 =>
      obtain ⟨xt, x1, x2⟩ := x0
      obtain ⟨yt, y1, y2⟩ := y0
      replace h : zb (Nat.beq xt 0) (zb (Nat.beq yt 0) (zfN (x1 &&& y1) (fun r => Sum.inl (rest, ls0, (0, r, 0) :: st1, w)))
          (zb (zis 0 (yt, y1, y2)) (Sum.inl (rest, ls0, (1, 0, 4294967295) :: st1, w)) zX))
        (zb (Nat.beq xt 2) (zb (Nat.beq yt 2) zX zX)
        (zb (zis 0 (xt, x1, x2)) (zb (zis 0 (yt, y1, y2)) (Sum.inl (rest, ls0, (1, 0, 4294967295) :: st1, w)) zX) zX)) = Sum.inl S1 := h
      intro cw tys H locs ls lv st hH hext hl hL hV
      obtain ⟨v, st3, rfl, hr, hV1⟩ := zVR_cons hV
      obtain ⟨v2, st2, rfl, hr2, hV2⟩ := zVR_cons hV1
      have hL : zLR (zad cw) b ls0 lv := hL
      show W p l e R s m args below meth c H locs w.2.2.1 w.2.2.2 Q (F0 m pc ls _)
      have tops : zis 0 (xt, x1, x2) = true → zis 0 (yt, y1, y2) = true → S1 = (rest, ls0, (1, 0, 4294967295) :: st1, w) → W p l e R s m args below meth c H locs w.2.2.1 w.2.2.2 Q (F0 m pc ls (v :: v2 :: st2)) := by
        intro g1 g2 g3
        subst g3
        obtain ⟨x, rfl, -, -⟩ := zRV_int g1 hr2
        obtain ⟨y, rfl, -, -⟩ := zRV_int g2 hr
        exact lv_iand hx hb hdg (zG_st k hH hext hl hL (zVc (zRV_top _) hV2) hn)
      cases q : Nat.beq xt 0
      · rw [q, zb_ff] at h
        cases q2 : Nat.beq xt 2
        · rw [q2, zb_ff] at h
          obtain ⟨t1, h1⟩ := zb_inl h
          obtain ⟨t2, h2⟩ := zb_inl h1
          exact tops t1 t2 (Sum.inl.inj h2).symm
        · rw [q2, zb_tt] at h
          cases q3 : Nat.beq yt 2 <;> rw [q3] at h <;> exact (zX_inl h).elim
      · rw [q, zb_tt] at h
        have e1 := zbeq q
        subst e1
        cases q2 : Nat.beq yt 0
        · rw [q2, zb_ff] at h
          obtain ⟨t2, h2⟩ := zb_inl h
          exact tops rfl t2 (Sum.inl.inj h2).symm
        · rw [q2, zb_tt, zfN_eq] at h
          have e2 := zbeq q2
          subst e2
          obtain rfl := Sum.inl.inj h
          have hr := zRV_0 hr
          have hr2 := zRV_0 hr2
          subst hr
          subst hr2
          refine lv_iand hx hb hdg ?_
          rw [zand]
          exact zG_st k hH hext hl hL (zVc (rfl) hV2) hn
theorem zs_ishr (hx : p.tables.exec = Jvm.exec) (hb : c.code = cc) (hdg : decode cc pc = .ok (.ishr, 1)) (hn : zpc rest = pc + 1) (h : zoArith rest ls0 st0 w 7 = Sum.inl S1) (k : zG p l e R s m args below meth c nL D A b ad0 Q S1) : zG p l e R s m args below meth c nL D A b ad0 Q ((pc, o) :: rest, ls0, st0, w) := by
  cases st0 with
  | nil => exact (zX_inl h).elim
  | cons y0 st1 =>
    cases st1 with
    | nil => exact (zX_inl h).elim
    | cons x0 st1 =>
      replace h : zb (Nat.beq x0.1 0) (zb (Nat.beq y0.1 0) zX (zb (zis 0 y0) zX zX))
        (zb (Nat.beq x0.1 2) (zb (Nat.beq y0.1 2) zX zX)
        (zb (zis 0 x0) (zb (zis 0 y0) (Sum.inl (rest, ls0, (1, 0, 4294967295) :: st1, w)) zX) zX)) = Sum.inl S1 := h
      cases q : Nat.beq x0.1 0
      · rw [q, zb_ff] at h
        cases q2 : Nat.beq x0.1 2
        · rw [q2, zb_ff] at h
          obtain ⟨t1, h1⟩ := zb_inl h
          obtain ⟨t2, h2⟩ := zb_inl h1
          obtain rfl := Sum.inl.inj h2
          intro cw tys H locs ls lv st hH hext hl hL hV
          obtain ⟨v, st3, rfl, hr, hV1⟩ := zVR_cons hV
          obtain ⟨v2, st2, rfl, hr2, hV2⟩ := zVR_cons hV1
          obtain ⟨x, rfl, -, -⟩ := zRV_int t1 hr2
          obtain ⟨y, rfl, -, -⟩ := zRV_int t2 hr
          exact lv_ishr hx hb hdg (zG_st k hH hext hl hL (zVc (zRV_top _) hV2) hn)
        · rw [q2, zb_tt] at h
          cases q3 : Nat.beq y0.1 2 <;> rw [q3] at h <;> exact (zX_inl h).elim
      · rw [q, zb_tt] at h
        cases q2 : Nat.beq y0.1 0
        · rw [q2, zb_ff] at h
          cases q3 : zis 0 y0 <;> rw [q3] at h <;> exact (zX_inl h).elim
        · rw [q2] at h; exact (zX_inl h).elim
theorem zs_ishl (hx : p.tables.exec = Jvm.exec) (hb : c.code = cc) (hdg : decode cc pc = .ok (.ishl, 1)) (hn : zpc rest = pc + 1) (h : zoArith rest ls0 st0 w 6 = Sum.inl S1) (k : zG p l e R s m args below meth c nL D A b ad0 Q S1) : zG p l e R s m args below meth c nL D A b ad0 Q ((pc, o) :: rest, ls0, st0, w) := by
  cases st0 with
  | nil => exact (zX_inl h).elim
  | cons y0 st1 =>
    cases st1 with
    | nil => exact (zX_inl h).elim
    | cons x0 st1 =>
      obtain ⟨xt, x1, x2⟩ := x0
      obtain ⟨yt, y1, y2⟩ := y0
      replace h : zb (Nat.beq xt 0) (zb (Nat.beq yt 0) (zb (Nat.beq y1 0) (Sum.inl (rest, ls0, (0, x1, 0) :: st1, w)) zX) (zb (zis 0 (yt, y1, y2)) zX zX))
        (zb (Nat.beq xt 2) (zb (Nat.beq yt 2) zX zX)
        (zb (zis 0 (xt, x1, x2)) (zb (zis 0 (yt, y1, y2)) zX zX) zX)) = Sum.inl S1 := h
      cases q : Nat.beq xt 0
      · rw [q, zb_ff] at h
        cases q2 : Nat.beq xt 2
        · rw [q2, zb_ff] at h
          obtain ⟨t1, h1⟩ := zb_inl h
          cases q3 : zis 0 (yt, y1, y2) <;> rw [q3] at h1 <;> exact (zX_inl h1).elim
        · rw [q2, zb_tt] at h
          cases q3 : Nat.beq yt 2 <;> rw [q3] at h <;> exact (zX_inl h).elim
      · rw [q, zb_tt] at h
        cases q2 : Nat.beq yt 0
        · rw [q2, zb_ff] at h
          cases q3 : zis 0 (yt, y1, y2) <;> rw [q3] at h <;> exact (zX_inl h).elim
        · rw [q2, zb_tt] at h
          obtain ⟨t1, h1⟩ := zb_inl h
          obtain rfl := Sum.inl.inj h1
          have e1 := zbeq q
          have e2 := zbeq q2
          have e3 := zbeq t1
          subst e1
          subst e2
          subst e3
          intro cw tys H locs ls lv st hH hext hl hL hV
          obtain ⟨v, st3, rfl, hr, hV1⟩ := zVR_cons hV
          obtain ⟨v2, st2, rfl, hr2, hV2⟩ := zVR_cons hV1
          have hr := zRV_0 hr
          have hr2 := zRV_0 hr2
          subst hr
          subst hr2
          refine lv_ishl hx hb hdg ?_
          rw [show nI x1 <<< (nI 0 &&& 31) = nI x1 from sb_shl0 _]
          exact zG_st k hH hext hl hL (zVc (rfl) hV2) hn
theorem zarith_l {rest : List zE} {ls0 : zA} {st1 : List zV} {w : zW} {S : zS} {a xt x1 x2 yt y1 y2 r : Nat} (ha : (a = 10 ∧ r = (x1 + y1) % 18446744073709551616) ∨ (a = 11 ∧ r = (x1 * y1) % 18446744073709551616)) (h : zoArith rest ls0 ((yt, y1, y2) :: (xt, x1, x2) :: st1) w a = Sum.inl S) :
    xt = 2 ∧ yt = 2 ∧ S = (rest, ls0, (2, r, 0) :: st1, w) := by
  replace h : zb (Nat.beq xt 0) (zb (Nat.beq yt 0) (zar a x1 y1 (fun r => Sum.inl (rest, ls0, (0, r, 0) :: st1, w)))
      (zb (zis 0 (yt, y1, y2)) (zb (Nat.beq a 5) (Sum.inl (rest, ls0, (1, 0, 4294967295) :: st1, w)) zX) zX))
    (zb (Nat.beq xt 2) (zb (Nat.beq yt 2) (zb (Nat.beq a 10) (zfN ((x1 + y1) % 18446744073709551616) (fun r => Sum.inl (rest, ls0, (2, r, 0) :: st1, w)))
      (zb (Nat.beq a 11) (zfN ((x1 * y1) % 18446744073709551616) (fun r => Sum.inl (rest, ls0, (2, r, 0) :: st1, w))) zX)) zX)
    (zb (zis 0 (xt, x1, x2)) (zb (zis 0 (yt, y1, y2)) (zb (Nat.beq a 5) (Sum.inl (rest, ls0, (1, 0, 4294967295) :: st1, w)) (zb (Nat.beq a 7) (Sum.inl (rest, ls0, (1, 0, 4294967295) :: st1, w)) zX)) zX) zX)) = Sum.inl S := h
  have hz : zar a x1 y1 (fun r => Sum.inl (rest, ls0, (0, r, 0) :: st1, w)) = zX := by
    rcases ha with ⟨rfl, -⟩ | ⟨rfl, -⟩ <;> rfl
  have h5 : Nat.beq a 5 = false := by rcases ha with ⟨rfl, -⟩ | ⟨rfl, -⟩ <;> rfl
  have h7 : Nat.beq a 7 = false := by rcases ha with ⟨rfl, -⟩ | ⟨rfl, -⟩ <;> rfl
  rw [hz, h5, h7] at h
  simp only [zb_ff] at h
  cases q : Nat.beq xt 0
  · rw [q, zb_ff] at h
    cases q2 : Nat.beq xt 2
    · rw [q2, zb_ff] at h
      obtain ⟨-, h1⟩ := zb_inl h
      obtain ⟨-, h2⟩ := zb_inl h1
      exact (zX_inl h2).elim
    · rw [q2, zb_tt] at h
      obtain ⟨t1, h1⟩ := zb_inl h
      refine ⟨zbeq q2, zbeq t1, ?_⟩
      rcases ha with ⟨rfl, rfl⟩ | ⟨rfl, rfl⟩
      · have h2 : zfN ((x1 + y1) % 18446744073709551616) (fun r => Sum.inl (rest, ls0, (2, r, 0) :: st1, w)) = (Sum.inl S : zO) := h1
        rw [zfN_eq] at h2
        exact (Sum.inl.inj h2).symm
      · have h2 : zfN ((x1 * y1) % 18446744073709551616) (fun r => Sum.inl (rest, ls0, (2, r, 0) :: st1, w)) = (Sum.inl S : zO) := h1
        rw [zfN_eq] at h2
        exact (Sum.inl.inj h2).symm
  · rw [q, zb_tt] at h
    cases q2 : Nat.beq yt 0
    · rw [q2, zb_ff] at h
      obtain ⟨-, h1⟩ := zb_inl h
      exact (zX_inl h1).elim
    · rw [q2] at h; exact (zX_inl h).elim
theorem zs_ladd (hx : p.tables.exec = Jvm.exec) (hb : c.code = cc) (hdg : decode cc pc = .ok (.ladd, 1)) (hn : zpc rest = pc + 1) (h : zoArith rest ls0 st0 w 10 = Sum.inl S1) (k : zG p l e R s m args below meth c nL D A b ad0 Q S1) : zG p l e R s m args below meth c nL D A b ad0 Q ((pc, o) :: rest, ls0, st0, w) := by
  cases st0 with
  | nil => exact (zX_inl h).elim
  | cons y0 st1 =>
    cases st1 with
    | nil => exact (zX_inl h).elim
    | cons x0 st1 =>
      obtain ⟨xt, x1, x2⟩ := x0
      obtain ⟨yt, y1, y2⟩ := y0
      obtain ⟨e1, e2, e3⟩ := zarith_l (Or.inl ⟨rfl, rfl⟩) h
      subst e1
      subst e2
      subst e3
      intro cw tys H locs ls lv st hH hext hl hL hV
      obtain ⟨v, st3, rfl, hr, hV1⟩ := zVR_cons hV
      obtain ⟨v2, st2, rfl, hr2, hV2⟩ := zVR_cons hV1
      have hr := zRV_2 hr
      have hr2 := zRV_2 hr2
      subst hr
      subst hr2
      refine lv_ladd hx hb hdg ?_
      rw [lN_add, ← zmodL]
      exact zG_st k hH hext hl hL (zVc (rfl) hV2) hn
theorem zs_lmul (hx : p.tables.exec = Jvm.exec) (hb : c.code = cc) (hdg : decode cc pc = .ok (.lmul, 1)) (hn : zpc rest = pc + 1) (h : zoArith rest ls0 st0 w 11 = Sum.inl S1) (k : zG p l e R s m args below meth c nL D A b ad0 Q S1) : zG p l e R s m args below meth c nL D A b ad0 Q ((pc, o) :: rest, ls0, st0, w) := by
  cases st0 with
  | nil => exact (zX_inl h).elim
  | cons y0 st1 =>
    cases st1 with
    | nil => exact (zX_inl h).elim
    | cons x0 st1 =>
      obtain ⟨xt, x1, x2⟩ := x0
      obtain ⟨yt, y1, y2⟩ := y0
      obtain ⟨e1, e2, e3⟩ := zarith_l (Or.inr ⟨rfl, rfl⟩) h
      subst e1
      subst e2
      subst e3
      intro cw tys H locs ls lv st hH hext hl hL hV
      obtain ⟨v, st3, rfl, hr, hV1⟩ := zVR_cons hV
      obtain ⟨v2, st2, rfl, hr2, hV2⟩ := zVR_cons hV1
      have hr := zRV_2 hr
      have hr2 := zRV_2 hr2
      subst hr
      subst hr2
      refine lv_lmul hx hb hdg ?_
      rw [lN_mul, ← zmodL]
      exact zG_st k hH hext hl hL (zVc (rfl) hV2) hn
theorem zs_i2l (hx : p.tables.exec = Jvm.exec) (hb : c.code = cc) (hdg : decode cc pc = .ok (.i2l, 1)) (hn : zpc rest = pc + 1) (h : zoConv rest ls0 st0 w 0 = Sum.inl S1) (k : zG p l e R s m args below meth c nL D A b ad0 Q S1) : zG p l e R s m args below meth c nL D A b ad0 Q ((pc, o) :: rest, ls0, st0, w) := by
  cases st0 with
  | nil => exact (zX_inl h).elim
  | cons x0 st1 =>
    obtain ⟨xt, x1, x2⟩ := x0
    replace h : zb (Nat.beq xt 0) (zb (Nat.ble x1 2147483647) (Sum.inl (rest, ls0, (2, x1, 0) :: st1, w)) (zb (Nat.ble x1 4294967295) (zfN (x1 + 18446744069414584320) (fun n => Sum.inl (rest, ls0, (2, n, 0) :: st1, w))) zX))
      (zb (Nat.beq xt 1) (Sum.inl (rest, ls0, (3, x1, x2) :: st1, w)) zX) = Sum.inl S1 := h
    intro cw tys H locs ls lv st hH hext hl hL hV
    obtain ⟨v, st2, rfl, hr, hV1⟩ := zVR_cons hV
    show W p l e R s m args below meth c H locs w.2.2.1 w.2.2.2 Q (F0 m pc ls _)
    cases q : Nat.beq xt 0
    · rw [q, zb_ff] at h
      obtain ⟨t1, h1⟩ := zb_inl h
      have e1 := zbeq t1
      subst e1
      obtain rfl := Sum.inl.inj h1
      obtain ⟨x, rfl, g1, g2⟩ := zRV_1 hr
      exact lv_i2l hx hb hdg rfl (zG_st k hH hext hl hL (zVc (⟨x, rfl, g1, g2⟩) hV1) hn)
    · rw [q, zb_tt] at h
      have e1 := zbeq q
      subst e1
      have hr := zRV_0 hr
      subst hr
      cases q2 : Nat.ble x1 2147483647
      · rw [q2, zb_ff] at h
        obtain ⟨t1, h1⟩ := zb_inl h
        rw [zfN_eq] at h1
        obtain rfl := Sum.inl.inj h1
        have hb1 : ¬ x1 ≤ 2147483647 := fun z => by rw [Nat.ble_eq_true_of_le z] at q2; cases q2
        exact lv_i2l hx hb hdg (zwide_neg hb1 (zble t1)) (zG_st k hH hext hl hL (zVc (rfl) hV1) hn)
      · rw [q2, zb_tt] at h
        obtain rfl := Sum.inl.inj h
        have := zble q2
        exact lv_i2l hx hb hdg (nI_l (by omega)) (zG_st k hH hext hl hL (zVc (rfl) hV1) hn)
theorem zs_l2i (hx : p.tables.exec = Jvm.exec) (hb : c.code = cc) (hdg : decode cc pc = .ok (.l2i, 1)) (hn : zpc rest = pc + 1) (h : zoConv rest ls0 st0 w 1 = Sum.inl S1) (k : zG p l e R s m args below meth c nL D A b ad0 Q S1) : zG p l e R s m args below meth c nL D A b ad0 Q ((pc, o) :: rest, ls0, st0, w) := by
  cases st0 with
  | nil => exact (zX_inl h).elim
  | cons x0 st1 =>
    obtain ⟨xt, x1, x2⟩ := x0
    replace h : zb (Nat.beq xt 2) (zfN (x1 % 4294967296) (fun n => Sum.inl (rest, ls0, (0, n, 0) :: st1, w))) zX = Sum.inl S1 := h
    obtain ⟨t1, h1⟩ := zb_inl h
    rw [zfN_eq] at h1
    have e1 := zbeq t1
    subst e1
    obtain rfl := Sum.inl.inj h1
    intro cw tys H locs ls lv st hH hext hl hL hV
    obtain ⟨v, st2, rfl, hr, hV1⟩ := zVR_cons hV
    have hr := zRV_2 hr
    subst hr
    exact lv_l2i hx hb hdg (by rw [lN_i, ← zmod]) (zG_st k hH hext hl hL (zVc (rfl) hV1) hn)
theorem zs_i2b (hx : p.tables.exec = Jvm.exec) (hb : c.code = cc) (hdg : decode cc pc = .ok (.i2b, 1)) (hn : zpc rest = pc + 1) (h : zoConv rest ls0 st0 w 2 = Sum.inl S1) (k : zG p l e R s m args below meth c nL D A b ad0 Q S1) : zG p l e R s m args below meth c nL D A b ad0 Q ((pc, o) :: rest, ls0, st0, w) := by
  cases st0 with
  | nil => exact (zX_inl h).elim
  | cons x0 st1 =>
    obtain ⟨xt, x1, x2⟩ := x0
    replace h : zb (Nat.beq xt 1) (Sum.inl (rest, ls0, (1, 2147483520, 2147483775) :: st1, w)) zX = Sum.inl S1 := h
    obtain ⟨t1, h1⟩ := zb_inl h
    have e1 := zbeq t1
    subst e1
    obtain rfl := Sum.inl.inj h1
    intro cw tys H locs ls lv st hH hext hl hL hV
    obtain ⟨v, st2, rfl, hr, hV1⟩ := zVR_cons hV
    obtain ⟨x, rfl, -, -⟩ := zRV_1 hr
    exact lv_i2b hx hb hdg rfl (zG_st k hH hext hl hL (zVc (⟨_, rfl, (zbyteR x).1, (zbyteR x).2⟩) hV1) hn)
theorem zeq_spec {u v : zV} (h : zeq u v = true) : u = v := by
  obtain ⟨a, b, c⟩ := u
  obtain ⟨a', b', c'⟩ := v
  obtain ⟨h1, h2⟩ := zb_and (show zb (Nat.beq a a') (zb (Nat.beq b b') (Nat.beq c c') false) false = true from h)
  obtain ⟨h3, h4⟩ := zb_and h2
  rw [zbeq h1, zbeq h3, zbeq h4]
theorem zf2d0 : FP.f2d (UInt32.ofNat 0) = UInt64.ofNat 0 := by decide +kernel
theorem zf2dN : vf_n64 (FP.f2d (UInt32.ofNat 0)) := by rw [zf2d0]; unfold vf_n64; decide +kernel
theorem zdcmp0 (op : CmpOp) : Op.cmpValue (FP.dcmp (UInt64.ofNat 0) (UInt64.ofNat 0)) op = nI 0 := by cases op <;> decide +kernel
theorem zfcmp0 (op : CmpOp) : Op.cmpValue (FP.fcmp (UInt32.ofNat 0) (UInt32.ofNat 0)) op = nI 0 := by cases op <;> decide +kernel
theorem zs_f2d (hx : p.tables.exec = Jvm.exec) (hb : c.code = cc) (hdg : decode cc pc = .ok (.f2d, 1)) (hn : zpc rest = pc + 1) (h : zoConv rest ls0 st0 w 3 = Sum.inl S1) (k : zG p l e R s m args below meth c nL D A b ad0 Q S1) : zG p l e R s m args below meth c nL D A b ad0 Q ((pc, o) :: rest, ls0, st0, w) := by
  cases st0 with
  | nil => exact (zX_inl h).elim
  | cons x0 st1 =>
    replace h : zb (zeq x0 (6, 0, 0)) (Sum.inl (rest, ls0, (7, 0, 0) :: st1, w)) zX = Sum.inl S1 := h
    obtain ⟨t1, h1⟩ := zb_inl h
    have e1 := zeq_spec t1
    subst e1
    obtain rfl := Sum.inl.inj h1
    intro cw tys H locs ls lv st hH hext hl hL hV
    obtain ⟨v, st2, rfl, hr, hV1⟩ := zVR_cons hV
    have hr : v = .float (UInt32.ofNat 0) := hr
    subst hr
    refine lv_f2d hx hb hdg zf2dN ?_
    rw [zf2d0]
    exact zG_st k hH hext hl hL (zVc (rfl) hV1) hn
theorem zs_dcmp (hx : p.tables.exec = Jvm.exec) (hb : c.code = cc) {op : CmpOp} (hdg : decode cc pc = .ok (.dcmp op, 1)) (hn : zpc rest = pc + 1) (h : zoFcmp rest ls0 st0 w 3 = Sum.inl S1) (k : zG p l e R s m args below meth c nL D A b ad0 Q S1) : zG p l e R s m args below meth c nL D A b ad0 Q ((pc, o) :: rest, ls0, st0, w) := by
  cases st0 with
  | nil => exact (zX_inl h).elim
  | cons y0 st1 =>
    cases st1 with
    | nil => exact (zX_inl h).elim
    | cons x0 st1 =>
      replace h : zb (zb (zeq x0 (7, 0, 0)) (zeq y0 (7, 0, 0)) false) (Sum.inl (rest, ls0, (0, 0, 0) :: st1, w)) zX = Sum.inl S1 := h
      obtain ⟨t1, h1⟩ := zb_inl h
      obtain ⟨t2, t3⟩ := zb_and t1
      have e1 := zeq_spec t2
      have e2 := zeq_spec t3
      subst e1
      subst e2
      obtain rfl := Sum.inl.inj h1
      intro cw tys H locs ls lv st hH hext hl hL hV
      obtain ⟨v, st3, rfl, hr, hV1⟩ := zVR_cons hV
      obtain ⟨v2, st2, rfl, hr2, hV2⟩ := zVR_cons hV1
      have hr : v = .double (UInt64.ofNat 0) := hr
      have hr2 : v2 = .double (UInt64.ofNat 0) := hr2
      subst hr
      subst hr2
      refine lv_dcmp hx hb hdg ?_
      rw [zdcmp0]
      exact zG_st k hH hext hl hL (zVc (rfl) hV2) hn
theorem zlcB_spec {a1 a2 b1 b2 : Nat} {x y : Int64} {K : zV → zO} {S : zS} {ad : List Nat} {b : Nat} (h : zlcB a1 a2 b1 b2 K = Sum.inl S) (h1 : a1 ≤ zbias64 x) (h2 : zbias64 x ≤ a2) (h3 : b1 ≤ zbias64 y) (h4 : zbias64 y ≤ b2) : ∃ u : zV, zRV ad b u (.int (lg_cmp x y)) ∧ K u = Sum.inl S := by
  have c1 : x < y → lg_cmp x y = -1 := fun g => by
    have g2 : ¬ y < x := by rw [zltL_iff] at g ⊢; omega
    have g3 : ¬ x = y := by rw [zltL_iff] at g; rw [zeqL_iff]; omega
    unfold lg_cmp
    rw [if_neg (by simpa using g2), if_neg g3]
  have c2 : y < x → lg_cmp x y = 1 := fun g => by
    unfold lg_cmp
    rw [if_pos (by simpa using g)]
  have c3 : x = y → lg_cmp x y = 0 := fun g => by
    have g2 : ¬ y < x := by rw [zeqL_iff] at g; rw [zltL_iff]; omega
    unfold lg_cmp
    rw [if_neg (by simpa using g2), if_pos g]
  have m1 : zbias (-1 : Int32) = 2147483647 := by decide +kernel
  have m2 : zbias (1 : Int32) = 2147483649 := by decide +kernel
  have m3 : zbias (0 : Int32) = 2147483648 := by decide +kernel
  unfold zlcB at h
  cases q1 : Nat.ble (Nat.succ a2) b1
  · rw [q1, zb_ff] at h
    cases q2 : Nat.ble (Nat.succ b2) a1
    · rw [q2, zb_ff] at h
      cases q3 : zb (Nat.beq a1 a2) (zb (Nat.beq b1 b2) (Nat.beq a1 b1) false) false
      · rw [q3, zb_ff] at h
        cases q4 : Nat.ble b2 a1
        · rw [q4, zb_ff] at h
          obtain ⟨t5, h5⟩ := zb_inl h
          have := zble t5
          refine ⟨_, ?_, h5⟩
          rcases Nat.lt_or_ge (zbias64 x) (zbias64 y) with g | g
          · rw [c1 (zltL_iff.mpr g)]; exact ⟨-1, rfl, by rw [m1]; exact Nat.le_refl _, by rw [m1]; exact Nat.le_of_ble_eq_true rfl⟩
          · rw [c3 (zeqL_iff.mpr (by omega))]; exact ⟨0, rfl, by rw [m3]; exact Nat.le_of_ble_eq_true rfl, by rw [m3]; exact Nat.le_refl _⟩
        · rw [q4, zb_tt] at h
          have := zble q4
          refine ⟨_, ?_, h⟩
          rcases Nat.lt_or_ge (zbias64 y) (zbias64 x) with g | g
          · rw [c2 (zltL_iff.mpr g)]; exact ⟨1, rfl, by rw [m2]; exact Nat.le_of_ble_eq_true rfl, by rw [m2]; exact Nat.le_refl _⟩
          · rw [c3 (zeqL_iff.mpr (by omega))]; exact ⟨0, rfl, by rw [m3]; exact Nat.le_refl _, by rw [m3]; exact Nat.le_of_ble_eq_true rfl⟩
      · rw [q3, zb_tt] at h
        obtain ⟨t1, t2⟩ := zb_and q3
        obtain ⟨t3, t4⟩ := zb_and t2
        have := zbeq t1
        have := zbeq t3
        have := zbeq t4
        refine ⟨_, ?_, h⟩
        rw [c3 (zeqL_iff.mpr (by omega))]
        rfl
    · rw [q2, zb_tt] at h
      have : b2 + 1 ≤ a1 := zble q2
      refine ⟨_, ?_, h⟩
      rw [c2 (zltL_iff.mpr (by omega))]
      rfl
  · rw [q1, zb_tt] at h
    have : a2 + 1 ≤ b1 := zble q1
    refine ⟨_, ?_, h⟩
    rw [c1 (zltL_iff.mpr (by omega))]
    rfl
theorem zs_lcmp (hx : p.tables.exec = Jvm.exec) (hb : c.code = cc) (hdg : decode cc pc = .ok (.lcmp, 1)) (hn : zpc rest = pc + 1) (h : zoLcmp rest ls0 st0 w = Sum.inl S1) (k : zG p l e R s m args below meth c nL D A b ad0 Q S1) : zG p l e R s m args below meth c nL D A b ad0 Q ((pc, o) :: rest, ls0, st0, w) := by
  cases st0 with
  | nil => exact (zX_inl h).elim
  | cons y0 st1 =>
    cases st1 with
    | nil => exact (zX_inl h).elim
    | cons x0 st1 =>
      unfold zoLcmp at h
      simp only [] at h
      obtain ⟨t1, h1⟩ := zb_inl h
      obtain ⟨t2, h2⟩ := zb_inl h1
      intro cw tys H locs ls lv st hH hext hl hL hV
      obtain ⟨v, st3, rfl, hr, hV1⟩ := zVR_cons hV
      obtain ⟨v2, st2, rfl, hr2, hV2⟩ := zVR_cons hV1
      obtain ⟨x, rfl, a1, a2⟩ := zRV_long t1 hr2
      obtain ⟨y, rfl, b1, b2⟩ := zRV_long t2 hr
      obtain ⟨u, g1, g2⟩ := zlcB_spec (ad := zad cw) (b := b) h2 a1 a2 b1 b2
      obtain rfl := Sum.inl.inj g2
      exact W.lcmp hx hb hdg (zG_st k hH hext hl hL (zVc (g1) hV2) hn)
theorem zcat1 {ad : List Nat} {b : Nat} {u : zV} {v : Value} (h : zcat2 u = false) (hv : zRV ad b u v) : v.category = 1 := by rw [zRV_cat hv, h]; rfl
theorem zb_inr {cnd : Bool} {o : zO} {S : zS} (h : zb cnd zX o = Sum.inl S) : cnd = false ∧ o = Sum.inl S := by
  cases cnd
  · exact ⟨rfl, h⟩
  · exact (zX_inl h).elim
theorem zs_dup (hx : p.tables.exec = Jvm.exec) (hb : c.code = cc) (hdg : decode cc pc = .ok (.dup, 1)) (hn : zpc rest = pc + 1) (h : zoDup rest ls0 st0 w = Sum.inl S1) (k : zG p l e R s m args below meth c nL D A b ad0 Q S1) : zG p l e R s m args below meth c nL D A b ad0 Q ((pc, o) :: rest, ls0, st0, w) := by
  cases st0 with
  | nil => exact (zX_inl h).elim
  | cons x0 st1 =>
    unfold zoDup at h
    simp only [] at h
    obtain ⟨t1, h1⟩ := zb_inr h
    obtain rfl := Sum.inl.inj h1
    intro cw tys H locs ls lv st hH hext hl hL hV
    obtain ⟨v, st2, rfl, hr, hV1⟩ := zVR_cons hV
    exact lv_dup hx hb hdg (zcat1 t1 hr) (zG_st k hH hext hl hL (zVc hr (zVc hr hV1)) hn)
theorem zs_pop (hx : p.tables.exec = Jvm.exec) (hb : c.code = cc) (hdg : decode cc pc = .ok (.pop, 1)) (hn : zpc rest = pc + 1) (h : zoPop rest ls0 st0 w = Sum.inl S1) (k : zG p l e R s m args below meth c nL D A b ad0 Q S1) : zG p l e R s m args below meth c nL D A b ad0 Q ((pc, o) :: rest, ls0, st0, w) := by
  cases st0 with
  | nil => exact (zX_inl h).elim
  | cons x0 st1 =>
    unfold zoPop at h
    simp only [] at h
    obtain ⟨t1, h1⟩ := zb_inr h
    obtain rfl := Sum.inl.inj h1
    intro cw tys H locs ls lv st hH hext hl hL hV
    obtain ⟨v, st2, rfl, hr, hV1⟩ := zVR_cons hV
    exact lv_pop hx hb hdg (zcat1 t1 hr) (zG_st k hH hext hl hL hV1 hn)
theorem zs_dup2 (hx : p.tables.exec = Jvm.exec) (hb : c.code = cc) (hdg : decode cc pc = .ok (.dup2, 1)) (hn : zpc rest = pc + 1) (h : zoDup2 rest ls0 st0 w = Sum.inl S1) (k : zG p l e R s m args below meth c nL D A b ad0 Q S1) : zG p l e R s m args below meth c nL D A b ad0 Q ((pc, o) :: rest, ls0, st0, w) := by
  cases st0 with
  | nil => exact (zX_inl h).elim
  | cons y0 st1 =>
    cases st1 with
    | nil => exact (zX_inl h).elim
    | cons x0 st1 =>
      unfold zoDup2 at h
      simp only [] at h
      obtain ⟨t1, h1⟩ := zb_inr h
      obtain ⟨t2, h2⟩ := zb_inr h1
      obtain rfl := Sum.inl.inj h2
      intro cw tys H locs ls lv st hH hext hl hL hV
      obtain ⟨v, st3, rfl, hr, hV1⟩ := zVR_cons hV
      obtain ⟨v2, st2, rfl, hr2, hV2⟩ := zVR_cons hV1
      exact lv_dup2_11 hx hb hdg (zcat1 t1 hr) (zcat1 t2 hr2) (zG_st k hH hext hl hL (zVc hr (zVc hr2 (zVc hr (zVc hr2 hV2)))) hn)
theorem zs_ifnull (hx : p.tables.exec = Jvm.exec) (hb : c.code = cc) {off : Int} {tgt : Nat} {full : List zE} (hoff : (pc : Int) + off = (tgt : Int)) (hdg : decode cc pc = .ok (.ifnull off, 3)) (hn : zpc rest = pc + 3) (h : zoNull rest ls0 st0 w full tgt = Sum.inl S1) (k : zG p l e R s m args below meth c nL D A b ad0 Q S1) : zG p l e R s m args below meth c nL D A b ad0 Q ((pc, o) :: rest, ls0, st0, w) := by
  cases st0 with
  | nil => exact (zX_inl h).elim
  | cons x0 st1 =>
    obtain ⟨xt, x1, x2⟩ := x0
    replace h : zb (Nat.beq xt 5) (zgo full tgt ls0 st1 w) (zb (Nat.beq xt 4) (Sum.inl (rest, ls0, st1, w)) zX) = Sum.inl S1 := h
    intro cw tys H locs ls lv st hH hext hl hL hV
    obtain ⟨v, st2, rfl, hr, hV1⟩ := zVR_cons hV
    show W p l e R s m args below meth c H locs w.2.2.1 w.2.2.2 Q (F0 m pc ls _)
    cases q : Nat.beq xt 5
    · rw [q, zb_ff] at h
      obtain ⟨t1, h1⟩ := zb_inl h
      have e1 := zbeq t1
      subst e1
      obtain rfl := Sum.inl.inj h1
      obtain ⟨z, -, rfl⟩ := hr
      exact lv_ifnull hx hb hdg (zG_st k hH hext hl hL hV1 hn)
    · rw [q, zb_tt] at h
      have e1 := zbeq q
      subst e1
      obtain ⟨rfl, g⟩ := zgo_inl h
      have hr : v = .null := hr
      subst hr
      exact lv_ifnullN hx hb hdg hoff (zG_st k hH hext hl hL hV1 g)
theorem zs_switch (hx : p.tables.exec = Jvm.exec) (hb : c.code = cc) {dflt lo hi : Int} {offs : Array Int} {len a d : Nat} {ts : List Nat} {full : List zE} (hlo : lo = (a : Int)) (hhi : hi = (a : Int) + ts.length - 1) (hd : (pc : Int) + dflt = (d : Int)) (hts : ∀ (j t : Nat), ts[j]? = some t → ∃ off, offs[j]? = some off ∧ (pc : Int) + off = (t : Int)) (hdg : decode cc pc = .ok (.tableswitch dflt lo hi offs, len)) (h : zoSwitch ls0 st0 w full a d ts = Sum.inl S1) (k : zG p l e R s m args below meth c nL D A b ad0 Q S1) : zG p l e R s m args below meth c nL D A b ad0 Q ((pc, o) :: rest, ls0, st0, w) := by
  cases st0 with
  | nil => exact (zX_inl h).elim
  | cons x0 st1 =>
    obtain ⟨xt, n, x2⟩ := x0
    replace h : zb (Nat.beq xt 0) (zb (Nat.ble n 2147483647) (zb (Nat.ble a n) (zfN (ztgt ts (n - a) d) (fun t => zgo full t ls0 st1 w)) (zgo full d ls0 st1 w)) zX) zX = Sum.inl S1 := h
    obtain ⟨t1, h1⟩ := zb_inl h
    obtain ⟨t2, h2⟩ := zb_inl h1
    have e1 := zbeq t1
    subst e1
    have hN := zble t2
    intro cw tys H locs ls lv st hH hext hl hL hV
    obtain ⟨v, st2, rfl, hr, hV1⟩ := zVR_cons hV
    have hr := zRV_0 hr
    subst hr
    have hi1 : (nI n).toInt = (n : Int) := nI_toInt (by omega)
    subst hlo
    subst hhi
    show W p l e R s m args below meth c H locs w.2.2.1 w.2.2.2 Q (F0 m pc ls _)
    cases q : Nat.ble a n
    · rw [q, zb_ff] at h2
      have hna : ¬ a ≤ n := fun z => by rw [Nat.ble_eq_true_of_le z] at q; cases q
      obtain ⟨rfl, g⟩ := zgo_inl h2
      exact lv_tableOut hx hb hdg (Or.inl (by rw [hi1]; omega)) hd (zG_st k hH hext hl hL hV1 g)
    · rw [q, zb_tt, zfN_eq, ztgt_eq] at h2
      have han := zble q
      cases hj : ts[n - a]? with
      | none =>
        rw [hj] at h2
        obtain ⟨rfl, g⟩ := zgo_inl h2
        have hlen : ts.length ≤ n - a := by simpa using hj
        exact lv_tableOut hx hb hdg (Or.inr (by rw [hi1]; omega)) hd (zG_st k hH hext hl hL hV1 g)
      | some t =>
        rw [hj] at h2
        obtain ⟨rfl, g⟩ := zgo_inl h2
        have hlen : n - a < ts.length := (List.getElem?_eq_some_iff.mp hj).1
        obtain ⟨off, o1, o2⟩ := hts _ _ hj
        exact lv_tableIn hx hb hdg (by rw [hi1]; omega) (by rw [hi1]; omega) (by rw [hi1, show ((n : Int) - (a : Int)).toNat = n - a by omega]; exact o1) o2 (zG_st k hH hext hl hL hV1 g)
theorem zs_ldcSW (hx : p.tables.exec = Jvm.exec) (hb : c.code = cc) {own tx : String} {index q : Nat} (hown : s.vm.findClass own = some m.cls) (hZ : vk_R own index tx q s) (hdg : decode cc pc = .ok (.ldc_w index, 3)) (hn : zpc rest = pc + 3) (h : zoConst rest ls0 st0 w [9, 0, 0] = Sum.inl S1) (k : zG p l e R s m args below meth c nL D A b ad0 Q S1) : zG p l e R s m args below meth c nL D A b ad0 Q ((pc, o) :: rest, ls0, st0, w) := by
  obtain rfl := Sum.inl.inj h
  intro cw tys H locs ls lv st hH hext hl hL hV
  have K : W p l e R s m args below meth c H locs w.2.2.1 w.2.2.2 Q (F0 m (pc + 3) ls (.ref q :: st)) := zG_st k hH hext hl hL (zVc (⟨q, rfl⟩) hV) hn
  intro T hT X
  obtain ⟨t, a1, b1⟩ := K T hT X
  exact ⟨t, X.ldcStringW hx hown (text := tx) (a := q) hZ.1 hZ.2 (g := F0 m pc ls st) rfl (by rw [hb]; exact hdg) t a1, b1⟩
end ZT
end
section
/-! ===== instructions, part three: objects and arrays ===== -/
theorem zset_self {α : Type} {l : List α} {p : Nat} {c : α} (h : l[p]? = some c) : l.set p c = l := by
  refine List.ext_getElem? fun i => ?_
  rw [List.getElem?_set]
  by_cases hi : p = i
  · subst hi
    have hl : p < l.length := (List.getElem?_eq_some_iff.mp h).1
    rw [if_pos rfl, if_pos hl, h]
  · rw [if_neg hi]
theorem zkind_spec {b kd : Nat} (h : zkind b kd = true) : kd = b ∨ (b = 101 ∧ kd = 102) := by
  have h : zb (Nat.beq kd b) true (zb (Nat.beq b 101) (Nat.beq kd 102) false) = true := h
  cases q : Nat.beq kd b
  · rw [q, zb_ff] at h
    obtain ⟨h1, h2⟩ := zb_and h
    exact Or.inr ⟨zbeq h1, zbeq h2⟩
  · exact Or.inl (zbeq q)
theorem zER_obj {ad : List Nat} {b : Nat} {tys : List (ClassId × FieldType)} {c : zC} {e : va_E} (h : zER ad b tys c e) (h0 : c.1 < 100) : ∃ (fs : List Value) (q : vw_C), e = .inr (c.1, fs) ∧ vwCl[c.1]? = some q ∧ q.2.2 = c.2.1 ∧ fs.length = c.2.1 ∧ ∀ k, k < c.2.1 → ∃ v, fs[k]? = some v ∧ zRV ad b (zget c.2.2.2 k c.2.2.1) v := by
  rcases h with ⟨-, h⟩ | ⟨-, cA, f, -, h, -⟩ | ⟨-, h, -⟩ | ⟨-, h, -⟩ | ⟨-, h, -⟩
  · exact h
  · omega
  · omega
  · omega
  · omega
theorem zER_int {ad : List Nat} {b : Nat} {tys : List (ClassId × FieldType)} {c : zC} {e : va_E} (h : zER ad b tys c e) (h0 : c.1 = 100 ∨ c.1 = 101 ∨ c.1 = 102) : c.2.1 ≤ 60000 ∧ ∃ (cA : ClassId) (f : Nat → Int32), e = .inl (cA, c.2.1, .inl f) ∧ ((c.1 = 100 ∧ (cA, FieldType.int) ∈ tys) ∨ (c.1 = 101 ∧ (cA, FieldType.byte) ∈ tys) ∨ (c.1 = 102 ∧ (cA, FieldType.boolean) ∈ tys)) ∧ ∀ k, k < c.2.1 → zRV ad b (zget c.2.2.2 k c.2.2.1) (.int (f k)) := by
  rcases h with ⟨h1, -⟩ | h | ⟨-, h, -⟩ | ⟨-, h, -⟩ | ⟨-, h, -⟩
  · omega
  · exact h
  · omega
  · omega
  · omega
theorem zER_long {ad : List Nat} {b : Nat} {tys : List (ClassId × FieldType)} {c : zC} {e : va_E} (h : zER ad b tys c e) (h0 : c.1 = 103) : c.2.1 ≤ 60000 ∧ ∃ (cA : ClassId) (f : Nat → Int64), e = .inl (cA, c.2.1, .inr (.inl f)) ∧ (cA, FieldType.long) ∈ tys ∧ ∀ k, k < c.2.1 → zRV ad b (zget c.2.2.2 k c.2.2.1) (.long (f k)) := by
  rcases h with ⟨h1, -⟩ | ⟨-, cA, f, -, h, -⟩ | ⟨g, h, h2⟩ | ⟨-, h, -⟩ | ⟨-, h, -⟩
  · omega
  · omega
  · exact ⟨g, h2⟩
  · omega
  · omega
theorem zER_double {ad : List Nat} {b : Nat} {tys : List (ClassId × FieldType)} {c : zC} {e : va_E} (h : zER ad b tys c e) (h0 : c.1 = 104) : c.2.1 ≤ 60000 ∧ ∃ (cA : ClassId) (f : Nat → UInt64), e = .inl (cA, c.2.1, .inr (.inr (.inr (.inl f)))) ∧ (cA, FieldType.double) ∈ tys ∧ ∀ k, k < c.2.1 → zRV ad b (zget c.2.2.2 k c.2.2.1) (.double (f k)) := by
  rcases h with ⟨h1, -⟩ | ⟨-, cA, f, -, h, -⟩ | ⟨g, h, h2⟩ | ⟨g, h, h2⟩ | ⟨-, h, -⟩
  · omega
  · omega
  · omega
  · exact ⟨g, h2⟩
  · omega
theorem zER_refs {ad : List Nat} {b : Nat} {tys : List (ClassId × FieldType)} {c : zC} {e : va_E} (h : zER ad b tys c e) (h0 : c.1 = 105) : c.2.1 ≤ 60000 ∧ ∃ (cA : ClassId) (f : Nat → Option Nat), e = .inl (cA, c.2.1, .inr (.inr (.inr (.inr f)))) ∧ (cA, FieldType.object RX6) ∈ tys ∧ ∀ k, k < c.2.1 → zRV ad b (zget c.2.2.2 k c.2.2.1) (va_rf (f k)) := by
  rcases h with ⟨h1, -⟩ | ⟨-, cA, f, -, h, -⟩ | ⟨g, h, h2⟩ | ⟨g, h, h2⟩ | ⟨g, h, h2⟩
  · omega
  · omega
  · omega
  · omega
  · exact ⟨g, h2⟩
/-- which of the field's types -/
def zft (ft : Nat) (ty : FieldType) : Prop := (ft = 0 ∧ ty = .int) ∨ (ft = 1 ∧ ty = .long) ∨ (ft = 5 ∧ ty = .boolean) ∨ (ft = 4 ∧ ∃ C, ty = .object C) ∨ (ft = 4 ∧ ∃ t, ty = .array t)
theorem zfit_spec {ad : List Nat} {b ft : Nat} {ty : FieldType} {u : zV} {v : Value} (h : zfit ft u = true) (ht : zft ft ty) (hv : zRV ad b u v) : narrow ty v = v ∧ fits ty v = true := by
  rcases ht with ⟨rfl, rfl⟩ | ⟨rfl, rfl⟩ | ⟨rfl, rfl⟩ | ⟨rfl, C, rfl⟩ | ⟨rfl, t, rfl⟩
  · obtain ⟨x, rfl, -⟩ := zRV_int (show zis 0 u = true from h) hv
    exact ⟨rfl, rfl⟩
  · obtain ⟨x, rfl, -⟩ := zRV_long (show zis 1 u = true from h) hv
    exact ⟨rfl, rfl⟩
  · obtain ⟨-, rfl | rfl⟩ := zsmall_spec (show zsmall 5 u = true from h) hv
    · exact ⟨rfl, rfl⟩
    · exact ⟨rfl, rfl⟩
  · rcases zRV_ref (show zis 4 u = true from h) hv with ⟨q, rfl⟩ | rfl
    · exact ⟨rfl, rfl⟩
    · exact ⟨rfl, rfl⟩
  · rcases zRV_ref (show zis 4 u = true from h) hv with ⟨q, rfl⟩ | rfl
    · exact ⟨rfl, rfl⟩
    · exact ⟨rfl, rfl⟩
section ZH
variable {p : Program} {l : Launch} {e : Env} {R : Room} {s : State} {m : MethodId} {args : Array Value} {below : List Frame} {meth : Method} {c : Code} {Q : State → Prop} {nL : Nat} {D : va_G} {A : Nat → Prop} {b : Nat} {ad0 : List Nat} {cc : ByteArray} {pc : Nat} {o : Nat × Nat × Nat × List Nat} {rest : List zE} {ls0 : zA} {st0 : List zV} {w : zW} {S1 : zS}
theorem zG_set {st1 : List zV} {x q n : Nat} {e0 e1 : va_E} {c1 : zC} (k : zG p l e R s m args below meth c nL D A b ad0 Q (rest, ls0, st1, (w.1, w.2.1.set (w.1 - (x + 1)) c1, w.2.2.1, w.2.2.2))) {cw : va_W} {tys : List (ClassId × FieldType)} {H1 : Heap} {locs1 : List Loc} {ls : Array Slot} {lv : List (Nat × Value)} {st : List Value}
    (hK : va_K D vwCl tys s) (hP : va_P D vwCl (cw.set x (q, e1)) H1) (hD : va_D A (cw.set x (q, e1))) (hS : va_S A s.heap H1 locs1) (hW : zWR b tys w cw) (hx0 : cw[x]? = some (q, e0)) (he : zER (zad cw) b tys c1 e1)
    (hext : ∃ ext, zad cw = ad0 ++ ext) (hl : lv_has ls nL lv) (hL : zLR (zad cw) b ls0 lv) (hV : zVR (zad cw) b st1 st) (hn : zpc rest = n) :
    W p l e R s m args below meth c H1 locs1 w.2.2.1 w.2.2.2 Q (F0 m n ls st) := by
  subst hn
  have ha : zad (cw.set x (q, e1)) = zad cw := zad_set hx0
  exact k (cw.set x (q, e1)) tys H1 locs1 ls lv st ⟨hK, hP, hD, hS, zWR_set hW hx0 he⟩ (by rw [ha]; exact hext) hl (by rw [ha]; exact hL) (by rw [ha]; exact hV)
theorem zG_push {st1 : List zV} {n q mc ms : Nat} {e1 : va_E} {c1 : zC} (k : zG p l e R s m args below meth c nL D A b ad0 Q (rest, ls0, (4, w.1, 0) :: st1, (w.1 + 1, c1 :: w.2.1, mc, ms))) {cw : va_W} {tys tys' : List (ClassId × FieldType)} {H1 : Heap} {locs1 : List Loc} {ls : Array Slot} {lv : List (Nat × Value)} {st : List Value}
    (ht : ∀ t ∈ tys, t ∈ tys') (hK : va_K D vwCl tys' s) (hP : va_P D vwCl (cw ++ [(q, e1)]) H1) (hD : va_D A (cw ++ [(q, e1)])) (hS : va_S A s.heap H1 locs1) (hW : zWR b tys w cw) (he : zER (zad cw ++ [q]) b tys' c1 e1)
    (hext : ∃ ext, zad cw = ad0 ++ ext) (hl : lv_has ls nL lv) (hL : zLR (zad cw) b ls0 lv) (hV : zVR (zad cw) b st1 st) (hn : zpc rest = n) :
    W p l e R s m args below meth c H1 locs1 mc ms Q (F0 m n ls (.ref q :: st)) := by
  subst hn
  have ha : zad (cw ++ [(q, e1)]) = zad cw ++ [q] := by
    show List.map Prod.fst (cw ++ [(q, e1)]) = _
    rw [List.map_append]; rfl
  obtain ⟨ext, hext⟩ := hext
  refine k (cw ++ [(q, e1)]) tys' H1 locs1 ls lv (.ref q :: st) ⟨hK, hP, hD, hS, zWR_push ht hW he⟩ ⟨ext ++ [q], by rw [ha, hext, List.append_assoc]⟩ hl (by rw [ha]; exact zLR_mono hL) (by
    rw [ha]
    refine zVc ⟨q, ?_, rfl⟩ (zVR_mono hV)
    show (zad cw ++ [q])[w.1]? = some q
    rw [hW.1, List.getElem?_append_right (by rw [List.length_map]; exact Nat.le_refl _), List.length_map, Nat.sub_self]; rfl)
theorem zs_getf (hx : p.tables.exec = Jvm.exec) (hb : c.code = cc) {own C : String} {T : u_T} {N ci k index : Nat} {Ts : List Cond} (hts : ∀ w ∈ Ts, w.before args s = true) (hci : ci < 100) (hcl : vwCl[ci]? = some (C, T, N)) (hin : ∀ w ∈ u_ws C T N, w ∈ Ts) (hown : s.vm.findClass own = some m.cls) (hk : k < N) (hlink : (Cond.fieldLink own index (T k).1 (T k).2.1 (T k).2.2.1).before args s = true)
    (hdg : decode cc pc = .ok (.getfield index, 3)) (hn : zpc rest = pc + 3) (h : zoGetf rest ls0 st0 w ci k = Sum.inl S1) (kk : zG p l e R s m args below meth c nL D A b ad0 Q S1) : zG p l e R s m args below meth c nL D A b ad0 Q ((pc, o) :: rest, ls0, st0, w) := by
  cases st0 with
  | nil => exact (zX_inl h).elim
  | cons v0 st1 =>
    unfold zoGetf at h
    simp only [] at h
    obtain ⟨t1, h1⟩ := zcellK_inl h
    obtain ⟨t2, h2⟩ := zb_inl h1
    rw [zfV_eq] at h2
    obtain rfl := Sum.inl.inj h2
    obtain ⟨xt, x1, x2⟩ := v0
    have t1 : xt = 4 := t1
    subst t1
    have e2 := zbeq t2
    intro cw tys H locs ls lv st hH hext hl hL hV
    have hH : zHR D A b s w cw tys H locs := hH
    obtain ⟨v, st2, rfl, hr, hV1⟩ := zVR_cons hV
    obtain ⟨hK, hP, hDw, hS, hW⟩ := id hH
    obtain ⟨q0, e0, rfl, g1, g2, g3, g4⟩ := zcell_at hW hr
    obtain ⟨fs, q, r1, r2, r3, r4, r5⟩ := zER_obj g4 (by rw [e2]; exact hci)
    rw [e2] at r1 r2
    obtain rfl := Option.some.inj (hcl.symm.trans r2)
    subst r1
    obtain ⟨v, r6, r7⟩ := r5 k (by rw [← r3]; exact hk)
    exact va_get hx hb hts hin hown hK hP x1 g1 hcl k hk hlink (fun _ z => z) r6 hdg (zG_st kk hH hext hl hL (zVc r7 hV1) hn)
theorem zs_putf (hx : p.tables.exec = Jvm.exec) (hb : c.code = cc) {own C : String} {T : u_T} {N ci k index ft : Nat} {Ts : List Cond} (hts : ∀ w ∈ Ts, w.before args s = true) (hci : ci < 100) (hcl : vwCl[ci]? = some (C, T, N)) (hin : ∀ w ∈ u_ws C T N, w ∈ Ts) (hown : s.vm.findClass own = some m.cls) (hk : k < N) (hlink : (Cond.fieldLink own index (T k).1 (T k).2.1 (T k).2.2.1).before args s = true)
    (ty0 : Nat → FieldType) (hty : ∀ k, k < N → parseFieldDescriptor (T k).2.2.1 = some (ty0 k)) (hnm : ∀ a, a < N → ∀ b, b < N → a ≠ b → (T a).2.1 ≠ (T b).2.1) (hft : zft ft (ty0 k)) (hfin : (T k).2.2.2 = false ∨ ((T k).2.2.2 = true ∧ meth.name = "<init>" ∧ (T k).1 = own))
    (hdg : decode cc pc = .ok (.putfield index, 3)) (hn : zpc rest = pc + 3) (h : zoPutf rest ls0 st0 w ci k [ft] = Sum.inl S1) (kk : zG p l e R s m args below meth c nL D A b ad0 Q S1) : zG p l e R s m args below meth c nL D A b ad0 Q ((pc, o) :: rest, ls0, st0, w) := by
  cases st0 with
  | nil => exact (zX_inl h).elim
  | cons u st1 =>
    cases st1 with
    | nil => exact (zX_inl h).elim
    | cons v0 st1 =>
      unfold zoPutf at h
      simp only [] at h
      obtain ⟨t1, h1⟩ := zcellK_inl h
      obtain ⟨t2, h2⟩ := zb_inl h1
      obtain ⟨t3, h3⟩ := zb_inl h2
      rw [zsetK_eq, zputK_eq] at h3
      obtain rfl := Sum.inl.inj h3
      obtain ⟨xt, x1, x2⟩ := v0
      have t1 : xt = 4 := t1
      subst t1
      have e2 := zbeq t2
      intro cw tys H locs ls lv st hH hext hl hL hV
      have hH : zHR D A b s w cw tys H locs := hH
      obtain ⟨v1, st3, rfl, hr1, hV0⟩ := zVR_cons hV
      obtain ⟨v, st2, rfl, hr, hV1⟩ := zVR_cons hV0
      obtain ⟨hK, hP, hDw, hS, hW⟩ := id hH
      obtain ⟨q0, e0, rfl, g1, g2, g3, g4⟩ := zcell_at hW hr
      obtain ⟨fs, q, r1, r2, r3, r4, r5⟩ := zER_obj g4 (by rw [e2]; exact hci)
      have r9 := r1
      rw [e2] at r1 r2
      obtain rfl := Option.some.inj (hcl.symm.trans r2)
      subst r1
      obtain ⟨f1, f2⟩ := zfit_spec t3 hft hr1
      have hkl : k < fs.length := by rw [r4, ← r3]; exact hk
      have he : zER (zad cw) b tys ((znth w.2.1 (w.1 - (x1 + 1))).1, (znth w.2.1 (w.1 - (x1 + 1))).2.1, (znth w.2.1 (w.1 - (x1 + 1))).2.2.1, zset (znth w.2.1 (w.1 - (x1 + 1))).2.2.2 k u) (.inr (ci, fs.set k v1)) := by
        refine Or.inl ⟨by show (znth w.2.1 (w.1 - (x1 + 1))).1 < 100; rw [e2]; exact hci, fs.set k v1, (C, T, N), by show _ = Sum.inr ((znth w.2.1 (w.1 - (x1 + 1))).1, _); rw [e2], by show vwCl[(znth w.2.1 (w.1 - (x1 + 1))).1]? = _; rw [e2]; exact hcl, r3, by rw [List.length_set]; exact r4, fun j hj => ?_⟩
        show ∃ z, (fs.set k v1)[j]? = some z ∧ zRV (zad cw) b (zget (zset (znth w.2.1 (w.1 - (x1 + 1))).2.2.2 k u) j (znth w.2.1 (w.1 - (x1 + 1))).2.2.1) z
        rw [zget_set]
        by_cases hjk : j = k
        · subst hjk
          exact ⟨v1, by rw [List.getElem?_set_self hkl], by rw [if_pos rfl]; exact hr1⟩
        · obtain ⟨z, z1, z2⟩ := r5 j hj
          exact ⟨z, by rw [List.getElem?_set_ne (fun q => hjk q.symm)]; exact z1, by rw [if_neg hjk]; exact z2⟩
      rcases hfin with hf | ⟨hf, hin2, hdecl⟩
      · exact va_put hx hb hts hin ty0 hty hnm hown hK hP hDw hS x1 g1 hcl k hk hlink (fun _ z => z) hf (hty k hk) f1 f2 hkl hdg (fun H1 locs1 hP1 hD1 hS1 => zG_set kk hK hP1 hD1 hS1 hW g1 he hext hl hL hV1 hn)
      · exact va_putF hx hb hts hin ty0 hty hnm hown hK hP hDw hS x1 g1 hcl k hk hlink (fun _ z => z) hf hin2 hdecl (hty k hk) f1 f2 hkl hdg (fun H1 locs1 hP1 hD1 hS1 => zG_set kk hK hP1 hD1 hS1 hW g1 he hext hl hL hV1 hn)
theorem zaload_inl {scr : List zV} {B : Nat} {i v : zV} {st1 : List zV} (h : zoAload rest ls0 (i :: v :: st1) w scr B = Sum.inl S1) :
    i.1 = 0 ∧ ((v.1 = 8 ∧ B = 100 ∧ zis 0 (zscr scr i.2.1) = true ∧ S1 = (rest, ls0, zscr scr i.2.1 :: st1, w)) ∨
      (v.1 = 4 ∧ zkind B (znth w.2.1 (w.1 - (v.2.1 + 1))).1 = true ∧ i.2.1 < (znth w.2.1 (w.1 - (v.2.1 + 1))).2.1 ∧ S1 = (rest, ls0, zget (znth w.2.1 (w.1 - (v.2.1 + 1))).2.2.2 i.2.1 (znth w.2.1 (w.1 - (v.2.1 + 1))).2.2.1 :: st1, w))) := by
  unfold zoAload at h
  simp only [] at h
  obtain ⟨t1, h1⟩ := zb_inl h
  refine ⟨zbeq t1, ?_⟩
  cases q : Nat.beq v.1 8
  · rw [q, zb_ff] at h1
    obtain ⟨t2, h2⟩ := zcellK_inl h1
    obtain ⟨t3, h3⟩ := zb_inl h2
    obtain ⟨t4, h4⟩ := zb_inl h3
    rw [zfV_eq] at h4
    exact Or.inr ⟨t2, t3, zble t4, (Sum.inl.inj h4).symm⟩
  · rw [q, zb_tt] at h1
    obtain ⟨t2, h2⟩ := zb_inl h1
    rw [zfV_eq] at h2
    obtain ⟨t3, h3⟩ := zb_inl h2
    exact Or.inl ⟨zbeq q, zbeq t2, t3, (Sum.inl.inj h3).symm⟩
/-- the script, where the law's own method reads it -/
def zSc (A : Nat → Prop) (b : Nat) (s : State) (scr : List zV) : Prop := scr = [] ∨ ∃ xs : Nat → Int32, va_X b scr.length xs s s.heap ∧ b < s.heap.size ∧ ¬ A b ∧ scr.length ≤ 6 ∧ ∀ (j : Nat) (u : zV), scr[j]? = some u → zRV [] b u (.int (xs j))
theorem zs_iaload (hx : p.tables.exec = Jvm.exec) (hb : c.code = cc) {scr : List zV} (hsc : zSc A b s scr) (hdg : decode cc pc = .ok (.iaload, 1)) (hn : zpc rest = pc + 1) (h : zoAload rest ls0 st0 w scr 100 = Sum.inl S1) (kk : zG p l e R s m args below meth c nL D A b ad0 Q S1) : zG p l e R s m args below meth c nL D A b ad0 Q ((pc, o) :: rest, ls0, st0, w) := by
  cases st0 with
  | nil => exact (zX_inl h).elim
  | cons i0 st1 =>
    cases st1 with
    | nil => exact (zX_inl h).elim
    | cons v0 st1 =>
      obtain ⟨t1, h1⟩ := zaload_inl h
      obtain ⟨it, i1, i2⟩ := i0
      obtain ⟨vt, v1, v2⟩ := v0
      have t1 : it = 0 := t1
      subst t1
      intro cw tys H locs ls lv st hH hext hl hL hV
      have hH : zHR D A b s w cw tys H locs := hH
      obtain ⟨vi, st3, rfl, hri, hV0⟩ := zVR_cons hV
      obtain ⟨v, st2, rfl, hr, hV1⟩ := zVR_cons hV0
      have hri := zRV_0 hri
      subst hri
      obtain ⟨hK, hP, hDw, hS, hW⟩ := id hH
      rcases h1 with ⟨t2, -, t3, rfl⟩ | ⟨t2, t3, t4, rfl⟩
      · have t2 : vt = 8 := t2
        subst t2
        have hr : v = .ref b := hr
        subst hr
        rcases hsc with rfl | ⟨xs, s1, s2, s3, s4, s5⟩
        · cases t3
        · rw [zscr_eq] at t3 kk
          cases hj : scr[i1]? with
          | none => rw [hj] at t3; cases t3
          | some u =>
            rw [hj] at t3 kk
            have hlt : i1 < scr.length := (List.getElem?_eq_some_iff.mp hj).1
            refine va_sld hx hb s1 s2 s3 hS (vp_in_nI hlt (by omega)) hdg ?_
            rw [nI_clamp (by omega)]
            refine zG_st kk hH hext hl hL (zVc ?_ hV1) hn
            have z := s5 i1 u hj
            have z2 := zRV_mono (ext := zad cw) z
            rwa [List.nil_append] at z2
      · have t2 : vt = 4 := t2
        subst t2
        obtain ⟨q0, e0, rfl, g1, g2, g3, g4⟩ := zcell_at hW hr
        rcases zkind_spec t3 with k1 | ⟨k1, -⟩
        · obtain ⟨z0, cA, f, r1, r2, r3⟩ := zER_int g4 (Or.inl k1)
          subst r1
          have r2 : (cA, FieldType.int) ∈ tys := by
            rcases r2 with ⟨-, r2⟩ | ⟨r0, -⟩ | ⟨r0, -⟩
            · exact r2
            · rw [k1] at r0; cases r0
            · rw [k1] at r0; cases r0
          obtain ⟨t0, ht0⟩ := List.getElem?_of_mem r2
          have t4 : i1 < (znth w.2.1 (w.1 - (v1 + 1))).2.1 := t4
          refine va_iald hx hb hK hP v1 t0 g1 ht0 (vp_in_nI t4 (by omega)) hdg ?_
          rw [nI_clamp (by omega)]
          exact zG_st kk hH hext hl hL (zVc (r3 i1 t4) hV1) hn
        · cases k1
theorem zs_baload (hx : p.tables.exec = Jvm.exec) (hb : c.code = cc) {scr : List zV} (hdg : decode cc pc = .ok (.baload, 1)) (hn : zpc rest = pc + 1) (h : zoAload rest ls0 st0 w scr 101 = Sum.inl S1) (kk : zG p l e R s m args below meth c nL D A b ad0 Q S1) : zG p l e R s m args below meth c nL D A b ad0 Q ((pc, o) :: rest, ls0, st0, w) := by
  cases st0 with
  | nil => exact (zX_inl h).elim
  | cons i0 st1 =>
    cases st1 with
    | nil => exact (zX_inl h).elim
    | cons v0 st1 =>
      obtain ⟨t1, h1⟩ := zaload_inl h
      obtain ⟨it, i1, i2⟩ := i0
      obtain ⟨vt, v1, v2⟩ := v0
      have t1 : it = 0 := t1
      subst t1
      intro cw tys H locs ls lv st hH hext hl hL hV
      have hH : zHR D A b s w cw tys H locs := hH
      obtain ⟨vi, st3, rfl, hri, hV0⟩ := zVR_cons hV
      obtain ⟨v, st2, rfl, hr, hV1⟩ := zVR_cons hV0
      have hri := zRV_0 hri
      subst hri
      obtain ⟨hK, hP, hDw, hS, hW⟩ := id hH
      rcases h1 with ⟨-, t2, -⟩ | ⟨t2, t3, t4, rfl⟩
      · cases t2
      · have t2 : vt = 4 := t2
        subst t2
        obtain ⟨q0, e0, rfl, g1, g2, g3, g4⟩ := zcell_at hW hr
        have t4 : i1 < (znth w.2.1 (w.1 - (v1 + 1))).2.1 := t4
        have k1 : (znth w.2.1 (w.1 - (v1 + 1))).1 = 101 ∨ (znth w.2.1 (w.1 - (v1 + 1))).1 = 102 := by
          rcases zkind_spec t3 with k1 | ⟨-, k1⟩
          · exact Or.inl k1
          · exact Or.inr k1
        obtain ⟨z0, cA, f, r1, r2, r3⟩ := zER_int g4 (Or.inr k1)
        subst r1
        rcases r2 with ⟨r0, -⟩ | ⟨-, r2⟩ | ⟨-, r2⟩
        · omega
        · obtain ⟨t0, ht0⟩ := List.getElem?_of_mem r2
          refine va_bald hx hb hK hP v1 t0 g1 ht0 (vp_in_nI t4 (by omega)) hdg ?_
          rw [nI_clamp (by omega)]
          exact zG_st kk hH hext hl hL (zVc (r3 i1 t4) hV1) hn
        · obtain ⟨t0, ht0⟩ := List.getElem?_of_mem r2
          refine va_zald hx hb hK hP v1 t0 g1 ht0 (vp_in_nI t4 (by omega)) hdg ?_
          rw [nI_clamp (by omega)]
          exact zG_st kk hH hext hl hL (zVc (r3 i1 t4) hV1) hn
theorem zkind_1 {B kd : Nat} (hB : B ≠ 101) (h : zkind B kd = true) : kd = B := by
  rcases zkind_spec h with k1 | ⟨k1, -⟩
  · exact k1
  · exact absurd k1 hB
theorem zs_laload (hx : p.tables.exec = Jvm.exec) (hb : c.code = cc) {scr : List zV} (hdg : decode cc pc = .ok (.laload, 1)) (hn : zpc rest = pc + 1) (h : zoAload rest ls0 st0 w scr 103 = Sum.inl S1) (kk : zG p l e R s m args below meth c nL D A b ad0 Q S1) : zG p l e R s m args below meth c nL D A b ad0 Q ((pc, o) :: rest, ls0, st0, w) := by
  cases st0 with
  | nil => exact (zX_inl h).elim
  | cons i0 st1 =>
    cases st1 with
    | nil => exact (zX_inl h).elim
    | cons v0 st1 =>
      obtain ⟨t1, h1⟩ := zaload_inl h
      obtain ⟨it, i1, i2⟩ := i0
      obtain ⟨vt, v1, v2⟩ := v0
      have t1 : it = 0 := t1
      subst t1
      intro cw tys H locs ls lv st hH hext hl hL hV
      have hH : zHR D A b s w cw tys H locs := hH
      obtain ⟨vi, st3, rfl, hri, hV0⟩ := zVR_cons hV
      obtain ⟨v, st2, rfl, hr, hV1⟩ := zVR_cons hV0
      have hri := zRV_0 hri
      subst hri
      obtain ⟨hK, hP, hDw, hS, hW⟩ := id hH
      rcases h1 with ⟨-, t2, -⟩ | ⟨t2, t3, t4, rfl⟩
      · cases t2
      · have t2 : vt = 4 := t2
        subst t2
        obtain ⟨q0, e0, rfl, g1, g2, g3, g4⟩ := zcell_at hW hr
        have t4 : i1 < (znth w.2.1 (w.1 - (v1 + 1))).2.1 := t4
        obtain ⟨z0, cA, f, r1, r2, r3⟩ := zER_long g4 (zkind_1 (by decide) t3)
        subst r1
        obtain ⟨t0, ht0⟩ := List.getElem?_of_mem r2
        refine va_lald hx hb hK hP v1 t0 g1 ht0 (vp_in_nI t4 (by omega)) hdg ?_
        rw [nI_clamp (by omega)]
        exact zG_st kk hH hext hl hL (zVc (r3 i1 t4) hV1) hn
theorem zs_daload (hx : p.tables.exec = Jvm.exec) (hb : c.code = cc) {scr : List zV} (hdg : decode cc pc = .ok (.daload, 1)) (hn : zpc rest = pc + 1) (h : zoAload rest ls0 st0 w scr 104 = Sum.inl S1) (kk : zG p l e R s m args below meth c nL D A b ad0 Q S1) : zG p l e R s m args below meth c nL D A b ad0 Q ((pc, o) :: rest, ls0, st0, w) := by
  cases st0 with
  | nil => exact (zX_inl h).elim
  | cons i0 st1 =>
    cases st1 with
    | nil => exact (zX_inl h).elim
    | cons v0 st1 =>
      obtain ⟨t1, h1⟩ := zaload_inl h
      obtain ⟨it, i1, i2⟩ := i0
      obtain ⟨vt, v1, v2⟩ := v0
      have t1 : it = 0 := t1
      subst t1
      intro cw tys H locs ls lv st hH hext hl hL hV
      have hH : zHR D A b s w cw tys H locs := hH
      obtain ⟨vi, st3, rfl, hri, hV0⟩ := zVR_cons hV
      obtain ⟨v, st2, rfl, hr, hV1⟩ := zVR_cons hV0
      have hri := zRV_0 hri
      subst hri
      obtain ⟨hK, hP, hDw, hS, hW⟩ := id hH
      rcases h1 with ⟨-, t2, -⟩ | ⟨t2, t3, t4, rfl⟩
      · cases t2
      · have t2 : vt = 4 := t2
        subst t2
        obtain ⟨q0, e0, rfl, g1, g2, g3, g4⟩ := zcell_at hW hr
        have t4 : i1 < (znth w.2.1 (w.1 - (v1 + 1))).2.1 := t4
        obtain ⟨z0, cA, f, r1, r2, r3⟩ := zER_double g4 (zkind_1 (by decide) t3)
        subst r1
        obtain ⟨t0, ht0⟩ := List.getElem?_of_mem r2
        refine va_dald hx hb hK hP v1 t0 g1 ht0 (vp_in_nI t4 (by omega)) hdg ?_
        rw [nI_clamp (by omega)]
        exact zG_st kk hH hext hl hL (zVc (r3 i1 t4) hV1) hn
theorem zs_aaload (hx : p.tables.exec = Jvm.exec) (hb : c.code = cc) {scr : List zV} (hdg : decode cc pc = .ok (.aaload, 1)) (hn : zpc rest = pc + 1) (h : zoAload rest ls0 st0 w scr 105 = Sum.inl S1) (kk : zG p l e R s m args below meth c nL D A b ad0 Q S1) : zG p l e R s m args below meth c nL D A b ad0 Q ((pc, o) :: rest, ls0, st0, w) := by
  cases st0 with
  | nil => exact (zX_inl h).elim
  | cons i0 st1 =>
    cases st1 with
    | nil => exact (zX_inl h).elim
    | cons v0 st1 =>
      obtain ⟨t1, h1⟩ := zaload_inl h
      obtain ⟨it, i1, i2⟩ := i0
      obtain ⟨vt, v1, v2⟩ := v0
      have t1 : it = 0 := t1
      subst t1
      intro cw tys H locs ls lv st hH hext hl hL hV
      have hH : zHR D A b s w cw tys H locs := hH
      obtain ⟨vi, st3, rfl, hri, hV0⟩ := zVR_cons hV
      obtain ⟨v, st2, rfl, hr, hV1⟩ := zVR_cons hV0
      have hri := zRV_0 hri
      subst hri
      obtain ⟨hK, hP, hDw, hS, hW⟩ := id hH
      rcases h1 with ⟨-, t2, -⟩ | ⟨t2, t3, t4, rfl⟩
      · cases t2
      · have t2 : vt = 4 := t2
        subst t2
        obtain ⟨q0, e0, rfl, g1, g2, g3, g4⟩ := zcell_at hW hr
        have t4 : i1 < (znth w.2.1 (w.1 - (v1 + 1))).2.1 := t4
        obtain ⟨z0, cA, f, r1, r2, r3⟩ := zER_refs g4 (zkind_1 (by decide) t3)
        subst r1
        obtain ⟨t0, ht0⟩ := List.getElem?_of_mem r2
        refine va_aldq hx hb hK hP v1 t0 g1 ht0 (vp_in_nI t4 (by omega)) hdg ?_
        rw [nI_clamp (by omega)]
        exact zG_st kk hH hext hl hL (zVc (r3 i1 t4) hV1) hn
end ZH
end
section
/-! ===== instructions, part four: stores into arrays, lengths, new things, the library's ===== -/
section ZI
variable {p : Program} {l : Launch} {e : Env} {R : Room} {s : State} {m : MethodId} {args : Array Value} {below : List Frame} {meth : Method} {c : Code} {Q : State → Prop} {nL : Nat} {D : va_G} {A : Nat → Prop} {b : Nat} {ad0 : List Nat} {cc : ByteArray} {pc : Nat} {o : Nat × Nat × Nat × List Nat} {rest : List zE} {ls0 : zA} {st0 : List zV} {w : zW} {S1 : zS}
theorem zastore_inl {B : Nat} (h : zoAstore rest ls0 st0 w B = Sum.inl S1) :
    ∃ (u : zV) (n n2 x x2 : Nat) (st1 : List zV), st0 = u :: (0, n, n2) :: (4, x, x2) :: st1 ∧ zkind B (znth w.2.1 (w.1 - (x + 1))).1 = true ∧ n < (znth w.2.1 (w.1 - (x + 1))).2.1 ∧ zelem (znth w.2.1 (w.1 - (x + 1))).1 u = true ∧
      ((znth w.2.1 (w.1 - (x + 1))).1 = 105 → u.1 = 4 ∧ (znth w.2.1 (w.1 - (u.2.1 + 1))).1 = 6) ∧
      (w.2.1[w.1 - (x + 1)]? = some (znth w.2.1 (w.1 - (x + 1))) → ∃ as' : zA, (∀ j, zget as' j (znth w.2.1 (w.1 - (x + 1))).2.2.1 = if j = n then u else zget (znth w.2.1 (w.1 - (x + 1))).2.2.2 j (znth w.2.1 (w.1 - (x + 1))).2.2.1) ∧
        S1 = (rest, ls0, st1, (w.1, w.2.1.set (w.1 - (x + 1)) ((znth w.2.1 (w.1 - (x + 1))).1, (znth w.2.1 (w.1 - (x + 1))).2.1, (znth w.2.1 (w.1 - (x + 1))).2.2.1, as'), w.2.2.1, w.2.2.2))) := by
  cases st0 with
  | nil => exact (zX_inl h).elim
  | cons u st1 =>
    cases st1 with
    | nil => exact (zX_inl h).elim
    | cons i0 st1 =>
      cases st1 with
      | nil => exact (zX_inl h).elim
      | cons v0 st1 =>
        unfold zoAstore at h
        simp only [] at h
        obtain ⟨t1, h1⟩ := zb_inl h
        obtain ⟨t2, h2⟩ := zcellK_inl h1
        obtain ⟨t3, h3⟩ := zb_inl h2
        obtain ⟨t4, h4⟩ := zb_inl h3
        obtain ⟨t5, h5⟩ := zb_inl h4
        obtain ⟨it, n, n2⟩ := i0
        obtain ⟨vt, x, x2⟩ := v0
        have e1 : it = 0 := zbeq t1
        have e2 : vt = 4 := t2
        subst e1
        subst e2
        have h6 : ∀ {k : zO}, (zb (Nat.beq (znth w.2.1 (w.1 - (x + 1))).1 105) (zisState w u k) k = Sum.inl S1) → ((znth w.2.1 (w.1 - (x + 1))).1 = 105 → u.1 = 4 ∧ (znth w.2.1 (w.1 - (u.2.1 + 1))).1 = 6) ∧ k = Sum.inl S1 := by
          intro k hk
          cases q : Nat.beq (znth w.2.1 (w.1 - (x + 1))).1 105
          · rw [q, zb_ff] at hk
            exact ⟨fun z => absurd (show Nat.beq (znth w.2.1 (w.1 - (x + 1))).1 105 = true by rw [z]; rfl) (by rw [q]; decide), hk⟩
          · rw [q, zb_tt] at hk
            obtain ⟨g1, g2⟩ := zcellK_inl hk
            obtain ⟨g3, g4⟩ := zb_inl g2
            exact ⟨fun _ => ⟨g1, zbeq g3⟩, g4⟩
        obtain ⟨h7, h8⟩ := h6 h5
        refine ⟨u, n, n2, x, x2, st1, rfl, t3, zble t4, t5, h7, fun hg => ?_⟩
        rw [zfV_eq] at h8
        cases q : zeq (zget (znth w.2.1 (w.1 - (x + 1))).2.2.2 n (znth w.2.1 (w.1 - (x + 1))).2.2.1) u
        · have h9 := h8
          simp only [] at h9
          rw [q, zb_ff, zsetK_eq, zputK_eq] at h9
          exact ⟨_, fun j => zget_set n j u _ _, (Sum.inl.inj h9).symm⟩
        · have h9 := h8
          simp only [] at h9
          rw [q, zb_tt] at h9
          refine ⟨(znth w.2.1 (w.1 - (x + 1))).2.2.2, fun j => ?_, ?_⟩
          · by_cases hj : j = n
            · subst hj
              rw [if_pos rfl]
              exact zeq_spec q
            · rw [if_neg hj]
          · have hs : w.2.1.set (w.1 - (x + 1)) (znth w.2.1 (w.1 - (x + 1))) = w.2.1 := zset_self hg
            have h10 := (Sum.inl.inj h9).symm
            rw [h10]
            show (rest, ls0, st1, w) = (rest, ls0, st1, (w.1, w.2.1.set (w.1 - (x + 1)) (znth w.2.1 (w.1 - (x + 1))), w.2.2.1, w.2.2.2))
            rw [hs]
theorem zel_set {α : Type} {ad : List Nat} {b n i : Nat} {d u : zV} {as as' : zA} (mk : α → Value) {f f' : Nat → α} {x : α} (hg : ∀ j, zget as' j d = if j = i then u else zget as j d) (hf : ∀ j, f' j = if j = i then x else f j) (h3 : ∀ k, k < n → zRV ad b (zget as k d) (mk (f k))) (hu : zRV ad b u (mk x)) : ∀ k, k < n → zRV ad b (zget as' k d) (mk (f' k)) := by
  intro k hk
  rw [hg, hf]
  by_cases hj : k = i
  · rw [if_pos hj, if_pos hj]; exact hu
  · rw [if_neg hj, if_neg hj]; exact h3 k hk
theorem zelem_100 {u : zV} (h : zelem 100 u = true) : zis 0 u = true := h
theorem zelem_101 {u : zV} (h : zelem 101 u = true) : zsmall 6 u = true := h
theorem zelem_102 {u : zV} (h : zelem 102 u = true) : zsmall 5 u = true := h
theorem zelem_103 {u : zV} (h : zelem 103 u = true) : zis 1 u = true := h
theorem zelem_104 {u : zV} (h : zelem 104 u = true) : zis 3 u = true := h
theorem zs_iastore (hx : p.tables.exec = Jvm.exec) (hb : c.code = cc) (hdg : decode cc pc = .ok (.iastore, 1)) (hn : zpc rest = pc + 1) (h : zoAstore rest ls0 st0 w 100 = Sum.inl S1) (kk : zG p l e R s m args below meth c nL D A b ad0 Q S1) : zG p l e R s m args below meth c nL D A b ad0 Q ((pc, o) :: rest, ls0, st0, w) := by
  obtain ⟨u, i1, i2, v1, v2, st1, rfl, t3, t4, t5, -, hS1⟩ := zastore_inl h
  intro cw tys H locs ls lv st hH hext hl hL hV
  have hH : zHR D A b s w cw tys H locs := hH
  obtain ⟨vu, st4, rfl, hru, hV2⟩ := zVR_cons hV
  obtain ⟨vi, st3, rfl, hri, hV0⟩ := zVR_cons hV2
  obtain ⟨v, st2, rfl, hr, hV1⟩ := zVR_cons hV0
  have hri := zRV_0 hri
  subst hri
  obtain ⟨hK, hP, hDw, hS, hW⟩ := id hH
  obtain ⟨q0, e0, rfl, g1, g2, g3, g4⟩ := zcell_at hW hr
  have k1 := zkind_1 (by decide) t3
  obtain ⟨as', a1, rfl⟩ := hS1 g3
  obtain ⟨z0, cA, f, r1, r2, r3⟩ := zER_int g4 (Or.inl k1)
  subst r1
  have r2 : (cA, FieldType.int) ∈ tys := by
    rcases r2 with ⟨-, r2⟩ | ⟨r0, -⟩ | ⟨r0, -⟩
    · exact r2
    · rw [k1] at r0; cases r0
    · rw [k1] at r0; cases r0
  rw [k1] at t5
  obtain ⟨x, rfl, -⟩ := zRV_int (zelem_100 t5) hru
  obtain ⟨t0, ht0⟩ := List.getElem?_of_mem r2
  refine va_iast hx hb hK hP hDw hS v1 t0 g1 ht0 (vp_in_nI t4 (by omega)) hdg (fun H1 locs1 hP1 hD1 hS1' => ?_)
  refine zG_set kk hK hP1 hD1 hS1' hW g1 ?_ hext hl hL hV1 hn
  refine Or.inr (Or.inl ⟨z0, cA, _, rfl, Or.inl ⟨k1, r2⟩, ?_⟩)
  rw [nI_clamp (by omega)]
  exact zel_set Value.int a1 (fun j => rfl) r3 hru
theorem zs_bastore (hx : p.tables.exec = Jvm.exec) (hb : c.code = cc) (hdg : decode cc pc = .ok (.bastore, 1)) (hn : zpc rest = pc + 1) (h : zoAstore rest ls0 st0 w 101 = Sum.inl S1) (kk : zG p l e R s m args below meth c nL D A b ad0 Q S1) : zG p l e R s m args below meth c nL D A b ad0 Q ((pc, o) :: rest, ls0, st0, w) := by
  obtain ⟨u, i1, i2, v1, v2, st1, rfl, t3, t4, t5, -, hS1⟩ := zastore_inl h
  intro cw tys H locs ls lv st hH hext hl hL hV
  have hH : zHR D A b s w cw tys H locs := hH
  obtain ⟨vu, st4, rfl, hru, hV2⟩ := zVR_cons hV
  obtain ⟨vi, st3, rfl, hri, hV0⟩ := zVR_cons hV2
  obtain ⟨v, st2, rfl, hr, hV1⟩ := zVR_cons hV0
  have hri := zRV_0 hri
  subst hri
  obtain ⟨hK, hP, hDw, hS, hW⟩ := id hH
  obtain ⟨q0, e0, rfl, g1, g2, g3, g4⟩ := zcell_at hW hr
  obtain ⟨as', a1, rfl⟩ := hS1 g3
  have k1 : (znth w.2.1 (w.1 - (v1 + 1))).1 = 101 ∨ (znth w.2.1 (w.1 - (v1 + 1))).1 = 102 := by
    rcases zkind_spec t3 with k1 | ⟨-, k1⟩
    · exact Or.inl k1
    · exact Or.inr k1
  obtain ⟨z0, cA, f, r1, r2, r3⟩ := zER_int g4 (Or.inr k1)
  subst r1
  rcases r2 with ⟨r0, -⟩ | ⟨r0, r2⟩ | ⟨r0, r2⟩
  · omega
  · rw [r0] at t5
    obtain ⟨x, rfl, hx8⟩ := zsmall6_spec (zelem_101 t5) hru
    obtain ⟨t0, ht0⟩ := List.getElem?_of_mem r2
    refine va_bast hx hb hK hP hDw hS v1 t0 g1 ht0 (vp_in_nI t4 (by omega)) hdg (fun H1 locs1 hP1 hD1 hS1' => ?_)
    refine zG_set kk hK hP1 hD1 hS1' hW g1 ?_ hext hl hL hV1 hn
    refine Or.inr (Or.inl ⟨z0, cA, _, rfl, Or.inr (Or.inl ⟨r0, r2⟩), ?_⟩)
    rw [nI_clamp (by omega), show vp_nar .byte x = x from hx8]
    exact zel_set Value.int a1 (fun j => rfl) r3 hru
  · rw [r0] at t5
    obtain ⟨-, hx8⟩ := zsmall_spec (zelem_102 t5) hru
    obtain ⟨t0, ht0⟩ := List.getElem?_of_mem r2
    have hbo : ∃ x : Int32, vu = .int x ∧ vp_nar .boolean x = x := by
      rcases hx8 with rfl | rfl
      · exact ⟨0, rfl, by decide⟩
      · exact ⟨1, rfl, by decide⟩
    obtain ⟨x, rfl, hxb⟩ := hbo
    refine va_zast hx hb hK hP hDw hS v1 t0 g1 ht0 (vp_in_nI t4 (by omega)) hdg (fun H1 locs1 hP1 hD1 hS1' => ?_)
    refine zG_set kk hK hP1 hD1 hS1' hW g1 ?_ hext hl hL hV1 hn
    refine Or.inr (Or.inl ⟨z0, cA, _, rfl, Or.inr (Or.inr ⟨r0, r2⟩), ?_⟩)
    rw [nI_clamp (by omega), hxb]
    exact zel_set Value.int a1 (fun j => rfl) r3 hru
theorem zs_lastore (hx : p.tables.exec = Jvm.exec) (hb : c.code = cc) (hdg : decode cc pc = .ok (.lastore, 1)) (hn : zpc rest = pc + 1) (h : zoAstore rest ls0 st0 w 103 = Sum.inl S1) (kk : zG p l e R s m args below meth c nL D A b ad0 Q S1) : zG p l e R s m args below meth c nL D A b ad0 Q ((pc, o) :: rest, ls0, st0, w) := by
  obtain ⟨u, i1, i2, v1, v2, st1, rfl, t3, t4, t5, -, hS1⟩ := zastore_inl h
  intro cw tys H locs ls lv st hH hext hl hL hV
  have hH : zHR D A b s w cw tys H locs := hH
  obtain ⟨vu, st4, rfl, hru, hV2⟩ := zVR_cons hV
  obtain ⟨vi, st3, rfl, hri, hV0⟩ := zVR_cons hV2
  obtain ⟨v, st2, rfl, hr, hV1⟩ := zVR_cons hV0
  have hri := zRV_0 hri
  subst hri
  obtain ⟨hK, hP, hDw, hS, hW⟩ := id hH
  obtain ⟨q0, e0, rfl, g1, g2, g3, g4⟩ := zcell_at hW hr
  have k1 := zkind_1 (by decide) t3
  obtain ⟨as', a1, rfl⟩ := hS1 g3
  obtain ⟨z0, cA, f, r1, r2, r3⟩ := zER_long g4 k1
  subst r1
  rw [k1] at t5
  obtain ⟨x, rfl, -⟩ := zRV_long (zelem_103 t5) hru
  obtain ⟨t0, ht0⟩ := List.getElem?_of_mem r2
  refine va_last hx hb hK hP hDw hS v1 t0 g1 ht0 (vp_in_nI t4 (by omega)) hdg (fun H1 locs1 hP1 hD1 hS1' => ?_)
  refine zG_set kk hK hP1 hD1 hS1' hW g1 ?_ hext hl hL hV1 hn
  refine Or.inr (Or.inr (Or.inl ⟨z0, k1, cA, _, rfl, r2, ?_⟩))
  rw [nI_clamp (by omega)]
  exact zel_set Value.long a1 (fun j => rfl) r3 hru
theorem zs_dastore (hx : p.tables.exec = Jvm.exec) (hb : c.code = cc) (hdg : decode cc pc = .ok (.dastore, 1)) (hn : zpc rest = pc + 1) (h : zoAstore rest ls0 st0 w 104 = Sum.inl S1) (kk : zG p l e R s m args below meth c nL D A b ad0 Q S1) : zG p l e R s m args below meth c nL D A b ad0 Q ((pc, o) :: rest, ls0, st0, w) := by
  obtain ⟨u, i1, i2, v1, v2, st1, rfl, t3, t4, t5, -, hS1⟩ := zastore_inl h
  intro cw tys H locs ls lv st hH hext hl hL hV
  have hH : zHR D A b s w cw tys H locs := hH
  obtain ⟨vu, st4, rfl, hru, hV2⟩ := zVR_cons hV
  obtain ⟨vi, st3, rfl, hri, hV0⟩ := zVR_cons hV2
  obtain ⟨v, st2, rfl, hr, hV1⟩ := zVR_cons hV0
  have hri := zRV_0 hri
  subst hri
  obtain ⟨hK, hP, hDw, hS, hW⟩ := id hH
  obtain ⟨q0, e0, rfl, g1, g2, g3, g4⟩ := zcell_at hW hr
  have k1 := zkind_1 (by decide) t3
  obtain ⟨as', a1, rfl⟩ := hS1 g3
  obtain ⟨z0, cA, f, r1, r2, r3⟩ := zER_double g4 k1
  subst r1
  rw [k1] at t5
  obtain ⟨x, rfl⟩ := zRV_double (zelem_104 t5) hru
  obtain ⟨t0, ht0⟩ := List.getElem?_of_mem r2
  refine va_dast hx hb hK hP hDw hS v1 t0 g1 ht0 (vp_in_nI t4 (by omega)) hdg (fun H1 locs1 hP1 hD1 hS1' => ?_)
  refine zG_set kk hK hP1 hD1 hS1' hW g1 ?_ hext hl hL hV1 hn
  refine Or.inr (Or.inr (Or.inr (Or.inl ⟨z0, k1, cA, _, rfl, r2, ?_⟩)))
  rw [nI_clamp (by omega)]
  exact zel_set Value.double a1 (fun j => rfl) r3 hru
theorem zs_aastore (hx : p.tables.exec = Jvm.exec) (hb : c.code = cc) {r : vw_C} (hcl : vwCl[6]? = some r) (hr6 : r.1 = RX6) (hdg : decode cc pc = .ok (.aastore, 1)) (hn : zpc rest = pc + 1) (h : zoAstore rest ls0 st0 w 105 = Sum.inl S1) (kk : zG p l e R s m args below meth c nL D A b ad0 Q S1) : zG p l e R s m args below meth c nL D A b ad0 Q ((pc, o) :: rest, ls0, st0, w) := by
  obtain ⟨u, i1, i2, v1, v2, st1, rfl, t3, t4, t5, t6, hS1⟩ := zastore_inl h
  intro cw tys H locs ls lv st hH hext hl hL hV
  have hH : zHR D A b s w cw tys H locs := hH
  obtain ⟨vu, st4, rfl, hru, hV2⟩ := zVR_cons hV
  obtain ⟨vi, st3, rfl, hri, hV0⟩ := zVR_cons hV2
  obtain ⟨v, st2, rfl, hr, hV1⟩ := zVR_cons hV0
  have hri := zRV_0 hri
  subst hri
  obtain ⟨hK, hP, hDw, hS, hW⟩ := id hH
  obtain ⟨q0, e0, rfl, g1, g2, g3, g4⟩ := zcell_at hW hr
  have k1 := zkind_1 (by decide) t3
  obtain ⟨as', a1, rfl⟩ := hS1 g3
  obtain ⟨z0, cA, f, r1, r2, r3⟩ := zER_refs g4 k1
  subst r1
  obtain ⟨u1, u2⟩ := t6 k1
  obtain ⟨ut, ux, uy⟩ := u
  have u1 : ut = 4 := u1
  subst u1
  have hru' := hru
  obtain ⟨q1, e1, rfl, j1, j2, j3, j4⟩ := zcell_at hW hru
  have u2 : (znth w.2.1 (w.1 - (ux + 1))).1 = 6 := u2
  obtain ⟨fs, q, y1, y2, y3, y4, y5⟩ := zER_obj j4 (by rw [u2]; decide)
  rw [u2] at y1 y2
  obtain rfl := Option.some.inj (hcl.symm.trans y2)
  subst y1
  obtain ⟨t0, ht0⟩ := List.getElem?_of_mem r2
  refine va_astq hx hb hK hP hDw hS v1 t0 ux 6 g1 (by rw [hr6]; exact ht0) j1 hcl (vp_in_nI t4 (by omega)) hdg (fun H1 locs1 hP1 hD1 hS1' => ?_)
  refine zG_set kk hK hP1 hD1 hS1' hW g1 ?_ hext hl hL hV1 hn
  refine Or.inr (Or.inr (Or.inr (Or.inr ⟨z0, k1, cA, _, rfl, r2, ?_⟩)))
  rw [nI_clamp (by omega)]
  exact zel_set va_rf a1 (fun j => rfl) r3 hru'
theorem zs_alen (hx : p.tables.exec = Jvm.exec) (hb : c.code = cc) {scr : List zV} (hsc : zSc A b s scr) (hdg : decode cc pc = .ok (.arraylength, 1)) (hn : zpc rest = pc + 1) (h : zoLen rest ls0 st0 w scr = Sum.inl S1) (kk : zG p l e R s m args below meth c nL D A b ad0 Q S1) : zG p l e R s m args below meth c nL D A b ad0 Q ((pc, o) :: rest, ls0, st0, w) := by
  cases st0 with
  | nil => exact (zX_inl h).elim
  | cons v0 st1 =>
    obtain ⟨vt, v1, v2⟩ := v0
    replace h : zb (Nat.beq vt 8) (zfN scr.length (fun n => zb (Nat.beq n 0) zX (Sum.inl (rest, ls0, (0, n, 0) :: st1, w)))) (zcellK w (vt, v1, v2) (fun _ kd sz _ _ => zb (Nat.ble 100 kd) (zfN sz (fun n => Sum.inl (rest, ls0, (0, n, 0) :: st1, w))) zX)) = Sum.inl S1 := h
    intro cw tys H locs ls lv st hH hext hl hL hV
    have hH : zHR D A b s w cw tys H locs := hH
    obtain ⟨v, st2, rfl, hr, hV1⟩ := zVR_cons hV
    obtain ⟨hK, hP, hDw, hS, hW⟩ := id hH
    show W p l e R s m args below meth c H locs w.2.2.1 w.2.2.2 Q (F0 m pc ls _)
    cases q : Nat.beq vt 8
    · rw [q, zb_ff] at h
      obtain ⟨t2, h2⟩ := zcellK_inl h
      obtain ⟨t3, h3⟩ := zb_inl h2
      rw [zfN_eq] at h3
      obtain rfl := Sum.inl.inj h3
      have t2 : vt = 4 := t2
      subst t2
      obtain ⟨q0, e0, rfl, g1, g2, g3, g4⟩ := zcell_at hW hr
      have t3 : 100 ≤ (znth w.2.1 (w.1 - (v1 + 1))).1 := zble t3
      have fin : ∀ (cA : ClassId) (f) (ty : FieldType), e0 = .inl (cA, (znth w.2.1 (w.1 - (v1 + 1))).2.1, f) → (cA, ty) ∈ tys → W p l e R s m args below meth c H locs w.2.2.1 w.2.2.2 Q (F0 m pc ls (.ref q0 :: st2)) := by
        intro cA f ty he hm
        subst he
        obtain ⟨t0, ht0⟩ := List.getElem?_of_mem hm
        exact va_alen hx hb hK hP v1 t0 g1 ht0 rfl hdg (zG_st kk hH hext hl hL (zVc (show zRV (zad cw) b (0, _, 0) _ from rfl) hV1) hn)
      rcases g4 with ⟨h0, -⟩ | ⟨-, cA, f, h1, h2, -⟩ | ⟨-, -, cA, f, h1, h2, -⟩ | ⟨-, -, cA, f, h1, h2, -⟩ | ⟨-, -, cA, f, h1, h2, -⟩
      · omega
      · rcases h2 with ⟨-, h2⟩ | ⟨-, h2⟩ | ⟨-, h2⟩ <;> exact fin _ _ _ h1 h2
      · exact fin _ _ _ h1 h2
      · exact fin _ _ _ h1 h2
      · exact fin _ _ _ h1 h2
    · rw [q, zb_tt, zfN_eq] at h
      have q := zbeq q
      subst q
      obtain ⟨t1, h1⟩ := zb_inr h
      obtain rfl := Sum.inl.inj h1
      have hr : v = .ref b := hr
      subst hr
      rcases hsc with rfl | ⟨xs, s1, s2, s3, s4, s5⟩
      · cases t1
      · exact va_slen hx hb s1 s2 s3 hS hdg (zG_st kk hH hext hl hL (zVc (show zRV (zad cw) b (0, _, 0) _ from rfl) hV1) hn)
theorem zs_new (hx : p.tables.exec = Jvm.exec) (hb : c.code = cc) {objs : List (Nat × zA)} {own C : String} {T : u_T} {N ci index : Nat} {fs : zA} {Ts : List Cond} (hts : ∀ w ∈ Ts, w.before args s = true) (hin : ∀ w ∈ u_ws C T N, w ∈ Ts) (ty : Nat → FieldType) (hty : ∀ k, k < N → parseFieldDescriptor (T k).2.2.1 = some (ty k)) (hown : s.vm.findClass own = some m.cls) (hcl : (Cond.classLink own index C).before args s = true) (hinst : (Cond.instantiable C N).before args s = true) (hini : (Cond.initialized C).before args s = true)
    (hc : vwCl[ci]? = some (C, T, N)) (hci : ci < 100) (hob : objs[ci]? = some (N, fs)) (hdf : ∀ (ad : List Nat) (b k : Nat), k < N → zRV ad b (zget fs k (5, 0, 0)) (defaultValue (ty k))) (hA : ∀ q, s.heap.size ≤ q → A q)
    (hdg : decode cc pc = .ok (.new index, 3)) (hn : zpc rest = pc + 3) (h : zoNew rest ls0 st0 w objs ci = Sum.inl S1) (hcs : S1.2.2.2.2.2.1 ≤ R.cells ∧ S1.2.2.2.2.2.2 ≤ R.slots) (kk : zG p l e R s m args below meth c nL D A b ad0 Q S1) : zG p l e R s m args below meth c nL D A b ad0 Q ((pc, o) :: rest, ls0, st0, w) := by
  unfold zoNew at h
  rw [zobjK_eq, hob] at h
  simp only [Option.map_some, Option.getD_some, zfN_eq] at h
  obtain rfl := Sum.inl.inj h
  intro cw tys H locs ls lv st hH hext hl hL hV
  obtain ⟨hK, hP, hDw, hS, hW⟩ := hH
  have hlen : ((List.range N).map (fun j => defaultValue (ty j))).length = N := by rw [List.length_map, List.length_range]
  have hat : ∀ j, j < N → ((List.range N).map (fun j => defaultValue (ty j)))[j]? = some (defaultValue (ty j)) := fun j hj => by rw [List.getElem?_map, List.getElem?_range hj]; rfl
  refine va_new hx hb hts hin ty hty hown hcl hinst hini hK hP hDw hS hA hc (fs := (List.range N).map (fun j => defaultValue (ty j))) (fun j hj => ?_) hcs.1 hcs.2 hdg (fun q H1 hP1 hD1 hS1 => ?_)
  · show _ = List.getD _ _ _
    rw [List.getD_eq_getElem?_getD, hat j hj]; rfl
  · exact zG_push kk (fun t z => z) hK hP1 hD1 hS1 hW (Or.inl ⟨hci, _, (C, T, N), rfl, hc, rfl, hlen, fun k hk => ⟨_, hat k hk, hdf _ _ k hk⟩⟩) hext hl hL hV hn
theorem znewarr_inl {a : Nat} (h : zoNewarr rest ls0 st0 w a = Sum.inl S1) : ∃ (n n2 : Nat) (st1 : List zV), st0 = (0, n, n2) :: st1 ∧ n ≤ 60000 ∧ S1 = (rest, ls0, (4, w.1, 0) :: st1, (w.1 + 1, (a, n, zdf a, []) :: w.2.1, w.2.2.1 + 1, w.2.2.2 + n)) := by
  cases st0 with
  | nil => exact (zX_inl h).elim
  | cons v0 st1 =>
    obtain ⟨vt, n, n2⟩ := v0
    unfold zoNewarr at h
    simp only [] at h
    obtain ⟨t1, h1⟩ := zb_inl h
    obtain ⟨t2, h2⟩ := zb_inl h1
    rw [zfV_eq, zfN_eq, zfN_eq, zfN_eq] at h2
    have e1 : vt = 0 := zbeq t1
    subst e1
    exact ⟨n, n2, st1, rfl, zble t2, (Sum.inl.inj h2).symm⟩
theorem znI_nn {n : Nat} (h : n ≤ 60000) : ¬ nI n < 0 := by
  intro z
  have h1 := Int32.lt_iff_toInt_lt.mp z
  rw [nI_toInt (by omega)] at h1
  have h2 : ((0 : Int32).toInt) = 0 := rfl
  omega
theorem zmem_app {α : Type} {l : List α} {x : α} : ∀ t ∈ l, t ∈ l ++ [x] := fun _ z => List.mem_append_left _ z
theorem zmem_last {α : Type} {l : List α} {x : α} : x ∈ l ++ [x] := List.mem_append_right _ List.mem_cons_self
theorem zs_newI (hx : p.tables.exec = Jvm.exec) (hb : c.code = cc) (harr : (Cond.arrayClass (newarray.typeOf .int)).before args s = true) (hA : ∀ q, s.heap.size ≤ q → A q) (hdg : decode cc pc = .ok (.newarray .int, 2)) (hn : zpc rest = pc + 2) (h : zoNewarr rest ls0 st0 w 100 = Sum.inl S1) (hcs : S1.2.2.2.2.2.1 ≤ R.cells ∧ S1.2.2.2.2.2.2 ≤ R.slots) (kk : zG p l e R s m args below meth c nL D A b ad0 Q S1) : zG p l e R s m args below meth c nL D A b ad0 Q ((pc, o) :: rest, ls0, st0, w) := by
  obtain ⟨n, n2, st1, rfl, h60, rfl⟩ := znewarr_inl h
  intro cw tys H locs ls lv st hH hext hl hL hV
  obtain ⟨hK, hP, hDw, hS, hW⟩ := hH
  obtain ⟨v, st2, rfl, hr, hV1⟩ := zVR_cons hV
  have hr := zRV_0 hr
  subst hr
  refine va_newa (atype := .int) (ty := .int) (N' := n) (a0 := (n, .inl (fun _ => 0))) hx hb harr rfl hK hP hDw hS hA (fun cA => rfl) (znI_nn h60) (nI_clamp (by omega)) (by show n * 4 ≤ _; omega) hcs.1 hcs.2 hdg (fun q cA H1 hK1 hP1 hD1 hS1 => ?_)
  exact zG_push kk zmem_app hK1 hP1 hD1 hS1 hW (Or.inr (Or.inl ⟨h60, cA, fun _ => 0, rfl, Or.inl ⟨rfl, zmem_last⟩, fun k _ => rfl⟩)) hext hl hL hV1 hn
theorem zs_newB (hx : p.tables.exec = Jvm.exec) (hb : c.code = cc) (harr : (Cond.arrayClass (newarray.typeOf .byte)).before args s = true) (hA : ∀ q, s.heap.size ≤ q → A q) (hdg : decode cc pc = .ok (.newarray .byte, 2)) (hn : zpc rest = pc + 2) (h : zoNewarr rest ls0 st0 w 101 = Sum.inl S1) (hcs : S1.2.2.2.2.2.1 ≤ R.cells ∧ S1.2.2.2.2.2.2 ≤ R.slots) (kk : zG p l e R s m args below meth c nL D A b ad0 Q S1) : zG p l e R s m args below meth c nL D A b ad0 Q ((pc, o) :: rest, ls0, st0, w) := by
  obtain ⟨n, n2, st1, rfl, h60, rfl⟩ := znewarr_inl h
  intro cw tys H locs ls lv st hH hext hl hL hV
  obtain ⟨hK, hP, hDw, hS, hW⟩ := hH
  obtain ⟨v, st2, rfl, hr, hV1⟩ := zVR_cons hV
  have hr := zRV_0 hr
  subst hr
  refine va_newa (atype := .byte) (ty := .byte) (N' := n) (a0 := (n, .inl (fun _ => 0))) hx hb harr rfl hK hP hDw hS hA (fun cA => rfl) (znI_nn h60) (nI_clamp (by omega)) (by show n * 1 ≤ _; omega) hcs.1 hcs.2 hdg (fun q cA H1 hK1 hP1 hD1 hS1 => ?_)
  exact zG_push kk zmem_app hK1 hP1 hD1 hS1 hW (Or.inr (Or.inl ⟨h60, cA, fun _ => 0, rfl, Or.inr (Or.inl ⟨rfl, zmem_last⟩), fun k _ => rfl⟩)) hext hl hL hV1 hn
theorem zs_newZ (hx : p.tables.exec = Jvm.exec) (hb : c.code = cc) (harr : (Cond.arrayClass (newarray.typeOf .boolean)).before args s = true) (hA : ∀ q, s.heap.size ≤ q → A q) (hdg : decode cc pc = .ok (.newarray .boolean, 2)) (hn : zpc rest = pc + 2) (h : zoNewarr rest ls0 st0 w 102 = Sum.inl S1) (hcs : S1.2.2.2.2.2.1 ≤ R.cells ∧ S1.2.2.2.2.2.2 ≤ R.slots) (kk : zG p l e R s m args below meth c nL D A b ad0 Q S1) : zG p l e R s m args below meth c nL D A b ad0 Q ((pc, o) :: rest, ls0, st0, w) := by
  obtain ⟨n, n2, st1, rfl, h60, rfl⟩ := znewarr_inl h
  intro cw tys H locs ls lv st hH hext hl hL hV
  obtain ⟨hK, hP, hDw, hS, hW⟩ := hH
  obtain ⟨v, st2, rfl, hr, hV1⟩ := zVR_cons hV
  have hr := zRV_0 hr
  subst hr
  refine va_newa (atype := .boolean) (ty := .boolean) (N' := n) (a0 := (n, .inl (fun _ => 0))) hx hb harr rfl hK hP hDw hS hA (fun cA => rfl) (znI_nn h60) (nI_clamp (by omega)) (by show n * 1 ≤ _; omega) hcs.1 hcs.2 hdg (fun q cA H1 hK1 hP1 hD1 hS1 => ?_)
  exact zG_push kk zmem_app hK1 hP1 hD1 hS1 hW (Or.inr (Or.inl ⟨h60, cA, fun _ => 0, rfl, Or.inr (Or.inr ⟨rfl, zmem_last⟩), fun k _ => rfl⟩)) hext hl hL hV1 hn
theorem zs_newJ (hx : p.tables.exec = Jvm.exec) (hb : c.code = cc) (harr : (Cond.arrayClass (newarray.typeOf .long)).before args s = true) (hA : ∀ q, s.heap.size ≤ q → A q) (hdg : decode cc pc = .ok (.newarray .long, 2)) (hn : zpc rest = pc + 2) (h : zoNewarr rest ls0 st0 w 103 = Sum.inl S1) (hcs : S1.2.2.2.2.2.1 ≤ R.cells ∧ S1.2.2.2.2.2.2 ≤ R.slots) (kk : zG p l e R s m args below meth c nL D A b ad0 Q S1) : zG p l e R s m args below meth c nL D A b ad0 Q ((pc, o) :: rest, ls0, st0, w) := by
  obtain ⟨n, n2, st1, rfl, h60, rfl⟩ := znewarr_inl h
  intro cw tys H locs ls lv st hH hext hl hL hV
  obtain ⟨hK, hP, hDw, hS, hW⟩ := hH
  obtain ⟨v, st2, rfl, hr, hV1⟩ := zVR_cons hV
  have hr := zRV_0 hr
  subst hr
  refine va_newa (atype := .long) (ty := .long) (N' := n) (a0 := (n, .inr (.inl (fun _ => 0)))) hx hb harr rfl hK hP hDw hS hA (fun cA => rfl) (znI_nn h60) (nI_clamp (by omega)) (by show n * 8 ≤ _; omega) hcs.1 hcs.2 hdg (fun q cA H1 hK1 hP1 hD1 hS1 => ?_)
  exact zG_push kk zmem_app hK1 hP1 hD1 hS1 hW (Or.inr (Or.inr (Or.inl ⟨h60, rfl, cA, fun _ => 0, rfl, zmem_last, fun k _ => rfl⟩))) hext hl hL hV1 hn
theorem zs_newD (hx : p.tables.exec = Jvm.exec) (hb : c.code = cc) (harr : (Cond.arrayClass (newarray.typeOf .double)).before args s = true) (hA : ∀ q, s.heap.size ≤ q → A q) (hdg : decode cc pc = .ok (.newarray .double, 2)) (hn : zpc rest = pc + 2) (h : zoNewarr rest ls0 st0 w 104 = Sum.inl S1) (hcs : S1.2.2.2.2.2.1 ≤ R.cells ∧ S1.2.2.2.2.2.2 ≤ R.slots) (kk : zG p l e R s m args below meth c nL D A b ad0 Q S1) : zG p l e R s m args below meth c nL D A b ad0 Q ((pc, o) :: rest, ls0, st0, w) := by
  obtain ⟨n, n2, st1, rfl, h60, rfl⟩ := znewarr_inl h
  intro cw tys H locs ls lv st hH hext hl hL hV
  obtain ⟨hK, hP, hDw, hS, hW⟩ := hH
  obtain ⟨v, st2, rfl, hr, hV1⟩ := zVR_cons hV
  have hr := zRV_0 hr
  subst hr
  refine va_newa (atype := .double) (ty := .double) (N' := n) (a0 := (n, .inr (.inr (.inr (.inl (fun _ => 0)))))) hx hb harr rfl hK hP hDw hS hA (fun cA => rfl) (znI_nn h60) (nI_clamp (by omega)) (by show n * 8 ≤ _; omega) hcs.1 hcs.2 hdg (fun q cA H1 hK1 hP1 hD1 hS1 => ?_)
  exact zG_push kk zmem_app hK1 hP1 hD1 hS1 hW (Or.inr (Or.inr (Or.inr (Or.inl ⟨h60, rfl, cA, fun _ => 0, rfl, zmem_last, fun k _ => rfl⟩)))) hext hl hL hV1 hn
theorem zs_newq (hx : p.tables.exec = Jvm.exec) (hb : c.code = cc) {own : String} {index : Nat} (hown : s.vm.findClass own = some m.cls) (hlink : (Cond.classLink own index RX6).before args s = true) (hao : va_AO RX6 s) (hA : ∀ q, s.heap.size ≤ q → A q) (hdg : decode cc pc = .ok (.anewarray index, 3)) (hn : zpc rest = pc + 3) (h : zoNewarr rest ls0 st0 w 105 = Sum.inl S1) (hcs : S1.2.2.2.2.2.1 ≤ R.cells ∧ S1.2.2.2.2.2.2 ≤ R.slots) (kk : zG p l e R s m args below meth c nL D A b ad0 Q S1) : zG p l e R s m args below meth c nL D A b ad0 Q ((pc, o) :: rest, ls0, st0, w) := by
  obtain ⟨n, n2, st1, rfl, h60, rfl⟩ := znewarr_inl h
  intro cw tys H locs ls lv st hH hext hl hL hV
  obtain ⟨hK, hP, hDw, hS, hW⟩ := hH
  obtain ⟨v, st2, rfl, hr, hV1⟩ := zVR_cons hV
  have hr := zRV_0 hr
  subst hr
  refine va_newq (N' := n) hx hb hown hlink hao hK hP hDw hS hA (znI_nn h60) (nI_clamp (by omega)) (by omega) hcs.1 hcs.2 hdg (fun q cA H1 hK1 hP1 hD1 hS1 => ?_)
  exact zG_push kk zmem_app hK1 hP1 hD1 hS1 hW (Or.inr (Or.inr (Or.inr (Or.inr ⟨h60, rfl, cA, fun _ => none, rfl, zmem_last, fun k _ => rfl⟩)))) hext hl hL hV1 hn
theorem zs_init (hx : p.tables.exec = Jvm.exec) (hb : c.code = cc) (hml : c.maxLocals = nL) {own : String} {index : Nat} (hown : s.vm.findClass own = some m.cls) (hlink : (Cond.methodLink own index Lib.objectInit).before args s = true) (hinst : (Cond.instanceMethod Lib.objectInit).before args s = true) (hcode : (Cond.code Lib.objectInit ⟨#[0xb1]⟩ 1 none).before args s = true) (hRf : 1 ≤ R.frames) (hRl : 30 ≤ R.locals)
    (hdg : decode cc pc = .ok (.invokespecial index, 3)) (hn : zpc rest = pc + 3) (h : zoInit rest ls0 st0 w = Sum.inl S1) (kk : zG p l e R s m args below meth c nL D A b ad0 Q S1) : zG p l e R s m args below meth c nL D A b ad0 Q ((pc, o) :: rest, ls0, st0, w) := by
  cases st0 with
  | nil => exact (zX_inl h).elim
  | cons v0 st1 =>
    unfold zoInit at h
    simp only [] at h
    obtain ⟨t1, h1⟩ := zb_inl h
    obtain ⟨t2, h2⟩ := zb_inl h1
    obtain rfl := Sum.inl.inj h2
    obtain ⟨vt, v1, v2⟩ := v0
    have e1 : vt = 4 := zbeq t1
    subst e1
    intro cw tys H locs ls lv st hH hext hl hL hV
    have hH : zHR D A b s w cw tys H locs := hH
    obtain ⟨v, st2, rfl, hr, hV1⟩ := zVR_cons hV
    obtain ⟨q, -, rfl⟩ := hr
    have h8 := zble t2
    rw [← zVR_cs hV1] at h8
    exact W.objInit hx hb hown hlink hinst hcode (g := F0 m pc ls (.ref q :: st2)) rfl (by rw [hml]; exact hl.1) rfl hdg hRf (by show 2 * 0 + _ + 12 ≤ _; omega) (zG_st kk hH hext hl hL hV1 hn)
theorem zs_mmax (hx : p.tables.exec = Jvm.exec) (hb : c.code = cc) (hml : c.maxLocals = nL) {own : String} {index : Nat} (hown : s.vm.findClass own = some m.cls) (hlink : (Cond.methodLink own index Lib.Math.max.name).before args s = true) (hstat : (Cond.static Lib.Math.max.name).before args s = true) (hini : (Cond.initialized "java/lang/Math").before args s = true) (hcode : (Cond.code Lib.Math.max.name Lib.Math.max.code 2 (some .int)).before args s = true) (hRf : 1 ≤ R.frames) (hRl : 30 ≤ R.locals)
    (hdg : decode cc pc = .ok (.invokestatic index, 3)) (hn : zpc rest = pc + 3) (h : zoMath rest ls0 st0 w 0 = Sum.inl S1) (hcs : S1.2.2.2.2.2.1 ≤ R.cells ∧ S1.2.2.2.2.2.2 ≤ R.slots) (kk : zG p l e R s m args below meth c nL D A b ad0 Q S1) : zG p l e R s m args below meth c nL D A b ad0 Q ((pc, o) :: rest, ls0, st0, w) := by
  cases st0 with
  | nil => exact (zX_inl h).elim
  | cons y0 st1 =>
    cases st1 with
    | nil => exact (zX_inl h).elim
    | cons x0 st1 =>
      obtain ⟨xt, x1, x2⟩ := x0
      obtain ⟨yt, y1, y2⟩ := y0
      replace h : zb (Nat.beq xt 0) (zb (Nat.beq yt 0) (zb (Nat.ble (zcs st1) 8) (zcmpB 2 (zlo (xt, x1, x2)) (zhi (xt, x1, x2)) (zlo (yt, y1, y2)) (zhi (yt, y1, y2)) (fun t => zb t (Sum.inl (rest, ls0, (yt, y1, y2) :: st1, w)) (Sum.inl (rest, ls0, (xt, x1, x2) :: st1, w)))) zX) zX) zX = Sum.inl S1 := h
      obtain ⟨t1, h1⟩ := zb_inl h
      obtain ⟨t2, h2⟩ := zb_inl h1
      obtain ⟨t3, h3⟩ := zb_inl h2
      have e1 := zbeq t1
      have e2 := zbeq t2
      subst e1
      subst e2
      intro cw tys H locs ls lv st hH hext hl hL hV
      obtain ⟨v, st3, rfl, hr, hV1⟩ := zVR_cons hV
      obtain ⟨v2, st2, rfl, hr2, hV2⟩ := zVR_cons hV1
      obtain ⟨x, rfl, a1, a2⟩ := zRV_int (ad := zad cw) (b := b) (a := (0, x1, x2)) rfl hr2
      obtain ⟨y, rfl, b1, b2⟩ := zRV_int (ad := zad cw) (b := b) (a := (0, y1, y2)) rfl hr
      obtain ⟨t, g1, g2⟩ := zcmpB2 h3 a1 a2 b1 b2
      rw [← zlt_iff] at g1
      have h8 := zble t3
      rw [← zVR_cs hV2] at h8
      have hc2 : w.2.2.1 ≤ R.cells ∧ w.2.2.2 ≤ R.slots := by
        cases t
        · rw [zb_ff] at g2; rw [← Sum.inl.inj g2] at hcs; exact hcs
        · rw [zb_tt] at g2; rw [← Sum.inl.inj g2] at hcs; exact hcs
      refine va_mmax hx hb (by rw [hml]; exact hl.1.symm) hown hlink hstat hini hcode hRf (by omega) hc2.1 hc2.2 hdg ?_
      by_cases hxy : x < y
      · rw [g1.mpr hxy, zb_tt] at g2
        obtain rfl := Sum.inl.inj g2
        rw [if_pos hxy]
        exact zG_st kk hH hext hl hL (zVc hr hV2) hn
      · rw [zfalse (fun z => hxy (g1.mp z)), zb_ff] at g2
        obtain rfl := Sum.inl.inj g2
        rw [if_neg hxy]
        exact zG_st kk hH hext hl hL (zVc hr2 hV2) hn
theorem zs_mmin (hx : p.tables.exec = Jvm.exec) (hb : c.code = cc) (hml : c.maxLocals = nL) {own : String} {index : Nat} (hown : s.vm.findClass own = some m.cls) (hlink : (Cond.methodLink own index Lib.Math.min.name).before args s = true) (hstat : (Cond.static Lib.Math.min.name).before args s = true) (hini : (Cond.initialized "java/lang/Math").before args s = true) (hcode : (Cond.code Lib.Math.min.name Lib.Math.min.code 2 (some .int)).before args s = true) (hRf : 1 ≤ R.frames) (hRl : 30 ≤ R.locals)
    (hdg : decode cc pc = .ok (.invokestatic index, 3)) (hn : zpc rest = pc + 3) (h : zoMath rest ls0 st0 w 1 = Sum.inl S1) (hcs : S1.2.2.2.2.2.1 ≤ R.cells ∧ S1.2.2.2.2.2.2 ≤ R.slots) (kk : zG p l e R s m args below meth c nL D A b ad0 Q S1) : zG p l e R s m args below meth c nL D A b ad0 Q ((pc, o) :: rest, ls0, st0, w) := by
  cases st0 with
  | nil => exact (zX_inl h).elim
  | cons y0 st1 =>
    cases st1 with
    | nil => exact (zX_inl h).elim
    | cons x0 st1 =>
      obtain ⟨xt, x1, x2⟩ := x0
      obtain ⟨yt, y1, y2⟩ := y0
      replace h : zb (Nat.beq xt 0) (zb (Nat.beq yt 0) (zb (Nat.ble (zcs st1) 8) (zcmpB 2 (zlo (yt, y1, y2)) (zhi (yt, y1, y2)) (zlo (xt, x1, x2)) (zhi (xt, x1, x2)) (fun t => zb t (Sum.inl (rest, ls0, (yt, y1, y2) :: st1, w)) (Sum.inl (rest, ls0, (xt, x1, x2) :: st1, w)))) zX) zX) zX = Sum.inl S1 := h
      obtain ⟨t1, h1⟩ := zb_inl h
      obtain ⟨t2, h2⟩ := zb_inl h1
      obtain ⟨t3, h3⟩ := zb_inl h2
      have e1 := zbeq t1
      have e2 := zbeq t2
      subst e1
      subst e2
      intro cw tys H locs ls lv st hH hext hl hL hV
      obtain ⟨v, st3, rfl, hr, hV1⟩ := zVR_cons hV
      obtain ⟨v2, st2, rfl, hr2, hV2⟩ := zVR_cons hV1
      obtain ⟨x, rfl, a1, a2⟩ := zRV_int (ad := zad cw) (b := b) (a := (0, x1, x2)) rfl hr2
      obtain ⟨y, rfl, b1, b2⟩ := zRV_int (ad := zad cw) (b := b) (a := (0, y1, y2)) rfl hr
      obtain ⟨t, g1, g2⟩ := zcmpB2 h3 b1 b2 a1 a2
      rw [← zlt_iff] at g1
      have h8 := zble t3
      rw [← zVR_cs hV2] at h8
      have hc2 : w.2.2.1 ≤ R.cells ∧ w.2.2.2 ≤ R.slots := by
        cases t
        · rw [zb_ff] at g2; rw [← Sum.inl.inj g2] at hcs; exact hcs
        · rw [zb_tt] at g2; rw [← Sum.inl.inj g2] at hcs; exact hcs
      refine va_mmin hx hb (by rw [hml]; exact hl.1.symm) hown hlink hstat hini hcode hRf (by omega) hc2.1 hc2.2 hdg ?_
      by_cases hxy : y < x
      · rw [g1.mpr hxy, zb_tt] at g2
        obtain rfl := Sum.inl.inj g2
        rw [if_pos hxy]
        exact zG_st kk hH hext hl hL (zVc hr hV2) hn
      · rw [zfalse (fun z => hxy (g1.mp z)), zb_ff] at g2
        obtain rfl := Sum.inl.inj g2
        rw [if_neg hxy]
        exact zG_st kk hH hext hl hL (zVc hr2 hV2) hn
theorem znil_eq {l : zA} (h : znil l = true) : l = [] := by
  cases l with
  | nil => rfl
  | cons h t => cases h
theorem zcopy_inl (h : zoCopy rest ls0 st0 w = Sum.inl S1) :
    ∃ (n n2 dp dp2 x1 y1 sp sp2 x0 y0 : Nat) (st1 : List zV), st0 = (0, n, n2) :: (0, dp, dp2) :: (4, x1, y1) :: (0, sp, sp2) :: (4, x0, y0) :: st1 ∧ zcs st1 ≤ 8 ∧ (znth w.2.1 (w.1 - (x0 + 1))).1 = (znth w.2.1 (w.1 - (x1 + 1))).1 ∧ ((znth w.2.1 (w.1 - (x0 + 1))).1 = 100 ∨ (znth w.2.1 (w.1 - (x0 + 1))).1 = 103) ∧ sp + n ≤ (znth w.2.1 (w.1 - (x0 + 1))).2.1 ∧ dp + n ≤ (znth w.2.1 (w.1 - (x1 + 1))).2.1 ∧
      (n = 0 ∨ ((znth w.2.1 (w.1 - (x0 + 1))).2.2.2 = [] ∧ (znth w.2.1 (w.1 - (x1 + 1))).2.2.2 = [] ∧ (znth w.2.1 (w.1 - (x0 + 1))).2.2.1 = (znth w.2.1 (w.1 - (x1 + 1))).2.2.1)) ∧ S1 = (rest, ls0, st1, w) := by
  cases st0 with
  | nil => exact (zX_inl h).elim
  | cons n0 st0 =>
    cases st0 with
    | nil => exact (zX_inl h).elim
    | cons dp0 st0 =>
      cases st0 with
      | nil => exact (zX_inl h).elim
      | cons d0 st0 =>
        cases st0 with
        | nil => exact (zX_inl h).elim
        | cons sp0 st0 =>
          cases st0 with
          | nil => exact (zX_inl h).elim
          | cons s0 st1 =>
            unfold zoCopy at h
            simp only [] at h
            obtain ⟨t1, h1⟩ := zb_inl h
            obtain ⟨t2, h2⟩ := zb_inl h1
            obtain ⟨t3, h3⟩ := zb_inl h2
            obtain ⟨t4, h4⟩ := zb_inl h3
            obtain ⟨t5, h5⟩ := zcellK_inl h4
            obtain ⟨t6, h6⟩ := zcellK_inl h5
            obtain ⟨t7, h7⟩ := zb_inl h6
            obtain ⟨t8, h8⟩ := zb_inl h7
            obtain ⟨t9, h9⟩ := zb_inl h8
            obtain ⟨t10, h10⟩ := zb_inl h9
            obtain ⟨t11, h11⟩ := zb_inl h10
            obtain ⟨nt, n, n2⟩ := n0
            obtain ⟨dt, dp, dp2⟩ := dp0
            obtain ⟨st, sp, sp2⟩ := sp0
            obtain ⟨at0, x0, y0⟩ := s0
            obtain ⟨at1, x1, y1⟩ := d0
            have e1 : nt = 0 := zbeq t1
            have e2 : dt = 0 := zbeq t2
            have e3 : st = 0 := zbeq t3
            have e4 : at0 = 4 := t5
            have e5 : at1 = 4 := t6
            subst e1
            subst e2
            subst e3
            subst e4
            subst e5
            refine ⟨n, n2, dp, dp2, x1, y1, sp, sp2, x0, y0, st1, rfl, zble t4, zbeq t7, ?_, zble t9, zble t10, ?_, (Sum.inl.inj h11).symm⟩
            · cases q : Nat.beq (znth w.2.1 (w.1 - (x0 + 1))).1 100
              · have t8' : zb (Nat.beq (znth w.2.1 (w.1 - (x0 + 1))).1 100) true (Nat.beq (znth w.2.1 (w.1 - (x0 + 1))).1 103) = true := t8
                rw [q, zb_ff] at t8'
                exact Or.inr (zbeq t8')
              · exact Or.inl (zbeq q)
            · have t11' : zb (Nat.beq n 0) true (zb (znil (znth w.2.1 (w.1 - (x0 + 1))).2.2.2) (zb (znil (znth w.2.1 (w.1 - (x1 + 1))).2.2.2) (zeq (znth w.2.1 (w.1 - (x0 + 1))).2.2.1 (znth w.2.1 (w.1 - (x1 + 1))).2.2.1) false) false) = true := t11
              cases q : Nat.beq n 0
              · rw [q, zb_ff] at t11'
                obtain ⟨g1, g2⟩ := zb_and t11'
                obtain ⟨g3, g4⟩ := zb_and g2
                exact Or.inr ⟨znil_eq g1, znil_eq g3, zeq_spec g4⟩
              · exact Or.inl (zbeq q)
theorem zcpy_el {α : Type} {ad : List Nat} {b n n0 n1 sp dp : Nat} {d0 d1 : zV} {as0 as1 : zA} (mk : α → Value) {f g : Nat → α} (h4 : sp + n ≤ n0) (h5 : dp + n ≤ n1) (hz : n = 0 ∨ (as0 = [] ∧ as1 = [] ∧ d0 = d1)) (h0 : ∀ k, k < n0 → zRV ad b (zget as0 k d0) (mk (f k))) (h1 : ∀ k, k < n1 → zRV ad b (zget as1 k d1) (mk (g k))) : ∀ k, k < n1 → zRV ad b (zget as1 k d1) (mk (va_cpy f g sp dp n k)) := by
  intro k hk
  unfold va_cpy
  by_cases hj : dp ≤ k ∧ k < dp + n
  · rw [if_pos hj]
    rcases hz with z | ⟨rfl, rfl, rfl⟩
    · omega
    · exact h0 (sp + (k - dp)) (by omega)
  · rw [if_neg hj]; exact h1 k hk
theorem zs_copy (hx : p.tables.exec = Jvm.exec) (hb : c.code = cc) (hml : c.maxLocals = nL) {own : String} {index : Nat} (hown : s.vm.findClass own = some m.cls) (hlink : (Cond.methodLink own index arraycopyName).before args s = true) (hnat : (Cond.native arraycopyName).before args s = true) (hstat : (Cond.static arraycopyName).before args s = true) (hini : (Cond.initialized "java/lang/System").before args s = true) (hRf : 1 ≤ R.frames) (hRl : 30 ≤ R.locals)
    (hdg : decode cc pc = .ok (.invokestatic index, 3)) (hn : zpc rest = pc + 3) (h : zoCopy rest ls0 st0 w = Sum.inl S1) (kk : zG p l e R s m args below meth c nL D A b ad0 Q S1) : zG p l e R s m args below meth c nL D A b ad0 Q ((pc, o) :: rest, ls0, st0, w) := by
  obtain ⟨n, n2, dp, dp2, x1, y1, sp, sp2, x0, y0, st1, rfl, h8, ek, hk, h4, h5, hz, rfl⟩ := zcopy_inl h
  intro cw tys H locs ls lv st hH hext hl hL hV
  have hH : zHR D A b s w cw tys H locs := hH
  obtain ⟨hK, hP, hDw, hS, hW⟩ := hH
  obtain ⟨w1, u1, rfl, r1, V1⟩ := zVR_cons hV
  obtain ⟨w2, u2, rfl, r2, V2⟩ := zVR_cons V1
  obtain ⟨w3, u3, rfl, r3, V3⟩ := zVR_cons V2
  obtain ⟨w4, u4, rfl, r4, V4⟩ := zVR_cons V3
  obtain ⟨w5, u5, rfl, r5, V5⟩ := zVR_cons V4
  have r1 := zRV_0 r1
  have r2 := zRV_0 r2
  have r4 := zRV_0 r4
  subst r1
  subst r2
  subst r4
  rw [← zVR_cs V5] at h8
  obtain ⟨qd, ed, rfl, d1, d2, d3, d4⟩ := zcell_at hW r3
  obtain ⟨qs, es, rfl, s1, s2, s3, s4⟩ := zcell_at hW r5
  have hnw : nativeFrameWords "java/lang/System" "arraycopy" 5 = 7 := by decide
  have hset : ∀ {cA : zC}, w.2.1[w.1 - (x1 + 1)]? = some cA → zG p l e R s m args below meth c nL D A b ad0 Q (rest, ls0, st1, (w.1, w.2.1.set (w.1 - (x1 + 1)) cA, w.2.2.1, w.2.2.2)) := by
    intro cA hc
    rw [zset_self hc]
    exact kk
  rcases hk with hk | hk
  · obtain ⟨z0, c0, f, f1, f2, f3⟩ := zER_int s4 (Or.inl hk)
    obtain ⟨z1, c1, g, g1, g2, g3⟩ := zER_int d4 (Or.inl (ek.symm.trans hk))
    subst f1
    subst g1
    have f2 : (c0, FieldType.int) ∈ tys := by
      rcases f2 with ⟨-, f2⟩ | ⟨f0, -⟩ | ⟨f0, -⟩
      · exact f2
      · rw [hk] at f0; cases f0
      · rw [hk] at f0; cases f0
    have g2 : (c1, FieldType.int) ∈ tys := by
      rcases g2 with ⟨-, g2⟩ | ⟨g0, -⟩ | ⟨g0, -⟩
      · exact g2
      · rw [← ek, hk] at g0; cases g0
      · rw [← ek, hk] at g0; cases g0
    obtain ⟨t0, ht0⟩ := List.getElem?_of_mem f2
    obtain ⟨t1, ht1⟩ := List.getElem?_of_mem g2
    have q1 : (nI sp).toNatClampNeg = sp := nI_clamp (by omega)
    have q2 : (nI dp).toNatClampNeg = dp := nI_clamp (by omega)
    have q3 : (nI n).toNatClampNeg = n := nI_clamp (by omega)
    refine va_copyi hx hb (by rw [hml]; exact hl.1.symm) hown hlink hnat hstat hini hK hP hDw hS x0 x1 t0 t1 s1 d1 ht0 ht1 rfl (znI_nn (by omega)) (znI_nn (by omega)) (znI_nn (by omega)) (by rw [q1, q3]; exact h4) (by rw [q2, q3]; exact h5) (fun i _ => rfl) hRf (by rw [hnw]; omega) hdg (fun H1 locs1 hP1 hD1 hS1 => ?_)
    refine zG_set (hset d3) hK hP1 hD1 hS1 hW d1 ?_ hext hl hL V5 hn
    refine Or.inr (Or.inl ⟨z1, c1, _, rfl, Or.inl ⟨ek.symm.trans hk, g2⟩, ?_⟩)
    rw [q1, q2, q3]
    exact zcpy_el Value.int h4 h5 hz f3 g3
  · obtain ⟨z0, c0, f, f1, f2, f3⟩ := zER_long s4 hk
    obtain ⟨z1, c1, g, g1, g2, g3⟩ := zER_long d4 (ek.symm.trans hk)
    subst f1
    subst g1
    obtain ⟨t0, ht0⟩ := List.getElem?_of_mem f2
    obtain ⟨t1, ht1⟩ := List.getElem?_of_mem g2
    have q1 : (nI sp).toNatClampNeg = sp := nI_clamp (by omega)
    have q2 : (nI dp).toNatClampNeg = dp := nI_clamp (by omega)
    have q3 : (nI n).toNatClampNeg = n := nI_clamp (by omega)
    refine va_copyl hx hb (by rw [hml]; exact hl.1.symm) hown hlink hnat hstat hini hK hP hDw hS x0 x1 t0 t1 s1 d1 ht0 ht1 rfl (znI_nn (by omega)) (znI_nn (by omega)) (znI_nn (by omega)) (by rw [q1, q3]; exact h4) (by rw [q2, q3]; exact h5) (fun i _ => rfl) hRf (by rw [hnw]; omega) hdg (fun H1 locs1 hP1 hD1 hS1 => ?_)
    refine zG_set (hset d3) hK hP1 hD1 hS1 hW d1 ?_ hext hl hL V5 hn
    refine Or.inr (Or.inr (Or.inl ⟨z1, ek.symm.trans hk, c1, _, rfl, g2, ?_⟩))
    rw [q1, q2, q3]
    exact zcpy_el Value.long h4 h5 hz f3 g3
end ZI
end
section
/-! ===== calls: what holds at each invocation, and what a run of the abstract machine says of one ===== -/
def zEx : Nat → String
  | 0 => "java/lang/IllegalArgumentException"
  | 1 => "java/lang/IndexOutOfBoundsException"
  | _ => "java/util/NoSuchElementException"
def zNests : List (String × Nat × MethodName × String) := [("SpeechKeeper", 11, ⟨"SpeechKeeper$Reader", "<init>", "()V"⟩, "SpeechKeeper"), ("SpeechKeeper", 18, ⟨"SpeechKeeper$State", "<init>", "()V"⟩, "SpeechKeeper"), ("SpeechKeeper", 37, ⟨"SpeechKeeper$History", "<init>", "()V"⟩, "SpeechKeeper"), ("SpeechKeeper$Shelf", 25, ⟨"SpeechKeeper$State", "<init>", "()V"⟩, "SpeechKeeper"), ("SpeechKeeper", 51, ⟨"SpeechKeeper$Laying", "<init>", "()V"⟩, "SpeechKeeper")]
def zStrs : List (String × Nat × String) := [("SpeechKeeper$Reader", 61, "base"), ("SpeechKeeperModel", 346, "base"), ("SpeechKeeperModel", 358, "one"), ("SpeechKeeperModel", 363, "two"), ("SpeechKeeper", 350, "a number is out of range"), ("SpeechKeeper", 354, "there is no such one"), ("SpeechKeeper", 193, "one line is none and the other one is not"), ("SpeechKeeper", 338, "the slot is empty")]
/-- what lasts, beside the words that last of themselves -/
def zFx (A : Nat → Prop) (U : State) : Prop :=
  (∀ q ∈ zNests, va_Nw (.methodLinkNest q.1 q.2.1 q.2.2.1 q.2.2.2) U) ∧ (∀ e, e < 3 → va_Nw (.castable (zEx e) (zEx e)) U) ∧ (∀ e f, e < 3 → f < 3 → e ≠ f → va_Nc (zEx e) (zEx f) U) ∧ (∀ q ∈ zStrs, ∃ a, vk_R q.1 q.2.1 q.2.2 a U) ∧ va_AO RX6 U ∧
    vx_Zq Bundle.tN "UNASSIGNED_STACK" Bundle.steD A U U.heap ∧ vx_Zq Bundle.tN "SUPPRESSED_SENTINEL" Bundle.listD A U U.heap ∧ (∀ y, Cond.declares y ∈ lw_tbl → va_Nw (.declares y) U)
theorem zFx_call {A : Nat → Prop} {U : State} {g : JFrame} {mk : MethodId} {a : Array Value} (h : zFx A U) : zFx A (U.calling g mk a) := by
  obtain ⟨h1, h2, h3, h4, h5, h6, h7, h8⟩ := h
  refine ⟨fun q hq => va_Nw.same rfl rfl (h1 q hq), fun e he => va_Nw.same rfl rfl (h2 e he), fun e f he hf hn => va_Nc.moved (u := U) (Vm.Alike.refl U.vm) (h3 e f he hf hn), fun q hq => ?_, va_AO.moved (u := U) (Vm.Alike.refl U.vm) h5, vx_Zq.moved (u := U) (Vm.Alike.refl U.vm) h6, vx_Zq.moved (u := U) (Vm.Alike.refl U.vm) h7, fun y hy => va_Nw.same rfl rfl (h8 y hy)⟩
  obtain ⟨a9, ha⟩ := h4 q hq
  exact ⟨a9, vk_R.same rfl ha⟩
theorem zFx_warm {A B : Nat → Prop} {s U : State} {H : Heap} {locs : List Loc} (h : zFx A s) (hS : va_S A s.heap H locs) (hAB : ∀ q, B q → A q) (hU : U.heap = H) (hW : s.WarmedH U.vm) : zFx B U := by
  obtain ⟨h1, h2, h3, h4, h5, h6, h7, h8⟩ := h
  refine ⟨fun q hq => va_Nw.warmM hW (h1 q hq), fun e he => va_Nw.warmC hW (h2 e he), fun e f he hf hn => va_Nc.moved hW.alike (h3 e f he hf hn), fun q hq => ?_, va_AO.moved hW.alike h5, ?_, ?_, fun y hy => va_Nw.warmD hW (h8 y hy)⟩
  · obtain ⟨a9, ha⟩ := h4 q hq
    exact ⟨a9, vk_R.warm hW ha⟩
  · rw [hU]
    exact ((h6.kept (H1 := H) hS.2.1).moved hW.alike).narrow hAB
  · rw [hU]
    exact ((h7.kept (H1 := H) hS.2.1).moved hW.alike).narrow hAB
/-- before: the world, the tables, what lasts -/
def zB (D : va_G) (cw : va_W) (tys : List (ClassId × FieldType)) (sz : Nat) (U : State) : Prop := U.heap.size = sz ∧ va_P D vwCl cw U.heap ∧ va_K D vwCl tys U ∧ va_D (fun _ => True) cw ∧ zFx (va_A cw sz) U
/-- after: the world of the run's end, some cells more -/
def zAft (D : va_G) (b sz : Nat) (cw : va_W) (w' : zW) (st t : State) (cw' : va_W) : Prop := (∃ ext, zad cw' = zad cw ++ ext) ∧ va_P D vwCl cw' t.heap ∧ (∃ tys', va_K D vwCl tys' t ∧ zWR b tys' w' cw') ∧ va_D (va_A cw sz) cw' ∧ va_F (va_A cw sz) st t
def zQ (D : va_G) (b sz : Nat) (cw : va_W) (r : zR) : Array Value → State → Outcome → State → Prop := fun _ st o t => ∃ (vo : Option Value) (cw' : va_W), o = .returned vo ∧ ((r.1 = 0 ∧ vo = none) ∨ (r.1 = 1 ∧ ∃ v, vo = some v ∧ zRV (zad cw') b r.2.1 v)) ∧ zAft D b sz cw r.2.2 st t cw'
def zXC (D : va_G) (b sz : Nat) (cw : va_W) (r : zR) : String → State → State → Prop := fun E st t => r.1 = 2 ∧ E = zEx r.2.1.1 ∧ r.2.1.1 < 3 ∧ ∃ cw' : va_W, zAft D b sz cw r.2.2 st t cw'
def zRm (d : Nat) (r : zR) : Room := { frames := d, cells := r.2.2.2.2.1, slots := r.2.2.2.2.2, locals := 39 * d + 10 }
def zGd : List Cond := lw_tbl.filter goodWord
theorem zGd_good {w : Cond} (h : w ∈ zGd) : goodWord w = true := (List.mem_filter.mp h).2
theorem zGd_tbl {w : Cond} (h : w ∈ zGd) : w ∈ lw_tbl := (List.mem_filter.mp h).1
noncomputable def zat (p : Nat) (w : Cond) : Bool := zb (decide (lw_tbl[p]? = some w)) (goodWord w) false
theorem zat_mem {p : Nat} {w : Cond} (h : zat p w = true) : w ∈ zGd := by
  obtain ⟨h1, h2⟩ := zb_and h
  exact List.mem_filter.mpr ⟨List.mem_of_getElem? (of_decide_eq_true h1), h2⟩
/-- the contract of an invocation, by a run of the abstract machine -/
def zMet (l : Launch) (y : MethodName) (word : Cond) (d : Nat) (as : List zV) (w : zW) (r : zR) : Prop :=
  ∀ (D : va_G) (b sz : Nat) (cw : va_W) (tys : List (ClassId × FieldType)) (av : List Value), zWR b tys w cw → zVR (zad cw) b as av →
    vx_Met l y (word :: zGd) (zRm d r) (va_Pc av (zB D cw tys sz)) (zQ D b sz cw r) (zXC D b sz cw r) r.2.2.2.2.1 r.2.2.2.2.2 (va_A cw sz)
theorem zB_blind {D : va_G} {cw : va_W} {tys : List (ClassId × FieldType)} {sz : Nat} {av : List Value} : FrameBlind (va_Pc av (zB D cw tys sz)) := by
  intro a U g mk q
  obtain ⟨q0, q1, qP, qK, qD, qF⟩ := q
  exact ⟨q0, q1, qP, va_K.moved (u := U) (U := U.calling g mk a) (Vm.Alike.refl U.vm) qK, qD, zFx_call qF⟩
section ZC
variable {p : Program} {l : Launch} {e : Env} {R : Room} {s : State} {m : MethodId} {args : Array Value} {below : List Frame} {meth : Method} {c : Code} {Q : State → Prop} {D : va_G} {A : Nat → Prop} {b : Nat}
theorem zA_sub {cw : va_W} {H : Heap} {locs : List Loc} (hA : ∀ q, s.heap.size ≤ q → A q) (hS : va_S A s.heap H locs) (hD : va_D A cw) : ∀ q, va_A cw H.size q → A q := by
  intro q hq
  rcases hq with ⟨k, e, hk⟩ | hq
  · exact hD.2 k (q, e) hk
  · exact hA q (Nat.le_trans hS.1 hq)
theorem zpre {cw : va_W} {tys : List (ClassId × FieldType)} {H : Heap} {locs : List Loc} {av : List Value} (hF : zFx A s) (hA : ∀ q, s.heap.size ≤ q → A q) (hK : va_K D vwCl tys s) (hP : va_P D vwCl cw H) (hD : va_D A cw) (hS : va_S A s.heap H locs) : ∀ U : State, U.heap = H → s.WarmedH U.vm → va_Pc av (zB D cw tys H.size) av.toArray U := by
  intro U hU hW
  exact ⟨rfl, by rw [hU], by rw [hU]; exact hP, va_K.moved hW.alike hK, hD.weaken (fun _ _ _ _ => trivial), zFx_warm hF hS (zA_sub hA hS hD) hU hW⟩
/-- after a call: the world again, or the callee's throw -/
theorem zcall {cw : va_W} {r : zR} {H : Heap} {locs : List Loc} {cells slots mc ms pc : Nat} {ls : Array Slot} {st0 rest : List Value} {a : Array Value} (hr : vx_Run p l e R s m args below meth c H locs cells slots mc ms (F0 m pc ls st0) rest (zQ D b H.size cw r a) (zXC D b H.size cw r) (va_A cw H.size)) (hA : ∀ q, s.heap.size ≤ q → A q) (hD : va_D A cw) (hS : va_S A s.heap H locs)
    (kx : ∀ (q9 : Addr) (ce : Cell) (cw' : va_W) (tys' : List (ClassId × FieldType)) (H1 : Heap) (locs1 : List Loc), r.1 = 2 → r.2.1.1 < 3 → zHR D A b s r.2.2 cw' tys' H1 locs1 → (∃ ext, zad cw' = zad cw ++ ext) → H1[q9]? = some ce → ce.vm = .none → s.vm.findClass (zEx r.2.1.1) = some ce.cls → vx_W p l e R s m args below meth c H1 locs1 (cells + mc) (slots + ms) Q (F0 m pc ls rest) q9)
    (kk : ∀ (vo : Option Value) (cw' : va_W) (tys' : List (ClassId × FieldType)) (H1 : Heap) (locs1 : List Loc), ((r.1 = 0 ∧ vo = none) ∨ (r.1 = 1 ∧ ∃ v, vo = some v ∧ zRV (zad cw') b r.2.1 v)) → zHR D A b s r.2.2 cw' tys' H1 locs1 → (∃ ext, zad cw' = zad cw ++ ext) → W p l e R s m args below meth c H1 locs1 (cells + mc) (slots + ms) Q (F0 m (pc + 3) ls (vo.toList ++ rest))) :
    W p l e R s m args below meth c H locs cells slots Q (F0 m pc ls st0) := by
  have hf := zA_sub hA hS hD
  intro T hT X
  rcases hr T hT X with ⟨v, st₀, t, T', L, h0, X', hL, e1, e2, ⟨vo, cw', hv, hvo, hext, hP1, ⟨tys', hK1, hW1⟩, hD1, hF⟩, st⟩ | ⟨q, st₀, t, T', L, E, ce, h0, X', hL, e1, e2, ⟨hr2, hE, hE3, cw', hext, hP1, ⟨tys', hK1, hW1⟩, hD1, hF⟩, hce, hcv, hcl, st⟩
  · cases hv
    obtain ⟨k1, k2, k3⟩ := vx_keep h0 e1 hS (fun q _ h => hf q h) hf hL hF
    have hvm : s.vm.Alike t.vm := by rw [← e2]; exact X'.warmed.alike
    obtain ⟨t2, a1, b1⟩ := kk v cw' tys' T'.heap (locs ++ L) hvo ⟨va_K.moved hvm.symm hK1, by rw [e1]; exact hP1, hD1.weaken (fun _ _ _ h => hf _ h), k3, hW1⟩ hext T' rfl X'
    exact ⟨t2, st t2 a1, b1⟩
  · subst hE
    obtain ⟨k1, k2, k3⟩ := vx_keep h0 e1 hS (fun q _ h => hf q h) hf hL hF
    have hvm : s.vm.Alike t.vm := by rw [← e2]; exact X'.warmed.alike
    obtain ⟨t2, a1, b1⟩ := kx q ce cw' tys' T'.heap (locs ++ L) hr2 hE3 ⟨va_K.moved hvm.symm hK1, by rw [e1]; exact hP1, hD1.weaken (fun _ _ _ h => hf _ h), k3, hW1⟩ hext (by rw [e1]; exact hce) hcv hcl T' rfl X'
    exact ⟨t2, st.trans a1, b1⟩
end ZC
end
section
/-! ===== the instructions that call ===== -/
def zlive (o : zO) : Prop := match o with
  | .inl _ => True
  | .inr r => r.1 ≠ 9
theorem zX_live (h : zlive zX) : False := h rfl
theorem zb_live {c : Bool} {o : zO} (h : zlive (zb c o zX)) : c = true ∧ zlive o := by
  cases c
  · exact (zX_live h).elim
  · exact ⟨rfl, h⟩
theorem zpopK_spec {K : List zV → List zV → zO} : ∀ (n : Nat) (st acc : List zV), zlive (zpopK n st acc K) → ∃ xs st', st = xs ++ st' ∧ xs.length = n ∧ zpopK n st acc K = K (xs.reverse ++ acc) st'
  | 0, st, acc, _ => ⟨[], st, rfl, rfl, rfl⟩
  | n + 1, [], acc, h => (zX_live h).elim
  | n + 1, x :: st, acc, h => by
    have e : zpopK (n + 1) (x :: st) acc K = zpopK n st (x :: acc) K := rfl
    rw [e] at h
    obtain ⟨xs, st', h1, h2, h3⟩ := zpopK_spec n st (x :: acc) h
    refine ⟨x :: xs, st', by rw [h1]; rfl, by rw [List.length_cons, h2], ?_⟩
    rw [e, h3, List.reverse_cons, List.append_assoc]; rfl
theorem zVR_app {ad : List Nat} {b : Nat} : ∀ {xs ys : List zV} {vs : List Value}, zVR ad b (xs ++ ys) vs → ∃ v1 v2, vs = v1 ++ v2 ∧ zVR ad b xs v1 ∧ zVR ad b ys v2
  | [], _, vs, h => ⟨[], vs, rfl, trivial, h⟩
  | x :: xs, ys, vs, h => by
    obtain ⟨v, r, rfl, h1, h2⟩ := zVR_cons (h := x) (t := xs ++ ys) h
    obtain ⟨v1, v2, rfl, h3, h4⟩ := zVR_app h2
    exact ⟨v :: v1, v2, rfl, zVc h1 h3, h4⟩
theorem zVR_append {ad : List Nat} {b : Nat} : ∀ {xs ys : List zV} {vs ws : List Value}, zVR ad b xs vs → zVR ad b ys ws → zVR ad b (xs ++ ys) (vs ++ ws)
  | [], _, vs, _, h1, h2 => by rw [zVR_nil h1]; exact h2
  | x :: xs, ys, vs, ws, h1, h2 => by
    obtain ⟨v, r, rfl, h3, h4⟩ := zVR_cons h1
    exact zVc h3 (zVR_append h4 h2)
theorem zVR_rev {ad : List Nat} {b : Nat} : ∀ {xs : List zV} {vs : List Value}, zVR ad b xs vs → zVR ad b xs.reverse vs.reverse
  | [], vs, h => by rw [zVR_nil h]; trivial
  | x :: xs, vs, h => by
    obtain ⟨v, r, rfl, h1, h2⟩ := zVR_cons h
    rw [List.reverse_cons, List.reverse_cons]
    exact zVR_append (zVR_rev h2) (zVc h1 trivial)
theorem zVR_len {ad : List Nat} {b : Nat} : ∀ {xs : List zV} {vs : List Value}, zVR ad b xs vs → vs.length = xs.length
  | [], vs, h => by rw [zVR_nil h]; rfl
  | x :: xs, vs, h => by
    obtain ⟨v, r, rfl, h1, h2⟩ := zVR_cons h
    rw [List.length_cons, List.length_cons, zVR_len h2]
theorem zcellK_live {w : zW} {v : zV} {K : Nat → Nat → Nat → zV → zA → zO} (h : zlive (zcellK w v K)) : v.1 = 4 ∧ zcellK w v K = K (w.1 - (v.2.1 + 1)) (znth w.2.1 (w.1 - (v.2.1 + 1))).1 (znth w.2.1 (w.1 - (v.2.1 + 1))).2.1 (znth w.2.1 (w.1 - (v.2.1 + 1))).2.2.1 (znth w.2.1 (w.1 - (v.2.1 + 1))).2.2.2 := by
  have e : zcellK w v K = zb (Nat.beq v.1 4) (K (w.1 - (v.2.1 + 1)) (znth w.2.1 (w.1 - (v.2.1 + 1))).1 (znth w.2.1 (w.1 - (v.2.1 + 1))).2.1 (znth w.2.1 (w.1 - (v.2.1 + 1))).2.2.1 (znth w.2.1 (w.1 - (v.2.1 + 1))).2.2.2) zX := by
    unfold zcellK
    rw [zfN_eq, zfC_eq]
  rw [e] at h ⊢
  obtain ⟨h1, h2⟩ := zb_live h
  exact ⟨zbeq h1, by rw [h1, zb_tt]⟩
theorem zrecv_spec {kd rc : Nat} {w : zW} {as : List zV} {k : zO} (h : zlive (zrecv kd rc w as k)) : zrecv kd rc w as k = k ∧ (kd = 1 ∨ kd = 4 ∨ ∃ (x x2 : Nat) (t : List zV), as = (4, x, x2) :: t ∧ (kd = 0 → (znth w.2.1 (w.1 - (x + 1))).1 = rc)) := by
  cases q1 : Nat.beq kd 1
  · cases q4 : Nat.beq kd 4
    · cases as with
      | nil =>
        have e : zrecv kd rc w [] k = zb (Nat.beq kd 1) k (zb (Nat.beq kd 4) k zX) := rfl
        rw [e, q1, q4] at h
        exact (zX_live h).elim
      | cons r t =>
        have e : zrecv kd rc w (r :: t) k = zb (Nat.beq kd 1) k (zb (Nat.beq kd 4) k (zcellK w r (fun _ ck _ _ _ => zb (Nat.beq kd 0) (zb (Nat.beq ck rc) k zX) k))) := rfl
        rw [e, q1, q4, zb_ff, zb_ff] at h
        rw [e, q1, q4, zb_ff, zb_ff]
        obtain ⟨g1, g2⟩ := zcellK_live h
        rw [g2] at h ⊢
        obtain ⟨rt, x, x2⟩ := r
        have g1 : rt = 4 := g1
        subst g1
        cases q0 : Nat.beq kd 0
        · exact ⟨rfl, Or.inr (Or.inr ⟨x, x2, t, rfl, fun z => by rw [z] at q0; exact Bool.noConfusion q0⟩)⟩
        · simp only [] at h ⊢
          rw [q0, zb_tt] at h
          obtain ⟨g3, g4⟩ := zb_live h
          refine ⟨?_, Or.inr (Or.inr ⟨x, x2, t, rfl, fun _ => zbeq g3⟩)⟩
          show zb true (zb (Nat.beq (znth w.2.1 (w.1 - (x + 1))).1 rc) k zX) k = k
          have g3 : Nat.beq (znth w.2.1 (w.1 - (x + 1))).1 rc = true := g3
          rw [zb_tt, g3, zb_tt]
    · have e : zrecv kd rc w as k = zb (Nat.beq kd 1) k (zb (Nat.beq kd 4) k _) := rfl
      rw [e, q1, q4]
      exact ⟨rfl, Or.inr (Or.inl (zbeq q4))⟩
  · have e : zrecv kd rc w as k = zb (Nat.beq kd 1) k (zb (Nat.beq kd 4) k _) := rfl
    rw [e, q1]
    exact ⟨rfl, Or.inl (zbeq q1)⟩
/-- what goes on after a call -/
noncomputable def zpost (rest : List zE) (ls0 : zA) (st1 : List zV) (w : zW) (full : List zE) (hs : List Nat) (r : zR) : zO :=
  zb (Nat.beq r.1 0) (Sum.inl (rest, ls0, st1, (r.2.2.1, r.2.2.2.1, w.2.2.1 + r.2.2.2.2.1, w.2.2.2 + r.2.2.2.2.2)))
    (zb (Nat.beq r.1 1) (Sum.inl (rest, ls0, r.2.1 :: st1, (r.2.2.1, r.2.2.2.1, w.2.2.1 + r.2.2.2.2.1, w.2.2.2 + r.2.2.2.2.2)))
    (zb (Nat.beq r.1 2) (zhand ls0 full hs r.2.1 (r.2.2.1, r.2.2.2.1, w.2.2.1 + r.2.2.2.2.1, w.2.2.2 + r.2.2.2.2.2)) zX))
theorem zinv_spec {rest : List zE} {ls0 : zA} {st0 : List zV} {w : zW} {rec : Nat → List zV → zW → zR} {full : List zE} {a n kd rc : Nat} {hs : List Nat} (h : zlive (zoInvoke rest ls0 st0 w rec full a n (kd :: rc :: hs))) :
    ∃ (xs st1 : List zV), st0 = xs ++ st1 ∧ xs.length = n ∧ zcs st1 ≤ 8 ∧ (kd = 1 ∨ kd = 4 ∨ ∃ (x x2 : Nat) (t : List zV), xs.reverse = (4, x, x2) :: t ∧ (kd = 0 → (znth w.2.1 (w.1 - (x + 1))).1 = rc)) ∧
      zoInvoke rest ls0 st0 w rec full a n (kd :: rc :: hs) = zpost rest ls0 st1 w full hs (rec a xs.reverse (w.1, w.2.1, 0, 0)) := by
  unfold zoInvoke at h ⊢
  simp only [] at h ⊢
  obtain ⟨xs, st1, h1, h2, h3⟩ := zpopK_spec _ _ _ h
  rw [h3] at h ⊢
  rw [List.append_nil] at h ⊢
  obtain ⟨h4, h5⟩ := zb_live h
  obtain ⟨h6, h7⟩ := zrecv_spec h5
  refine ⟨xs, st1, h1, h2, zble h4, h7, ?_⟩
  rw [h4, zb_tt, h6]
  simp only [zfW_eq, zfR_eq, zfN_eq, zfV_eq]
  rfl
/-- a place of a call, by the tables' words -/
def zSite (own : String) (cc : ByteArray) (pc kd rc n : Nat) (y : MethodName) (word : Cond) : Prop :=
  ∃ (index : Nat) (bytes : ByteArray) (maxL : Nat) (ret : Option FieldType), maxL ≤ 20 ∧ (y.cls ≠ "java/lang/invoke/MethodHandle" ∧ y.cls ≠ "java/lang/invoke/VarHandle") ∧ Cond.initialized y.cls ∈ zGd ∧ word ∈ zGd ∧
    ((kd = 0 ∧ word = Cond.code y bytes maxL ret ∧ decode cc pc = .ok (.invokevirtual index, 3) ∧ Cond.methodLink own index y ∈ zGd ∧ Cond.instanceMethod y ∈ zGd ∧ Cond.selects y.cls y y ∈ zGd ∧ (parseMethodDescriptor y.desc).map (fun d => d.parameters.length + 1) = some n ∧ ∃ q, vwCl[rc]? = some q ∧ q.1 = y.cls ∧ rc < 100) ∨
     (kd = 1 ∧ word = Cond.code y bytes maxL ret ∧ decode cc pc = .ok (.invokestatic index, 3) ∧ Cond.methodLink own index y ∈ zGd ∧ Cond.static y ∈ zGd ∧ (parseMethodDescriptor y.desc).map (fun d => d.parameters.length) = some n) ∨
     (kd = 2 ∧ ret = none ∧ word = Cond.code y bytes maxL ret ∧ decode cc pc = .ok (.invokespecial index, 3) ∧ Cond.methodLink own index y ∈ zGd ∧ y.name = "<init>" ∧ Cond.instanceMethod y ∈ zGd ∧ (parseMethodDescriptor y.desc).map (fun d => d.parameters.length + 1) = some n) ∨
     (kd = 3 ∧ ret = none ∧ word = Cond.code y bytes maxL ret ∧ decode cc pc = .ok (.invokespecial index, 3) ∧ (∃ host, (own, index, y, host) ∈ zNests) ∧ y.name = "<init>" ∧ Cond.instanceMethod y ∈ zGd ∧ (parseMethodDescriptor y.desc).map (fun d => d.parameters.length + 1) = some n) ∨
     (kd = 4 ∧ ∃ hh, word = Cond.codeWith y bytes maxL ret hh ∧ decode cc pc = .ok (.invokestatic index, 3) ∧ Cond.methodLink own index y ∈ zGd ∧ Cond.static y ∈ zGd ∧ (parseMethodDescriptor y.desc).map (fun d => d.parameters.length) = some n))
theorem zparams {y : MethodName} {n k : Nat} (h : (parseMethodDescriptor y.desc).map (fun d => d.parameters.length + k) = some n) {j : Nat} (hj : j + k = n) : ∀ sig, parseMethodDescriptor y.desc = some sig → j = sig.parameters.length := by
  intro sig hs
  rw [hs] at h
  have h2 : sig.parameters.length + k = n := Option.some.inj h
  omega
section ZK
variable {p : Program} {l : Launch} {e : Env} {R : Room} {s : State} {m : MethodId} {args : Array Value} {below : List Frame} {meth : Method} {c : Code} {Q : State → Prop} {D : va_G} {A : Nat → Prop} {b : Nat}
theorem zpay (hts : ∀ w ∈ zGd, w.before args s = true) {word : Cond} (hw : word ∈ zGd) : ∀ w ∈ word :: zGd, ∀ (a' : Array Value) (U : State), s.WarmedH U.vm → w.before a' U = true := by
  refine pay_in hts (fun w h => ?_)
  rcases List.mem_cons.mp h with rfl | h
  · exact ⟨hw, good_of_word (zGd_good hw)⟩
  · exact ⟨h, good_of_word (zGd_good h)⟩
theorem zrunof {cc : ByteArray} {nL : Nat} {own : String} (hx : p.tables.exec = Jvm.exec) (hb : c.code = cc) (hml : c.maxLocals = nL) (hown : s.vm.findClass own = some m.cls) (hts : ∀ w ∈ zGd, w.before args s = true) (hF : zFx A s) (hA : ∀ q, s.heap.size ≤ q → A q)
    {pc kd rc n d : Nat} {y : MethodName} {word : Cond} (hsite : zSite own cc pc kd rc n y word) (hRf : d + 1 ≤ R.frames) (hRl : 39 * (d + 1) + 10 ≤ R.locals)
    {w : zW} {cw : va_W} {tys : List (ClassId × FieldType)} {H : Heap} {locs : List Loc} {xs : List zV} {r : zR} (hM : zMet l y word d xs.reverse (w.1, w.2.1, 0, 0) r) (hH : zHR D A b s w cw tys H locs)
    (hxs : xs.length = n) (hrec : kd = 1 ∨ kd = 4 ∨ ∃ (x x2 : Nat) (t : List zV), xs.reverse = (4, x, x2) :: t ∧ (kd = 0 → (znth w.2.1 (w.1 - (x + 1))).1 = rc)) {vs st2 : List Value} (hvs : zVR (zad cw) b xs vs) (hst : (st2.map fun v => v.category).sum ≤ 8)
    {ls : Array Slot} (hls : ls.size = nL) {cells slots : Nat} (hfit : cells + r.2.2.2.2.1 ≤ R.cells ∧ slots + r.2.2.2.2.2 ≤ R.slots) :
    vx_Run p l e R s m args below meth c H locs cells slots r.2.2.2.2.1 r.2.2.2.2.2 (F0 m pc ls (vs ++ st2)) st2 (zQ D b H.size cw r #[]) (zXC D b H.size cw r) (va_A cw H.size) := by
  obtain ⟨hK, hP, hDw, hS, hW⟩ := hH
  have S : CallFix p m c cc nL s args zGd own := ⟨hx, hb, hml, hown, hts⟩
  have hMet := hM D b H.size cw tys vs.reverse (show zWR b tys (w.1, w.2.1, 0, 0) cw from hW) (zVR_rev hvs)
  have hpr := zpre (av := vs.reverse) hF hA hK hP hDw hS
  have hvl := zVR_len hvs
  obtain ⟨index, bytes, maxL, ret, hmx, hy, hini, hwg, hk⟩ := hsite
  have hlo : 8 + (maxL + 11) + (zRm d r).locals ≤ R.locals := by show 8 + (maxL + 11) + (39 * d + 10) ≤ R.locals; omega
  have cb : ∀ {N : Nat}, Cond.code y bytes maxL ret ∈ word :: zGd → (∀ sig, parseMethodDescriptor y.desc = some sig → N = sig.parameters.length) → (Cond.methodLink own index y) ∈ zGd → CallB R s args own index y bytes maxL ret (word :: zGd) (zRm d r) r.2.2.2.2.1 r.2.2.2.2.2 N := by
    intro N h1 h2 h3
    exact ⟨rfl, rfl, hRf, hlo, zpay hts hwg, h1, hts _ ((List.mem_cons.mp h1).elim (fun z => by rw [z]; exact hwg) id), hts _ hini, hy, h2, hts _ h3⟩
  have recv : ∀ {x x2 : Nat} {t : List zV}, xs.reverse = (4, x, x2) :: t → ∃ (q : Nat) (e0 : va_E) (As : List Value), vs.reverse = .ref q :: As ∧ vs ++ st2 = As.reverse ++ .ref q :: st2 ∧ As.length + 1 = n ∧ cw[x]? = some (q, e0) ∧ zER (zad cw) b tys (znth w.2.1 (w.1 - (x + 1))) e0 := by
    intro x x2 t ht
    have h1 := zVR_rev hvs
    rw [ht] at h1
    obtain ⟨v, As, h2, h3, h4⟩ := zVR_cons h1
    obtain ⟨q, e0, rfl, g1, g2, g3, g4⟩ := zcell_at hW h3
    refine ⟨q, e0, As, h2, ?_, ?_, g1, g4⟩
    · have h5 : vs = (Value.ref q :: As).reverse := by rw [← h2, List.reverse_reverse]
      rw [h5, List.reverse_cons, List.append_assoc]; rfl
    · have h6 : vs.reverse.length = As.length + 1 := by rw [h2]; rfl
      rw [List.length_reverse] at h6
      omega
  rcases hk with ⟨rfl, rfl, hdg, h1, h2, h3, h4, q, h5, h6, h7⟩ | ⟨rfl, rfl, hdg, h1, h2, h4⟩ | ⟨rfl, rfl, rfl, hdg, h1, h2, h3, h4⟩ | ⟨rfl, rfl, rfl, hdg, ⟨host, h1⟩, h2, h3, h4⟩ | ⟨rfl, hh, rfl, hdg, h1, h2, h4⟩
  · rcases hrec with z | z | ⟨x, x2, t, ht, hck⟩
    · cases z
    · cases z
    · obtain ⟨qa, e0, As, k1, k2, k3, k4, k5⟩ := recv ht
      have hc := hck rfl
      obtain ⟨fs, q', r1, r2, r3, r4, r5⟩ := zER_obj k5 (by rw [hc]; exact h7)
      rw [hc] at r1 r2
      obtain rfl := Option.some.inj (h5.symm.trans r2)
      subst r1
      rw [k1] at hMet hpr
      rw [k2]
      have hcell := va_recv hK hP h5 k4
      rw [h6] at hcell
      exact vx_runV (As := As) (b := qa) S hMet ⟨cb List.mem_cons_self (zparams h4 k3) h1, hts _ h2, hts _ h3⟩ ⟨zB_blind, hcell, hpr⟩ rfl rfl hls rfl (lv_room hst) hdg hfit
  · have k3 : vs.reverse.length = n := by rw [List.length_reverse, hvl, hxs]
    have k2 : vs ++ st2 = vs.reverse.reverse ++ st2 := by rw [List.reverse_reverse]
    rw [k2]
    exact vx_runS (As := vs.reverse) S hMet ⟨cb List.mem_cons_self (zparams (k := 0) h4 k3) h1, hts _ h2⟩ ⟨zB_blind, hpr⟩ rfl rfl hls rfl (lv_room hst) hdg hfit
  · rcases hrec with z | z | ⟨x, x2, t, ht, hck⟩
    · cases z
    · cases z
    · obtain ⟨qa, e0, As, k1, k2, k3, k4, k5⟩ := recv ht
      rw [k1] at hMet hpr
      rw [k2]
      exact vx_runI (As := As) (b := qa) S hMet ⟨cb List.mem_cons_self (zparams h4 k3) h1, h2, hts _ h3⟩ ⟨zB_blind, hpr⟩ rfl rfl hls rfl (lv_room hst) hdg hfit
  · rcases hrec with z | z | ⟨x, x2, t, ht, hck⟩
    · cases z
    · cases z
    · obtain ⟨qa, e0, As, k1, k2, k3, k4, k5⟩ := recv ht
      rw [k1] at hMet hpr
      rw [k2]
      exact vx_runIN (As := As) (b := qa) S hMet ⟨⟨⟨rfl, rfl, hRf, hlo, zpay hts hwg, List.mem_cons_self⟩, hts _ hwg, hts _ hini, hy, zparams h4 k3, va_Nw.use rfl (hF.1 _ h1)⟩, h2, hts _ h3⟩ ⟨zB_blind, hpr⟩ rfl rfl hls rfl (lv_room hst) hdg hfit
  · have k3 : vs.reverse.length = n := by rw [List.length_reverse, hvl, hxs]
    have k2 : vs ++ st2 = vs.reverse.reverse ++ st2 := by rw [List.reverse_reverse]
    rw [k2]
    exact vx_runSX (As := vs.reverse) S hMet ⟨⟨rfl, rfl, hRf, hlo, zpay hts hwg, List.mem_cons_self⟩, hts _ hwg, hts _ hini, hy, zparams (k := 0) h4 k3, hts _ h1, hts _ h2⟩ ⟨zB_blind, hpr⟩ rfl rfl hls rfl (lv_room hst) hdg hfit
end ZK
end
section
/-! ===== after a call, and a method's ends ===== -/
def zRow (own : String) (x : ExceptionTableEntry) (pc e1 t1 : Nat) : Prop := covers x pc = true ∧ x.catchType ≠ 0 ∧ Cond.classLink own x.catchType (zEx e1) ∈ zGd ∧ x.handlerPc = t1 ∧ e1 < 3
def zHd (own : String) (tb : List ExceptionTableEntry) (pc : Nat) (hs : List Nat) : Prop := (hs = [] ∧ tb = []) ∨ (∃ e1 t1 x suf, hs = [e1, t1] ∧ tb = x :: suf ∧ zRow own x pc e1 t1) ∨ (∃ e1 t1 e2 t2 x x2 suf, hs = [e1, t1, e2, t2] ∧ tb = x :: x2 :: suf ∧ zRow own x pc e1 t1 ∧ zRow own x2 pc e2 t2)
theorem zR_kind {r : zR} {a b c : zO} {o : zO} (h : zb (Nat.beq r.1 0) a (zb (Nat.beq r.1 1) b (zb (Nat.beq r.1 2) c zX)) = o) (ho : zlive o) : (r.1 = 0 ∧ a = o) ∨ (r.1 = 1 ∧ b = o) ∨ (r.1 = 2 ∧ c = o) := by
  cases q : Nat.beq r.1 0
  · rw [q, zb_ff] at h
    cases q1 : Nat.beq r.1 1
    · rw [q1, zb_ff] at h
      rw [← h] at ho
      obtain ⟨g1, -⟩ := zb_live ho
      rw [g1, zb_tt] at h
      exact Or.inr (Or.inr ⟨zbeq g1, h⟩)
    · rw [q1, zb_tt] at h
      exact Or.inr (Or.inl ⟨zbeq q1, h⟩)
  · rw [q, zb_tt] at h
    exact Or.inl ⟨zbeq q, h⟩
section ZE
variable {p : Program} {l : Launch} {e : Env} {R : Room} {s : State} {m : MethodId} {args : Array Value} {below : List Frame} {meth : Method} {c : Code} {Q : State → Prop} {nL : Nat} {D : va_G} {A : Nat → Prop} {b : Nat} {ad0 : List Nat} {cc : ByteArray} {pc : Nat} {o : Nat × Nat × Nat × List Nat} {rest : List zE} {ls0 : zA} {st0 : List zV} {w : zW} {S1 : zS}
theorem zext {ad0 : List Nat} {cw cw' : va_W} (h1 : ∃ ext, zad cw = ad0 ++ ext) (h2 : ∃ ext, zad cw' = zad cw ++ ext) : ∃ ext, zad cw' = ad0 ++ ext := by
  obtain ⟨e1, h1⟩ := h1
  obtain ⟨e2, h2⟩ := h2
  exact ⟨e1 ++ e2, by rw [h2, h1, List.append_assoc]⟩
theorem zs_inv (hx : p.tables.exec = Jvm.exec) (hb : c.code = cc) (hml : c.maxLocals = nL) {own : String} (hown : s.vm.findClass own = some m.cls) (hts : ∀ w ∈ zGd, w.before args s = true) (hF : zFx A s) (hA : ∀ q, s.heap.size ≤ q → A q)
    {kd rc n d a : Nat} {hs : List Nat} {y : MethodName} {word : Cond} {rec : Nat → List zV → zW → zR} {full : List zE} (hsite : zSite own cc pc kd rc n y word) (hRf : d + 1 ≤ R.frames) (hRl : 39 * (d + 1) + 10 ≤ R.locals)
    (hrec : ∀ (as : List zV) (w : zW), (rec a as w).1 ≠ 9 → zMet l y word d as w (rec a as w)) (hhd : zHd own c.exceptionTable.toList pc hs)
    (hn : zpc rest = pc + 3) (h : zoInvoke rest ls0 st0 w rec full a n (kd :: rc :: hs) = Sum.inl S1) (hcs : S1.2.2.2.2.2.1 ≤ R.cells ∧ S1.2.2.2.2.2.2 ≤ R.slots) (kk : zG p l e R s m args below meth c nL D A b ad0 Q S1) : zG p l e R s m args below meth c nL D A b ad0 Q ((pc, o) :: rest, ls0, st0, w) := by
  obtain ⟨xs, st1, rfl, hxs, h8, hrc, heq⟩ := zinv_spec (h := by rw [h]; trivial)
  rw [h] at heq
  have hr9 : (rec a xs.reverse (w.1, w.2.1, 0, 0)).1 ≠ 9 := by
    rcases zR_kind heq.symm trivial with ⟨z, -⟩ | ⟨z, -⟩ | ⟨z, -⟩ <;> rw [z] <;> decide
  have hM := hrec _ _ hr9
  generalize hR' : rec a xs.reverse (w.1, w.2.1, 0, 0) = r at heq hM hr9
  intro cw tys H locs ls lv st hH hext hl hL hV
  have hH : zHR D A b s w cw tys H locs := hH
  obtain ⟨vs, st2, rfl, hv1, hv2⟩ := zVR_app (xs := xs) (ys := st1) hV
  have hL : zLR (zad cw) b ls0 lv := hL
  have hst : (st2.map fun v => v.category).sum ≤ 8 := by rw [zVR_cs hv2]; exact h8
  have hfit : w.2.2.1 + r.2.2.2.2.1 ≤ R.cells ∧ w.2.2.2 + r.2.2.2.2.2 ≤ R.slots := by
    rcases zR_kind heq.symm trivial with ⟨-, z⟩ | ⟨-, z⟩ | ⟨-, z⟩
    · rw [← Sum.inl.inj z] at hcs; exact hcs
    · rw [← Sum.inl.inj z] at hcs; exact hcs
    · have hw : S1.2.2.2 = (r.2.2.1, r.2.2.2.1, w.2.2.1 + r.2.2.2.2.1, w.2.2.2 + r.2.2.2.2.2) := by
        rcases hhd with ⟨rfl, -⟩ | ⟨e1, t1, x, suf, rfl, -, -⟩ | ⟨e1, t1, e2, t2, x, x2, suf, rfl, -, -, -⟩
        · cases z
        · have z : zb (Nat.beq e1 r.2.1.1) (zgo full t1 ls0 [(9, 0, 0)] (r.2.2.1, r.2.2.2.1, w.2.2.1 + r.2.2.2.2.1, w.2.2.2 + r.2.2.2.2.2)) zX = Sum.inl S1 := z
          obtain ⟨-, z⟩ := zb_inl z
          obtain ⟨rfl, -⟩ := zgo_inl z
          rfl
        · have z : zb (Nat.beq e1 r.2.1.1) (zgo full t1 ls0 [(9, 0, 0)] (r.2.2.1, r.2.2.2.1, w.2.2.1 + r.2.2.2.2.1, w.2.2.2 + r.2.2.2.2.2)) (zb (Nat.beq e2 r.2.1.1) (zgo full t2 ls0 [(9, 0, 0)] (r.2.2.1, r.2.2.2.1, w.2.2.1 + r.2.2.2.2.1, w.2.2.2 + r.2.2.2.2.2)) zX) = Sum.inl S1 := z
          cases q : Nat.beq e1 r.2.1.1
          · rw [q, zb_ff] at z
            obtain ⟨-, z⟩ := zb_inl z
            obtain ⟨rfl, -⟩ := zgo_inl z
            rfl
          · rw [q, zb_tt] at z
            obtain ⟨rfl, -⟩ := zgo_inl z
            rfl
      rw [hw] at hcs
      exact hcs
  have hrun := zrunof (e := e) (below := below) (meth := meth) hx hb hml hown hts hF hA hsite hRf hRl hM hH hxs hrc hv1 hst hl.1 hfit
  obtain ⟨hK, hP, hDw, hS, hW⟩ := id hH
  show W p l e R s m args below meth c H locs w.2.2.1 w.2.2.2 Q (F0 m pc ls (vs ++ st2))
  refine zcall hrun hA hDw hS (fun q9 ce cw' tys' H1 locs1 hr2 hr3 hH1 hext1 hce hcv hcl => ?_) (fun vo cw' tys' H1 locs1 hvo hH1 hext1 => ?_)
  · rcases zR_kind heq.symm trivial with ⟨z, -⟩ | ⟨z, -⟩ | ⟨-, z⟩
    · rw [z] at hr2; cases hr2
    · rw [z] at hr2; cases hr2
    · have hgo : ∀ {t : Nat}, zgo full t ls0 [(9, 0, 0)] (r.2.2.1, r.2.2.2.1, w.2.2.1 + r.2.2.2.2.1, w.2.2.2 + r.2.2.2.2.2) = Sum.inl S1 → W p l e R s m args below meth c H1 locs1 (w.2.2.1 + r.2.2.2.2.1) (w.2.2.2 + r.2.2.2.2.2) Q (F0 m t ls [.ref q9]) := by
        intro t ht
        obtain ⟨hS1, g⟩ := zgo_inl ht
        subst hS1
        have k := kk cw' tys' H1 locs1 ls lv [.ref q9] hH1 (zext hext hext1) hl (by obtain ⟨x, hx1⟩ := hext1; rw [hx1]; exact zLR_mono hL) (zVc ⟨q9, rfl⟩ trivial)
        rw [← g]
        exact k
      rcases hhd with ⟨rfl, -⟩ | ⟨e1, t1, x, suf, rfl, htb, h1, h2, h3, h4, h5⟩ | ⟨e1, t1, e2, t2, x, x2, suf, rfl, htb, ⟨h1, h2, h3, h4, h5⟩, ⟨i1, i2, i3, i4, i5⟩⟩
      · cases z
      · have z : zb (Nat.beq e1 r.2.1.1) (zgo full t1 ls0 [(9, 0, 0)] (r.2.2.1, r.2.2.2.1, w.2.2.1 + r.2.2.2.2.1, w.2.2.2 + r.2.2.2.2.2)) zX = Sum.inl S1 := z
        obtain ⟨z1, z⟩ := zb_inl z
        have z1 : e1 = r.2.1.1 := zbeq z1
        rw [← z1] at hcl
        refine vx_catch hown [] x suf htb (fun z hz => by cases hz) h1 h2 (hts _ h3) (va_Nw.use rfl (hF.2.1 e1 h5)) hce hcv hcl ?_
        rw [h4]
        exact hgo z
      · have z : zb (Nat.beq e1 r.2.1.1) (zgo full t1 ls0 [(9, 0, 0)] (r.2.2.1, r.2.2.2.1, w.2.2.1 + r.2.2.2.2.1, w.2.2.2 + r.2.2.2.2.2)) (zb (Nat.beq e2 r.2.1.1) (zgo full t2 ls0 [(9, 0, 0)] (r.2.2.1, r.2.2.2.1, w.2.2.1 + r.2.2.2.2.1, w.2.2.2 + r.2.2.2.2.2)) zX) = Sum.inl S1 := z
        cases q : Nat.beq e1 r.2.1.1
        · rw [q, zb_ff] at z
          obtain ⟨z1, z⟩ := zb_inl z
          have z1 : e2 = r.2.1.1 := zbeq z1
          have hne : e2 ≠ e1 := fun q2 => by rw [← z1, q2, Nat.beq_refl] at q; cases q
          rw [← z1] at hcl
          refine vx_catch hown [x] x2 suf htb (fun z hz => ?_) i1 i2 (hts _ i3) (va_Nw.use rfl (hF.2.1 e2 i5)) hce hcv hcl ?_
          · rw [List.mem_singleton.mp hz]
            exact Or.inr ⟨h2, zEx e1, hts _ h3, hF.2.2.1 e2 e1 i5 h5 hne⟩
          · rw [i4]
            exact hgo z
        · rw [q, zb_tt] at z
          have z1 : e1 = r.2.1.1 := zbeq q
          rw [← z1] at hcl
          refine vx_catch hown [] x (x2 :: suf) htb (fun z hz => by cases hz) h1 h2 (hts _ h3) (va_Nw.use rfl (hF.2.1 e1 h5)) hce hcv hcl ?_
          rw [h4]
          exact hgo z
  · have hL1 : zLR (zad cw') b ls0 lv := by obtain ⟨x, hx1⟩ := hext1; rw [hx1]; exact zLR_mono hL
    have hV1 : zVR (zad cw') b st1 st2 := by obtain ⟨x, hx1⟩ := hext1; rw [hx1]; exact zVR_mono hv2
    rcases hvo with ⟨z0, rfl⟩ | ⟨z1, v, rfl, hv⟩
    · rcases zR_kind heq.symm trivial with ⟨z, z2⟩ | ⟨z, -⟩ | ⟨z, -⟩
      · obtain rfl := Sum.inl.inj z2
        have k := kk cw' tys' H1 locs1 ls lv st2 hH1 (zext hext hext1) hl hL1 hV1
        rw [← hn]
        exact k
      · rw [z0] at z; cases z
      · rw [z0] at z; cases z
    · rcases zR_kind heq.symm trivial with ⟨z, -⟩ | ⟨z, z2⟩ | ⟨z, -⟩
      · rw [z1] at z; cases z
      · obtain rfl := Sum.inl.inj z2
        have k := kk cw' tys' H1 locs1 ls lv (v :: st2) hH1 (zext hext hext1) hl hL1 (zVc hv hV1)
        rw [← hn]
        exact k
      · rw [z1] at z; cases z
end ZE
end
section
/-! ===== a method's ends ===== -/
def zNm : List String := ["java/lang/RuntimeException", "java/lang/Exception"]
def zatW (e : Nat) (w : Cond) : Bool := goodWord w || (match w with
  | .declares _ => true
  | .castable a b => decide (a = zEx e) && decide (b = zEx e)
  | _ => false)
def zatOk (own : String) (ic e : Nat) : Bool := (vx_atS own ic (zEx e) zNm).all (fun w => decide (w ∈ lw_tbl) && zatW e w)
theorem zatW_cases {e : Nat} {w : Cond} (h : zatW e w = true) : goodWord w = true ∨ (∃ y, w = .declares y) ∨ w = .castable (zEx e) (zEx e) := by
  unfold zatW at h
  rcases Bool.or_eq_true_iff.mp h with h | h
  · exact Or.inl h
  · split at h
    · exact Or.inr (Or.inl ⟨_, rfl⟩)
    · obtain ⟨h1, h2⟩ := Bool.and_eq_true_iff.mp h
      rw [of_decide_eq_true h1, of_decide_eq_true h2]
      exact Or.inr (Or.inr rfl)
    · cases h
theorem zat_all {own : String} {ic e : Nat} {A : Nat → Prop} {s : State} {args : Array Value} (h : zatOk own ic e = true) (he : e < 3) (hts : ∀ w ∈ zGd, w.before args s = true) (hF : zFx A s) : ∀ w ∈ vx_atS own ic (zEx e) zNm, w.before args s = true := by
  intro w hw
  obtain ⟨h1, h2⟩ := Bool.and_eq_true_iff.mp (List.all_eq_true.mp h w hw)
  have h1 : w ∈ lw_tbl := of_decide_eq_true h1
  rcases zatW_cases h2 with g | ⟨y, rfl⟩ | rfl
  · exact hts w (List.mem_filter.mpr ⟨h1, g⟩)
  · exact va_Nw.use rfl (hF.2.2.2.2.2.2.2 y h1)
  · exact va_Nw.use rfl (hF.2.1 e he)
theorem zat_ot {own : String} {ic e : Nat} (h : zatOk own ic e = true) : ∀ w ∈ vx_atS own ic (zEx e) zNm, vx_ot w = true := by
  intro w hw
  obtain ⟨-, h2⟩ := Bool.and_eq_true_iff.mp (List.all_eq_true.mp h w hw)
  unfold vx_ot
  rcases zatW_cases h2 with g | ⟨y, rfl⟩ | rfl
  · rw [g, Bool.or_true]
  · rfl
  · rfl
/-- a place of a throw -/
def zThr (own : String) (cc : ByteArray) (pc e : Nat) : Prop := ∃ (ik is ic : Nat) (text : String), (own, is, text) ∈ zStrs ∧ Cond.classLink own ik (zEx e) ∈ zGd ∧ Cond.initialized (zEx e) ∈ zGd ∧ zatOk own ic e = true ∧ e < 3 ∧
  decode cc pc = .ok (.new ik, 3) ∧ decode cc (pc + 3) = .ok (.dup, 1) ∧ ((decode cc (pc + 4) = .ok (.ldc is, 2) ∧ decode cc (pc + 6) = .ok (.invokespecial ic, 3) ∧ decode cc (pc + 9) = .ok (.athrow, 1)) ∨ (decode cc (pc + 4) = .ok (.ldc_w is, 3) ∧ decode cc (pc + 7) = .ok (.invokespecial ic, 3) ∧ decode cc (pc + 10) = .ok (.athrow, 1)))
theorem zb_inr9 {c : Bool} {o : zO} {r : zR} (h : zb c o zX = Sum.inr r) (h9 : r.1 ≠ 9) : c = true ∧ o = Sum.inr r := by
  have hl : zlive (zb c o zX) := by rw [h]; exact h9
  obtain ⟨h1, -⟩ := zb_live hl
  rw [h1, zb_tt] at h
  exact ⟨h1, h⟩
theorem zX_inr9 {r : zR} (h : zX = Sum.inr r) (h9 : r.1 ≠ 9) : False := by
  have hl : zlive zX := by rw [h]; exact h9
  exact zX_live hl
theorem zret_5 {st0 : List zV} {w : zW} {r : zR} (h : zoRet st0 w 5 = Sum.inr r) (h9 : r.1 ≠ 9) : st0 = [] ∧ r = (0, (0, 0, 0), w) := by
  cases st0 with
  | nil => exact ⟨rfl, (Sum.inr.inj h).symm⟩
  | cons v t => exact (zX_inr9 h h9).elim
theorem zret_n {st0 : List zV} {w : zW} {r : zR} {B : Nat} (hB : Nat.beq B 5 = false) (h : zoRet st0 w B = Sum.inr r) (h9 : r.1 ≠ 9) : ∃ v, st0 = [v] ∧ zb (Nat.beq B 6) (zsmall 5 v) (zis B v) = true ∧ r = (1, v, w) := by
  unfold zoRet at h
  rw [hB, zb_ff] at h
  match st0, h with
  | [], h => exact (zX_inr9 h h9).elim
  | [v], h =>
    obtain ⟨h1, h2⟩ := zb_inr9 h h9
    exact ⟨v, rfl, h1, (Sum.inr.inj h2).symm⟩
  | _ :: _ :: _, h => exact (zX_inr9 h h9).elim
theorem zthrow_spec {st0 : List zV} {w : zW} {r : zR} {Dp a : Nat} (h : zoThrow st0 w Dp a = Sum.inr r) (h9 : r.1 ≠ 9) : 6 ≤ Dp ∧ zcs st0 ≤ 8 ∧ r = (2, (a, 0, 0), (w.1, w.2.1, w.2.2.1 + 1, w.2.2.2 + 6)) := by
  unfold zoThrow at h
  obtain ⟨h1, h2⟩ := zb_inr9 h h9
  obtain ⟨h3, h4⟩ := zb_inr9 h2 h9
  rw [zfN_eq, zfN_eq] at h4
  exact ⟨zble h1, zble h3, (Sum.inr.inj h4).symm⟩
section ZN
variable {p : Program} {l : Launch} {e : Env} {R : Room} {s : State} {m : MethodId} {args : Array Value} {below : List Frame} {meth : Method} {c : Code} {nL : Nat} {D : va_G} {A : Nat → Prop} {b : Nat} {cc : ByteArray} {pc : Nat} {o : Nat × Nat × Nat × List Nat} {rest : List zE} {ls0 : zA} {st0 : List zV} {w : zW} {cw0 : va_W} {r : zR}
theorem zaft (hAe : va_A cw0 s.heap.size = A) {cw : va_W} {tys : List (ClassId × FieldType)} {H : Heap} {locs : List Loc} (hH : zHR D A b s w cw tys H locs) (hext : ∃ ext, zad cw = zad cw0 ++ ext) {t : State} (ht : t.heap = H) (hvm : s.vm.Alike t.vm) : zAft D b s.heap.size cw0 w s t cw := by
  subst hAe
  obtain ⟨hK, hP, hD, hS, hW⟩ := hH
  exact ⟨hext, by rw [ht]; exact hP, ⟨tys, va_K.moved hvm hK, hW⟩, hD, hS.F ht⟩
theorem zs_vret (hx : p.tables.exec = Jvm.exec) (hb : c.code = cc) (hr : meth.sig.returnType = none) (hlocks : meth.locks = false) (hAe : va_A cw0 s.heap.size = A) (hdg : decode cc pc = .ok (.return_, 1)) (h : zoRet st0 w 5 = Sum.inr r) (h9 : r.1 ≠ 9) : zG p l e R s m args below meth c nL D A b (zad cw0) (vx_MQ below (zQ D b s.heap.size cw0 r) (zXC D b s.heap.size cw0 r) args s r.2.2.2.2.1 r.2.2.2.2.2 (va_A cw0 s.heap.size)) ((pc, o) :: rest, ls0, st0, w) := by
  obtain ⟨rfl, rfl⟩ := zret_5 h h9
  intro cw tys H locs ls lv st hH hext hl hL hV
  have hH : zHR D A b s w cw tys H locs := hH
  have hV : zVR (zad cw) b [] st := hV
  rw [zVR_nil hV]
  have hS := hH.2.2.2.1
  refine vx_ret (W.vret hx hb hr (fun t ht hW => ⟨none, cw, rfl, Or.inl ⟨rfl, rfl⟩, zaft hAe hH hext ht hW.alike⟩) (fun q hq => ?_) hdg hlocks)
  rw [hAe]
  exact hS.2.2 q hq
theorem zs_iret (hx : p.tables.exec = Jvm.exec) (hb : c.code = cc) (hr : meth.sig.returnType = some .int) (hlocks : meth.locks = false) (hAe : va_A cw0 s.heap.size = A) (hdg : decode cc pc = .ok (.ireturn, 1)) (h : zoRet st0 w 0 = Sum.inr r) (h9 : r.1 ≠ 9) : zG p l e R s m args below meth c nL D A b (zad cw0) (vx_MQ below (zQ D b s.heap.size cw0 r) (zXC D b s.heap.size cw0 r) args s r.2.2.2.2.1 r.2.2.2.2.2 (va_A cw0 s.heap.size)) ((pc, o) :: rest, ls0, st0, w) := by
  obtain ⟨v, rfl, hv, rfl⟩ := zret_n rfl h h9
  intro cw tys H locs ls lv st hH hext hl hL hV
  have hH : zHR D A b s w cw tys H locs := hH
  obtain ⟨v1, st1, rfl, hr1, hV1⟩ := zVR_cons (h := v) (t := []) hV
  rw [zVR_nil hV1]
  obtain ⟨x, rfl, -⟩ := zRV_int (show zis 0 v = true from hv) hr1
  have hS := hH.2.2.2.1
  refine vx_ret (W.iret hx hb hr (fun t ht hW => ⟨_, cw, rfl, Or.inr ⟨rfl, _, rfl, hr1⟩, zaft hAe hH hext ht hW.alike⟩) (fun q hq => ?_) hdg hlocks)
  rw [hAe]
  exact hS.2.2 q hq
theorem zs_zret (hx : p.tables.exec = Jvm.exec) (hb : c.code = cc) (hr : meth.sig.returnType = some .boolean) (hlocks : meth.locks = false) (hAe : va_A cw0 s.heap.size = A) (hdg : decode cc pc = .ok (.ireturn, 1)) (h : zoRet st0 w 6 = Sum.inr r) (h9 : r.1 ≠ 9) : zG p l e R s m args below meth c nL D A b (zad cw0) (vx_MQ below (zQ D b s.heap.size cw0 r) (zXC D b s.heap.size cw0 r) args s r.2.2.2.2.1 r.2.2.2.2.2 (va_A cw0 s.heap.size)) ((pc, o) :: rest, ls0, st0, w) := by
  obtain ⟨v, rfl, hv, rfl⟩ := zret_n rfl h h9
  intro cw tys H locs ls lv st hH hext hl hL hV
  have hH : zHR D A b s w cw tys H locs := hH
  obtain ⟨v1, st1, rfl, hr1, hV1⟩ := zVR_cons (h := v) (t := []) hV
  rw [zVR_nil hV1]
  obtain ⟨-, h01⟩ := zsmall_spec (show zsmall 5 v = true from hv) hr1
  have hS := hH.2.2.2.1
  have hfin : ∀ x : Int32, v1 = .int x → narrow .boolean (.int x) = .int x → W p l e R s m args below meth c H locs w.2.2.1 w.2.2.2 (vx_MQ below (zQ D b s.heap.size cw0 (1, v, w)) (zXC D b s.heap.size cw0 (1, v, w)) args s w.2.2.1 w.2.2.2 (va_A cw0 s.heap.size)) (F0 m pc ls [v1]) := by
    intro x hx1 hn
    subst hx1
    refine vx_ret (W.zret hx hb hr hn (fun t ht hW => ⟨_, cw, rfl, Or.inr ⟨rfl, _, rfl, hr1⟩, zaft hAe hH hext ht hW.alike⟩) (fun q hq => ?_) hdg hlocks)
    rw [hAe]
    exact hS.2.2 q hq
  rcases h01 with h0 | h1
  · exact hfin 0 h0 rfl
  · exact hfin 1 h1 rfl
theorem zs_lret (hx : p.tables.exec = Jvm.exec) (hb : c.code = cc) (hr : meth.sig.returnType = some .long) (hlocks : meth.locks = false) (hAe : va_A cw0 s.heap.size = A) (hdg : decode cc pc = .ok (.lreturn, 1)) (h : zoRet st0 w 1 = Sum.inr r) (h9 : r.1 ≠ 9) : zG p l e R s m args below meth c nL D A b (zad cw0) (vx_MQ below (zQ D b s.heap.size cw0 r) (zXC D b s.heap.size cw0 r) args s r.2.2.2.2.1 r.2.2.2.2.2 (va_A cw0 s.heap.size)) ((pc, o) :: rest, ls0, st0, w) := by
  obtain ⟨v, rfl, hv, rfl⟩ := zret_n rfl h h9
  intro cw tys H locs ls lv st hH hext hl hL hV
  have hH : zHR D A b s w cw tys H locs := hH
  obtain ⟨v1, st1, rfl, hr1, hV1⟩ := zVR_cons (h := v) (t := []) hV
  rw [zVR_nil hV1]
  obtain ⟨x, rfl, -⟩ := zRV_long (show zis 1 v = true from hv) hr1
  have hS := hH.2.2.2.1
  refine vx_ret (W.lret hx hb hr (fun t ht hW => ⟨_, cw, rfl, Or.inr ⟨rfl, _, rfl, hr1⟩, zaft hAe hH hext ht hW.alike⟩) (fun q hq => ?_) hdg hlocks)
  rw [hAe]
  exact hS.2.2 q hq
theorem zs_fret (hx : p.tables.exec = Jvm.exec) (hb : c.code = cc) (hr : meth.sig.returnType = some .float) (hlocks : meth.locks = false) (hAe : va_A cw0 s.heap.size = A) (hdg : decode cc pc = .ok (.freturn, 1)) (h : zoRet st0 w 2 = Sum.inr r) (h9 : r.1 ≠ 9) : zG p l e R s m args below meth c nL D A b (zad cw0) (vx_MQ below (zQ D b s.heap.size cw0 r) (zXC D b s.heap.size cw0 r) args s r.2.2.2.2.1 r.2.2.2.2.2 (va_A cw0 s.heap.size)) ((pc, o) :: rest, ls0, st0, w) := by
  obtain ⟨v, rfl, hv, rfl⟩ := zret_n rfl h h9
  intro cw tys H locs ls lv st hH hext hl hL hV
  have hH : zHR D A b s w cw tys H locs := hH
  obtain ⟨v1, st1, rfl, hr1, hV1⟩ := zVR_cons (h := v) (t := []) hV
  rw [zVR_nil hV1]
  obtain ⟨x, rfl⟩ := zRV_float (show zis 2 v = true from hv) hr1
  have hS := hH.2.2.2.1
  refine vx_ret (W.fret hx hb hr (fun t ht hW => ⟨_, cw, rfl, Or.inr ⟨rfl, _, rfl, hr1⟩, zaft hAe hH hext ht hW.alike⟩) (fun q hq => ?_) hdg hlocks)
  rw [hAe]
  exact hS.2.2 q hq
theorem zs_dret (hx : p.tables.exec = Jvm.exec) (hb : c.code = cc) (hr : meth.sig.returnType = some .double) (hlocks : meth.locks = false) (hAe : va_A cw0 s.heap.size = A) (hdg : decode cc pc = .ok (.dreturn, 1)) (h : zoRet st0 w 3 = Sum.inr r) (h9 : r.1 ≠ 9) : zG p l e R s m args below meth c nL D A b (zad cw0) (vx_MQ below (zQ D b s.heap.size cw0 r) (zXC D b s.heap.size cw0 r) args s r.2.2.2.2.1 r.2.2.2.2.2 (va_A cw0 s.heap.size)) ((pc, o) :: rest, ls0, st0, w) := by
  obtain ⟨v, rfl, hv, rfl⟩ := zret_n rfl h h9
  intro cw tys H locs ls lv st hH hext hl hL hV
  have hH : zHR D A b s w cw tys H locs := hH
  obtain ⟨v1, st1, rfl, hr1, hV1⟩ := zVR_cons (h := v) (t := []) hV
  rw [zVR_nil hV1]
  obtain ⟨x, rfl⟩ := zRV_double (show zis 3 v = true from hv) hr1
  have hS := hH.2.2.2.1
  refine vx_ret (W.dret hx hb hr (fun t ht hW => ⟨_, cw, rfl, Or.inr ⟨rfl, _, rfl, hr1⟩, zaft hAe hH hext ht hW.alike⟩) (fun q hq => ?_) hdg hlocks)
  rw [hAe]
  exact hS.2.2 q hq
theorem zs_aret (hx : p.tables.exec = Jvm.exec) (hb : c.code = cc) {rt : FieldType} (hr : meth.sig.returnType = some rt) (hrt : (∃ n, rt = .object n) ∨ ∃ t, rt = .array t) (hlocks : meth.locks = false) (hAe : va_A cw0 s.heap.size = A) (hdg : decode cc pc = .ok (.areturn, 1)) (h : zoRet st0 w 4 = Sum.inr r) (h9 : r.1 ≠ 9) : zG p l e R s m args below meth c nL D A b (zad cw0) (vx_MQ below (zQ D b s.heap.size cw0 r) (zXC D b s.heap.size cw0 r) args s r.2.2.2.2.1 r.2.2.2.2.2 (va_A cw0 s.heap.size)) ((pc, o) :: rest, ls0, st0, w) := by
  obtain ⟨v, rfl, hv, rfl⟩ := zret_n rfl h h9
  intro cw tys H locs ls lv st hH hext hl hL hV
  have hH : zHR D A b s w cw tys H locs := hH
  obtain ⟨v1, st1, rfl, hr1, hV1⟩ := zVR_cons (h := v) (t := []) hV
  rw [zVR_nil hV1]
  have hq := zRV_ref (show zis 4 v = true from hv) hr1
  have hS := hH.2.2.2.1
  refine vx_ret (W.aret hx hb hr hrt (hq.symm) (fun t ht hW => ⟨_, cw, rfl, Or.inr ⟨rfl, _, rfl, hr1⟩, zaft hAe hH hext ht hW.alike⟩) (fun q hq => ?_) hdg hlocks)
  rw [hAe]
  exact hS.2.2 q hq
theorem zs_throw (hx : p.tables.exec = Jvm.exec) (hb : c.code = cc) (hml : c.maxLocals = nL) (hfl : l.stackTraces = false) {own : String} (hown : s.vm.findClass own = some m.cls) (hts : ∀ w ∈ zGd, w.before args s = true) (hF : zFx A s) (hlocks : meth.locks = false) (hAe : va_A cw0 s.heap.size = A) (htb : c.exceptionTable.toList = []) {Dp a : Nat} (hRf : Dp ≤ R.frames) (hRl : 39 * Dp + 10 ≤ R.locals) (hcs : r.2.2.2.2.1 ≤ R.cells ∧ r.2.2.2.2.2 ≤ R.slots)
    (hthr : zThr own cc pc a) (h : zoThrow st0 w Dp a = Sum.inr r) (h9 : r.1 ≠ 9) : zG p l e R s m args below meth c nL D A b (zad cw0) (vx_MQ below (zQ D b s.heap.size cw0 r) (zXC D b s.heap.size cw0 r) args s r.2.2.2.2.1 r.2.2.2.2.2 (va_A cw0 s.heap.size)) ((pc, o) :: rest, ls0, st0, w) := by
  obtain ⟨hD6, h8, rfl⟩ := zthrow_spec h h9
  intro cw tys H locs ls lv st hH hext hl hL hV
  have hH : zHR D A b s w cw tys H locs := hH
  obtain ⟨hK, hP, hDw, hS, hW⟩ := id hH
  have hV : zVR (zad cw) b st0 st := hV
  have h8' : (st.map fun v => v.category).sum ≤ 8 := by rw [zVR_cs hV]; exact h8
  obtain ⟨ik, is, ic, text, hst, hk, hini, hat, ha3, d0, d3, hd⟩ := hthr
  obtain ⟨sa, hsa⟩ := hF.2.2.2.1 _ hst
  have hfit : ∀ a, a < 3 → Bundle.fit (zEx a) = true := by decide
  have hgood : ∀ w ∈ Cond.classLink own ik (zEx a) :: Cond.initialized (zEx a) :: vx_atS own ic (zEx a) zNm, vx_ot w = true := by
    intro w9 hw9
    rcases List.mem_cons.mp hw9 with rfl | hw9
    · unfold vx_ot; rw [zGd_good hk, Bool.or_true]
    · rcases List.mem_cons.mp hw9 with rfl | hw9
      · unfold vx_ot; rw [zGd_good hini, Bool.or_true]
      · exact zat_ot hat w9 hw9
  have hx9 : ∀ t : State, s.vm.Alike t.vm → H.size ≤ t.heap.size → (∀ q : Nat, q < H.size → t.heap[q]? = H[q]?) → zXC D b s.heap.size cw0 (2, (a, 0, 0), (w.1, w.2.1, w.2.2.1 + 1, w.2.2.2 + 6)) (zEx a) s t := by
    intro t hvm hz hq
    refine ⟨rfl, rfl, ha3, cw, hext, hP.kept (fun k q hk => hq q.1 (hP k q hk).lt), ⟨tys, va_K.moved hvm hK, hW⟩, by rw [hAe]; exact hDw, by rw [hAe]; exact ⟨Nat.le_trans hS.1 hz, fun q h1 h2 => (hq q (Nat.lt_of_lt_of_le h1 hS.1)).trans (hS.2.1 q h1 h2)⟩⟩
  have hfree : ∀ z ∈ locs, va_A cw0 s.heap.size z.base := fun z hz => by rw [hAe]; exact hS.2.2 z hz
  have hRf2 : zNm.length + 3 < R.frames := by show 5 < R.frames; omega
  have hRl2 : (st.map fun v => v.category).sum + (13 * (zNm.length + 1) + 43) ≤ R.locals := by show (st.map fun v => v.category).sum + 82 ≤ R.locals; omega
  rcases hd with ⟨d4, d6, d9⟩ | ⟨d4, d7, d10⟩
  · exact vx_throwS hx hb hfl hown (hfit a ha3) (by decide) (hts _ hk) (hts _ hini) hsa (zat_all hat ha3 hts hF) hgood hF.2.2.2.2.2.1 hF.2.2.2.2.2.2.1 hS (by rw [hml]; exact hl.1) d0 d3 d4 d6 d9 (fun x hx2 => by rw [htb] at hx2; cases hx2) hRf2 hRl2 hcs.1 hcs.2 hlocks hx9 hfree (Nat.le_refl _) (Nat.le_refl _)
  · exact vx_throwSW hx hb hfl hown (hfit a ha3) (by decide) (hts _ hk) (hts _ hini) hsa (zat_all hat ha3 hts hF) hgood hF.2.2.2.2.2.1 hF.2.2.2.2.2.2.1 hS (by rw [hml]; exact hl.1) d0 d3 d4 d7 d10 (fun x hx2 => by rw [htb] at hx2; cases hx2) hRf2 hRl2 hcs.1 hcs.2 hlocks hx9 hfree (Nat.le_refl _) (Nat.le_refl _)
/-- a callee's throw goes on to the caller's caller -/
theorem zs_inv_out (hx : p.tables.exec = Jvm.exec) (hb : c.code = cc) (hml : c.maxLocals = nL) {own : String} (hown : s.vm.findClass own = some m.cls) (hts : ∀ w ∈ zGd, w.before args s = true) (hF : zFx A s) (hA : ∀ q, s.heap.size ≤ q → A q) (hlocks : meth.locks = false) (hAe : va_A cw0 s.heap.size = A)
    {kd rc n d a : Nat} {hs : List Nat} {y : MethodName} {word : Cond} {rec : Nat → List zV → zW → zR} {full : List zE} (hsite : zSite own cc pc kd rc n y word) (hRf : d + 1 ≤ R.frames) (hRl : 39 * (d + 1) + 10 ≤ R.locals)
    (hrec : ∀ (as : List zV) (w : zW), (rec a as w).1 ≠ 9 → zMet l y word d as w (rec a as w)) (hhd : zHd own c.exceptionTable.toList pc hs)
    (h : zoInvoke rest ls0 st0 w rec full a n (kd :: rc :: hs) = Sum.inr r) (h9 : r.1 ≠ 9) (hcs : r.2.2.2.2.1 ≤ R.cells ∧ r.2.2.2.2.2 ≤ R.slots) : zG p l e R s m args below meth c nL D A b (zad cw0) (vx_MQ below (zQ D b s.heap.size cw0 r) (zXC D b s.heap.size cw0 r) args s r.2.2.2.2.1 r.2.2.2.2.2 (va_A cw0 s.heap.size)) ((pc, o) :: rest, ls0, st0, w) := by
  have hlive : zlive (Sum.inr r : zO) := h9
  obtain ⟨xs, st1, rfl, hxs, h8, hrc, heq⟩ := zinv_spec (h := by rw [h]; exact hlive)
  rw [h] at heq
  have hr9 : (rec a xs.reverse (w.1, w.2.1, 0, 0)).1 ≠ 9 := by
    rcases zR_kind heq.symm hlive with ⟨z, -⟩ | ⟨z, -⟩ | ⟨z, -⟩ <;> rw [z] <;> decide
  have hM := hrec _ _ hr9
  generalize hR' : rec a xs.reverse (w.1, w.2.1, 0, 0) = r1 at heq hM hr9
  rcases zR_kind heq.symm hlive with ⟨-, z⟩ | ⟨-, z⟩ | ⟨zk, z⟩
  · cases z
  · cases z
  have hfin : hs = [] ∧ c.exceptionTable.toList = [] ∧ r = (2, r1.2.1, (r1.2.2.1, r1.2.2.2.1, w.2.2.1 + r1.2.2.2.2.1, w.2.2.2 + r1.2.2.2.2.2)) := by
    have hgo : ∀ {t : Nat}, zgo full t ls0 [(9, 0, 0)] (r1.2.2.1, r1.2.2.2.1, w.2.2.1 + r1.2.2.2.2.1, w.2.2.2 + r1.2.2.2.2.2) = Sum.inr r → False := by
      intro t ht
      unfold zgo at ht
      rw [zfindK_eq] at ht
      split at ht
      · exact zX_inr9 ht h9
      · cases ht
    rcases hhd with ⟨rfl, htb⟩ | ⟨e1, t1, x, suf, rfl, -, -⟩ | ⟨e1, t1, e2, t2, x, x2, suf, rfl, -, -, -⟩
    · exact ⟨rfl, htb, (Sum.inr.inj z).symm⟩
    · have z : zb (Nat.beq e1 r1.2.1.1) (zgo full t1 ls0 [(9, 0, 0)] (r1.2.2.1, r1.2.2.2.1, w.2.2.1 + r1.2.2.2.2.1, w.2.2.2 + r1.2.2.2.2.2)) zX = Sum.inr r := z
      obtain ⟨-, z⟩ := zb_inr9 z h9
      exact (hgo z).elim
    · have z : zb (Nat.beq e1 r1.2.1.1) (zgo full t1 ls0 [(9, 0, 0)] (r1.2.2.1, r1.2.2.2.1, w.2.2.1 + r1.2.2.2.2.1, w.2.2.2 + r1.2.2.2.2.2)) (zb (Nat.beq e2 r1.2.1.1) (zgo full t2 ls0 [(9, 0, 0)] (r1.2.2.1, r1.2.2.2.1, w.2.2.1 + r1.2.2.2.2.1, w.2.2.2 + r1.2.2.2.2.2)) zX) = Sum.inr r := z
      cases q : Nat.beq e1 r1.2.1.1
      · rw [q, zb_ff] at z
        obtain ⟨-, z⟩ := zb_inr9 z h9
        exact (hgo z).elim
      · rw [q, zb_tt] at z
        exact (hgo z).elim
  obtain ⟨rfl, htb, rfl⟩ := hfin
  intro cw tys H locs ls lv st hH hext hl hL hV
  have hH : zHR D A b s w cw tys H locs := hH
  obtain ⟨vs, st2, rfl, hv1, hv2⟩ := zVR_app (xs := xs) (ys := st1) hV
  have hst : (st2.map fun v => v.category).sum ≤ 8 := by rw [zVR_cs hv2]; exact h8
  have hrun := zrunof (e := e) (below := below) (meth := meth) hx hb hml hown hts hF hA hsite hRf hRl hM hH hxs hrc hv1 hst hl.1 (cells := w.2.2.1) (slots := w.2.2.2) hcs
  obtain ⟨hK, hP, hDw, hS, hW⟩ := id hH
  show W p l e R s m args below meth c H locs w.2.2.1 w.2.2.2 _ (F0 m pc ls (vs ++ st2))
  refine zcall hrun hA hDw hS (fun q9 ce cw' tys' H1 locs1 hr2 hr3 hH1 hext1 hce hcv hcl => ?_) (fun vo cw' tys' H1 locs1 hvo hH1 hext1 => ?_)
  · refine vx_out (fun x hx2 => by rw [htb] at hx2; cases hx2) hlocks hce hcv hcl (fun t ht hvm => ⟨rfl, rfl, hr3, cw', zaft hAe hH1 (zext hext hext1) ht hvm⟩) (fun z9 hz9 => ?_) (Nat.le_refl _) (Nat.le_refl _)
    rw [hAe]
    exact hH1.2.2.2.1.2.2 z9 hz9
  · rcases hvo with ⟨z0, -⟩ | ⟨z1, -⟩
    · rw [zk] at z0; cases z0
    · rw [zk] at z1; cases z1
end ZN
end
section
/-! ===== where a step goes, and that the counts don't fall ===== -/
def zgd (rest full : List zE) (w : zW) (o : zO) : Prop := match o with
  | .inl S => (S.1 = rest ∨ ∃ t, S.1 = zfindS full t) ∧ w.2.2.1 ≤ S.2.2.2.2.2.1 ∧ w.2.2.2 ≤ S.2.2.2.2.2.2
  | .inr r => r.1 = 9
section ZGD
variable {rest full : List zE} {w : zW}
theorem zgd_X : zgd rest full w zX := rfl
theorem zgd_b {c : Bool} {t e : zO} (h1 : zgd rest full w t) (h2 : zgd rest full w e) : zgd rest full w (zb c t e) := by
  cases c
  · exact h2
  · exact h1
theorem zgd_N {n : Nat} {k : Nat → zO} (h : ∀ n, zgd rest full w (k n)) : zgd rest full w (zfN n k) := by rw [zfN_eq]; exact h n
theorem zgd_V {v : zV} {k : zV → zO} (h : ∀ v, zgd rest full w (k v)) : zgd rest full w (zfV v k) := by rw [zfV_eq]; exact h v
theorem zgd_cell {w0 : zW} {v : zV} {k : Nat → Nat → Nat → zV → zA → zO} (h : ∀ p kd sz d as, zgd rest full w (k p kd sz d as)) : zgd rest full w (zcellK w0 v k) := by
  unfold zcellK
  refine zgd_b ?_ zgd_X
  rw [zfN_eq, zfC_eq]
  exact h _ _ _ _ _
theorem zgd_rem {l : zA} {i : Nat} {c2 : Bool} {c : zA → zO} (h : ∀ a, zgd rest full w (c a)) : zgd rest full w (zremK l i c2 c) := by rw [zremK_eq]; exact h _
theorem zgd_set {l : zA} {i : Nat} {v : zV} {c : zA → zO} (h : ∀ a, zgd rest full w (c a)) : zgd rest full w (zsetK l i v c) := by rw [zsetK_eq]; exact h _
theorem zgd_put {l : List zC} {i : Nat} {x : zC} {c : List zC → zO} (h : ∀ a, zgd rest full w (c a)) : zgd rest full w (zputK l i x c) := by rw [zputK_eq]; exact h _
theorem zgd_inl {ls : zA} {st : List zV} {n : Nat} {cs : List zC} {nc ns : Nat} (h1 : w.2.2.1 ≤ nc) (h2 : w.2.2.2 ≤ ns) : zgd rest full w (Sum.inl (rest, ls, st, (n, cs, nc, ns))) := ⟨Or.inl rfl, h1, h2⟩
theorem zgd_in {ls : zA} {st : List zV} : zgd rest full w (Sum.inl (rest, ls, st, w)) := ⟨Or.inl rfl, Nat.le_refl _, Nat.le_refl _⟩
theorem zgd_go {t : Nat} {ls : zA} {st : List zV} {w1 : zW} (h1 : w.2.2.1 ≤ w1.2.2.1) (h2 : w.2.2.2 ≤ w1.2.2.2) : zgd rest full w (zgo full t ls st w1) := by
  unfold zgo
  rw [zfindK_eq]
  cases q : zfindS full t with
  | nil => exact zgd_X
  | cons x r => exact ⟨Or.inr ⟨t, q.symm⟩, h1, h2⟩
theorem zgd_cmpB {c a1 a2 b1 b2 : Nat} {k : Bool → zO} (h : ∀ t, zgd rest full w (k t)) : zgd rest full w (zcmpB c a1 a2 b1 b2 k) := by
  unfold zcmpB
  exact zgd_b (zgd_b (h _) (zgd_b (h _) zgd_X)) (zgd_b (h _) (zgd_b (h _) (zgd_b (zgd_b (zgd_b (h _) zgd_X) zgd_X) zgd_X)))
theorem zgd_cmp {c : Nat} {x y : zV} {k : Bool → zO} (h : ∀ t, zgd rest full w (k t)) : zgd rest full w (zcmp c x y k) := by
  unfold zcmp
  exact zgd_b (zgd_b (zgd_b (zgd_cmpB h) (zgd_b (zgd_cmpB fun t => h (not t)) (zgd_b (zgd_cmpB h) (zgd_b (zgd_cmpB fun t => h (not t)) (zgd_b (zgd_cmpB h) (zgd_b (zgd_cmpB fun t => h (not t)) zgd_X)))))) zgd_X) zgd_X
theorem zgd_lcB {a1 a2 b1 b2 : Nat} {k : zV → zO} (h : ∀ t, zgd rest full w (k t)) : zgd rest full w (zlcB a1 a2 b1 b2 k) := by
  unfold zlcB
  exact zgd_b (h _) (zgd_b (h _) (zgd_b (h _) (zgd_b (h _) (zgd_b (h _) zgd_X))))
theorem zgd_ar {a x y : Nat} {k : Nat → zO} (h : ∀ t, zgd rest full w (k t)) : zgd rest full w (zar a x y k) := by
  unfold zar
  exact zgd_b (zgd_N h) (zgd_b (zgd_N h) (zgd_b (zgd_N h) (zgd_b (zgd_b (zgd_b (zgd_b (zgd_N h) zgd_X) zgd_X) zgd_X) (zgd_b (zgd_b (zgd_b (zgd_b (zgd_N h) zgd_X) zgd_X) zgd_X) (zgd_b (zgd_N h) (zgd_b (zgd_b (h _) zgd_X) zgd_X))))))
theorem zgd_obj {objs : List (Nat × zA)} {a : Nat} {k : Nat → zA → zO} (h : ∀ N fs, zgd rest full w (k N fs)) : zgd rest full w (zobjK objs a k) := by
  rw [zobjK_eq]
  cases objs[a]? with
  | none => exact zgd_X
  | some x => exact h _ _
end ZGD
section ZGO
variable {rest full : List zE} {w : zW} {ls : zA} {st : List zV} {scr : List zV} {objs : List (Nat × zA)} {a b : Nat} {l : List Nat}
theorem zgd_0 : zgd rest full w (zoLoad rest ls st w a b) := by unfold zoLoad; (repeat' first | exact zgd_X | exact zgd_in | exact zgd_inl (by first | exact Nat.le_refl _ | exact Nat.le_succ _ | exact Nat.le_add_right _ _) (by first | exact Nat.le_refl _ | exact Nat.le_succ _ | exact Nat.le_add_right _ _) | exact zgd_go (Nat.le_refl _) (Nat.le_refl _) | refine zgd_b ?_ ?_ | refine zgd_N fun _ => ?_ | refine zgd_V fun _ => ?_ | refine zgd_cell fun _ _ _ _ _ => ?_ | refine zgd_rem fun _ => ?_ | refine zgd_set fun _ => ?_ | refine zgd_put fun _ => ?_ | refine zgd_cmp fun _ => ?_ | refine zgd_cmpB fun _ => ?_ | refine zgd_lcB fun _ => ?_ | refine zgd_ar fun _ => ?_ | refine zgd_obj fun _ _ => ?_)
theorem zgd_1 : zgd rest full w (zoConst rest ls st w l) := by unfold zoConst; split <;> (repeat' first | exact zgd_X | exact zgd_in | exact zgd_inl (by first | exact Nat.le_refl _ | exact Nat.le_succ _ | exact Nat.le_add_right _ _) (by first | exact Nat.le_refl _ | exact Nat.le_succ _ | exact Nat.le_add_right _ _) | exact zgd_go (Nat.le_refl _) (Nat.le_refl _) | refine zgd_b ?_ ?_ | refine zgd_N fun _ => ?_ | refine zgd_V fun _ => ?_ | refine zgd_cell fun _ _ _ _ _ => ?_ | refine zgd_rem fun _ => ?_ | refine zgd_set fun _ => ?_ | refine zgd_put fun _ => ?_ | refine zgd_cmp fun _ => ?_ | refine zgd_cmpB fun _ => ?_ | refine zgd_lcB fun _ => ?_ | refine zgd_ar fun _ => ?_ | refine zgd_obj fun _ _ => ?_)
theorem zgd_2 : zgd rest full w (zoStore rest ls st w a b) := by unfold zoStore; split <;> (repeat' first | exact zgd_X | exact zgd_in | exact zgd_inl (by first | exact Nat.le_refl _ | exact Nat.le_succ _ | exact Nat.le_add_right _ _) (by first | exact Nat.le_refl _ | exact Nat.le_succ _ | exact Nat.le_add_right _ _) | exact zgd_go (Nat.le_refl _) (Nat.le_refl _) | refine zgd_b ?_ ?_ | refine zgd_N fun _ => ?_ | refine zgd_V fun _ => ?_ | refine zgd_cell fun _ _ _ _ _ => ?_ | refine zgd_rem fun _ => ?_ | refine zgd_set fun _ => ?_ | refine zgd_put fun _ => ?_ | refine zgd_cmp fun _ => ?_ | refine zgd_cmpB fun _ => ?_ | refine zgd_lcB fun _ => ?_ | refine zgd_ar fun _ => ?_ | refine zgd_obj fun _ _ => ?_)
theorem zgd_3 : zgd rest full w (zoInc rest ls st w a l) := by unfold zoInc; split <;> (repeat' first | exact zgd_X | exact zgd_in | exact zgd_inl (by first | exact Nat.le_refl _ | exact Nat.le_succ _ | exact Nat.le_add_right _ _) (by first | exact Nat.le_refl _ | exact Nat.le_succ _ | exact Nat.le_add_right _ _) | exact zgd_go (Nat.le_refl _) (Nat.le_refl _) | refine zgd_b ?_ ?_ | refine zgd_N fun _ => ?_ | refine zgd_V fun _ => ?_ | refine zgd_cell fun _ _ _ _ _ => ?_ | refine zgd_rem fun _ => ?_ | refine zgd_set fun _ => ?_ | refine zgd_put fun _ => ?_ | refine zgd_cmp fun _ => ?_ | refine zgd_cmpB fun _ => ?_ | refine zgd_lcB fun _ => ?_ | refine zgd_ar fun _ => ?_ | refine zgd_obj fun _ _ => ?_)
theorem zgd_4 : zgd rest full w (zoArith rest ls st w a) := by unfold zoArith; split <;> (repeat' first | exact zgd_X | exact zgd_in | exact zgd_inl (by first | exact Nat.le_refl _ | exact Nat.le_succ _ | exact Nat.le_add_right _ _) (by first | exact Nat.le_refl _ | exact Nat.le_succ _ | exact Nat.le_add_right _ _) | exact zgd_go (Nat.le_refl _) (Nat.le_refl _) | refine zgd_b ?_ ?_ | refine zgd_N fun _ => ?_ | refine zgd_V fun _ => ?_ | refine zgd_cell fun _ _ _ _ _ => ?_ | refine zgd_rem fun _ => ?_ | refine zgd_set fun _ => ?_ | refine zgd_put fun _ => ?_ | refine zgd_cmp fun _ => ?_ | refine zgd_cmpB fun _ => ?_ | refine zgd_lcB fun _ => ?_ | refine zgd_ar fun _ => ?_ | refine zgd_obj fun _ _ => ?_)
theorem zgd_5 : zgd rest full w (zoIf rest ls st w full a b) := by unfold zoIf; split <;> (repeat' first | exact zgd_X | exact zgd_in | exact zgd_inl (by first | exact Nat.le_refl _ | exact Nat.le_succ _ | exact Nat.le_add_right _ _) (by first | exact Nat.le_refl _ | exact Nat.le_succ _ | exact Nat.le_add_right _ _) | exact zgd_go (Nat.le_refl _) (Nat.le_refl _) | refine zgd_b ?_ ?_ | refine zgd_N fun _ => ?_ | refine zgd_V fun _ => ?_ | refine zgd_cell fun _ _ _ _ _ => ?_ | refine zgd_rem fun _ => ?_ | refine zgd_set fun _ => ?_ | refine zgd_put fun _ => ?_ | refine zgd_cmp fun _ => ?_ | refine zgd_cmpB fun _ => ?_ | refine zgd_lcB fun _ => ?_ | refine zgd_ar fun _ => ?_ | refine zgd_obj fun _ _ => ?_)
theorem zgd_6 : zgd rest full w (zoIcmp rest ls st w full a b) := by unfold zoIcmp; split <;> (repeat' first | exact zgd_X | exact zgd_in | exact zgd_inl (by first | exact Nat.le_refl _ | exact Nat.le_succ _ | exact Nat.le_add_right _ _) (by first | exact Nat.le_refl _ | exact Nat.le_succ _ | exact Nat.le_add_right _ _) | exact zgd_go (Nat.le_refl _) (Nat.le_refl _) | refine zgd_b ?_ ?_ | refine zgd_N fun _ => ?_ | refine zgd_V fun _ => ?_ | refine zgd_cell fun _ _ _ _ _ => ?_ | refine zgd_rem fun _ => ?_ | refine zgd_set fun _ => ?_ | refine zgd_put fun _ => ?_ | refine zgd_cmp fun _ => ?_ | refine zgd_cmpB fun _ => ?_ | refine zgd_lcB fun _ => ?_ | refine zgd_ar fun _ => ?_ | refine zgd_obj fun _ _ => ?_)
theorem zgd_7 : zgd rest full w (zgo full a ls st w) := zgd_go (Nat.le_refl _) (Nat.le_refl _)
theorem zgd_8 : zgd rest full w (zoGetf rest ls st w a b) := by unfold zoGetf; split <;> (repeat' first | exact zgd_X | exact zgd_in | exact zgd_inl (by first | exact Nat.le_refl _ | exact Nat.le_succ _ | exact Nat.le_add_right _ _) (by first | exact Nat.le_refl _ | exact Nat.le_succ _ | exact Nat.le_add_right _ _) | exact zgd_go (Nat.le_refl _) (Nat.le_refl _) | refine zgd_b ?_ ?_ | refine zgd_N fun _ => ?_ | refine zgd_V fun _ => ?_ | refine zgd_cell fun _ _ _ _ _ => ?_ | refine zgd_rem fun _ => ?_ | refine zgd_set fun _ => ?_ | refine zgd_put fun _ => ?_ | refine zgd_cmp fun _ => ?_ | refine zgd_cmpB fun _ => ?_ | refine zgd_lcB fun _ => ?_ | refine zgd_ar fun _ => ?_ | refine zgd_obj fun _ _ => ?_)
theorem zgd_9 : zgd rest full w (zoPutf rest ls st w a b l) := by unfold zoPutf; split <;> (try split) <;> (repeat' first | exact zgd_X | exact zgd_in | exact zgd_inl (by first | exact Nat.le_refl _ | exact Nat.le_succ _ | exact Nat.le_add_right _ _) (by first | exact Nat.le_refl _ | exact Nat.le_succ _ | exact Nat.le_add_right _ _) | exact zgd_go (Nat.le_refl _) (Nat.le_refl _) | refine zgd_b ?_ ?_ | refine zgd_N fun _ => ?_ | refine zgd_V fun _ => ?_ | refine zgd_cell fun _ _ _ _ _ => ?_ | refine zgd_rem fun _ => ?_ | refine zgd_set fun _ => ?_ | refine zgd_put fun _ => ?_ | refine zgd_cmp fun _ => ?_ | refine zgd_cmpB fun _ => ?_ | refine zgd_lcB fun _ => ?_ | refine zgd_ar fun _ => ?_ | refine zgd_obj fun _ _ => ?_)
theorem zgd_10 : zgd rest full w (zoAload rest ls st w scr b) := by unfold zoAload; split <;> (repeat' first | exact zgd_X | exact zgd_in | exact zgd_inl (by first | exact Nat.le_refl _ | exact Nat.le_succ _ | exact Nat.le_add_right _ _) (by first | exact Nat.le_refl _ | exact Nat.le_succ _ | exact Nat.le_add_right _ _) | exact zgd_go (Nat.le_refl _) (Nat.le_refl _) | refine zgd_b ?_ ?_ | refine zgd_N fun _ => ?_ | refine zgd_V fun _ => ?_ | refine zgd_cell fun _ _ _ _ _ => ?_ | refine zgd_rem fun _ => ?_ | refine zgd_set fun _ => ?_ | refine zgd_put fun _ => ?_ | refine zgd_cmp fun _ => ?_ | refine zgd_cmpB fun _ => ?_ | refine zgd_lcB fun _ => ?_ | refine zgd_ar fun _ => ?_ | refine zgd_obj fun _ _ => ?_)
theorem zgd_st {w0 : zW} {u : zV} {k : zO} (h : zgd rest full w k) : zgd rest full w (zisState w0 u k) := zgd_cell fun _ _ _ _ _ => zgd_b h zgd_X
theorem zgd_11 : zgd rest full w (zoAstore rest ls st w b) := by
  unfold zoAstore
  split
  · refine zgd_b (zgd_cell fun p kd sz d as => zgd_b (zgd_b (zgd_b ?_ zgd_X) zgd_X) zgd_X) zgd_X
    have hk : ∀ (u : zV) (k : zO), zgd rest full w k → zgd rest full w ((fun k => zb (Nat.beq kd 105) (zisState w u k) k) k) := fun u k h => zgd_b (zgd_st (u := u) h) h
    exact hk _ _ (zgd_V fun _ => zgd_b zgd_in (zgd_set fun _ => zgd_put fun _ => zgd_inl (Nat.le_refl _) (Nat.le_refl _)))
  · exact zgd_X
theorem zgd_12 : zgd rest full w (zoLen rest ls st w scr) := by unfold zoLen; split <;> (repeat' first | exact zgd_X | exact zgd_in | exact zgd_inl (by first | exact Nat.le_refl _ | exact Nat.le_succ _ | exact Nat.le_add_right _ _) (by first | exact Nat.le_refl _ | exact Nat.le_succ _ | exact Nat.le_add_right _ _) | exact zgd_go (Nat.le_refl _) (Nat.le_refl _) | refine zgd_b ?_ ?_ | refine zgd_N fun _ => ?_ | refine zgd_V fun _ => ?_ | refine zgd_cell fun _ _ _ _ _ => ?_ | refine zgd_rem fun _ => ?_ | refine zgd_set fun _ => ?_ | refine zgd_put fun _ => ?_ | refine zgd_cmp fun _ => ?_ | refine zgd_cmpB fun _ => ?_ | refine zgd_lcB fun _ => ?_ | refine zgd_ar fun _ => ?_ | refine zgd_obj fun _ _ => ?_)
theorem zgd_13 : zgd rest full w (zoNew rest ls st w objs a) := by
  unfold zoNew
  refine zgd_obj fun N fs => ?_
  rw [zfN_eq, zfN_eq, zfN_eq]
  exact zgd_inl (Nat.le_succ _) (Nat.le_add_right _ _)
theorem zgd_14 : zgd rest full w (zoNewarr rest ls st w a) := by
  unfold zoNewarr
  split
  · refine zgd_b (zgd_b ?_ zgd_X) zgd_X
    rw [zfV_eq, zfN_eq, zfN_eq, zfN_eq]
    exact zgd_inl (Nat.le_succ _) (Nat.le_add_right _ _)
  · exact zgd_X
theorem zgd_17 : zgd rest full w (zoDup rest ls st w) := by unfold zoDup; split <;> (repeat' first | exact zgd_X | exact zgd_in | exact zgd_inl (by first | exact Nat.le_refl _ | exact Nat.le_succ _ | exact Nat.le_add_right _ _) (by first | exact Nat.le_refl _ | exact Nat.le_succ _ | exact Nat.le_add_right _ _) | exact zgd_go (Nat.le_refl _) (Nat.le_refl _) | refine zgd_b ?_ ?_ | refine zgd_N fun _ => ?_ | refine zgd_V fun _ => ?_ | refine zgd_cell fun _ _ _ _ _ => ?_ | refine zgd_rem fun _ => ?_ | refine zgd_set fun _ => ?_ | refine zgd_put fun _ => ?_ | refine zgd_cmp fun _ => ?_ | refine zgd_cmpB fun _ => ?_ | refine zgd_lcB fun _ => ?_ | refine zgd_ar fun _ => ?_ | refine zgd_obj fun _ _ => ?_)
theorem zgd_18 : zgd rest full w (zoPop rest ls st w) := by unfold zoPop; split <;> (repeat' first | exact zgd_X | exact zgd_in | exact zgd_inl (by first | exact Nat.le_refl _ | exact Nat.le_succ _ | exact Nat.le_add_right _ _) (by first | exact Nat.le_refl _ | exact Nat.le_succ _ | exact Nat.le_add_right _ _) | exact zgd_go (Nat.le_refl _) (Nat.le_refl _) | refine zgd_b ?_ ?_ | refine zgd_N fun _ => ?_ | refine zgd_V fun _ => ?_ | refine zgd_cell fun _ _ _ _ _ => ?_ | refine zgd_rem fun _ => ?_ | refine zgd_set fun _ => ?_ | refine zgd_put fun _ => ?_ | refine zgd_cmp fun _ => ?_ | refine zgd_cmpB fun _ => ?_ | refine zgd_lcB fun _ => ?_ | refine zgd_ar fun _ => ?_ | refine zgd_obj fun _ _ => ?_)
theorem zgd_19 : zgd rest full w (zoDup2 rest ls st w) := by unfold zoDup2; split <;> (repeat' first | exact zgd_X | exact zgd_in | exact zgd_inl (by first | exact Nat.le_refl _ | exact Nat.le_succ _ | exact Nat.le_add_right _ _) (by first | exact Nat.le_refl _ | exact Nat.le_succ _ | exact Nat.le_add_right _ _) | exact zgd_go (Nat.le_refl _) (Nat.le_refl _) | refine zgd_b ?_ ?_ | refine zgd_N fun _ => ?_ | refine zgd_V fun _ => ?_ | refine zgd_cell fun _ _ _ _ _ => ?_ | refine zgd_rem fun _ => ?_ | refine zgd_set fun _ => ?_ | refine zgd_put fun _ => ?_ | refine zgd_cmp fun _ => ?_ | refine zgd_cmpB fun _ => ?_ | refine zgd_lcB fun _ => ?_ | refine zgd_ar fun _ => ?_ | refine zgd_obj fun _ _ => ?_)
theorem zgd_20 : zgd rest full w (zoConv rest ls st w a) := by
  cases st with
  | nil => exact zgd_X
  | cons v st => exact zgd_b (zgd_b (zgd_b zgd_in (zgd_b (zgd_N fun _ => zgd_in) zgd_X)) (zgd_b zgd_in zgd_X)) (zgd_b (zgd_b (zgd_N fun _ => zgd_in) zgd_X) (zgd_b (zgd_b zgd_in zgd_X) (zgd_b (zgd_b zgd_in zgd_X) zgd_X)))
theorem zgd_21 : zgd rest full w (zoLcmp rest ls st w) := by unfold zoLcmp; split <;> (repeat' first | exact zgd_X | exact zgd_in | exact zgd_inl (by first | exact Nat.le_refl _ | exact Nat.le_succ _ | exact Nat.le_add_right _ _) (by first | exact Nat.le_refl _ | exact Nat.le_succ _ | exact Nat.le_add_right _ _) | exact zgd_go (Nat.le_refl _) (Nat.le_refl _) | refine zgd_b ?_ ?_ | refine zgd_N fun _ => ?_ | refine zgd_V fun _ => ?_ | refine zgd_cell fun _ _ _ _ _ => ?_ | refine zgd_rem fun _ => ?_ | refine zgd_set fun _ => ?_ | refine zgd_put fun _ => ?_ | refine zgd_cmp fun _ => ?_ | refine zgd_cmpB fun _ => ?_ | refine zgd_lcB fun _ => ?_ | refine zgd_ar fun _ => ?_ | refine zgd_obj fun _ _ => ?_)
theorem zgd_22 : zgd rest full w (zoFcmp rest ls st w b) := by unfold zoFcmp; split <;> (repeat' first | exact zgd_X | exact zgd_in | exact zgd_inl (by first | exact Nat.le_refl _ | exact Nat.le_succ _ | exact Nat.le_add_right _ _) (by first | exact Nat.le_refl _ | exact Nat.le_succ _ | exact Nat.le_add_right _ _) | exact zgd_go (Nat.le_refl _) (Nat.le_refl _) | refine zgd_b ?_ ?_ | refine zgd_N fun _ => ?_ | refine zgd_V fun _ => ?_ | refine zgd_cell fun _ _ _ _ _ => ?_ | refine zgd_rem fun _ => ?_ | refine zgd_set fun _ => ?_ | refine zgd_put fun _ => ?_ | refine zgd_cmp fun _ => ?_ | refine zgd_cmpB fun _ => ?_ | refine zgd_lcB fun _ => ?_ | refine zgd_ar fun _ => ?_ | refine zgd_obj fun _ _ => ?_)
theorem zgd_23 : zgd rest full w (zoNull rest ls st w full a) := by unfold zoNull; split <;> (repeat' first | exact zgd_X | exact zgd_in | exact zgd_inl (by first | exact Nat.le_refl _ | exact Nat.le_succ _ | exact Nat.le_add_right _ _) (by first | exact Nat.le_refl _ | exact Nat.le_succ _ | exact Nat.le_add_right _ _) | exact zgd_go (Nat.le_refl _) (Nat.le_refl _) | refine zgd_b ?_ ?_ | refine zgd_N fun _ => ?_ | refine zgd_V fun _ => ?_ | refine zgd_cell fun _ _ _ _ _ => ?_ | refine zgd_rem fun _ => ?_ | refine zgd_set fun _ => ?_ | refine zgd_put fun _ => ?_ | refine zgd_cmp fun _ => ?_ | refine zgd_cmpB fun _ => ?_ | refine zgd_lcB fun _ => ?_ | refine zgd_ar fun _ => ?_ | refine zgd_obj fun _ _ => ?_)
theorem zgd_24 : zgd rest full w (zoSwitch ls st w full a b l) := by unfold zoSwitch; split <;> (repeat' first | exact zgd_X | exact zgd_in | exact zgd_inl (by first | exact Nat.le_refl _ | exact Nat.le_succ _ | exact Nat.le_add_right _ _) (by first | exact Nat.le_refl _ | exact Nat.le_succ _ | exact Nat.le_add_right _ _) | exact zgd_go (Nat.le_refl _) (Nat.le_refl _) | refine zgd_b ?_ ?_ | refine zgd_N fun _ => ?_ | refine zgd_V fun _ => ?_ | refine zgd_cell fun _ _ _ _ _ => ?_ | refine zgd_rem fun _ => ?_ | refine zgd_set fun _ => ?_ | refine zgd_put fun _ => ?_ | refine zgd_cmp fun _ => ?_ | refine zgd_cmpB fun _ => ?_ | refine zgd_lcB fun _ => ?_ | refine zgd_ar fun _ => ?_ | refine zgd_obj fun _ _ => ?_)
theorem zgd_26 : zgd rest full w (zoInit rest ls st w) := by unfold zoInit; split <;> (repeat' first | exact zgd_X | exact zgd_in | exact zgd_inl (by first | exact Nat.le_refl _ | exact Nat.le_succ _ | exact Nat.le_add_right _ _) (by first | exact Nat.le_refl _ | exact Nat.le_succ _ | exact Nat.le_add_right _ _) | exact zgd_go (Nat.le_refl _) (Nat.le_refl _) | refine zgd_b ?_ ?_ | refine zgd_N fun _ => ?_ | refine zgd_V fun _ => ?_ | refine zgd_cell fun _ _ _ _ _ => ?_ | refine zgd_rem fun _ => ?_ | refine zgd_set fun _ => ?_ | refine zgd_put fun _ => ?_ | refine zgd_cmp fun _ => ?_ | refine zgd_cmpB fun _ => ?_ | refine zgd_lcB fun _ => ?_ | refine zgd_ar fun _ => ?_ | refine zgd_obj fun _ _ => ?_)
theorem zgd_27 : zgd rest full w (zoMath rest ls st w a) := by unfold zoMath; split <;> (repeat' first | exact zgd_X | exact zgd_in | exact zgd_inl (by first | exact Nat.le_refl _ | exact Nat.le_succ _ | exact Nat.le_add_right _ _) (by first | exact Nat.le_refl _ | exact Nat.le_succ _ | exact Nat.le_add_right _ _) | exact zgd_go (Nat.le_refl _) (Nat.le_refl _) | refine zgd_b ?_ ?_ | refine zgd_N fun _ => ?_ | refine zgd_V fun _ => ?_ | refine zgd_cell fun _ _ _ _ _ => ?_ | refine zgd_rem fun _ => ?_ | refine zgd_set fun _ => ?_ | refine zgd_put fun _ => ?_ | refine zgd_cmp fun _ => ?_ | refine zgd_cmpB fun _ => ?_ | refine zgd_lcB fun _ => ?_ | refine zgd_ar fun _ => ?_ | refine zgd_obj fun _ _ => ?_)
theorem zgd_28 : zgd rest full w (zoCopy rest ls st w) := by unfold zoCopy; split <;> (repeat' first | exact zgd_X | exact zgd_in | exact zgd_inl (by first | exact Nat.le_refl _ | exact Nat.le_succ _ | exact Nat.le_add_right _ _) (by first | exact Nat.le_refl _ | exact Nat.le_succ _ | exact Nat.le_add_right _ _) | exact zgd_go (Nat.le_refl _) (Nat.le_refl _) | refine zgd_b ?_ ?_ | refine zgd_N fun _ => ?_ | refine zgd_V fun _ => ?_ | refine zgd_cell fun _ _ _ _ _ => ?_ | refine zgd_rem fun _ => ?_ | refine zgd_set fun _ => ?_ | refine zgd_put fun _ => ?_ | refine zgd_cmp fun _ => ?_ | refine zgd_cmpB fun _ => ?_ | refine zgd_lcB fun _ => ?_ | refine zgd_ar fun _ => ?_ | refine zgd_obj fun _ _ => ?_)
/-- after a call: likewise, or an end with counts that didn't fall -/
def zgd2 (rest full : List zE) (w : zW) (o : zO) : Prop := match o with
  | .inl S => (S.1 = rest ∨ ∃ t, S.1 = zfindS full t) ∧ w.2.2.1 ≤ S.2.2.2.2.2.1 ∧ w.2.2.2 ≤ S.2.2.2.2.2.2
  | .inr r => w.2.2.1 ≤ r.2.2.2.2.1 ∧ w.2.2.2 ≤ r.2.2.2.2.2
theorem zgd_2of {o : zO} (h : zgd rest full w o) (hl : zlive o) : zgd2 rest full w o := by
  cases o with
  | inl S => exact h
  | inr r => exact absurd h hl
theorem zgd2_b {c : Bool} {t e : zO} (h1 : zlive t → zgd2 rest full w t) (h2 : zlive e → zgd2 rest full w e) (h : zlive (zb c t e)) : zgd2 rest full w (zb c t e) := by
  cases c
  · exact h2 h
  · exact h1 h
theorem zgd2_go {t : Nat} {st : List zV} {w1 : zW} (h1 : w.2.2.1 ≤ w1.2.2.1) (h2 : w.2.2.2 ≤ w1.2.2.2) : zlive (zgo full t ls st w1) → zgd2 rest full w (zgo full t ls st w1) := fun h => zgd_2of (zgd_go h1 h2) h
theorem zgd2_X : zlive zX → zgd2 rest full w zX := fun h => (zX_live h).elim
theorem zgd_hand {hs : List Nat} {v : zV} {w2 : zW} (h1 : w.2.2.1 ≤ w2.2.2.1) (h2 : w.2.2.2 ≤ w2.2.2.2) : zlive (zhand ls full hs v w2) → zgd2 rest full w (zhand ls full hs v w2) := by
  rcases hs with _ | ⟨e1, _ | ⟨t1, _ | ⟨e2, _ | ⟨t2, hs⟩⟩⟩⟩
  · exact fun _ => ⟨h1, h2⟩
  · exact fun _ => ⟨h1, h2⟩
  · exact fun h => zgd2_b (zgd2_go h1 h2) zgd2_X h
  · exact fun h => zgd2_b (zgd2_go h1 h2) zgd2_X h
  · exact fun h => zgd2_b (zgd2_go h1 h2) (fun h => zgd2_b (zgd2_go h1 h2) zgd2_X h) h
theorem zgd_15 {rec : Nat → List zV → zW → zR} (h9 : zlive (zoInvoke rest ls st w rec full a b l)) : zgd2 rest full w (zoInvoke rest ls st w rec full a b l) := by
  rcases l with _ | ⟨kd, _ | ⟨rc, hs⟩⟩
  · exact (zX_live h9).elim
  · exact (zX_live h9).elim
  · obtain ⟨xs, st1, rfl, -, -, -, heq⟩ := zinv_spec h9
    rw [heq] at h9
    rw [heq]
    generalize rec a xs.reverse (w.1, w.2.1, 0, 0) = r at h9
    exact zgd2_b (fun _ => ⟨Or.inl rfl, Nat.le_add_right _ _, Nat.le_add_right _ _⟩) (fun h => zgd2_b (fun _ => ⟨Or.inl rfl, Nat.le_add_right _ _, Nat.le_add_right _ _⟩) (fun h => zgd2_b (zgd_hand (Nat.le_add_right _ _) (Nat.le_add_right _ _)) zgd2_X h) h) h9
end ZGO
end
section
/-! ===== what the words say of the classes ===== -/
theorem zsubw {ws : List Cond} (ps : List Nat) (h1 : ws = ps.filterMap (fun i => lw_tbl[i]?)) (h2 : ws.all goodWord = true) : ∀ w ∈ ws, w ∈ zGd := by
  intro w hw
  have h3 := List.all_eq_true.mp h2 w hw
  rw [h1] at hw
  obtain ⟨i, -, hi⟩ := List.mem_filterMap.mp hw
  exact List.mem_filter.mpr ⟨List.mem_of_getElem? hi, h3⟩
noncomputable def zdfB (fs : zA) (ty : Nat → FieldType) (N : Nat) : Bool := (List.range N).all fun k => match ty k with
  | .int => zeq (zget fs k (5, 0, 0)) (0, 0, 0)
  | .boolean => zeq (zget fs k (5, 0, 0)) (0, 0, 0)
  | .long => zeq (zget fs k (5, 0, 0)) (2, 0, 0)
  | .object _ => zeq (zget fs k (5, 0, 0)) (5, 0, 0)
  | .array _ => zeq (zget fs k (5, 0, 0)) (5, 0, 0)
  | _ => false
theorem zdfB_ok {fs : zA} {ty : Nat → FieldType} {N : Nat} (h : zdfB fs ty N = true) : ∀ (ad : List Nat) (b k : Nat), k < N → zRV ad b (zget fs k (5, 0, 0)) (defaultValue (ty k)) := by
  intro ad b k hk
  have h1 := List.all_eq_true.mp h k (List.mem_range.mpr hk)
  split at h1
  · rename_i q; rw [zeq_spec h1, q]; exact rfl
  · rename_i q; rw [zeq_spec h1, q]; exact rfl
  · rename_i q; rw [zeq_spec h1, q]; exact rfl
  · rename_i q; rw [zeq_spec h1, q]; exact rfl
  · rename_i q; rw [zeq_spec h1, q]; exact rfl
  · cases h1
def zty : Nat → Nat → FieldType
  | 0 => tyX0
  | 1 => tyX1
  | 2 => tyX2
  | 3 => tyX3
  | 4 => tyX4
  | 5 => tyX5
  | 6 => tyX6
  | 7 => tyX7
  | 8 => tyX8
  | 9 => tyX9
  | _ => tyX10
theorem zlw_0 : ∀ w ∈ u_ws RX0 TX0 3, w ∈ zGd   := zsubw [275, 277, 279] (by decide +kernel) (by decide +kernel)
theorem zin_0 : Cond.instantiable RX0 3 ∈ zGd := zat_mem (p := 249) (by decide +kernel)
theorem zit_0 : Cond.initialized RX0 ∈ zGd := zat_mem (p := 132) (by decide +kernel)
theorem zdf_0 : ∃ fs, zobjs[0]? = some (3, fs) ∧ zdfB fs tyX0 3 = true := ⟨_, rfl, by decide +kernel⟩
theorem zlw_1 : ∀ w ∈ u_ws RX1 TX1 6, w ∈ zGd   := zsubw [367, 369, 371, 373, 375, 377] (by decide +kernel) (by decide +kernel)
theorem zin_1 : Cond.instantiable RX1 6 ∈ zGd := zat_mem (p := 353) (by decide +kernel)
theorem zit_1 : Cond.initialized RX1 ∈ zGd := zat_mem (p := 137) (by decide +kernel)
theorem zdf_1 : ∃ fs, zobjs[1]? = some (6, fs) ∧ zdfB fs tyX1 6 = true := ⟨_, rfl, by decide +kernel⟩
theorem zlw_2 : ∀ w ∈ u_ws RX2 TX2 7, w ∈ zGd   := zsubw [297, 299, 301, 303, 305, 307, 309] (by decide +kernel) (by decide +kernel)
theorem zin_2 : Cond.instantiable RX2 7 ∈ zGd := zat_mem (p := 285) (by decide +kernel)
theorem zit_2 : Cond.initialized RX2 ∈ zGd := zat_mem (p := 134) (by decide +kernel)
theorem zdf_2 : ∃ fs, zobjs[2]? = some (7, fs) ∧ zdfB fs tyX2 7 = true := ⟨_, rfl, by decide +kernel⟩
theorem zlw_3 : ∀ w ∈ u_ws RX3 TX3 4, w ∈ zGd   := zsubw [343, 345, 347, 349] (by decide +kernel) (by decide +kernel)
theorem zin_3 : Cond.instantiable RX3 4 ∈ zGd := zat_mem (p := 313) (by decide +kernel)
theorem zit_3 : Cond.initialized RX3 ∈ zGd := zat_mem (p := 135) (by decide +kernel)
theorem zdf_3 : ∃ fs, zobjs[3]? = some (4, fs) ∧ zdfB fs tyX3 4 = true := ⟨_, rfl, by decide +kernel⟩
theorem zlw_4 : ∀ w ∈ u_ws RX4 TX4 8, w ∈ zGd   := zsubw [173, 175, 177, 179, 181, 183, 185, 187] (by decide +kernel) (by decide +kernel)
theorem zin_4 : Cond.instantiable RX4 8 ∈ zGd := zat_mem (p := 160) (by decide +kernel)
theorem zit_4 : Cond.initialized RX4 ∈ zGd := zat_mem (p := 128) (by decide +kernel)
theorem zdf_4 : ∃ fs, zobjs[4]? = some (8, fs) ∧ zdfB fs tyX4 8 = true := ⟨_, rfl, by decide +kernel⟩
theorem zlw_5 : ∀ w ∈ u_ws RX5 TX5 2, w ∈ zGd   := zsubw [266, 268] (by decide +kernel) (by decide +kernel)
theorem zin_5 : Cond.instantiable RX5 2 ∈ zGd := zat_mem (p := 255) (by decide +kernel)
theorem zit_5 : Cond.initialized RX5 ∈ zGd := zat_mem (p := 133) (by decide +kernel)
theorem zdf_5 : ∃ fs, zobjs[5]? = some (2, fs) ∧ zdfB fs tyX5 2 = true := ⟨_, rfl, by decide +kernel⟩
theorem zlw_6 : ∀ w ∈ u_ws RX6 TX6 5, w ∈ zGd   := zsubw [235, 237, 239, 241, 243] (by decide +kernel) (by decide +kernel)
theorem zin_6 : Cond.instantiable RX6 5 ∈ zGd := zat_mem (p := 192) (by decide +kernel)
theorem zit_6 : Cond.initialized RX6 ∈ zGd := zat_mem (p := 129) (by decide +kernel)
theorem zdf_6 : ∃ fs, zobjs[6]? = some (5, fs) ∧ zdfB fs tyX6 5 = true := ⟨_, rfl, by decide +kernel⟩
theorem zlw_7 : ∀ w ∈ u_ws RX7 TX7 3, w ∈ zGd   := zsubw [328, 330, 332] (by decide +kernel) (by decide +kernel)
theorem zin_7 : Cond.instantiable RX7 3 ∈ zGd := zat_mem (p := 319) (by decide +kernel)
theorem zit_7 : Cond.initialized RX7 ∈ zGd := zat_mem (p := 136) (by decide +kernel)
theorem zdf_7 : ∃ fs, zobjs[7]? = some (3, fs) ∧ zdfB fs tyX7 3 = true := ⟨_, rfl, by decide +kernel⟩
theorem zlw_8 : ∀ w ∈ u_ws RX8 TX8 4, w ∈ zGd   := zsubw [210, 212, 214, 216] (by decide +kernel) (by decide +kernel)
theorem zin_8 : Cond.instantiable RX8 4 ∈ zGd := zat_mem (p := 198) (by decide +kernel)
theorem zit_8 : Cond.initialized RX8 ∈ zGd := zat_mem (p := 130) (by decide +kernel)
theorem zdf_8 : ∃ fs, zobjs[8]? = some (4, fs) ∧ zdfB fs tyX8 4 = true := ⟨_, rfl, by decide +kernel⟩
theorem zlw_9 : ∀ w ∈ u_ws RX9 TX9 14, w ∈ zGd   := zsubw [394, 396, 398, 400, 402, 404, 406, 408, 410, 412, 414, 416, 418, 420] (by decide +kernel) (by decide +kernel)
theorem zin_9 : Cond.instantiable RX9 14 ∈ zGd := zat_mem (p := 152) (by decide +kernel)
theorem zit_9 : Cond.initialized RX9 ∈ zGd := zat_mem (p := 127) (by decide +kernel)
theorem zdf_9 : ∃ fs, zobjs[9]? = some (14, fs) ∧ zdfB fs tyX9 14 = true := ⟨_, rfl, by decide +kernel⟩
theorem zlw_10 : ∀ w ∈ u_ws RX10 TX10 53, w ∈ zGd   := zsubw [1371, 1373, 1375, 1377, 1379, 1381, 1383, 1385, 1387, 1389, 1391, 1393, 1395, 1397, 1399, 1401, 1403, 1405, 1407, 1409, 1411, 1413, 1415, 1417, 1419, 1421, 1423, 1425, 1427, 1429, 1431, 1433, 1435, 1437, 1439, 1441, 1443, 1445, 1447, 1449, 1451, 1453, 1455, 1457, 1459, 1461, 1463, 1465, 1467, 1469, 1471, 1473, 1475] (by decide +kernel) (by decide +kernel)
theorem zin_10 : Cond.instantiable RX10 53 ∈ zGd := zat_mem (p := 1313) (by decide +kernel)
theorem zit_10 : Cond.initialized RX10 ∈ zGd := zat_mem (p := 138) (by decide +kernel)
theorem zdf_10 : ∃ fs, zobjs[10]? = some (53, fs) ∧ zdfB fs tyX10 53 = true := ⟨_, rfl, by decide +kernel⟩
theorem zcls {ci : Nat} {C : String} {T : u_T} {N : Nat} (h : vwCl[ci]? = some (C, T, N)) : ci < 100 ∧ (∀ w ∈ u_ws C T N, w ∈ zGd) ∧ (∀ k, k < N → parseFieldDescriptor (T k).2.2.1 = some (zty ci k)) ∧ (∀ a, a < N → ∀ b, b < N → a ≠ b → (T a).2.1 ≠ (T b).2.1) ∧ Cond.instantiable C N ∈ zGd ∧ Cond.initialized C ∈ zGd ∧ ∃ fs, zobjs[ci]? = some (N, fs) ∧ zdfB fs (zty ci) N = true := by
  match ci, h with
  | 0, h => have h : some (RX0, TX0, 3) = some (C, T, N) := h; cases h; exact ⟨by decide, zlw_0, tyX0_ok, nmX0, zin_0, zit_0, zdf_0⟩
  | 1, h => have h : some (RX1, TX1, 6) = some (C, T, N) := h; cases h; exact ⟨by decide, zlw_1, tyX1_ok, nmX1, zin_1, zit_1, zdf_1⟩
  | 2, h => have h : some (RX2, TX2, 7) = some (C, T, N) := h; cases h; exact ⟨by decide, zlw_2, tyX2_ok, nmX2, zin_2, zit_2, zdf_2⟩
  | 3, h => have h : some (RX3, TX3, 4) = some (C, T, N) := h; cases h; exact ⟨by decide, zlw_3, tyX3_ok, nmX3, zin_3, zit_3, zdf_3⟩
  | 4, h => have h : some (RX4, TX4, 8) = some (C, T, N) := h; cases h; exact ⟨by decide, zlw_4, tyX4_ok, nmX4, zin_4, zit_4, zdf_4⟩
  | 5, h => have h : some (RX5, TX5, 2) = some (C, T, N) := h; cases h; exact ⟨by decide, zlw_5, tyX5_ok, nmX5, zin_5, zit_5, zdf_5⟩
  | 6, h => have h : some (RX6, TX6, 5) = some (C, T, N) := h; cases h; exact ⟨by decide, zlw_6, tyX6_ok, nmX6, zin_6, zit_6, zdf_6⟩
  | 7, h => have h : some (RX7, TX7, 3) = some (C, T, N) := h; cases h; exact ⟨by decide, zlw_7, tyX7_ok, nmX7, zin_7, zit_7, zdf_7⟩
  | 8, h => have h : some (RX8, TX8, 4) = some (C, T, N) := h; cases h; exact ⟨by decide, zlw_8, tyX8_ok, nmX8, zin_8, zit_8, zdf_8⟩
  | 9, h => have h : some (RX9, TX9, 14) = some (C, T, N) := h; cases h; exact ⟨by decide, zlw_9, tyX9_ok, nmX9, zin_9, zit_9, zdf_9⟩
  | 10, h => have h : some (RX10, TX10, 53) = some (C, T, N) := h; cases h; exact ⟨by decide, zlw_10, tyX10_ok, nmX10, zin_10, zit_10, zdf_10⟩
  | n + 11, h => cases h
theorem zac_I : Cond.arrayClass (newarray.typeOf .int) ∈ zGd := zat_mem (p := 220) (by decide +kernel)
theorem zac_B : Cond.arrayClass (newarray.typeOf .byte) ∈ zGd := zat_mem (p := 190) (by decide +kernel)
theorem zac_Z : Cond.arrayClass (newarray.typeOf .boolean) ∈ zGd := zat_mem (p := 271) (by decide +kernel)
theorem zac_J : Cond.arrayClass (newarray.typeOf .long) ∈ zGd := zat_mem (p := 219) (by decide +kernel)
theorem zac_D : Cond.arrayClass (newarray.typeOf .double) ∈ zGd := zat_mem (p := 1979) (by decide +kernel)
theorem zoi_1 : Cond.instanceMethod Lib.objectInit ∈ zGd := zat_mem (p := 157) (by decide +kernel)
theorem zoi_2 : Cond.code Lib.objectInit ⟨#[0xb1]⟩ 1 none ∈ zGd := zat_mem (p := 158) (by decide +kernel)
theorem zmax_1 : Cond.static Lib.Math.max.name ∈ zGd := zat_mem (p := 204) (by decide +kernel)
theorem zmax_2 : Cond.code Lib.Math.max.name Lib.Math.max.code 2 (some .int) ∈ zGd := zat_mem (p := 205) (by decide +kernel)
theorem zmin_1 : Cond.static Lib.Math.min.name ∈ zGd := zat_mem (p := 568) (by decide +kernel)
theorem zmin_2 : Cond.code Lib.Math.min.name Lib.Math.min.code 2 (some .int) ∈ zGd := zat_mem (p := 569) (by decide +kernel)
theorem zmath : Cond.initialized "java/lang/Math" ∈ zGd := zat_mem (p := 131) (by decide +kernel)
theorem zac_1 : Cond.native arraycopyName ∈ zGd := zat_mem (p := 666) (by decide +kernel)
theorem zac_2 : Cond.static arraycopyName ∈ zGd := zat_mem (p := 665) (by decide +kernel)
theorem zac_3 : Cond.initialized "java/lang/System" ∈ zGd := zat_mem (p := 148) (by decide +kernel)
end
section
theorem i_vc : Claimed_1_1 ∧ Claimed_1_2 := sorry
end
