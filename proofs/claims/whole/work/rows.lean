section
-- ===== PART A: goes FIRST, ahead of the names: the tables' words, and 'selects' of the private methods out of them =====
/-- a private method of a class that the tables say can be made, by its rows of tables_1 -/
def lw_okq (q : MethodName × Nat) : Prop := (q.1.cls ≠ "java/lang/invoke/MethodHandle" ∧ q.1.cls ≠ "java/lang/invoke/VarHandle") ∧ Cond.instantiable q.1.cls q.2 ∈ tables_1 ∧ Cond.privateMethod q.1 ∈ tables_1 ∧ Cond.instanceMethod q.1 ∈ tables_1
theorem lw_p0 : lw_okq (⟨"BeadWords$Reader", "readToken", "(LBeadWords$Tape;)V"⟩, 5) := ⟨⟨by decide +kernel, by decide +kernel⟩, List.mem_of_getElem? (i := 85) (by decide +kernel), List.mem_of_getElem? (i := 257) (by decide +kernel), List.mem_of_getElem? (i := 258) (by decide +kernel)⟩
theorem lw_p1 : lw_okq (⟨"BeadWords$Reader", "readLine", "(LBeadWords$Tape;)I"⟩, 5) := ⟨⟨by decide +kernel, by decide +kernel⟩, List.mem_of_getElem? (i := 85) (by decide +kernel), List.mem_of_getElem? (i := 265) (by decide +kernel), List.mem_of_getElem? (i := 266) (by decide +kernel)⟩
theorem lw_p2 : lw_okq (⟨"BeadWords$Reader", "unfit", "()I"⟩, 5) := ⟨⟨by decide +kernel, by decide +kernel⟩, List.mem_of_getElem? (i := 85) (by decide +kernel), List.mem_of_getElem? (i := 269) (by decide +kernel), List.mem_of_getElem? (i := 270) (by decide +kernel)⟩
theorem lw_p3 : lw_okq (⟨"BeadWords$Reader", "isName", "(LBeadWords$Tape;Ljava/lang/String;)Z"⟩, 5) := ⟨⟨by decide +kernel, by decide +kernel⟩, List.mem_of_getElem? (i := 85) (by decide +kernel), List.mem_of_getElem? (i := 274) (by decide +kernel), List.mem_of_getElem? (i := 275) (by decide +kernel)⟩
theorem lw_p4 : lw_okq (⟨"BeadWords$Reader", "readRow", "(LBeadWords$Tape;)I"⟩, 5) := ⟨⟨by decide +kernel, by decide +kernel⟩, List.mem_of_getElem? (i := 85) (by decide +kernel), List.mem_of_getElem? (i := 326) (by decide +kernel), List.mem_of_getElem? (i := 327) (by decide +kernel)⟩
theorem lw_p5 : lw_okq (⟨"BeadWords$Reader", "isBeads", "(LBeadWords$Tape;)Z"⟩, 5) := ⟨⟨by decide +kernel, by decide +kernel⟩, List.mem_of_getElem? (i := 85) (by decide +kernel), List.mem_of_getElem? (i := 330) (by decide +kernel), List.mem_of_getElem? (i := 331) (by decide +kernel)⟩
theorem lw_p6 : lw_okq (⟨"BeadWords$Reader", "readSign", "(LBeadWords$Tape;)I"⟩, 5) := ⟨⟨by decide +kernel, by decide +kernel⟩, List.mem_of_getElem? (i := 85) (by decide +kernel), List.mem_of_getElem? (i := 345) (by decide +kernel), List.mem_of_getElem? (i := 346) (by decide +kernel)⟩
theorem lw_p7 : lw_okq (⟨"BeadWords$Reader", "readFro", "(LBeadWords$Tape;)I"⟩, 5) := ⟨⟨by decide +kernel, by decide +kernel⟩, List.mem_of_getElem? (i := 85) (by decide +kernel), List.mem_of_getElem? (i := 350) (by decide +kernel), List.mem_of_getElem? (i := 351) (by decide +kernel)⟩
theorem lw_p8 : lw_okq (⟨"BeadWords", "wordsInAll", "()I"⟩, 11) := ⟨⟨by decide +kernel, by decide +kernel⟩, List.mem_of_getElem? (i := 18) (by decide +kernel), List.mem_of_getElem? (i := 374) (by decide +kernel), List.mem_of_getElem? (i := 375) (by decide +kernel)⟩
theorem lw_p9 : lw_okq (⟨"BeadWords$Teller", "put", "(I)V"⟩, 2) := ⟨⟨by decide +kernel, by decide +kernel⟩, List.mem_of_getElem? (i := 111) (by decide +kernel), List.mem_of_getElem? (i := 386) (by decide +kernel), List.mem_of_getElem? (i := 387) (by decide +kernel)⟩
theorem lw_p10 : lw_okq (⟨"BeadWords$Teller", "tellLike", "(I)I"⟩, 2) := ⟨⟨by decide +kernel, by decide +kernel⟩, List.mem_of_getElem? (i := 111) (by decide +kernel), List.mem_of_getElem? (i := 406) (by decide +kernel), List.mem_of_getElem? (i := 407) (by decide +kernel)⟩
theorem lw_p11 : lw_okq (⟨"BeadWords$Teller", "tellMirror", "(LBeadWords$Picture;I)I"⟩, 2) := ⟨⟨by decide +kernel, by decide +kernel⟩, List.mem_of_getElem? (i := 111) (by decide +kernel), List.mem_of_getElem? (i := 410) (by decide +kernel), List.mem_of_getElem? (i := 411) (by decide +kernel)⟩
theorem lw_p12 : lw_okq (⟨"BeadWords$Teller", "tellRuns", "(LBeadWords$Picture;II)I"⟩, 2) := ⟨⟨by decide +kernel, by decide +kernel⟩, List.mem_of_getElem? (i := 111) (by decide +kernel), List.mem_of_getElem? (i := 415) (by decide +kernel), List.mem_of_getElem? (i := 416) (by decide +kernel)⟩
theorem lw_p13 : lw_okq (⟨"BeadWords$Picture", "comesAgain", "(II)Z"⟩, 4) := ⟨⟨by decide +kernel, by decide +kernel⟩, List.mem_of_getElem? (i := 26) (by decide +kernel), List.mem_of_getElem? (i := 424) (by decide +kernel), List.mem_of_getElem? (i := 425) (by decide +kernel)⟩
theorem lw_p14 : lw_okq (⟨"BeadWords$Teller", "tellTimes", "(LBeadWords$Picture;II)I"⟩, 2) := ⟨⟨by decide +kernel, by decide +kernel⟩, List.mem_of_getElem? (i := 111) (by decide +kernel), List.mem_of_getElem? (i := 428) (by decide +kernel), List.mem_of_getElem? (i := 429) (by decide +kernel)⟩
theorem lw_p15 : lw_okq (⟨"BeadWords", "coloursInAll", "()I"⟩, 11) := ⟨⟨by decide +kernel, by decide +kernel⟩, List.mem_of_getElem? (i := 18) (by decide +kernel), List.mem_of_getElem? (i := 445) (by decide +kernel), List.mem_of_getElem? (i := 446) (by decide +kernel)⟩
def lw_privs_1 : List (MethodName × Nat) := [(⟨"BeadWords$Reader", "readToken", "(LBeadWords$Tape;)V"⟩, 5), (⟨"BeadWords$Reader", "readLine", "(LBeadWords$Tape;)I"⟩, 5), (⟨"BeadWords$Reader", "unfit", "()I"⟩, 5), (⟨"BeadWords$Reader", "isName", "(LBeadWords$Tape;Ljava/lang/String;)Z"⟩, 5), (⟨"BeadWords$Reader", "readRow", "(LBeadWords$Tape;)I"⟩, 5), (⟨"BeadWords$Reader", "isBeads", "(LBeadWords$Tape;)Z"⟩, 5), (⟨"BeadWords$Reader", "readSign", "(LBeadWords$Tape;)I"⟩, 5), (⟨"BeadWords$Reader", "readFro", "(LBeadWords$Tape;)I"⟩, 5), (⟨"BeadWords", "wordsInAll", "()I"⟩, 11), (⟨"BeadWords$Teller", "put", "(I)V"⟩, 2), (⟨"BeadWords$Teller", "tellLike", "(I)I"⟩, 2), (⟨"BeadWords$Teller", "tellMirror", "(LBeadWords$Picture;I)I"⟩, 2), (⟨"BeadWords$Teller", "tellRuns", "(LBeadWords$Picture;II)I"⟩, 2), (⟨"BeadWords$Picture", "comesAgain", "(II)Z"⟩, 4), (⟨"BeadWords$Teller", "tellTimes", "(LBeadWords$Picture;II)I"⟩, 2), (⟨"BeadWords", "coloursInAll", "()I"⟩, 11)]
theorem lw_r1 : ∀ q ∈ lw_privs_1, lw_okq q := List.forall_mem_cons.mpr ⟨lw_p0, List.forall_mem_cons.mpr ⟨lw_p1, List.forall_mem_cons.mpr ⟨lw_p2, List.forall_mem_cons.mpr ⟨lw_p3, List.forall_mem_cons.mpr ⟨lw_p4, List.forall_mem_cons.mpr ⟨lw_p5, List.forall_mem_cons.mpr ⟨lw_p6, List.forall_mem_cons.mpr ⟨lw_p7, List.forall_mem_cons.mpr ⟨lw_p8, List.forall_mem_cons.mpr ⟨lw_p9, List.forall_mem_cons.mpr ⟨lw_p10, List.forall_mem_cons.mpr ⟨lw_p11, List.forall_mem_cons.mpr ⟨lw_p12, List.forall_mem_cons.mpr ⟨lw_p13, List.forall_mem_cons.mpr ⟨lw_p14, List.forall_mem_cons.mpr ⟨lw_p15, fun _ h => absurd h List.not_mem_nil⟩⟩⟩⟩⟩⟩⟩⟩⟩⟩⟩⟩⟩⟩⟩⟩
theorem lw_p16 : lw_okq (⟨"BeadWords$Slip", "speakLike", "(LBeadWords$Picture;Z)I"⟩, 3) := ⟨⟨by decide +kernel, by decide +kernel⟩, List.mem_of_getElem? (i := 126) (by decide +kernel), List.mem_of_getElem? (i := 524) (by decide +kernel), List.mem_of_getElem? (i := 525) (by decide +kernel)⟩
theorem lw_p17 : lw_okq (⟨"BeadWords$Slip", "speakMirror", "(LBeadWords$Picture;)I"⟩, 3) := ⟨⟨by decide +kernel, by decide +kernel⟩, List.mem_of_getElem? (i := 126) (by decide +kernel), List.mem_of_getElem? (i := 530) (by decide +kernel), List.mem_of_getElem? (i := 531) (by decide +kernel)⟩
theorem lw_p18 : lw_okq (⟨"BeadWords$Slip", "speakRuns", "(I)I"⟩, 3) := ⟨⟨by decide +kernel, by decide +kernel⟩, List.mem_of_getElem? (i := 126) (by decide +kernel), List.mem_of_getElem? (i := 534) (by decide +kernel), List.mem_of_getElem? (i := 535) (by decide +kernel)⟩
theorem lw_p19 : lw_okq (⟨"BeadWords$Slip", "speakTimes", "(LBeadWords$Picture;)I"⟩, 3) := ⟨⟨by decide +kernel, by decide +kernel⟩, List.mem_of_getElem? (i := 126) (by decide +kernel), List.mem_of_getElem? (i := 539) (by decide +kernel), List.mem_of_getElem? (i := 540) (by decide +kernel)⟩
theorem lw_p20 : lw_okq (⟨"BeadWords", "drawRow", "(II)V"⟩, 11) := ⟨⟨by decide +kernel, by decide +kernel⟩, List.mem_of_getElem? (i := 18) (by decide +kernel), List.mem_of_getElem? (i := 666) (by decide +kernel), List.mem_of_getElem? (i := 667) (by decide +kernel)⟩
theorem lw_p21 : lw_okq (⟨"BeadWords", "imagesThere", "()I"⟩, 11) := ⟨⟨by decide +kernel, by decide +kernel⟩, List.mem_of_getElem? (i := 18) (by decide +kernel), List.mem_of_getElem? (i := 728) (by decide +kernel), List.mem_of_getElem? (i := 729) (by decide +kernel)⟩
theorem lw_p22 : lw_okq (⟨"BeadWordsModel", "reads", "()V"⟩, 20) := ⟨⟨by decide +kernel, by decide +kernel⟩, List.mem_of_getElem? (i := 732) (by decide +kernel), List.mem_of_getElem? (i := 816) (by decide +kernel), List.mem_of_getElem? (i := 817) (by decide +kernel)⟩
theorem lw_p23 : lw_okq (⟨"BeadWordsModel", "byteAt", "(I)I"⟩, 20) := ⟨⟨by decide +kernel, by decide +kernel⟩, List.mem_of_getElem? (i := 732) (by decide +kernel), List.mem_of_getElem? (i := 820) (by decide +kernel), List.mem_of_getElem? (i := 821) (by decide +kernel)⟩
theorem lw_p24 : lw_okq (⟨"BeadWordsModel", "requires", "(ZI)V"⟩, 20) := ⟨⟨by decide +kernel, by decide +kernel⟩, List.mem_of_getElem? (i := 732) (by decide +kernel), List.mem_of_getElem? (i := 826) (by decide +kernel), List.mem_of_getElem? (i := 827) (by decide +kernel)⟩
theorem lw_p25 : lw_okq (⟨"BeadWordsModel", "readLine", "()V"⟩, 20) := ⟨⟨by decide +kernel, by decide +kernel⟩, List.mem_of_getElem? (i := 732) (by decide +kernel), List.mem_of_getElem? (i := 830) (by decide +kernel), List.mem_of_getElem? (i := 831) (by decide +kernel)⟩
theorem lw_p26 : lw_okq (⟨"BeadWordsModel", "is", "(III)Z"⟩, 20) := ⟨⟨by decide +kernel, by decide +kernel⟩, List.mem_of_getElem? (i := 732) (by decide +kernel), List.mem_of_getElem? (i := 834) (by decide +kernel), List.mem_of_getElem? (i := 835) (by decide +kernel)⟩
theorem lw_p27 : lw_okq (⟨"BeadWordsModel", "readRow", "()V"⟩, 20) := ⟨⟨by decide +kernel, by decide +kernel⟩, List.mem_of_getElem? (i := 732) (by decide +kernel), List.mem_of_getElem? (i := 838) (by decide +kernel), List.mem_of_getElem? (i := 839) (by decide +kernel)⟩
theorem lw_p28 : lw_okq (⟨"BeadWordsModel", "areBeads", "()Z"⟩, 20) := ⟨⟨by decide +kernel, by decide +kernel⟩, List.mem_of_getElem? (i := 732) (by decide +kernel), List.mem_of_getElem? (i := 842) (by decide +kernel), List.mem_of_getElem? (i := 843) (by decide +kernel)⟩
theorem lw_p29 : lw_okq (⟨"BeadWordsModel", "width", "()I"⟩, 20) := ⟨⟨by decide +kernel, by decide +kernel⟩, List.mem_of_getElem? (i := 732) (by decide +kernel), List.mem_of_getElem? (i := 854) (by decide +kernel), List.mem_of_getElem? (i := 855) (by decide +kernel)⟩
theorem lw_p30 : lw_okq (⟨"BeadWordsModel", "beads", "()I"⟩, 20) := ⟨⟨by decide +kernel, by decide +kernel⟩, List.mem_of_getElem? (i := 732) (by decide +kernel), List.mem_of_getElem? (i := 858) (by decide +kernel), List.mem_of_getElem? (i := 859) (by decide +kernel)⟩
theorem lw_p31 : lw_okq (⟨"BeadWordsModel", "allWords", "()I"⟩, 20) := ⟨⟨by decide +kernel, by decide +kernel⟩, List.mem_of_getElem? (i := 732) (by decide +kernel), List.mem_of_getElem? (i := 862) (by decide +kernel), List.mem_of_getElem? (i := 863) (by decide +kernel)⟩
def lw_privs_2 : List (MethodName × Nat) := [(⟨"BeadWords$Slip", "speakLike", "(LBeadWords$Picture;Z)I"⟩, 3), (⟨"BeadWords$Slip", "speakMirror", "(LBeadWords$Picture;)I"⟩, 3), (⟨"BeadWords$Slip", "speakRuns", "(I)I"⟩, 3), (⟨"BeadWords$Slip", "speakTimes", "(LBeadWords$Picture;)I"⟩, 3), (⟨"BeadWords", "drawRow", "(II)V"⟩, 11), (⟨"BeadWords", "imagesThere", "()I"⟩, 11), (⟨"BeadWordsModel", "reads", "()V"⟩, 20), (⟨"BeadWordsModel", "byteAt", "(I)I"⟩, 20), (⟨"BeadWordsModel", "requires", "(ZI)V"⟩, 20), (⟨"BeadWordsModel", "readLine", "()V"⟩, 20), (⟨"BeadWordsModel", "is", "(III)Z"⟩, 20), (⟨"BeadWordsModel", "readRow", "()V"⟩, 20), (⟨"BeadWordsModel", "areBeads", "()Z"⟩, 20), (⟨"BeadWordsModel", "width", "()I"⟩, 20), (⟨"BeadWordsModel", "beads", "()I"⟩, 20), (⟨"BeadWordsModel", "allWords", "()I"⟩, 20)]
theorem lw_r2 : ∀ q ∈ lw_privs_2, lw_okq q := List.forall_mem_cons.mpr ⟨lw_p16, List.forall_mem_cons.mpr ⟨lw_p17, List.forall_mem_cons.mpr ⟨lw_p18, List.forall_mem_cons.mpr ⟨lw_p19, List.forall_mem_cons.mpr ⟨lw_p20, List.forall_mem_cons.mpr ⟨lw_p21, List.forall_mem_cons.mpr ⟨lw_p22, List.forall_mem_cons.mpr ⟨lw_p23, List.forall_mem_cons.mpr ⟨lw_p24, List.forall_mem_cons.mpr ⟨lw_p25, List.forall_mem_cons.mpr ⟨lw_p26, List.forall_mem_cons.mpr ⟨lw_p27, List.forall_mem_cons.mpr ⟨lw_p28, List.forall_mem_cons.mpr ⟨lw_p29, List.forall_mem_cons.mpr ⟨lw_p30, List.forall_mem_cons.mpr ⟨lw_p31, fun _ h => absurd h List.not_mem_nil⟩⟩⟩⟩⟩⟩⟩⟩⟩⟩⟩⟩⟩⟩⟩⟩
theorem lw_p32 : lw_okq (⟨"BeadWordsModel", "formOf", "(I)I"⟩, 20) := ⟨⟨by decide +kernel, by decide +kernel⟩, List.mem_of_getElem? (i := 732) (by decide +kernel), List.mem_of_getElem? (i := 866) (by decide +kernel), List.mem_of_getElem? (i := 867) (by decide +kernel)⟩
theorem lw_p33 : lw_okq (⟨"BeadWordsModel", "wordsBy", "(II)I"⟩, 20) := ⟨⟨by decide +kernel, by decide +kernel⟩, List.mem_of_getElem? (i := 732) (by decide +kernel), List.mem_of_getElem? (i := 870) (by decide +kernel), List.mem_of_getElem? (i := 871) (by decide +kernel)⟩
theorem lw_p34 : lw_okq (⟨"BeadWordsModel", "likeOf", "(IIZ)I"⟩, 20) := ⟨⟨by decide +kernel, by decide +kernel⟩, List.mem_of_getElem? (i := 732) (by decide +kernel), List.mem_of_getElem? (i := 874) (by decide +kernel), List.mem_of_getElem? (i := 875) (by decide +kernel)⟩
theorem lw_p35 : lw_okq (⟨"BeadWordsModel", "isSame", "(IIZ)Z"⟩, 20) := ⟨⟨by decide +kernel, by decide +kernel⟩, List.mem_of_getElem? (i := 732) (by decide +kernel), List.mem_of_getElem? (i := 878) (by decide +kernel), List.mem_of_getElem? (i := 879) (by decide +kernel)⟩
theorem lw_p36 : lw_okq (⟨"BeadWordsModel", "lineOf", "(II)I"⟩, 20) := ⟨⟨by decide +kernel, by decide +kernel⟩, List.mem_of_getElem? (i := 732) (by decide +kernel), List.mem_of_getElem? (i := 882) (by decide +kernel), List.mem_of_getElem? (i := 883) (by decide +kernel)⟩
theorem lw_p37 : lw_okq (⟨"BeadWordsModel", "isBack", "(I)Z"⟩, 20) := ⟨⟨by decide +kernel, by decide +kernel⟩, List.mem_of_getElem? (i := 732) (by decide +kernel), List.mem_of_getElem? (i := 886) (by decide +kernel), List.mem_of_getElem? (i := 887) (by decide +kernel)⟩
theorem lw_p38 : lw_okq (⟨"BeadWordsModel", "beadOf", "(II)I"⟩, 20) := ⟨⟨by decide +kernel, by decide +kernel⟩, List.mem_of_getElem? (i := 732) (by decide +kernel), List.mem_of_getElem? (i := 890) (by decide +kernel), List.mem_of_getElem? (i := 891) (by decide +kernel)⟩
theorem lw_p39 : lw_okq (⟨"BeadWordsModel", "runsOf", "(II)I"⟩, 20) := ⟨⟨by decide +kernel, by decide +kernel⟩, List.mem_of_getElem? (i := 732) (by decide +kernel), List.mem_of_getElem? (i := 894) (by decide +kernel), List.mem_of_getElem? (i := 895) (by decide +kernel)⟩
theorem lw_p40 : lw_okq (⟨"BeadWordsModel", "partOf", "(I)I"⟩, 20) := ⟨⟨by decide +kernel, by decide +kernel⟩, List.mem_of_getElem? (i := 732) (by decide +kernel), List.mem_of_getElem? (i := 901) (by decide +kernel), List.mem_of_getElem? (i := 902) (by decide +kernel)⟩
theorem lw_p41 : lw_okq (⟨"BeadWordsModel", "unlike", "()I"⟩, 20) := ⟨⟨by decide +kernel, by decide +kernel⟩, List.mem_of_getElem? (i := 732) (by decide +kernel), List.mem_of_getElem? (i := 905) (by decide +kernel), List.mem_of_getElem? (i := 906) (by decide +kernel)⟩
theorem lw_p42 : lw_okq (⟨"BeadWordsModel", "allRuns", "()I"⟩, 20) := ⟨⟨by decide +kernel, by decide +kernel⟩, List.mem_of_getElem? (i := 732) (by decide +kernel), List.mem_of_getElem? (i := 909) (by decide +kernel), List.mem_of_getElem? (i := 910) (by decide +kernel)⟩
theorem lw_p43 : lw_okq (⟨"BeadWordsModel", "colours", "()I"⟩, 20) := ⟨⟨by decide +kernel, by decide +kernel⟩, List.mem_of_getElem? (i := 732) (by decide +kernel), List.mem_of_getElem? (i := 913) (by decide +kernel), List.mem_of_getElem? (i := 914) (by decide +kernel)⟩
theorem lw_p44 : lw_okq (⟨"BeadWordsModel", "manyOf", "(II)I"⟩, 20) := ⟨⟨by decide +kernel, by decide +kernel⟩, List.mem_of_getElem? (i := 732) (by decide +kernel), List.mem_of_getElem? (i := 917) (by decide +kernel), List.mem_of_getElem? (i := 918) (by decide +kernel)⟩
theorem lw_p45 : lw_okq (⟨"BeadWordsModel", "isRow", "(I)Z"⟩, 20) := ⟨⟨by decide +kernel, by decide +kernel⟩, List.mem_of_getElem? (i := 732) (by decide +kernel), List.mem_of_getElem? (i := 925) (by decide +kernel), List.mem_of_getElem? (i := 926) (by decide +kernel)⟩
theorem lw_p46 : lw_okq (⟨"BeadWordsModel", "likes", "(I)I"⟩, 20) := ⟨⟨by decide +kernel, by decide +kernel⟩, List.mem_of_getElem? (i := 732) (by decide +kernel), List.mem_of_getElem? (i := 941) (by decide +kernel), List.mem_of_getElem? (i := 942) (by decide +kernel)⟩
theorem lw_p47 : lw_okq (⟨"BeadWordsModel", "wordOf", "(II)I"⟩, 20) := ⟨⟨by decide +kernel, by decide +kernel⟩, List.mem_of_getElem? (i := 732) (by decide +kernel), List.mem_of_getElem? (i := 954) (by decide +kernel), List.mem_of_getElem? (i := 955) (by decide +kernel)⟩
def lw_privs_3 : List (MethodName × Nat) := [(⟨"BeadWordsModel", "formOf", "(I)I"⟩, 20), (⟨"BeadWordsModel", "wordsBy", "(II)I"⟩, 20), (⟨"BeadWordsModel", "likeOf", "(IIZ)I"⟩, 20), (⟨"BeadWordsModel", "isSame", "(IIZ)Z"⟩, 20), (⟨"BeadWordsModel", "lineOf", "(II)I"⟩, 20), (⟨"BeadWordsModel", "isBack", "(I)Z"⟩, 20), (⟨"BeadWordsModel", "beadOf", "(II)I"⟩, 20), (⟨"BeadWordsModel", "runsOf", "(II)I"⟩, 20), (⟨"BeadWordsModel", "partOf", "(I)I"⟩, 20), (⟨"BeadWordsModel", "unlike", "()I"⟩, 20), (⟨"BeadWordsModel", "allRuns", "()I"⟩, 20), (⟨"BeadWordsModel", "colours", "()I"⟩, 20), (⟨"BeadWordsModel", "manyOf", "(II)I"⟩, 20), (⟨"BeadWordsModel", "isRow", "(I)Z"⟩, 20), (⟨"BeadWordsModel", "likes", "(I)I"⟩, 20), (⟨"BeadWordsModel", "wordOf", "(II)I"⟩, 20)]
theorem lw_r3 : ∀ q ∈ lw_privs_3, lw_okq q := List.forall_mem_cons.mpr ⟨lw_p32, List.forall_mem_cons.mpr ⟨lw_p33, List.forall_mem_cons.mpr ⟨lw_p34, List.forall_mem_cons.mpr ⟨lw_p35, List.forall_mem_cons.mpr ⟨lw_p36, List.forall_mem_cons.mpr ⟨lw_p37, List.forall_mem_cons.mpr ⟨lw_p38, List.forall_mem_cons.mpr ⟨lw_p39, List.forall_mem_cons.mpr ⟨lw_p40, List.forall_mem_cons.mpr ⟨lw_p41, List.forall_mem_cons.mpr ⟨lw_p42, List.forall_mem_cons.mpr ⟨lw_p43, List.forall_mem_cons.mpr ⟨lw_p44, List.forall_mem_cons.mpr ⟨lw_p45, List.forall_mem_cons.mpr ⟨lw_p46, List.forall_mem_cons.mpr ⟨lw_p47, fun _ h => absurd h List.not_mem_nil⟩⟩⟩⟩⟩⟩⟩⟩⟩⟩⟩⟩⟩⟩⟩⟩
theorem lw_p48 : lw_okq (⟨"BeadWordsModel", "speaks", "()Z"⟩, 20) := ⟨⟨by decide +kernel, by decide +kernel⟩, List.mem_of_getElem? (i := 732) (by decide +kernel), List.mem_of_getElem? (i := 971) (by decide +kernel), List.mem_of_getElem? (i := 972) (by decide +kernel)⟩
theorem lw_p49 : lw_okq (⟨"BeadWordsModel", "readLike", "(Z)Z"⟩, 20) := ⟨⟨by decide +kernel, by decide +kernel⟩, List.mem_of_getElem? (i := 732) (by decide +kernel), List.mem_of_getElem? (i := 975) (by decide +kernel), List.mem_of_getElem? (i := 976) (by decide +kernel)⟩
theorem lw_p50 : lw_okq (⟨"BeadWordsModel", "readMirror", "()Z"⟩, 20) := ⟨⟨by decide +kernel, by decide +kernel⟩, List.mem_of_getElem? (i := 732) (by decide +kernel), List.mem_of_getElem? (i := 979) (by decide +kernel), List.mem_of_getElem? (i := 980) (by decide +kernel)⟩
theorem lw_p51 : lw_okq (⟨"BeadWordsModel", "readRuns", "(I)Z"⟩, 20) := ⟨⟨by decide +kernel, by decide +kernel⟩, List.mem_of_getElem? (i := 732) (by decide +kernel), List.mem_of_getElem? (i := 983) (by decide +kernel), List.mem_of_getElem? (i := 984) (by decide +kernel)⟩
theorem lw_p52 : lw_okq (⟨"BeadWordsModel", "readTimes", "()Z"⟩, 20) := ⟨⟨by decide +kernel, by decide +kernel⟩, List.mem_of_getElem? (i := 732) (by decide +kernel), List.mem_of_getElem? (i := 988) (by decide +kernel), List.mem_of_getElem? (i := 989) (by decide +kernel)⟩
theorem lw_p53 : lw_okq (⟨"BeadWordsModel", "planOf", "(I)I"⟩, 20) := ⟨⟨by decide +kernel, by decide +kernel⟩, List.mem_of_getElem? (i := 732) (by decide +kernel), List.mem_of_getElem? (i := 1013) (by decide +kernel), List.mem_of_getElem? (i := 1014) (by decide +kernel)⟩
theorem lw_p54 : lw_okq (⟨"BeadWordsModel", "firstMistake", "()I"⟩, 20) := ⟨⟨by decide +kernel, by decide +kernel⟩, List.mem_of_getElem? (i := 732) (by decide +kernel), List.mem_of_getElem? (i := 1022) (by decide +kernel), List.mem_of_getElem? (i := 1023) (by decide +kernel)⟩
theorem lw_p55 : lw_okq (⟨"BeadWordsModel", "kindOf", "(I)I"⟩, 20) := ⟨⟨by decide +kernel, by decide +kernel⟩, List.mem_of_getElem? (i := 732) (by decide +kernel), List.mem_of_getElem? (i := 1026) (by decide +kernel), List.mem_of_getElem? (i := 1027) (by decide +kernel)⟩
theorem lw_p56 : lw_okq (⟨"BeadWordsModel", "asTold", "(II)I"⟩, 20) := ⟨⟨by decide +kernel, by decide +kernel⟩, List.mem_of_getElem? (i := 732) (by decide +kernel), List.mem_of_getElem? (i := 1030) (by decide +kernel), List.mem_of_getElem? (i := 1031) (by decide +kernel)⟩
theorem lw_p57 : lw_okq (⟨"BeadWordsModel", "turns", "(I)V"⟩, 20) := ⟨⟨by decide +kernel, by decide +kernel⟩, List.mem_of_getElem? (i := 732) (by decide +kernel), List.mem_of_getElem? (i := 1047) (by decide +kernel), List.mem_of_getElem? (i := 1048) (by decide +kernel)⟩
theorem lw_p58 : lw_okq (⟨"BeadWordsModel", "goesOn", "(I)V"⟩, 20) := ⟨⟨by decide +kernel, by decide +kernel⟩, List.mem_of_getElem? (i := 732) (by decide +kernel), List.mem_of_getElem? (i := 1051) (by decide +kernel), List.mem_of_getElem? (i := 1052) (by decide +kernel)⟩
theorem lw_p59 : lw_okq (⟨"BeadWordsModel", "copiesRow", "(II)V"⟩, 20) := ⟨⟨by decide +kernel, by decide +kernel⟩, List.mem_of_getElem? (i := 732) (by decide +kernel), List.mem_of_getElem? (i := 1055) (by decide +kernel), List.mem_of_getElem? (i := 1056) (by decide +kernel)⟩
theorem lw_p60 : lw_okq (⟨"BeadWordsModel", "drawsRow", "(III)V"⟩, 20) := ⟨⟨by decide +kernel, by decide +kernel⟩, List.mem_of_getElem? (i := 732) (by decide +kernel), List.mem_of_getElem? (i := 1072) (by decide +kernel), List.mem_of_getElem? (i := 1073) (by decide +kernel)⟩
theorem lw_p61 : lw_okq (⟨"BeadWordsModel", "gets", "()I"⟩, 20) := ⟨⟨by decide +kernel, by decide +kernel⟩, List.mem_of_getElem? (i := 732) (by decide +kernel), List.mem_of_getElem? (i := 1076) (by decide +kernel), List.mem_of_getElem? (i := 1077) (by decide +kernel)⟩
def lw_privs_4 : List (MethodName × Nat) := [(⟨"BeadWordsModel", "speaks", "()Z"⟩, 20), (⟨"BeadWordsModel", "readLike", "(Z)Z"⟩, 20), (⟨"BeadWordsModel", "readMirror", "()Z"⟩, 20), (⟨"BeadWordsModel", "readRuns", "(I)Z"⟩, 20), (⟨"BeadWordsModel", "readTimes", "()Z"⟩, 20), (⟨"BeadWordsModel", "planOf", "(I)I"⟩, 20), (⟨"BeadWordsModel", "firstMistake", "()I"⟩, 20), (⟨"BeadWordsModel", "kindOf", "(I)I"⟩, 20), (⟨"BeadWordsModel", "asTold", "(II)I"⟩, 20), (⟨"BeadWordsModel", "turns", "(I)V"⟩, 20), (⟨"BeadWordsModel", "goesOn", "(I)V"⟩, 20), (⟨"BeadWordsModel", "copiesRow", "(II)V"⟩, 20), (⟨"BeadWordsModel", "drawsRow", "(III)V"⟩, 20), (⟨"BeadWordsModel", "gets", "()I"⟩, 20)]
theorem lw_r4 : ∀ q ∈ lw_privs_4, lw_okq q := List.forall_mem_cons.mpr ⟨lw_p48, List.forall_mem_cons.mpr ⟨lw_p49, List.forall_mem_cons.mpr ⟨lw_p50, List.forall_mem_cons.mpr ⟨lw_p51, List.forall_mem_cons.mpr ⟨lw_p52, List.forall_mem_cons.mpr ⟨lw_p53, List.forall_mem_cons.mpr ⟨lw_p54, List.forall_mem_cons.mpr ⟨lw_p55, List.forall_mem_cons.mpr ⟨lw_p56, List.forall_mem_cons.mpr ⟨lw_p57, List.forall_mem_cons.mpr ⟨lw_p58, List.forall_mem_cons.mpr ⟨lw_p59, List.forall_mem_cons.mpr ⟨lw_p60, List.forall_mem_cons.mpr ⟨lw_p61, fun _ h => absurd h List.not_mem_nil⟩⟩⟩⟩⟩⟩⟩⟩⟩⟩⟩⟩⟩⟩
def lw_privs : List (MethodName × Nat) := lw_privs_1 ++ (lw_privs_2 ++ (lw_privs_3 ++ (lw_privs_4)))
def lw_tbl : List Cond := k2_sels lw_privs ++ tables_1
theorem lw_privs_ok : ∀ q ∈ lw_privs, lw_okq q := by
  show ∀ q ∈ lw_privs_1 ++ (lw_privs_2 ++ (lw_privs_3 ++ (lw_privs_4))), lw_okq q
  exact List.forall_mem_append.mpr ⟨lw_r1, List.forall_mem_append.mpr ⟨lw_r2, List.forall_mem_append.mpr ⟨lw_r3, lw_r4⟩⟩⟩
theorem goodIn_r {big : List Cond} (ws : List Cond) (ps : List Nat) (hp : ws = ps.filterMap (fun i => big[i]?)) (h : ws.all goodWord = true) : GoodIn big ws := by
  intro w hw
  have h1 := List.all_eq_true.mp h w hw
  rw [hp] at hw
  obtain ⟨i, -, hi⟩ := List.mem_filterMap.mp hw
  have hm : w ∈ big := by first | exact List.mem_of_getElem? hi | exact List.getElem?_mem hi
  exact ⟨hm, good_of_word h1⟩
theorem goodIn_app {big a b : List Cond} (ha : GoodIn big a) (hb : GoodIn big b) : GoodIn big (a ++ b) := fun w h => (List.mem_append.mp h).elim (ha w) (hb w)
theorem goodIn_ca {big a b : List Cond} {c : Cond} (ha : GoodIn big (c :: a)) (hb : GoodIn big b) : GoodIn big (c :: (a ++ b)) := fun w h => (List.mem_cons.mp h).elim (fun e => ha w (List.mem_cons.mpr (Or.inl e))) (fun h => (List.mem_append.mp h).elim (fun h => ha w (List.mem_cons.mpr (Or.inr h))) (hb w))
theorem goodIn_sub {big ws : List Cond} (hm : ∀ w ∈ ws, w ∈ big) (h : ws.all goodWord = true) : GoodIn big ws := fun w hw => ⟨hm w hw, good_of_word (List.all_eq_true.mp h w hw)⟩
def RX0 : String := "BeadWords$Chance"
def TX0 : u_T := fun k => match k with
  | _ => ("BeadWords$Chance", "seed", "I", false)
def tyX0 : Nat → FieldType := fun k => match k with
  | _ => .int
abbrev wsX00 : List Cond := u_ws RX0 TX0 1
theorem nmX0 : ∀ a, a < 1 → ∀ b, b < 1 → a ≠ b → (TX0 a).2.1 ≠ (TX0 b).2.1 := by decide +kernel
theorem tyX0_ok : ∀ k, k < 1 → parseFieldDescriptor (TX0 k).2.2.1 = some (tyX0 k) := by decide +kernel
abbrev cX0_init : ByteArray := prog_2_method_1_code
def yX0_init : MethodName := ⟨RX0, "<init>", "()V"⟩
abbrev cX0_below : ByteArray := prog_2_method_2_code
def yX0_below : MethodName := ⟨RX0, "below", "(I)I"⟩
def RX1 : String := "BeadWords$Image"
def TX1 : u_T := fun k => match k with
  | 0 => ("BeadWords$Image", "picture", "LBeadWords$Picture;", true)
  | 1 => ("BeadWords$Image", "strand", "LBeadWords$Strand;", true)
  | _ => ("BeadWords$Image", "there", "Z", false)
def tyX1 : Nat → FieldType := fun k => match k with
  | 0 => .object "BeadWords$Picture"
  | 1 => .object "BeadWords$Strand"
  | _ => .boolean
abbrev wsX10 : List Cond := u_ws RX1 TX1 3
theorem nmX1 : ∀ a, a < 3 → ∀ b, b < 3 → a ≠ b → (TX1 a).2.1 ≠ (TX1 b).2.1 := by decide +kernel
theorem tyX1_ok : ∀ k, k < 3 → parseFieldDescriptor (TX1 k).2.2.1 = some (tyX1 k) := by decide +kernel
abbrev cX1_init : ByteArray := prog_3_method_1_code
def yX1_init : MethodName := ⟨RX1, "<init>", "()V"⟩
def RX2 : String := "BeadWords$Picture"
def TX2 : u_T := fun k => match k with
  | 0 => ("BeadWords$Picture", "beads", "[I", true)
  | 1 => ("BeadWords$Picture", "rows", "I", false)
  | 2 => ("BeadWords$Picture", "width", "I", false)
  | _ => ("BeadWords$Picture", "mode", "I", false)
def tyX2 : Nat → FieldType := fun k => match k with
  | 0 => .array .int
  | 1 => .int
  | 2 => .int
  | _ => .int
abbrev wsX20 : List Cond := u_ws RX2 TX2 4
theorem nmX2 : ∀ a, a < 4 → ∀ b, b < 4 → a ≠ b → (TX2 a).2.1 ≠ (TX2 b).2.1 := by decide +kernel
theorem tyX2_ok : ∀ k, k < 4 → parseFieldDescriptor (TX2 k).2.2.1 = some (tyX2 k) := by decide +kernel
abbrev cX2_init : ByteArray := prog_4_method_1_code
def yX2_init : MethodName := ⟨RX2, "<init>", "()V"⟩
abbrev cX2_become : ByteArray := prog_4_method_2_code
def yX2_become : MethodName := ⟨RX2, "become", "(LBeadWords$Picture;)V"⟩
abbrev cX2_clear : ByteArray := prog_4_method_3_code
def yX2_clear : MethodName := ⟨RX2, "clear", "()V"⟩
abbrev cX2_size : ByteArray := prog_4_method_4_code
def yX2_size : MethodName := ⟨RX2, "size", "()I"⟩
abbrev cX2_hasRow : ByteArray := prog_4_method_5_code
def yX2_hasRow : MethodName := ⟨RX2, "hasRow", "(I)Z"⟩
abbrev cX2_hasBead : ByteArray := prog_4_method_6_code
def yX2_hasBead : MethodName := ⟨RX2, "hasBead", "(II)Z"⟩
abbrev cX2_colourAt : ByteArray := prog_4_method_7_code
def yX2_colourAt : MethodName := ⟨RX2, "colourAt", "(II)I"⟩
abbrev cX2_put : ByteArray := prog_4_method_8_code
def yX2_put : MethodName := ⟨RX2, "put", "(III)V"⟩
abbrev cX2_placeOf : ByteArray := prog_4_method_9_code
def yX2_placeOf : MethodName := ⟨RX2, "placeOf", "(II)I"⟩
abbrev cX2_readAt : ByteArray := prog_4_method_10_code
def yX2_readAt : MethodName := ⟨RX2, "readAt", "(II)I"⟩
abbrev cX2_manyIn : ByteArray := prog_4_method_11_code
def yX2_manyIn : MethodName := ⟨RX2, "manyIn", "(II)I"⟩
abbrev cX2_manyInAll : ByteArray := prog_4_method_12_code
def yX2_manyInAll : MethodName := ⟨RX2, "manyInAll", "(I)I"⟩
abbrev cX2_sameBeads : ByteArray := prog_4_method_13_code
def yX2_sameBeads : MethodName := ⟨RX2, "sameBeads", "(II)Z"⟩
abbrev cX2_sameLine : ByteArray := prog_4_method_14_code
def yX2_sameLine : MethodName := ⟨RX2, "sameLine", "(IIZ)Z"⟩
abbrev cX2_likeAhead : ByteArray := prog_4_method_15_code
def yX2_likeAhead : MethodName := ⟨RX2, "likeAhead", "(IZ)I"⟩
abbrev cX2_firstLike : ByteArray := prog_4_method_16_code
def yX2_firstLike : MethodName := ⟨RX2, "firstLike", "(I)I"⟩
abbrev cX2_manyLike : ByteArray := prog_4_method_17_code
def yX2_manyLike : MethodName := ⟨RX2, "manyLike", "(I)I"⟩
abbrev cX2_linesUnlike : ByteArray := prog_4_method_18_code
def yX2_linesUnlike : MethodName := ⟨RX2, "linesUnlike", "()I"⟩
abbrev cX2_runsOf : ByteArray := prog_4_method_19_code
def yX2_runsOf : MethodName := ⟨RX2, "runsOf", "(I)I"⟩
abbrev cX2_runsInAll : ByteArray := prog_4_method_20_code
def yX2_runsInAll : MethodName := ⟨RX2, "runsInAll", "()I"⟩
abbrev cX2_partOf : ByteArray := prog_4_method_21_code
def yX2_partOf : MethodName := ⟨RX2, "partOf", "(I)I"⟩
abbrev cX2_comesAgain : ByteArray := prog_4_method_22_code
def yX2_comesAgain : MethodName := ⟨RX2, "comesAgain", "(II)Z"⟩
abbrev cX2_rowOfPlan : ByteArray := prog_4_method_23_code
def yX2_rowOfPlan : MethodName := ⟨RX2, "rowOfPlan", "(I)I"⟩
abbrev cX2_placeOfPlan : ByteArray := prog_4_method_24_code
def yX2_placeOfPlan : MethodName := ⟨RX2, "placeOfPlan", "(I)I"⟩
abbrev cX2_planAt : ByteArray := prog_4_method_25_code
def yX2_planAt : MethodName := ⟨RX2, "planAt", "(I)I"⟩
abbrev cX2_takeRow : ByteArray := prog_4_method_26_code
def yX2_takeRow : MethodName := ⟨RX2, "takeRow", "(I)V"⟩
abbrev cX2_takeLine : ByteArray := prog_4_method_27_code
def yX2_takeLine : MethodName := ⟨RX2, "takeLine", "([II)V"⟩
abbrev cX2_copyRow : ByteArray := prog_4_method_28_code
def yX2_copyRow : MethodName := ⟨RX2, "copyRow", "(II)V"⟩
abbrev cX2_dyeAll : ByteArray := prog_4_method_29_code
def yX2_dyeAll : MethodName := ⟨RX2, "dyeAll", "(II)V"⟩
abbrev cX2_turn : ByteArray := prog_4_method_30_code
def yX2_turn : MethodName := ⟨RX2, "turn", "(I)V"⟩
abbrev cX2_moveOn : ByteArray := prog_4_method_31_code
def yX2_moveOn : MethodName := ⟨RX2, "moveOn", "(I)V"⟩
abbrev cX2_drop : ByteArray := prog_4_method_32_code
def yX2_drop : MethodName := ⟨RX2, "drop", "(I)V"⟩
abbrev cX2_repeat : ByteArray := prog_4_method_33_code
def yX2_repeat : MethodName := ⟨RX2, "repeat", "(I)V"⟩
abbrev cX2_exchange : ByteArray := prog_4_method_34_code
def yX2_exchange : MethodName := ⟨RX2, "exchange", "(II)V"⟩
def RX3 : String := "BeadWords$Reader"
def TX3 : u_T := fun k => match k with
  | 0 => ("BeadWords$Reader", "draft", "LBeadWords$Picture;", true)
  | 1 => ("BeadWords$Reader", "start", "I", false)
  | 2 => ("BeadWords$Reader", "next", "I", false)
  | 3 => ("BeadWords$Reader", "token", "I", false)
  | _ => ("BeadWords$Reader", "froTold", "Z", false)
def tyX3 : Nat → FieldType := fun k => match k with
  | 0 => .object "BeadWords$Picture"
  | 1 => .int
  | 2 => .int
  | 3 => .int
  | _ => .boolean
abbrev wsX30 : List Cond := u_ws RX3 TX3 5
theorem nmX3 : ∀ a, a < 5 → ∀ b, b < 5 → a ≠ b → (TX3 a).2.1 ≠ (TX3 b).2.1 := by decide +kernel
theorem tyX3_ok : ∀ k, k < 5 → parseFieldDescriptor (TX3 k).2.2.1 = some (tyX3 k) := by decide +kernel
abbrev cX3_init : ByteArray := prog_5_method_1_code
def yX3_init : MethodName := ⟨RX3, "<init>", "()V"⟩
abbrev cX3_readAll : ByteArray := prog_5_method_2_code
def yX3_readAll : MethodName := ⟨RX3, "readAll", "(LBeadWords$Tape;)I"⟩
abbrev cX3_readToken : ByteArray := prog_5_method_3_code
def yX3_readToken : MethodName := ⟨RX3, "readToken", "(LBeadWords$Tape;)V"⟩
abbrev cX3_readLine : ByteArray := prog_5_method_4_code
def yX3_readLine : MethodName := ⟨RX3, "readLine", "(LBeadWords$Tape;)I"⟩
abbrev cX3_readRow : ByteArray := prog_5_method_5_code
def yX3_readRow : MethodName := ⟨RX3, "readRow", "(LBeadWords$Tape;)I"⟩
abbrev cX3_readFro : ByteArray := prog_5_method_6_code
def yX3_readFro : MethodName := ⟨RX3, "readFro", "(LBeadWords$Tape;)I"⟩
abbrev cX3_readSign : ByteArray := prog_5_method_7_code
def yX3_readSign : MethodName := ⟨RX3, "readSign", "(LBeadWords$Tape;)I"⟩
abbrev cX3_unfit : ByteArray := prog_5_method_8_code
def yX3_unfit : MethodName := ⟨RX3, "unfit", "()I"⟩
abbrev cX3_isName : ByteArray := prog_5_method_9_code
def yX3_isName : MethodName := ⟨RX3, "isName", "(LBeadWords$Tape;Ljava/lang/String;)Z"⟩
abbrev cX3_isBeads : ByteArray := prog_5_method_10_code
def yX3_isBeads : MethodName := ⟨RX3, "isBeads", "(LBeadWords$Tape;)Z"⟩
def RX4 : String := "BeadWords$Sheet"
def TX4 : u_T := fun k => match k with
  | 0 => ("BeadWords$Sheet", "cells", "[I", true)
  | 1 => ("BeadWords$Sheet", "length", "I", false)
  | _ => ("BeadWords$Sheet", "lane", "I", false)
def tyX4 : Nat → FieldType := fun k => match k with
  | 0 => .array .int
  | 1 => .int
  | _ => .int
abbrev wsX40 : List Cond := u_ws RX4 TX4 3
theorem nmX4 : ∀ a, a < 3 → ∀ b, b < 3 → a ≠ b → (TX4 a).2.1 ≠ (TX4 b).2.1 := by decide +kernel
theorem tyX4_ok : ∀ k, k < 3 → parseFieldDescriptor (TX4 k).2.2.1 = some (tyX4 k) := by decide +kernel
abbrev cX4_init : ByteArray := prog_6_method_1_code
def yX4_init : MethodName := ⟨RX4, "<init>", "()V"⟩
abbrev cX4_renew : ByteArray := prog_6_method_2_code
def yX4_renew : MethodName := ⟨RX4, "renew", "(II)V"⟩
abbrev cX4_faultAt : ByteArray := prog_6_method_3_code
def yX4_faultAt : MethodName := ⟨RX4, "faultAt", "(II)I"⟩
abbrev cX4_put : ByteArray := prog_6_method_4_code
def yX4_put : MethodName := ⟨RX4, "put", "(II)V"⟩
def RX5 : String := "BeadWords$Slip"
def TX5 : u_T := fun k => match k with
  | 0 => ("BeadWords$Slip", "line", "[I", true)
  | 1 => ("BeadWords$Slip", "length", "I", false)
  | _ => ("BeadWords$Slip", "told", "[I", true)
def tyX5 : Nat → FieldType := fun k => match k with
  | 0 => .array .int
  | 1 => .int
  | _ => .array .int
abbrev wsX50 : List Cond := u_ws RX5 TX5 3
theorem nmX5 : ∀ a, a < 3 → ∀ b, b < 3 → a ≠ b → (TX5 a).2.1 ≠ (TX5 b).2.1 := by decide +kernel
theorem tyX5_ok : ∀ k, k < 3 → parseFieldDescriptor (TX5 k).2.2.1 = some (tyX5 k) := by decide +kernel
abbrev cX5_init : ByteArray := prog_7_method_1_code
def yX5_init : MethodName := ⟨RX5, "<init>", "()V"⟩
abbrev cX5_take : ByteArray := prog_7_method_2_code
def yX5_take : MethodName := ⟨RX5, "take", "(I)Z"⟩
abbrev cX5_speak : ByteArray := prog_7_method_3_code
def yX5_speak : MethodName := ⟨RX5, "speak", "(LBeadWords$Picture;)I"⟩
abbrev cX5_speakLike : ByteArray := prog_7_method_4_code
def yX5_speakLike : MethodName := ⟨RX5, "speakLike", "(LBeadWords$Picture;Z)I"⟩
abbrev cX5_speakMirror : ByteArray := prog_7_method_5_code
def yX5_speakMirror : MethodName := ⟨RX5, "speakMirror", "(LBeadWords$Picture;)I"⟩
abbrev cX5_speakTimes : ByteArray := prog_7_method_6_code
def yX5_speakTimes : MethodName := ⟨RX5, "speakTimes", "(LBeadWords$Picture;)I"⟩
abbrev cX5_speakRuns : ByteArray := prog_7_method_7_code
def yX5_speakRuns : MethodName := ⟨RX5, "speakRuns", "(I)I"⟩
abbrev cX5_fitting : ByteArray := prog_7_method_8_code
def yX5_fitting : MethodName := ⟨RX5, "fitting", "(LBeadWords$Picture;I)I"⟩
def RX6 : String := "BeadWords$Strand"
def TX6 : u_T := fun k => match k with
  | 0 => ("BeadWords$Strand", "beads", "[I", true)
  | _ => ("BeadWords$Strand", "length", "I", false)
def tyX6 : Nat → FieldType := fun k => match k with
  | 0 => .array .int
  | _ => .int
abbrev wsX60 : List Cond := u_ws RX6 TX6 2
theorem nmX6 : ∀ a, a < 2 → ∀ b, b < 2 → a ≠ b → (TX6 a).2.1 ≠ (TX6 b).2.1 := by decide +kernel
theorem tyX6_ok : ∀ k, k < 2 → parseFieldDescriptor (TX6 k).2.2.1 = some (tyX6 k) := by decide +kernel
abbrev cX6_init : ByteArray := prog_8_method_1_code
def yX6_init : MethodName := ⟨RX6, "<init>", "()V"⟩
abbrev cX6_become : ByteArray := prog_8_method_2_code
def yX6_become : MethodName := ⟨RX6, "become", "(LBeadWords$Strand;)V"⟩
abbrev cX6_take : ByteArray := prog_8_method_3_code
def yX6_take : MethodName := ⟨RX6, "take", "(I)V"⟩
abbrev cX6_firstWrong : ByteArray := prog_8_method_4_code
def yX6_firstWrong : MethodName := ⟨RX6, "firstWrong", "(LBeadWords$Picture;)I"⟩
abbrev cX6_asTold : ByteArray := prog_8_method_5_code
def yX6_asTold : MethodName := ⟨RX6, "asTold", "(LBeadWords$Picture;II)I"⟩
abbrev cX6_kindOf : ByteArray := prog_8_method_6_code
def yX6_kindOf : MethodName := ⟨RX6, "kindOf", "(LBeadWords$Picture;I)I"⟩
def RX7 : String := "BeadWords$Tape"
def TX7 : u_T := fun k => match k with
  | 0 => ("BeadWords$Tape", "bytes", "[I", true)
  | _ => ("BeadWords$Tape", "length", "I", false)
def tyX7 : Nat → FieldType := fun k => match k with
  | 0 => .array .int
  | _ => .int
abbrev wsX70 : List Cond := u_ws RX7 TX7 2
theorem nmX7 : ∀ a, a < 2 → ∀ b, b < 2 → a ≠ b → (TX7 a).2.1 ≠ (TX7 b).2.1 := by decide +kernel
theorem tyX7_ok : ∀ k, k < 2 → parseFieldDescriptor (TX7 k).2.2.1 = some (tyX7 k) := by decide +kernel
abbrev cX7_init : ByteArray := prog_9_method_1_code
def yX7_init : MethodName := ⟨RX7, "<init>", "()V"⟩
abbrev cX7_take : ByteArray := prog_9_method_2_code
def yX7_take : MethodName := ⟨RX7, "take", "(I)Z"⟩
abbrev cX7_isLetter : ByteArray := prog_9_method_3_code
def yX7_isLetter : MethodName := ⟨RX7, "isLetter", "(I)Z"⟩
def RX8 : String := "BeadWords$Teller"
def TX8 : u_T := fun k => match k with
  | 0 => ("BeadWords$Teller", "told", "[I", true)
  | _ => ("BeadWords$Teller", "length", "I", false)
def tyX8 : Nat → FieldType := fun k => match k with
  | 0 => .array .int
  | _ => .int
abbrev wsX80 : List Cond := u_ws RX8 TX8 2
theorem nmX8 : ∀ a, a < 2 → ∀ b, b < 2 → a ≠ b → (TX8 a).2.1 ≠ (TX8 b).2.1 := by decide +kernel
theorem tyX8_ok : ∀ k, k < 2 → parseFieldDescriptor (TX8 k).2.2.1 = some (tyX8 k) := by decide +kernel
abbrev cX8_init : ByteArray := prog_10_method_1_code
def yX8_init : MethodName := ⟨RX8, "<init>", "()V"⟩
abbrev cX8_tellBest : ByteArray := prog_10_method_2_code
def yX8_tellBest : MethodName := ⟨RX8, "tellBest", "(LBeadWords$Picture;I)I"⟩
abbrev cX8_tellBy : ByteArray := prog_10_method_3_code
def yX8_tellBy : MethodName := ⟨RX8, "tellBy", "(LBeadWords$Picture;II)I"⟩
abbrev cX8_put : ByteArray := prog_10_method_4_code
def yX8_put : MethodName := ⟨RX8, "put", "(I)V"⟩
abbrev cX8_tellLike : ByteArray := prog_10_method_5_code
def yX8_tellLike : MethodName := ⟨RX8, "tellLike", "(I)I"⟩
abbrev cX8_tellMirror : ByteArray := prog_10_method_6_code
def yX8_tellMirror : MethodName := ⟨RX8, "tellMirror", "(LBeadWords$Picture;I)I"⟩
abbrev cX8_tellTimes : ByteArray := prog_10_method_7_code
def yX8_tellTimes : MethodName := ⟨RX8, "tellTimes", "(LBeadWords$Picture;II)I"⟩
abbrev cX8_tellRuns : ByteArray := prog_10_method_8_code
def yX8_tellRuns : MethodName := ⟨RX8, "tellRuns", "(LBeadWords$Picture;II)I"⟩
def RX9 : String := "BeadWords"
def TX9 : u_T := fun k => match k with
  | 0 => ("BeadWords", "picture", "LBeadWords$Picture;", true)
  | 1 => ("BeadWords", "strand", "LBeadWords$Strand;", true)
  | 2 => ("BeadWords", "tape", "LBeadWords$Tape;", true)
  | 3 => ("BeadWords", "reader", "LBeadWords$Reader;", true)
  | 4 => ("BeadWords", "teller", "LBeadWords$Teller;", true)
  | 5 => ("BeadWords", "slip", "LBeadWords$Slip;", true)
  | 6 => ("BeadWords", "chance", "LBeadWords$Chance;", true)
  | 7 => ("BeadWords", "images", "[LBeadWords$Image;", true)
  | 8 => ("BeadWords", "sheets", "[LBeadWords$Sheet;", true)
  | 9 => ("BeadWords", "textFault", "I", false)
  | _ => ("BeadWords", "runFault", "I", false)
def tyX9 : Nat → FieldType := fun k => match k with
  | 0 => .object "BeadWords$Picture"
  | 1 => .object "BeadWords$Strand"
  | 2 => .object "BeadWords$Tape"
  | 3 => .object "BeadWords$Reader"
  | 4 => .object "BeadWords$Teller"
  | 5 => .object "BeadWords$Slip"
  | 6 => .object "BeadWords$Chance"
  | 7 => .array (.object "BeadWords$Image")
  | 8 => .array (.object "BeadWords$Sheet")
  | 9 => .int
  | _ => .int
abbrev wsX90 : List Cond := u_ws RX9 TX9 11
theorem nmX9 : ∀ a, a < 11 → ∀ b, b < 11 → a ≠ b → (TX9 a).2.1 ≠ (TX9 b).2.1 := by decide +kernel
theorem tyX9_ok : ∀ k, k < 11 → parseFieldDescriptor (TX9 k).2.2.1 = some (tyX9 k) := by decide +kernel
abbrev cX9_init : ByteArray := prog_1_method_1_code
def yX9_init : MethodName := ⟨RX9, "<init>", "()V"⟩
abbrev cX9_feed : ByteArray := prog_1_method_2_code
def yX9_feed : MethodName := ⟨RX9, "feed", "(I)I"⟩
abbrev cX9_end : ByteArray := prog_1_method_3_code
def yX9_end : MethodName := ⟨RX9, "end", "(I)I"⟩
abbrev cX9_text : ByteArray := prog_1_method_4_code
def yX9_text : MethodName := ⟨RX9, "text", "()I"⟩
abbrev cX9_fault : ByteArray := prog_1_method_5_code
def yX9_fault : MethodName := ⟨RX9, "fault", "()I"⟩
abbrev cX9_rule : ByteArray := prog_1_method_6_code
def yX9_rule : MethodName := ⟨RX9, "rule", "(I)I"⟩
abbrev cX9_bead : ByteArray := prog_1_method_7_code
def yX9_bead : MethodName := ⟨RX9, "bead", "(II)I"⟩
abbrev cX9_many : ByteArray := prog_1_method_8_code
def yX9_many : MethodName := ⟨RX9, "many", "(II)I"⟩
abbrev cX9_row : ByteArray := prog_1_method_9_code
def yX9_row : MethodName := ⟨RX9, "row", "(II)I"⟩
abbrev cX9_words : ByteArray := prog_1_method_10_code
def yX9_words : MethodName := ⟨RX9, "words", "(II)I"⟩
abbrev cX9_word : ByteArray := prog_1_method_11_code
def yX9_word : MethodName := ⟨RX9, "word", "(II)I"⟩
abbrev cX9_tell : ByteArray := prog_1_method_12_code
def yX9_tell : MethodName := ⟨RX9, "tell", "(I)I"⟩
abbrev cX9_tear : ByteArray := prog_1_method_13_code
def yX9_tear : MethodName := ⟨RX9, "tear", "()I"⟩
abbrev cX9_spoken : ByteArray := prog_1_method_14_code
def yX9_spoken : MethodName := ⟨RX9, "spoken", "()I"⟩
abbrev cX9_said : ByteArray := prog_1_method_15_code
def yX9_said : MethodName := ⟨RX9, "said", "(I)I"⟩
abbrev cX9_add : ByteArray := prog_1_method_16_code
def yX9_add : MethodName := ⟨RX9, "add", "()I"⟩
abbrev cX9_string : ByteArray := prog_1_method_17_code
def yX9_string : MethodName := ⟨RX9, "string", "(I)I"⟩
abbrev cX9_off : ByteArray := prog_1_method_18_code
def yX9_off : MethodName := ⟨RX9, "off", "(I)I"⟩
abbrev cX9_plan : ByteArray := prog_1_method_19_code
def yX9_plan : MethodName := ⟨RX9, "plan", "(I)I"⟩
abbrev cX9_mistake : ByteArray := prog_1_method_20_code
def yX9_mistake : MethodName := ⟨RX9, "mistake", "(I)I"⟩
abbrev cX9_paint : ByteArray := prog_1_method_21_code
def yX9_paint : MethodName := ⟨RX9, "paint", "(III)I"⟩
abbrev cX9_dye : ByteArray := prog_1_method_22_code
def yX9_dye : MethodName := ⟨RX9, "dye", "(II)I"⟩
abbrev cX9_change : ByteArray := prog_1_method_23_code
def yX9_change : MethodName := ⟨RX9, "change", "(II)I"⟩
abbrev cX9_swap : ByteArray := prog_1_method_24_code
def yX9_swap : MethodName := ⟨RX9, "swap", "(II)I"⟩
abbrev cX9_mode : ByteArray := prog_1_method_25_code
def yX9_mode : MethodName := ⟨RX9, "mode", "(I)I"⟩
abbrev cX9_draw : ByteArray := prog_1_method_26_code
def yX9_draw : MethodName := ⟨RX9, "draw", "(IIII)I"⟩
abbrev cX9_keep : ByteArray := prog_1_method_27_code
def yX9_keep : MethodName := ⟨RX9, "keep", "(I)I"⟩
abbrev cX9_back : ByteArray := prog_1_method_28_code
def yX9_back : MethodName := ⟨RX9, "back", "(I)I"⟩
abbrev cX9_sheet : ByteArray := prog_1_method_29_code
def yX9_sheet : MethodName := ⟨RX9, "sheet", "(III)I"⟩
abbrev cX9_lay : ByteArray := prog_1_method_30_code
def yX9_lay : MethodName := ⟨RX9, "lay", "(III)I"⟩
abbrev cX9_run : ByteArray := prog_1_method_31_code
def yX9_run : MethodName := ⟨RX9, "run", "(IIII)I"⟩
abbrev cX9_torn : ByteArray := prog_1_method_32_code
def yX9_torn : MethodName := ⟨RX9, "torn", "()I"⟩
abbrev cX9_count : ByteArray := prog_1_method_33_code
def yX9_count : MethodName := ⟨RX9, "count", "(I)I"⟩
abbrev cX9_isColour : ByteArray := prog_1_method_34_code
def yX9_isColour : MethodName := ⟨RX9, "isColour", "(I)Z"⟩
abbrev cX9_isSheet : ByteArray := prog_1_method_35_code
def yX9_isSheet : MethodName := ⟨RX9, "isSheet", "(I)Z"⟩
abbrev cX9_isLane : ByteArray := prog_1_method_36_code
def yX9_isLane : MethodName := ⟨RX9, "isLane", "(I)Z"⟩
abbrev cX9_wordsInAll : ByteArray := prog_1_method_37_code
def yX9_wordsInAll : MethodName := ⟨RX9, "wordsInAll", "()I"⟩
abbrev cX9_coloursInAll : ByteArray := prog_1_method_38_code
def yX9_coloursInAll : MethodName := ⟨RX9, "coloursInAll", "()I"⟩
abbrev cX9_imagesThere : ByteArray := prog_1_method_39_code
def yX9_imagesThere : MethodName := ⟨RX9, "imagesThere", "()I"⟩
abbrev cX9_drawRow : ByteArray := prog_1_method_40_code
def yX9_drawRow : MethodName := ⟨RX9, "drawRow", "(II)V"⟩
def RX10 : String := "BeadWordsModel"
def TX10 : u_T := fun k => match k with
  | 0 => ("BeadWordsModel", "st", "[I", true)
  | 1 => ("BeadWordsModel", "draft", "[I", true)
  | 2 => ("BeadWordsModel", "kept", "[I", true)
  | 3 => ("BeadWordsModel", "isKept", "[Z", true)
  | 4 => ("BeadWordsModel", "tape", "[I", true)
  | 5 => ("BeadWordsModel", "taped", "I", false)
  | 6 => ("BeadWordsModel", "pos", "I", false)
  | 7 => ("BeadWordsModel", "begun", "I", false)
  | 8 => ("BeadWordsModel", "sort", "I", false)
  | 9 => ("BeadWordsModel", "fault", "I", false)
  | 10 => ("BeadWordsModel", "wrongAt", "I", false)
  | 11 => ("BeadWordsModel", "slip", "[I", true)
  | 12 => ("BeadWordsModel", "told", "I", false)
  | 13 => ("BeadWordsModel", "line", "[I", true)
  | 14 => ("BeadWordsModel", "lineMany", "I", false)
  | 15 => ("BeadWordsModel", "seeded", "I", false)
  | 16 => ("BeadWordsModel", "lanes", "[I", true)
  | 17 => ("BeadWordsModel", "sizes", "[I", true)
  | 18 => ("BeadWordsModel", "cells", "[I", true)
  | _ => ("BeadWordsModel", "torn", "I", false)
def tyX10 : Nat → FieldType := fun k => match k with
  | 0 => .array .int
  | 1 => .array .int
  | 2 => .array .int
  | 3 => .array .boolean
  | 4 => .array .int
  | 5 => .int
  | 6 => .int
  | 7 => .int
  | 8 => .int
  | 9 => .int
  | 10 => .int
  | 11 => .array .int
  | 12 => .int
  | 13 => .array .int
  | 14 => .int
  | 15 => .int
  | 16 => .array .int
  | 17 => .array .int
  | 18 => .array .int
  | _ => .int
abbrev wsX100 : List Cond := u_ws RX10 TX10 20
theorem nmX10 : ∀ a, a < 20 → ∀ b, b < 20 → a ≠ b → (TX10 a).2.1 ≠ (TX10 b).2.1 := by decide +kernel
theorem tyX10_ok : ∀ k, k < 20 → parseFieldDescriptor (TX10 k).2.2.1 = some (tyX10 k) := by decide +kernel
abbrev cX10_init : ByteArray := prog_12_method_1_code
def yX10_init : MethodName := ⟨RX10, "<init>", "()V"⟩
abbrev cX10_in : ByteArray := prog_12_method_3_code
def yX10_in : MethodName := ⟨RX10, "in", "(JJJ)Z"⟩
abbrev cX10_flag : ByteArray := prog_12_method_4_code
def yX10_flag : MethodName := ⟨RX10, "flag", "(Z)I"⟩
abbrev cX10_feed : ByteArray := prog_12_method_5_code
def yX10_feed : MethodName := ⟨RX10, "feed", "(I)I"⟩
abbrev cX10_end : ByteArray := prog_12_method_6_code
def yX10_end : MethodName := ⟨RX10, "end", "(I)I"⟩
abbrev cX10_requires : ByteArray := prog_12_method_7_code
def yX10_requires : MethodName := ⟨RX10, "requires", "(ZI)V"⟩
abbrev cX10_byteAt : ByteArray := prog_12_method_8_code
def yX10_byteAt : MethodName := ⟨RX10, "byteAt", "(I)I"⟩
abbrev cX10_reads : ByteArray := prog_12_method_9_code
def yX10_reads : MethodName := ⟨RX10, "reads", "()V"⟩
abbrev cX10_is : ByteArray := prog_12_method_10_code
def yX10_is : MethodName := ⟨RX10, "is", "(III)Z"⟩
abbrev cX10_areBeads : ByteArray := prog_12_method_11_code
def yX10_areBeads : MethodName := ⟨RX10, "areBeads", "()Z"⟩
abbrev cX10_readRow : ByteArray := prog_12_method_12_code
def yX10_readRow : MethodName := ⟨RX10, "readRow", "()V"⟩
abbrev cX10_readLine : ByteArray := prog_12_method_13_code
def yX10_readLine : MethodName := ⟨RX10, "readLine", "()V"⟩
abbrev cX10_text : ByteArray := prog_12_method_14_code
def yX10_text : MethodName := ⟨RX10, "text", "()I"⟩
abbrev cX10_fault : ByteArray := prog_12_method_15_code
def yX10_fault : MethodName := ⟨RX10, "fault", "()I"⟩
abbrev cX10_isRow : ByteArray := prog_12_method_16_code
def yX10_isRow : MethodName := ⟨RX10, "isRow", "(I)Z"⟩
abbrev cX10_isColour : ByteArray := prog_12_method_17_code
def yX10_isColour : MethodName := ⟨RX10, "isColour", "(I)Z"⟩
abbrev cX10_beadOf : ByteArray := prog_12_method_18_code
def yX10_beadOf : MethodName := ⟨RX10, "beadOf", "(II)I"⟩
abbrev cX10_isBack : ByteArray := prog_12_method_19_code
def yX10_isBack : MethodName := ⟨RX10, "isBack", "(I)Z"⟩
abbrev cX10_lineOf : ByteArray := prog_12_method_20_code
def yX10_lineOf : MethodName := ⟨RX10, "lineOf", "(II)I"⟩
abbrev cX10_isSame : ByteArray := prog_12_method_21_code
def yX10_isSame : MethodName := ⟨RX10, "isSame", "(IIZ)Z"⟩
abbrev cX10_likeOf : ByteArray := prog_12_method_22_code
def yX10_likeOf : MethodName := ⟨RX10, "likeOf", "(IIZ)I"⟩
abbrev cX10_runsOf : ByteArray := prog_12_method_23_code
def yX10_runsOf : MethodName := ⟨RX10, "runsOf", "(II)I"⟩
abbrev cX10_partOf : ByteArray := prog_12_method_24_code
def yX10_partOf : MethodName := ⟨RX10, "partOf", "(I)I"⟩
abbrev cX10_wordsBy : ByteArray := prog_12_method_25_code
def yX10_wordsBy : MethodName := ⟨RX10, "wordsBy", "(II)I"⟩
abbrev cX10_formOf : ByteArray := prog_12_method_26_code
def yX10_formOf : MethodName := ⟨RX10, "formOf", "(I)I"⟩
abbrev cX10_wordOf : ByteArray := prog_12_method_27_code
def yX10_wordOf : MethodName := ⟨RX10, "wordOf", "(II)I"⟩
abbrev cX10_allWords : ByteArray := prog_12_method_28_code
def yX10_allWords : MethodName := ⟨RX10, "allWords", "()I"⟩
abbrev cX10_unlike : ByteArray := prog_12_method_29_code
def yX10_unlike : MethodName := ⟨RX10, "unlike", "()I"⟩
abbrev cX10_allRuns : ByteArray := prog_12_method_30_code
def yX10_allRuns : MethodName := ⟨RX10, "allRuns", "()I"⟩
abbrev cX10_width : ByteArray := prog_12_method_31_code
def yX10_width : MethodName := ⟨RX10, "width", "()I"⟩
abbrev cX10_beads : ByteArray := prog_12_method_32_code
def yX10_beads : MethodName := ⟨RX10, "beads", "()I"⟩
abbrev cX10_manyOf : ByteArray := prog_12_method_33_code
def yX10_manyOf : MethodName := ⟨RX10, "manyOf", "(II)I"⟩
abbrev cX10_colours : ByteArray := prog_12_method_34_code
def yX10_colours : MethodName := ⟨RX10, "colours", "()I"⟩
abbrev cX10_rule : ByteArray := prog_12_method_35_code
def yX10_rule : MethodName := ⟨RX10, "rule", "(I)I"⟩
abbrev cX10_bead : ByteArray := prog_12_method_36_code
def yX10_bead : MethodName := ⟨RX10, "bead", "(II)I"⟩
abbrev cX10_many : ByteArray := prog_12_method_37_code
def yX10_many : MethodName := ⟨RX10, "many", "(II)I"⟩
abbrev cX10_likes : ByteArray := prog_12_method_38_code
def yX10_likes : MethodName := ⟨RX10, "likes", "(I)I"⟩
abbrev cX10_row : ByteArray := prog_12_method_39_code
def yX10_row : MethodName := ⟨RX10, "row", "(II)I"⟩
abbrev cX10_words : ByteArray := prog_12_method_40_code
def yX10_words : MethodName := ⟨RX10, "words", "(II)I"⟩
abbrev cX10_word : ByteArray := prog_12_method_41_code
def yX10_word : MethodName := ⟨RX10, "word", "(II)I"⟩
abbrev cX10_tell : ByteArray := prog_12_method_42_code
def yX10_tell : MethodName := ⟨RX10, "tell", "(I)I"⟩
abbrev cX10_tear : ByteArray := prog_12_method_43_code
def yX10_tear : MethodName := ⟨RX10, "tear", "()I"⟩
abbrev cX10_readRuns : ByteArray := prog_12_method_44_code
def yX10_readRuns : MethodName := ⟨RX10, "readRuns", "(I)Z"⟩
abbrev cX10_readLike : ByteArray := prog_12_method_45_code
def yX10_readLike : MethodName := ⟨RX10, "readLike", "(Z)Z"⟩
abbrev cX10_readMirror : ByteArray := prog_12_method_46_code
def yX10_readMirror : MethodName := ⟨RX10, "readMirror", "()Z"⟩
abbrev cX10_readTimes : ByteArray := prog_12_method_47_code
def yX10_readTimes : MethodName := ⟨RX10, "readTimes", "()Z"⟩
abbrev cX10_speaks : ByteArray := prog_12_method_48_code
def yX10_speaks : MethodName := ⟨RX10, "speaks", "()Z"⟩
abbrev cX10_spoken : ByteArray := prog_12_method_49_code
def yX10_spoken : MethodName := ⟨RX10, "spoken", "()I"⟩
abbrev cX10_said : ByteArray := prog_12_method_50_code
def yX10_said : MethodName := ⟨RX10, "said", "(I)I"⟩
abbrev cX10_add : ByteArray := prog_12_method_51_code
def yX10_add : MethodName := ⟨RX10, "add", "()I"⟩
abbrev cX10_string : ByteArray := prog_12_method_52_code
def yX10_string : MethodName := ⟨RX10, "string", "(I)I"⟩
abbrev cX10_off : ByteArray := prog_12_method_53_code
def yX10_off : MethodName := ⟨RX10, "off", "(I)I"⟩
abbrev cX10_planOf : ByteArray := prog_12_method_54_code
def yX10_planOf : MethodName := ⟨RX10, "planOf", "(I)I"⟩
abbrev cX10_plan : ByteArray := prog_12_method_55_code
def yX10_plan : MethodName := ⟨RX10, "plan", "(I)I"⟩
abbrev cX10_firstMistake : ByteArray := prog_12_method_56_code
def yX10_firstMistake : MethodName := ⟨RX10, "firstMistake", "()I"⟩
abbrev cX10_asTold : ByteArray := prog_12_method_57_code
def yX10_asTold : MethodName := ⟨RX10, "asTold", "(II)I"⟩
abbrev cX10_kindOf : ByteArray := prog_12_method_58_code
def yX10_kindOf : MethodName := ⟨RX10, "kindOf", "(I)I"⟩
abbrev cX10_mistake : ByteArray := prog_12_method_59_code
def yX10_mistake : MethodName := ⟨RX10, "mistake", "(I)I"⟩
abbrev cX10_paint : ByteArray := prog_12_method_60_code
def yX10_paint : MethodName := ⟨RX10, "paint", "(III)I"⟩
abbrev cX10_dye : ByteArray := prog_12_method_61_code
def yX10_dye : MethodName := ⟨RX10, "dye", "(II)I"⟩
abbrev cX10_copiesRow : ByteArray := prog_12_method_62_code
def yX10_copiesRow : MethodName := ⟨RX10, "copiesRow", "(II)V"⟩
abbrev cX10_turns : ByteArray := prog_12_method_63_code
def yX10_turns : MethodName := ⟨RX10, "turns", "(I)V"⟩
abbrev cX10_goesOn : ByteArray := prog_12_method_64_code
def yX10_goesOn : MethodName := ⟨RX10, "goesOn", "(I)V"⟩
abbrev cX10_change : ByteArray := prog_12_method_65_code
def yX10_change : MethodName := ⟨RX10, "change", "(II)I"⟩
abbrev cX10_swap : ByteArray := prog_12_method_66_code
def yX10_swap : MethodName := ⟨RX10, "swap", "(II)I"⟩
abbrev cX10_mode : ByteArray := prog_12_method_67_code
def yX10_mode : MethodName := ⟨RX10, "mode", "(I)I"⟩
abbrev cX10_gets : ByteArray := prog_12_method_68_code
def yX10_gets : MethodName := ⟨RX10, "gets", "()I"⟩
abbrev cX10_drawsRow : ByteArray := prog_12_method_69_code
def yX10_drawsRow : MethodName := ⟨RX10, "drawsRow", "(III)V"⟩
abbrev cX10_draw : ByteArray := prog_12_method_70_code
def yX10_draw : MethodName := ⟨RX10, "draw", "(IIII)I"⟩
abbrev cX10_keep : ByteArray := prog_12_method_71_code
def yX10_keep : MethodName := ⟨RX10, "keep", "(I)I"⟩
abbrev cX10_back : ByteArray := prog_12_method_72_code
def yX10_back : MethodName := ⟨RX10, "back", "(I)I"⟩
abbrev cX10_isSheet : ByteArray := prog_12_method_73_code
def yX10_isSheet : MethodName := ⟨RX10, "isSheet", "(II)Z"⟩
abbrev cX10_sheet : ByteArray := prog_12_method_74_code
def yX10_sheet : MethodName := ⟨RX10, "sheet", "(III)I"⟩
abbrev cX10_lay : ByteArray := prog_12_method_75_code
def yX10_lay : MethodName := ⟨RX10, "lay", "(III)I"⟩
abbrev cX10_run : ByteArray := prog_12_method_76_code
def yX10_run : MethodName := ⟨RX10, "run", "(IIII)I"⟩
abbrev cX10_torn : ByteArray := prog_12_method_77_code
def yX10_torn : MethodName := ⟨RX10, "torn", "()I"⟩
abbrev cX10_count : ByteArray := prog_12_method_78_code
def yX10_count : MethodName := ⟨RX10, "count", "(I)I"⟩
def RJ0 : String := "java/lang/String"
def TJ0 : u_T := fun k => match k with
  | _ => ("", "", "", false)
abbrev wsJ00 : List Cond := u_ws RJ0 TJ0 0
abbrev cJ0_length_8abf5 : ByteArray := prog_13_method_54_code
def yJ0_length_8abf5 : MethodName := ⟨RJ0, "length", "()I"⟩
abbrev cJ0_charAt_5068e : ByteArray := prog_13_method_56_code
def yJ0_charAt_5068e : MethodName := ⟨RJ0, "charAt", "(I)C"⟩
abbrev cJ0_coder_7d493 : ByteArray := prog_13_method_152_code
def yJ0_coder_7d493 : MethodName := ⟨RJ0, "coder", "()B"⟩
abbrev cJ0_isLatin1_aae02 : ByteArray := prog_13_method_154_code
def yJ0_isLatin1_aae02 : MethodName := ⟨RJ0, "isLatin1", "()Z"⟩
abbrev cJ0_checkIndex_df160 : ByteArray := prog_13_method_155_code
def yJ0_checkIndex_df160 : MethodName := ⟨RJ0, "checkIndex", "(II)V"⟩
def RJ1 : String := "java/lang/StringLatin1"
def TJ1 : u_T := fun k => match k with
  | _ => ("", "", "", false)
abbrev wsJ10 : List Cond := u_ws RJ1 TJ1 0
abbrev cJ1_charAt_3b067 : ByteArray := prog_14_method_2_code
def yJ1_charAt_3b067 : MethodName := ⟨RJ1, "charAt", "([BI)C"⟩
def RJ2 : String := "java/lang/StringUTF16"
def TJ2 : u_T := fun k => match k with
  | _ => ("", "", "", false)
abbrev wsJ20 : List Cond := u_ws RJ2 TJ2 0
abbrev cJ2_getChar_3b067 : ByteArray := prog_15_method_5_code
def yJ2_getChar_3b067 : MethodName := ⟨RJ2, "getChar", "([BI)C"⟩
abbrev cJ2_length_9d52b : ByteArray := prog_15_method_6_code
def yJ2_length_9d52b : MethodName := ⟨RJ2, "length", "([B)I"⟩
abbrev cJ2_charAt_3b067 : ByteArray := prog_15_method_83_code
def yJ2_charAt_3b067 : MethodName := ⟨RJ2, "charAt", "([BI)C"⟩
abbrev cJ2_checkIndex_2214a : ByteArray := prog_15_method_91_code
def yJ2_checkIndex_2214a : MethodName := ⟨RJ2, "checkIndex", "(I[B)V"⟩
def RJ10 : String := "java/lang/System"
def TJ10 : u_T := fun k => match k with
  | _ => ("", "", "", false)
abbrev wsJ100 : List Cond := u_ws RJ10 TJ10 0
def RJ3 : String := "jdk/internal/util/Preconditions"
def TJ3 : u_T := fun k => match k with
  | _ => ("", "", "", false)
abbrev wsJ30 : List Cond := u_ws RJ3 TJ3 0
abbrev cJ3_checkIndex_8e157 : ByteArray := prog_17_method_11_code
def yJ3_checkIndex_8e157 : MethodName := ⟨RJ3, "checkIndex", "(IILjava/util/function/BiFunction;)I"⟩
def RL : String := "BeadWordsLaw"
abbrev cL_law : ByteArray := code
def yL_law : MethodName := ⟨RL, "law", "([I)Z"⟩
end
section
/-! abstract values, cells, worlds: a reference is the number of its cell in the world -/
abbrev AV : Type := Int32 ⊕ (Int64 ⊕ Nat)
abbrev vi (x : Int32) : AV := .inl x
abbrev vl (x : Int64) : AV := .inr (.inl x)
abbrev vr (k : Nat) : AV := .inr (.inr k)
def cv (ad : Nat → Nat) : AV → Value
  | .inl x => .int x
  | .inr (.inl x) => .long x
  | .inr (.inr k) => .ref (ad k)
abbrev AC : Type := (Nat × Nat × (Nat → Int32)) ⊕ ((Nat × Nat × (Nat → Nat)) ⊕ (Nat × List AV))
abbrev ar (t n : Nat) (f : Nat → Int32) : AC := .inl (t, n, f)
abbrev rr (t n : Nat) (f : Nat → Nat) : AC := .inr (.inl (t, n, f))
abbrev ob (ci : Nat) (fs : List AV) : AC := .inr (.inr (ci, fs))
def ce (ad : Nat → Nat) (tc : Nat → ClassId) : AC → va_E
  | .inl (t, n, f) => .inl (tc t, n, .inl f)
  | .inr (.inl (t, n, g)) => .inl (tc t, n, .inr (.inr (.inr (.inr (fun i => some (ad (g i)))))))
  | .inr (.inr (ci, fs)) => .inr (ci, fs.map (cv ad))
abbrev AH : Type := List AC
def wm (ad : Nat → Nat) (tc : Nat → ClassId) (A : AH) : va_W := A.mapIdx (fun k c => (ad k, ce ad tc c))
theorem wm_get {ad : Nat → Nat} {tc : Nat → ClassId} {A : AH} {k : Nat} : (wm ad tc A)[k]? = (A[k]?).map (fun c => (ad k, ce ad tc c)) := by simp [wm]
theorem wm_at {ad : Nat → Nat} {tc : Nat → ClassId} {A : AH} {k : Nat} {c : AC} (h : A[k]? = some c) : (wm ad tc A)[k]? = some (ad k, ce ad tc c) := by rw [wm_get, h]; rfl
theorem wm_of {ad : Nat → Nat} {tc : Nat → ClassId} {A : AH} {k : Nat} {q : Nat × va_E} (h : (wm ad tc A)[k]? = some q) : ∃ c, A[k]? = some c ∧ q = (ad k, ce ad tc c) := by
  rw [wm_get] at h
  cases hc : A[k]? with
  | none => rw [hc] at h; cases h
  | some c => rw [hc] at h; exact ⟨c, rfl, (Option.some.inj h).symm⟩
theorem wm_set {ad : Nat → Nat} {tc : Nat → ClassId} {A : AH} {k : Nat} {c : AC} : wm ad tc (A.set k c) = (wm ad tc A).set k (ad k, ce ad tc c) := by
  apply List.ext_getElem?
  intro i
  rw [wm_get, List.getElem?_set, List.getElem?_set, wm_get]
  by_cases h : k = i
  · subst h
    have : (wm ad tc A).length = A.length := by simp [wm]
    rw [this]
    by_cases h2 : k < A.length
    · simp [h2]
    · simp [h2]
  · simp [h]
/-- name, bytes, most locals, type of the answer, level -/
abbrev ME : Type := MethodName × ByteArray × Nat × Option FieldType × Nat
def rmL (d : Nat) : Room := { frames := d, cells := 0, slots := 0, locals := 35 * d }
/-- launch, numbers of classes and slots, classes of arrays, places of the String constants -/
abbrev GG : Type := Launch × va_G × (Nat → ClassId) × (Nat → Nat) × (Nat → Nat)
def tyG (tc : Nat → ClassId) : List (ClassId × FieldType) := [(tc 0, .int), (tc 1, .boolean), (tc 2, .object RX1), (tc 3, .object RX4)]
abbrev vwCl : List vw_C := [(RX0, TX0, 1), (RX1, TX1, 3), (RX2, TX2, 4), (RX3, TX3, 5), (RX4, TX4, 3), (RX5, TX5, 3), (RX6, TX6, 2), (RX7, TX7, 2), (RX8, TX8, 2), (RX9, TX9, 11), (RX10, TX10, 20)]
def AA (ad : Nat → Nat) (N sz : Nat) : Nat → Prop := fun q => (∃ k, k < N ∧ q = ad k) ∨ sz ≤ q
def inj (ad : Nat → Nat) (N : Nat) : Prop := ∀ i j, i < N → j < N → ad i = ad j → i = j
/-- what stands outside every world: the nest mates' links, the String constants, two statics of the JDK -/
def Sx (g : GG) (A : Nat → Prop) (U : State) : Prop :=
  (va_Nw (.methodLinkNest RX3 106 yX9_isColour RX9) U ∧ va_Nw (.methodLinkNest RX5 54 yX9_isColour RX9) U) ∧
  (vk_R RX3 60 "row" (g.2.2.2.1 0) U ∧ vk_R RX3 69 "fro" (g.2.2.2.1 1) U) ∧
  vk_S 2 [3, 3] [[114, 111, 119], [102, 114, 111]] g.2.2.2.1 g.2.2.2.2 A U U.heap ∧
  va_Z RJ0 "COMPACT_STRINGS" "Z" (.int 1) A U U.heap ∧ va_Zq RJ3 "SIOOBE_FORMATTER" "Ljava/util/function/BiFunction;" A U U.heap
theorem Sx.go {g : GG} {A B : Nat → Prop} {s U : State} (h : Sx g A s) (hW : s.WarmedH U.vm) (hAB : ∀ q, B q → A q) (hq : ∀ a : Nat, a < s.heap.size → ¬ A a → U.heap[a]? = s.heap[a]?) : Sx g B U := by
  obtain ⟨⟨h1, h2⟩, ⟨h3, h4⟩, h5, h6, h7⟩ := h
  exact ⟨⟨h1.warmM hW, h2.warmM hW⟩, ⟨h3.warm hW, h4.warm hW⟩, ((h5.moved hW.alike).kept hq).narrow hAB, ((h6.moved hW.alike).kept hq).narrow hAB, ((h7.moved hW.alike).kept hq).narrow hAB⟩
theorem Sx.same {g : GG} {A : Nat → Prop} {s U : State} (h : Sx g A s) (hv : U.vm = s.vm) (hh : U.heap = s.heap) : Sx g A U := by
  obtain ⟨⟨h1, h2⟩, ⟨h3, h4⟩, h5, h6, h7⟩ := h
  have ha : s.vm.Alike U.vm := by rw [hv]; exact Vm.Alike.refl _
  refine ⟨⟨h1.same rfl hv.symm, h2.same rfl hv.symm⟩, ⟨h3.same hv, h4.same hv⟩, ?_, ?_, ?_⟩
  · rw [hh]; exact h5.moved ha
  · rw [hh]; exact h6.moved ha
  · rw [hh]; exact h7.moved ha
/-- the words that every method is given: all of the tables that last -/
def wsG : List Cond := lw_tbl.filter goodWord
theorem wsG_in {w : Cond} (h : w ∈ wsG) : w ∈ lw_tbl := (List.mem_filter.mp h).1
theorem wsG_good {w : Cond} (h : w ∈ wsG) : goodWord w = true := (List.mem_filter.mp h).2
def wsM (M : ME) : List Cond := Cond.code M.1 M.2.1 M.2.2.1 M.2.2.2.1 :: wsG
def PcE (g : GG) (ad : Nat → Nat) (sz : Nat) (vs : List AV) (A : AH) : Array Value → State → Prop :=
  va_Pc (vs.map (cv ad)) (fun U => U.heap.size = sz ∧ va_P g.2.1 vwCl (wm ad g.2.2.1 A) U.heap ∧ va_K g.2.1 vwCl (tyG g.2.2.1) U ∧ Sx g (AA ad A.length sz) U)
def QcE (g : GG) (ad : Nat → Nat) (N : Nat) (Q : Option AV → AH → Prop) : Array Value → State → Outcome → State → Prop := fun _ st oc t =>
  (∃ (r : Option AV) (A' : AH), oc = .returned (r.map (cv ad)) ∧ Q r A' ∧ A'.length = N ∧ va_P g.2.1 vwCl (wm ad g.2.2.1 A') t.heap) ∧ va_F (AA ad N st.heap.size) st t
/-- where the String constants lie, and their bytes -/
def stA (g : GG) (i : Nat) : Nat := match i with
  | 0 => g.2.2.2.1 0
  | 1 => g.2.2.2.1 1
  | 2 => g.2.2.2.2 0
  | _ => g.2.2.2.2 1
def okS (g : GG) (ad : Nat → Nat) : Prop := ∀ i, i < 4 → ad (1000 + i) = stA g i
/-- the contract of a method: from these arguments and this world it comes to an answer and a world of which Q holds -/
def Ev (g : GG) (M : ME) (vs : List AV) (A : AH) (Q : Option AV → AH → Prop) : Prop :=
  ∀ (ad : Nat → Nat) (sz : Nat), inj ad A.length → okS g ad → Met g.1 M.1 (wsM M) (rmL M.2.2.2.2) (PcE g ad sz vs A) (QcE g ad A.length Q) 0 0 (AA ad A.length sz)
def LV (ad : Nat → Nat) (ls : Array Slot) (n : Nat) (lv : List (Option AV)) : Prop := ls.size = n ∧ lv_wf ls ∧ ∀ (k : Nat) (v : AV), lv[k]? = some (some v) → ls[k]? = some (.val (cv ad v))
def asc (ad : Nat → Nat) (lv : List (Option AV)) : List (Nat × Value) := (List.range lv.length).filterMap (fun k => (lv.getD k none).map (fun v => (k, cv ad v)))
theorem asc_mem {ad : Nat → Nat} {lv : List (Option AV)} {q : Nat × Value} : q ∈ asc ad lv ↔ ∃ v, lv[q.1]? = some (some v) ∧ q.2 = cv ad v := by
  unfold asc
  rw [List.mem_filterMap]
  constructor
  · rintro ⟨k, hk, h⟩
    have hk := List.mem_range.mp hk
    rw [List.getD_eq_getElem?_getD, List.getElem?_eq_getElem hk] at h
    cases hv : lv[k] with
    | none => rw [hv] at h; cases h
    | some v =>
      rw [hv] at h
      have h := Option.some.inj h
      subst h
      exact ⟨v, by rw [List.getElem?_eq_getElem hk, hv], rfl⟩
  · rintro ⟨v, h1, h2⟩
    have hk : q.1 < lv.length := (List.getElem?_eq_some_iff.mp h1).1
    refine ⟨q.1, List.mem_range.mpr hk, ?_⟩
    rw [List.getD_eq_getElem?_getD, h1]
    show some (q.1, cv ad v) = some q
    rw [← h2]
theorem LV.has {ad : Nat → Nat} {ls : Array Slot} {n : Nat} {lv : List (Option AV)} (h : LV ad ls n lv) : lv_has ls n (asc ad lv) := by
  refine ⟨h.1, h.2.1, fun q hq => ?_⟩
  obtain ⟨v, h1, h2⟩ := asc_mem.mp hq
  rw [h.2.2 _ v h1, h2]
theorem LV.at {ad : Nat → Nat} {ls : Array Slot} {n : Nat} {lv : List (Option AV)} (h : LV ad ls n lv) {i : Nat} {v : AV} (hi : lv[i]? = some (some v)) : ls[i]? = some (.val (cv ad v)) := h.2.2 i v hi
def isL (v : Option AV) : Bool := match v with
  | some (.inr (.inl _)) => true
  | _ => false
/-- a store at i kills no long -/
def okSt (lv : List (Option AV)) (i : Nat) : Bool := match i with
  | 0 => true
  | k + 1 => !(isL (lv.getD k none))
theorem cv_cat {ad : Nat → Nat} {v : AV} : (cv ad v).category = 2 ↔ isL (some v) = true := by
  rcases v with x | x | k <;> simp [cv, Value.category, isL]
theorem LV.set1 {ad : Nat → Nat} {ls' : Array Slot} {n : Nat} {lv : List (Option AV)} {i : Nat} {v : AV} (hok : okSt lv i = true)
    (h : lv_has ls' n ((i, cv ad v) :: (asc ad lv).filter (fun q => !(q.1 == i) && !(q.1 + 1 == i && q.2.category == 2)))) : LV ad ls' n (lv.set i (some v)) := by
  refine ⟨h.1, h.2.1, fun k w hk => ?_⟩
  rw [List.getElem?_set] at hk
  by_cases e : i = k
  · subst e
    rw [if_pos rfl] at hk
    split at hk
    · have e2 : v = w := Option.some.inj (Option.some.inj hk)
      subst e2
      exact h.2.2 (i, cv ad v) List.mem_cons_self
    · cases hk
  · rw [if_neg e] at hk
    refine h.2.2 (k, cv ad w) (List.mem_cons_of_mem _ (List.mem_filter.mpr ⟨asc_mem.mpr ⟨w, hk, rfl⟩, ?_⟩))
    have e1 : ¬ k = i := fun q => e q.symm
    simp only [Bool.and_eq_true, Bool.not_eq_true', beq_eq_false_iff_ne, ne_eq, e1, not_false_eq_true, true_and, Bool.and_eq_false_iff]
    by_cases e2 : k + 1 = i
    · right
      subst e2
      intro hc
      have h2 := cv_cat.mp hc
      simp only [okSt] at hok
      rw [List.getD_eq_getElem?_getD, hk] at hok
      simp [h2] at hok
    · exact Or.inl e2
theorem LV.set2 {ad : Nat → Nat} {ls' : Array Slot} {n : Nat} {lv : List (Option AV)} {i : Nat} {v : AV} (hok : okSt lv i = true)
    (h : lv_has ls' n ((i, cv ad v) :: (asc ad lv).filter (fun q => !(q.1 == i) && (!(q.1 == i + 1) && !(q.1 + 1 == i && q.2.category == 2))))) : LV ad ls' n ((lv.set i (some v)).set (i + 1) none) := by
  refine ⟨h.1, h.2.1, fun k w hk => ?_⟩
  rw [List.getElem?_set] at hk
  by_cases e0 : i + 1 = k
  · rw [if_pos e0] at hk
    split at hk <;> cases hk
  rw [if_neg e0, List.getElem?_set] at hk
  by_cases e : i = k
  · subst e
    rw [if_pos rfl] at hk
    split at hk
    · have e2 : v = w := Option.some.inj (Option.some.inj hk)
      subst e2
      exact h.2.2 (i, cv ad v) List.mem_cons_self
    · cases hk
  · rw [if_neg e] at hk
    refine h.2.2 (k, cv ad w) (List.mem_cons_of_mem _ (List.mem_filter.mpr ⟨asc_mem.mpr ⟨w, hk, rfl⟩, ?_⟩))
    have e1 : ¬ k = i := fun q => e q.symm
    have e3 : ¬ k = i + 1 := fun q => e0 q.symm
    simp only [Bool.and_eq_true, Bool.not_eq_true', beq_eq_false_iff_ne, ne_eq, e1, e3, not_false_eq_true, true_and, Bool.and_eq_false_iff]
    by_cases e2 : k + 1 = i
    · right
      subst e2
      intro hc
      have h2 := cv_cat.mp hc
      simp only [okSt] at hok
      rw [List.getD_eq_getElem?_getD, hk] at hok
      simp [h2] at hok
    · exact Or.inl e2
/-- the locals at the start -/
def lv0 : List AV → List (Option AV)
  | [] => []
  | .inr (.inl x) :: r => some (.inr (.inl x)) :: none :: lv0 r
  | .inl x :: r => some (.inl x) :: lv0 r
  | .inr (.inr x) :: r => some (.inr (.inr x)) :: lv0 r
theorem lv0_mem {ad : Nat → Nat} : ∀ (vs : List AV) (i k : Nat) (v : AV), (lv0 vs)[k]? = some (some v) → (i + k, cv ad v) ∈ lv_args i (vs.map (cv ad)) := by
  intro vs
  induction vs with
  | nil => intro i k v h; simp [lv0] at h
  | cons a r ih =>
    intro i k v h
    rcases a with x | x | x
    · cases k with
      | zero => simp [lv0] at h; subst h; exact List.mem_cons_self
      | succ k =>
        simp only [lv0, List.getElem?_cons_succ] at h
        have := ih (i + 1) k v h
        refine List.mem_cons_of_mem _ ?_
        simpa [cv, Value.category, Nat.add_assoc, Nat.add_comm 1 k] using this
    · match k, h with
      | 0, h => simp [lv0] at h; subst h; exact List.mem_cons_self
      | 1, h => simp [lv0] at h
      | k + 2, h =>
        simp only [lv0, List.getElem?_cons_succ] at h
        have := ih (i + 2) k v h
        refine List.mem_cons_of_mem _ ?_
        simpa [cv, Value.category, Nat.add_assoc, Nat.add_comm 2 k] using this
    · cases k with
      | zero => simp [lv0] at h; subst h; exact List.mem_cons_self
      | succ k =>
        simp only [lv0, List.getElem?_cons_succ] at h
        have := ih (i + 1) k v h
        refine List.mem_cons_of_mem _ ?_
        simpa [cv, Value.category, Nat.add_assoc, Nat.add_comm 1 k] using this
theorem lv0_len {ad : Nat → Nat} : ∀ (vs : List AV), (lg_sl (vs.map (cv ad))).length = (lv0 vs).length := by
  intro vs
  induction vs with
  | nil => rfl
  | cons a r ih =>
    rcases a with x | x | x <;> simp [lg_sl, lv0, cv, Value.category] at ih ⊢ <;> omega
end
section
/-! the walk over abstract states: one row an instruction -/
def Cx (g : GG) (M : ME) (N : Nat) (ad : Nat → Nat) (p : Program) (s : State) (m : MethodId) (args : Array Value) (meth : Method) (c : Code) : Prop :=
  p.tables.exec = Jvm.exec ∧ c.code = M.2.1 ∧ meth.sig.returnType = M.2.2.2.1 ∧ c.maxLocals = M.2.2.1 ∧ s.vm.findClass M.1.cls = some m.cls ∧ (∀ w ∈ wsG, w.before args s = true) ∧ meth.locks = false ∧
  va_K g.2.1 vwCl (tyG g.2.2.1) s ∧ Sx g (AA ad N s.heap.size) s ∧ inj ad N ∧ okS g ad
/-- from the frame at pc, with these locals, this stack, this world, the method comes to an end of which Q holds -/
def Z (g : GG) (M : ME) (N : Nat) (Q : Option AV → AH → Prop) (pc : Nat) (lv : List (Option AV)) (st : List AV) (A : AH) : Prop :=
  ∀ (ad : Nat → Nat) (p : Program) (e : Env) (s : State) (m : MethodId) (args : Array Value) (below : List Frame) (meth : Method) (c : Code), Cx g M N ad p s m args meth c →
    ∀ (H : Heap) (locs : List Loc) (ls : Array Slot), va_P g.2.1 vwCl (wm ad g.2.2.1 A) H → va_S (AA ad N s.heap.size) s.heap H locs → A.length = N → LV ad ls M.2.2.1 lv →
      W p g.1 e (rmL M.2.2.2.2) s m args below meth c H locs 0 0 (MQ below (QcE g ad N Q) args s 0 0 (AA ad N s.heap.size)) (F0 m pc ls (st.map (cv ad)))
theorem AA_D {ad : Nat → Nat} {N sz : Nat} {tc : Nat → ClassId} {A : AH} (hi : inj ad N) (hN : A.length = N) : va_D (AA ad N sz) (wm ad tc A) := by
  refine ⟨fun i j p q hp hq h => ?_, fun k q hq => ?_⟩
  · obtain ⟨c1, h1, rfl⟩ := wm_of hp
    obtain ⟨c2, h2, rfl⟩ := wm_of hq
    exact hi i j (hN ▸ (List.getElem?_eq_some_iff.mp h1).1) (hN ▸ (List.getElem?_eq_some_iff.mp h2).1) h
  · obtain ⟨c1, h1, rfl⟩ := wm_of hq
    exact Or.inl ⟨k, hN ▸ (List.getElem?_eq_some_iff.mp h1).1, rfl⟩
section ZR
variable {g : GG} {M : ME} {N : Nat} {Q : Option AV → AH → Prop} {pc : Nat} {lv : List (Option AV)} {st : List AV} {A : AH}
theorem Z_iconst {n : Int} {x : Int32} (hd : decode M.2.1 pc = .ok (.iconst n, 1)) (hv : Int32.ofInt n = x) (k : Z g M N Q (pc + 1) lv (vi x :: st) A) : Z g M N Q pc lv st A := by
  intro ad p e s m args below meth c C H locs ls hP hS hN hl
  exact lv_iconst C.1 C.2.1 hd hv (k ad p e s m args below meth c C H locs ls hP hS hN hl)
theorem Z_bipush {n : Int} {x : Int32} (hd : decode M.2.1 pc = .ok (.bipush n, 2)) (hv : (Int8.ofInt n).toInt32 = x) (k : Z g M N Q (pc + 2) lv (vi x :: st) A) : Z g M N Q pc lv st A := by
  intro ad p e s m args below meth c C H locs ls hP hS hN hl
  exact lv_bipush C.1 C.2.1 hd hv (k ad p e s m args below meth c C H locs ls hP hS hN hl)
theorem Z_sipush {n : Int} {x : Int32} (hd : decode M.2.1 pc = .ok (.sipush n, 3)) (hv : (Int16.ofInt n).toInt32 = x) (k : Z g M N Q (pc + 3) lv (vi x :: st) A) : Z g M N Q pc lv st A := by
  intro ad p e s m args below meth c C H locs ls hP hS hN hl
  exact lv_sipush C.1 C.2.1 hd hv (k ad p e s m args below meth c C H locs ls hP hS hN hl)
theorem Z_lconst {n : Fin 2} {x : Int64} (hd : decode M.2.1 pc = .ok (.lconst n, 1)) (hv : Int64.ofNat (n : Nat) = x) (k : Z g M N Q (pc + 1) lv (vl x :: st) A) : Z g M N Q pc lv st A := by
  intro ad p e s m args below meth c C H locs ls hP hS hN hl
  exact lv_lconst C.1 C.2.1 hd hv (k ad p e s m args below meth c C H locs ls hP hS hN hl)
theorem Z_ldc {i : Nat} {x : Int32} (hd : decode M.2.1 pc = .ok (.ldc i, 2)) (hw : Cond.constant M.1.cls i x ∈ wsG) (k : Z g M N Q (pc + 2) lv (vi x :: st) A) : Z g M N Q pc lv st A := by
  intro ad p e s m args below meth c C H locs ls hP hS hN hl
  exact lv_ldc C.1 C.2.1 C.2.2.2.2.1 (C.2.2.2.2.2.1 _ hw) hd (k ad p e s m args below meth c C H locs ls hP hS hN hl)
theorem Z_ldc2 {i : Nat} {x : Int64} (hd : decode M.2.1 pc = .ok (.ldc2_w i, 3)) (hw : Cond.constantLong M.1.cls i x ∈ wsG) (k : Z g M N Q (pc + 3) lv (vl x :: st) A) : Z g M N Q pc lv st A := by
  intro ad p e s m args below meth c C H locs ls hP hS hN hl
  exact lv_ldc2 C.1 C.2.1 C.2.2.2.2.1 (C.2.2.2.2.2.1 _ hw) hd (k ad p e s m args below meth c C H locs ls hP hS hN hl)
theorem Z_iload_n {n : Fin 4} {x : Int32} (hd : decode M.2.1 pc = .ok (.iload_n n, 1)) (hv : lv[(n : Nat)]? = some (some (vi x))) (k : Z g M N Q (pc + 1) lv (vi x :: st) A) : Z g M N Q pc lv st A := by
  intro ad p e s m args below meth c C H locs ls hP hS hN hl
  exact lv_iload_n C.1 C.2.1 hd rfl (hl.at hv) (k ad p e s m args below meth c C H locs ls hP hS hN hl)
theorem Z_iload {n : Nat} {x : Int32} (hd : decode M.2.1 pc = .ok (.iload n, 2)) (hv : lv[n]? = some (some (vi x))) (k : Z g M N Q (pc + 2) lv (vi x :: st) A) : Z g M N Q pc lv st A := by
  intro ad p e s m args below meth c C H locs ls hP hS hN hl
  exact lv_iload C.1 C.2.1 hd (hl.at hv) (k ad p e s m args below meth c C H locs ls hP hS hN hl)
theorem Z_lload_n {n : Fin 4} {x : Int64} (hd : decode M.2.1 pc = .ok (.lload_n n, 1)) (hv : lv[(n : Nat)]? = some (some (vl x))) (k : Z g M N Q (pc + 1) lv (vl x :: st) A) : Z g M N Q pc lv st A := by
  intro ad p e s m args below meth c C H locs ls hP hS hN hl
  exact lv_lload_n C.1 C.2.1 hd rfl (hl.at hv) (k ad p e s m args below meth c C H locs ls hP hS hN hl)
theorem Z_lload {n : Nat} {x : Int64} (hd : decode M.2.1 pc = .ok (.lload n, 2)) (hv : lv[n]? = some (some (vl x))) (k : Z g M N Q (pc + 2) lv (vl x :: st) A) : Z g M N Q pc lv st A := by
  intro ad p e s m args below meth c C H locs ls hP hS hN hl
  exact lv_lload C.1 C.2.1 hd (hl.at hv) (k ad p e s m args below meth c C H locs ls hP hS hN hl)
theorem Z_aload_n {n : Fin 4} {x : Nat} (hd : decode M.2.1 pc = .ok (.aload_n n, 1)) (hv : lv[(n : Nat)]? = some (some (vr x))) (k : Z g M N Q (pc + 1) lv (vr x :: st) A) : Z g M N Q pc lv st A := by
  intro ad p e s m args below meth c C H locs ls hP hS hN hl
  exact lv_aload_n C.1 C.2.1 hd rfl (hl.at hv) (k ad p e s m args below meth c C H locs ls hP hS hN hl)
theorem Z_aload {n : Nat} {x : Nat} (hd : decode M.2.1 pc = .ok (.aload n, 2)) (hv : lv[n]? = some (some (vr x))) (k : Z g M N Q (pc + 2) lv (vr x :: st) A) : Z g M N Q pc lv st A := by
  intro ad p e s m args below meth c C H locs ls hP hS hN hl
  exact lv_aload C.1 C.2.1 hd (hl.at hv) (k ad p e s m args below meth c C H locs ls hP hS hN hl)
theorem Z_istore_n {n : Fin 4} {x : Int32} (hd : decode M.2.1 pc = .ok (.istore_n n, 1)) (hn : (n : Nat) < M.2.2.1) (hok : okSt lv n = true) (k : Z g M N Q (pc + 1) (lv.set n (some (vi x))) st A) : Z g M N Q pc lv (vi x :: st) A := by
  intro ad p e s m args below meth c C H locs ls hP hS hN hl
  exact lv_istore_n C.1 C.2.1 hd rfl hl.has hn rfl (fun ls' h' => k ad p e s m args below meth c C H locs ls' hP hS hN (LV.set1 hok h'))
theorem Z_istore {n : Nat} {x : Int32} (hd : decode M.2.1 pc = .ok (.istore n, 2)) (hn : n < M.2.2.1) (hok : okSt lv n = true) (k : Z g M N Q (pc + 2) (lv.set n (some (vi x))) st A) : Z g M N Q pc lv (vi x :: st) A := by
  intro ad p e s m args below meth c C H locs ls hP hS hN hl
  exact lv_istore C.1 C.2.1 hd hl.has hn rfl (fun ls' h' => k ad p e s m args below meth c C H locs ls' hP hS hN (LV.set1 hok h'))
theorem Z_astore_n {n : Fin 4} {x : Nat} (hd : decode M.2.1 pc = .ok (.astore_n n, 1)) (hn : (n : Nat) < M.2.2.1) (hok : okSt lv n = true) (k : Z g M N Q (pc + 1) (lv.set n (some (vr x))) st A) : Z g M N Q pc lv (vr x :: st) A := by
  intro ad p e s m args below meth c C H locs ls hP hS hN hl
  exact lv_astore_n C.1 C.2.1 hd rfl hl.has hn rfl (fun ls' h' => k ad p e s m args below meth c C H locs ls' hP hS hN (LV.set1 hok h'))
theorem Z_astore {n : Nat} {x : Nat} (hd : decode M.2.1 pc = .ok (.astore n, 2)) (hn : n < M.2.2.1) (hok : okSt lv n = true) (k : Z g M N Q (pc + 2) (lv.set n (some (vr x))) st A) : Z g M N Q pc lv (vr x :: st) A := by
  intro ad p e s m args below meth c C H locs ls hP hS hN hl
  exact lv_astore C.1 C.2.1 hd hl.has hn rfl (fun ls' h' => k ad p e s m args below meth c C H locs ls' hP hS hN (LV.set1 hok h'))
theorem Z_lstore {n : Nat} {x : Int64} (hd : decode M.2.1 pc = .ok (.lstore n, 2)) (hn : n + 1 < M.2.2.1) (hok : okSt lv n = true) (k : Z g M N Q (pc + 2) ((lv.set n (some (vl x))).set (n + 1) none) st A) : Z g M N Q pc lv (vl x :: st) A := by
  intro ad p e s m args below meth c C H locs ls hP hS hN hl
  exact lv_lstore C.1 C.2.1 hd hl.has hn rfl (fun ls' h' => k ad p e s m args below meth c C H locs ls' hP hS hN (LV.set2 hok h'))
theorem Z_iinc {i : Nat} {n : Int} {x : Int32} {y : Int32} (hd : decode M.2.1 pc = .ok (.iinc i n, 3)) (hv : lv[i]? = some (some (vi x))) (hy : Int32.ofInt n = y) (hn : i < M.2.2.1) (hok : okSt lv i = true) (k : Z g M N Q (pc + 3) (lv.set i (some (vi (x + y)))) st A) : Z g M N Q pc lv st A := by
  intro ad p e s m args below meth c C H locs ls hP hS hN hl
  subst hy
  obtain ⟨j, hj⟩ := List.getElem?_of_mem (asc_mem (ad := ad) (q := (i, .int x)) |>.mpr ⟨vi x, hv, rfl⟩)
  exact lv_iinc C.1 C.2.1 hd hl.has hj rfl hn rfl (fun ls' h' => k ad p e s m args below meth c C H locs ls' hP hS hN (LV.set1 hok h'))
theorem Z_iadd {x y : Int32} (hd : decode M.2.1 pc = .ok (.iadd, 1)) (k : Z g M N Q (pc + 1) lv (vi (x + y) :: st) A) : Z g M N Q pc lv (vi y :: vi x :: st) A := by
  intro ad p e s m args below meth c C H locs ls hP hS hN hl
  exact lv_iadd C.1 C.2.1 hd (k ad p e s m args below meth c C H locs ls hP hS hN hl)
theorem Z_isub {x y : Int32} (hd : decode M.2.1 pc = .ok (.isub, 1)) (k : Z g M N Q (pc + 1) lv (vi (x - y) :: st) A) : Z g M N Q pc lv (vi y :: vi x :: st) A := by
  intro ad p e s m args below meth c C H locs ls hP hS hN hl
  exact lv_isub C.1 C.2.1 hd (k ad p e s m args below meth c C H locs ls hP hS hN hl)
theorem Z_imul {x y : Int32} (hd : decode M.2.1 pc = .ok (.imul, 1)) (k : Z g M N Q (pc + 1) lv (vi (x * y) :: st) A) : Z g M N Q pc lv (vi y :: vi x :: st) A := by
  intro ad p e s m args below meth c C H locs ls hP hS hN hl
  exact lv_imul C.1 C.2.1 hd (k ad p e s m args below meth c C H locs ls hP hS hN hl)
theorem Z_iand {x y : Int32} (hd : decode M.2.1 pc = .ok (.iand, 1)) (k : Z g M N Q (pc + 1) lv (vi (x &&& y) :: st) A) : Z g M N Q pc lv (vi y :: vi x :: st) A := by
  intro ad p e s m args below meth c C H locs ls hP hS hN hl
  exact lv_iand C.1 C.2.1 hd (k ad p e s m args below meth c C H locs ls hP hS hN hl)
theorem Z_ishr {x y : Int32} (hd : decode M.2.1 pc = .ok (.ishr, 1)) (k : Z g M N Q (pc + 1) lv (vi (x >>> (y &&& 31)) :: st) A) : Z g M N Q pc lv (vi y :: vi x :: st) A := by
  intro ad p e s m args below meth c C H locs ls hP hS hN hl
  exact lv_ishr C.1 C.2.1 hd (k ad p e s m args below meth c C H locs ls hP hS hN hl)
theorem Z_iushr {x y : Int32} (hd : decode M.2.1 pc = .ok (.iushr, 1)) (k : Z g M N Q (pc + 1) lv (vi (x.toUInt32 >>> (y.toUInt32 &&& Int32.toUInt32 31)).toInt32 :: st) A) : Z g M N Q pc lv (vi y :: vi x :: st) A := by
  intro ad p e s m args below meth c C H locs ls hP hS hN hl
  exact lv_iushr C.1 C.2.1 hd rfl (k ad p e s m args below meth c C H locs ls hP hS hN hl)
theorem Z_idiv {x y : Int32} (hd : decode M.2.1 pc = .ok (.idiv, 1)) (hne : ¬ y = 0) (k : Z g M N Q (pc + 1) lv (vi (x / y) :: st) A) : Z g M N Q pc lv (vi y :: vi x :: st) A := by
  intro ad p e s m args below meth c C H locs ls hP hS hN hl
  exact lv_idiv C.1 C.2.1 hd hne (k ad p e s m args below meth c C H locs ls hP hS hN hl)
theorem Z_irem {x y : Int32} (hd : decode M.2.1 pc = .ok (.irem, 1)) (hne : ¬ y = 0) (k : Z g M N Q (pc + 1) lv (vi (x - x / y * y) :: st) A) : Z g M N Q pc lv (vi y :: vi x :: st) A := by
  intro ad p e s m args below meth c C H locs ls hP hS hN hl
  exact lv_irem C.1 C.2.1 hd hne (k ad p e s m args below meth c C H locs ls hP hS hN hl)
theorem Z_ladd {x y : Int64} (hd : decode M.2.1 pc = .ok (.ladd, 1)) (k : Z g M N Q (pc + 1) lv (vl (x + y) :: st) A) : Z g M N Q pc lv (vl y :: vl x :: st) A := by
  intro ad p e s m args below meth c C H locs ls hP hS hN hl
  exact lv_ladd C.1 C.2.1 hd (k ad p e s m args below meth c C H locs ls hP hS hN hl)
theorem Z_lcmp {x y : Int64} (hd : decode M.2.1 pc = .ok (.lcmp, 1)) (k : Z g M N Q (pc + 1) lv (vi (lg_cmp x y) :: st) A) : Z g M N Q pc lv (vl y :: vl x :: st) A := by
  intro ad p e s m args below meth c C H locs ls hP hS hN hl
  exact W.lcmp C.1 C.2.1 hd (k ad p e s m args below meth c C H locs ls hP hS hN hl)
theorem Z_i2l {x : Int32} (hd : decode M.2.1 pc = .ok (.i2l, 1)) (k : Z g M N Q (pc + 1) lv (vl x.toInt64 :: st) A) : Z g M N Q pc lv (vi x :: st) A := by
  intro ad p e s m args below meth c C H locs ls hP hS hN hl
  exact lv_i2l C.1 C.2.1 hd rfl (k ad p e s m args below meth c C H locs ls hP hS hN hl)
theorem Z_l2i {x : Int64} (hd : decode M.2.1 pc = .ok (.l2i, 1)) (k : Z g M N Q (pc + 1) lv (vi x.toInt32 :: st) A) : Z g M N Q pc lv (vl x :: st) A := by
  intro ad p e s m args below meth c C H locs ls hP hS hN hl
  exact lv_l2i C.1 C.2.1 hd rfl (k ad p e s m args below meth c C H locs ls hP hS hN hl)
theorem Z_i2b {x : Int32} (hd : decode M.2.1 pc = .ok (.i2b, 1)) (k : Z g M N Q (pc + 1) lv (vi x.toInt8.toInt32 :: st) A) : Z g M N Q pc lv (vi x :: st) A := by
  intro ad p e s m args below meth c C H locs ls hP hS hN hl
  exact lv_i2b C.1 C.2.1 hd rfl (k ad p e s m args below meth c C H locs ls hP hS hN hl)
theorem Z_i2s {x : Int32} (hd : decode M.2.1 pc = .ok (.i2s, 1)) (k : Z g M N Q (pc + 1) lv (vi x.toInt16.toInt32 :: st) A) : Z g M N Q pc lv (vi x :: st) A := by
  intro ad p e s m args below meth c C H locs ls hP hS hN hl
  exact lv_i2s C.1 C.2.1 hd rfl (k ad p e s m args below meth c C H locs ls hP hS hN hl)
theorem cat1 {ad : Nat → Nat} {v : AV} (h : isL (some v) = false) : (cv ad v).category = 1 := by
  rcases v with x | x | k
  · rfl
  · cases h
  · rfl
theorem Z_dup {v : AV} (hd : decode M.2.1 pc = .ok (.dup, 1)) (hv : isL (some v) = false) (k : Z g M N Q (pc + 1) lv (v :: v :: st) A) : Z g M N Q pc lv (v :: st) A := by
  intro ad p e s m args below meth c C H locs ls hP hS hN hl
  exact lv_dup C.1 C.2.1 hd (cat1 hv) (k ad p e s m args below meth c C H locs ls hP hS hN hl)
theorem Z_pop {v : AV} (hd : decode M.2.1 pc = .ok (.pop, 1)) (hv : isL (some v) = false) (k : Z g M N Q (pc + 1) lv st A) : Z g M N Q pc lv (v :: st) A := by
  intro ad p e s m args below meth c C H locs ls hP hS hN hl
  exact lv_pop C.1 C.2.1 hd (cat1 hv) (k ad p e s m args below meth c C H locs ls hP hS hN hl)
theorem Z_dup2 {v w : AV} (hd : decode M.2.1 pc = .ok (.dup2, 1)) (hv : isL (some v) = false) (hw : isL (some w) = false) (k : Z g M N Q (pc + 1) lv (v :: w :: v :: w :: st) A) : Z g M N Q pc lv (v :: w :: st) A := by
  intro ad p e s m args below meth c C H locs ls hP hS hN hl
  exact lv_dup2_11 C.1 C.2.1 hd (cat1 hv) (cat1 hw) (k ad p e s m args below meth c C H locs ls hP hS hN hl)
theorem Z_goto {off : Int} {t : Nat} (hd : decode M.2.1 pc = .ok (.goto off, 3)) (ht : (pc : Int) + off = (t : Int)) (k : Z g M N Q t lv st A) : Z g M N Q pc lv st A := by
  intro ad p e s m args below meth c C H locs ls hP hS hN hl
  exact lv_goto C.1 C.2.1 hd ht (k ad p e s m args below meth c C H locs ls hP hS hN hl)
/-- what a branch asks -/
def cnd (o : Jvm.ClassFile.Cond) (x y : Int32) : Prop := match o with
  | .eq => x = y
  | .ne => ¬ x = y
  | .lt => x < y
  | .ge => y ≤ x
  | .gt => y < x
  | .le => x ≤ y
theorem Z_if {o : Jvm.ClassFile.Cond} {x : Int32} {off : Int} {t : Nat} (hd : decode M.2.1 pc = .ok (.ifCond o off, 3)) (ht : (pc : Int) + off = (t : Int)) (k1 : cnd o x 0 → Z g M N Q t lv st A) (k2 : ¬ cnd o x 0 → Z g M N Q (pc + 3) lv st A) : Z g M N Q pc lv (vi x :: st) A := by
  intro ad p e s m args below meth c C H locs ls hP hS hN hl
  have h1 := fun h => k1 h ad p e s m args below meth c C H locs ls hP hS hN hl
  have h2 := fun h => k2 h ad p e s m args below meth c C H locs ls hP hS hN hl
  cases o with
  | eq => exact lv_if_eq C.1 C.2.1 hd ht h1 h2
  | ne => exact lv_if_ne C.1 C.2.1 hd ht h1 (fun h => h2 (fun q => q h))
  | lt => exact lv_if_lt C.1 C.2.1 hd ht h1 h2
  | ge => exact lv_if_ge C.1 C.2.1 hd ht h1 h2
  | gt => exact lv_if_gt C.1 C.2.1 hd ht h1 h2
  | le => exact lv_if_le C.1 C.2.1 hd ht h1 h2
theorem Z_icmp {o : Jvm.ClassFile.Cond} {x y : Int32} {off : Int} {t : Nat} (hd : decode M.2.1 pc = .ok (.if_icmp o off, 3)) (ht : (pc : Int) + off = (t : Int)) (k1 : cnd o x y → Z g M N Q t lv st A) (k2 : ¬ cnd o x y → Z g M N Q (pc + 3) lv st A) : Z g M N Q pc lv (vi y :: vi x :: st) A := by
  intro ad p e s m args below meth c C H locs ls hP hS hN hl
  have h1 := fun h => k1 h ad p e s m args below meth c C H locs ls hP hS hN hl
  have h2 := fun h => k2 h ad p e s m args below meth c C H locs ls hP hS hN hl
  cases o with
  | eq => exact lv_icmp_eq C.1 C.2.1 hd ht h1 h2
  | ne => exact lv_icmp_ne C.1 C.2.1 hd ht h1 (fun h => h2 (fun q => q h))
  | lt => exact lv_icmp_lt C.1 C.2.1 hd ht h1 h2
  | ge => exact lv_icmp_ge C.1 C.2.1 hd ht h1 h2
  | gt => exact lv_icmp_gt C.1 C.2.1 hd ht h1 h2
  | le => exact lv_icmp_le C.1 C.2.1 hd ht h1 h2
theorem Z_iaload {i : Int32} {q n : Nat} {f : Nat → Int32} (hd : decode M.2.1 pc = .ok (.iaload, 1)) (ha : A[q]? = some (ar 0 n f)) (hin : vp_in i n) (k : Z g M N Q (pc + 1) lv (vi (f i.toNatClampNeg) :: st) A) : Z g M N Q pc lv (vi i :: vr q :: st) A := by
  intro ad p e s m args below meth c C H locs ls hP hS hN hl
  exact va_iald (q0 := q) (t0 := 0) C.1 C.2.1 C.2.2.2.2.2.2.2.1 hP (wm_at ha) rfl hin hd (k ad p e s m args below meth c C H locs ls hP hS hN hl)
theorem Z_baload {i : Int32} {q n : Nat} {f : Nat → Int32} (hd : decode M.2.1 pc = .ok (.baload, 1)) (ha : A[q]? = some (ar 1 n f)) (hin : vp_in i n) (k : Z g M N Q (pc + 1) lv (vi (f i.toNatClampNeg) :: st) A) : Z g M N Q pc lv (vi i :: vr q :: st) A := by
  intro ad p e s m args below meth c C H locs ls hP hS hN hl
  exact va_zald (q0 := q) (t0 := 1) C.1 C.2.1 C.2.2.2.2.2.2.2.1 hP (wm_at ha) rfl hin hd (k ad p e s m args below meth c C H locs ls hP hS hN hl)
theorem Z_aaload {i : Int32} {q n t : Nat} {f : Nat → Nat} (hd : decode M.2.1 pc = .ok (.aaload, 1)) (ha : A[q]? = some (rr t n f)) (ht : t = 2 ∨ t = 3) (hin : vp_in i n) (k : Z g M N Q (pc + 1) lv (vr (f i.toNatClampNeg) :: st) A) : Z g M N Q pc lv (vi i :: vr q :: st) A := by
  intro ad p e s m args below meth c C H locs ls hP hS hN hl
  rcases ht with rfl | rfl
  · exact va_aldq (q0 := q) (t0 := 2) C.1 C.2.1 C.2.2.2.2.2.2.2.1 hP (wm_at ha) rfl hin hd (k ad p e s m args below meth c C H locs ls hP hS hN hl)
  · exact va_aldq (q0 := q) (t0 := 3) C.1 C.2.1 C.2.2.2.2.2.2.2.1 hP (wm_at ha) rfl hin hd (k ad p e s m args below meth c C H locs ls hP hS hN hl)
theorem Z_iastore {i x : Int32} {q n : Nat} {f : Nat → Int32} (hd : decode M.2.1 pc = .ok (.iastore, 1)) (ha : A[q]? = some (ar 0 n f)) (hin : vp_in i n) (k : Z g M N Q (pc + 1) lv st (A.set q (ar 0 n (upd f i.toNatClampNeg x)))) : Z g M N Q pc lv (vi x :: vi i :: vr q :: st) A := by
  intro ad p e s m args below meth c C H locs ls hP hS hN hl
  refine va_iast (q0 := q) (t0 := 0) C.1 C.2.1 C.2.2.2.2.2.2.2.1 hP (AA_D C.2.2.2.2.2.2.2.2.2.1 hN) hS (wm_at ha) rfl hin hd (fun H1 locs1 hP1 hD1 hS1 => ?_)
  exact k ad p e s m args below meth c C H1 locs1 ls (by rw [wm_set]; exact hP1) hS1 (by rw [List.length_set]; exact hN) hl
theorem z01 {x : Int32} (h : x = 0 ∨ x = 1) : narrow .boolean (.int x) = .int x ∧ fits .boolean (.int x) = true := by
  rcases h with rfl | rfl <;> exact ⟨by decide, by decide⟩
theorem Z_bastore {i x : Int32} {q n : Nat} {f : Nat → Int32} (hd : decode M.2.1 pc = .ok (.bastore, 1)) (ha : A[q]? = some (ar 1 n f)) (hin : vp_in i n) (hx : x = 0 ∨ x = 1) (k : Z g M N Q (pc + 1) lv st (A.set q (ar 1 n (upd f i.toNatClampNeg x)))) : Z g M N Q pc lv (vi x :: vi i :: vr q :: st) A := by
  intro ad p e s m args below meth c C H locs ls hP hS hN hl
  refine va_zast (q0 := q) (t0 := 1) C.1 C.2.1 C.2.2.2.2.2.2.2.1 hP (AA_D C.2.2.2.2.2.2.2.2.2.1 hN) hS (wm_at ha) rfl hin hd (fun H1 locs1 hP1 hD1 hS1 => ?_)
  have e9 : vp_nar .boolean x = x := by rcases hx with rfl | rfl <;> rfl
  rw [e9] at hP1
  exact k ad p e s m args below meth c C H1 locs1 ls (by rw [wm_set]; exact hP1) hS1 (by rw [List.length_set]; exact hN) hl
end ZR
end
section
/-! fields, answers, calls, a method's start, the frame -/
def FLk (own : String) (idx ci k : Nat) : Prop := ∃ (C : String) (T : u_T) (NN : Nat), vwCl[ci]? = some (C, T, NN) ∧ k < NN ∧ (∀ w ∈ u_ws C T NN, w ∈ wsG) ∧ Cond.fieldLink own idx (T k).1 (T k).2.1 (T k).2.2.1 ∈ wsG
def FPk (own : String) (idx ci k : Nat) (ty : FieldType) : Prop := ∃ (C : String) (T : u_T) (NN : Nat), vwCl[ci]? = some (C, T, NN) ∧ k < NN ∧ (∀ w ∈ u_ws C T NN, w ∈ wsG) ∧ Cond.fieldLink own idx (T k).1 (T k).2.1 (T k).2.2.1 ∈ wsG ∧
  (T k).2.2.2 = false ∧ parseFieldDescriptor (T k).2.2.1 = some ty ∧ (∃ ty0 : Nat → FieldType, ∀ k, k < NN → parseFieldDescriptor (T k).2.2.1 = some (ty0 k)) ∧ (∀ a, a < NN → ∀ b, b < NN → a ≠ b → (T a).2.1 ≠ (T b).2.1)
def okM (me : ME) : Prop := Cond.code me.1 me.2.1 me.2.2.1 me.2.2.2.1 ∈ wsG ∧ Cond.initialized me.1.cls ∈ wsG ∧ (me.1.cls ≠ "java/lang/invoke/MethodHandle" ∧ me.1.cls ≠ "java/lang/invoke/VarHandle") ∧ me.2.2.1 ≤ 16 ∧ plainName me.1.cls = true
def okV (me : ME) (n : Nat) : Prop := okM me ∧ Cond.instanceMethod me.1 ∈ wsG ∧ Cond.selects me.1.cls me.1 me.1 ∈ wsG ∧ (parseMethodDescriptor me.1.desc).map (fun d => d.parameters.length) = some n
def okT (me : ME) (n : Nat) : Prop := okM me ∧ Cond.static me.1 ∈ wsG ∧ (parseMethodDescriptor me.1.desc).map (fun d => d.parameters.length) = some n
theorem good_M {me : ME} (h : Cond.code me.1 me.2.1 me.2.2.1 me.2.2.2.1 ∈ wsG) : GoodIn wsG (wsM me) := by
  intro w hw
  rcases List.mem_cons.mp hw with rfl | hw
  · exact ⟨h, good_of_word (wsG_good h)⟩
  · exact ⟨hw, good_of_word (wsG_good hw)⟩
theorem good_one {w : Cond} (h : w ∈ wsG) : w ∈ wsG ∧ ((w.onTables && w.keeps) = true ∨ ∃ ty, w = .arrayClass ty) := ⟨h, good_of_word (wsG_good h)⟩
theorem AA_up {ad : Nat → Nat} {N a b : Nat} (h : a ≤ b) : ∀ q, AA ad N b q → AA ad N a q := fun q hq => hq.elim Or.inl (fun h2 => Or.inr (Nat.le_trans h h2))
theorem PcE_blind {g : GG} {ad : Nat → Nat} {sz : Nat} {vs : List AV} {A : AH} : FrameBlind (PcE g ad sz vs A) := by
  intro a U g' mk h
  obtain ⟨h0, h1, h2, h3, h4⟩ := h
  exact ⟨h0, h1, h2, va_K.moved (u := U) (U := U.calling g' mk a) (Vm.Alike.refl U.vm) h3, h4.same (U := U.calling g' mk a) rfl rfl⟩
section ZC
variable {g : GG} {M : ME} {N : Nat} {Q : Option AV → AH → Prop} {pc : Nat} {lv : List (Option AV)} {st : List AV} {A : AH}
theorem Z_getfield {idx ci k q : Nat} {fs : List AV} {v : AV} (hd : decode M.2.1 pc = .ok (.getfield idx, 3)) (hf : FLk M.1.cls idx ci k) (ha : A[q]? = some (ob ci fs)) (hv : fs[k]? = some v) (kk : Z g M N Q (pc + 3) lv (v :: st) A) : Z g M N Q pc lv (vr q :: st) A := by
  intro ad p e s m args below meth c C H locs ls hP hS hN hl
  obtain ⟨C', T, NN, h1, h2, h3, h4⟩ := hf
  exact va_get (ref := (T k).1) (fs := fs.map (cv ad)) (v := cv ad v) C.1 C.2.1 C.2.2.2.2.2.1 h3 C.2.2.2.2.1 C.2.2.2.2.2.2.2.1 hP q (wm_at ha) h1 k h2 (C.2.2.2.2.2.1 _ h4) (fun _ h9 => h9) (by rw [List.getElem?_map, hv]; rfl) hd (kk ad p e s m args below meth c C H locs ls hP hS hN hl)
theorem Z_putV {idx ci k q : Nat} {fs : List AV} {v : AV} {ty : FieldType} (hd : decode M.2.1 pc = .ok (.putfield idx, 3)) (hf : FPk M.1.cls idx ci k ty) (ha : A[q]? = some (ob ci fs)) (hk : k < fs.length) (hn : ∀ ad, narrow ty (cv ad v) = cv ad v ∧ fits ty (cv ad v) = true) (kk : Z g M N Q (pc + 3) lv st (A.set q (ob ci (fs.set k v)))) : Z g M N Q pc lv (v :: vr q :: st) A := by
  intro ad p e s m args below meth c C H locs ls hP hS hN hl
  obtain ⟨C', T, NN, h1, h2, h3, h4, h5, h6, ⟨ty0, h7⟩, h8⟩ := hf
  refine va_put (ref := (T k).1) (fs := fs.map (cv ad)) (v := cv ad v) C.1 C.2.1 C.2.2.2.2.2.1 h3 ty0 h7 h8 C.2.2.2.2.1 C.2.2.2.2.2.2.2.1 hP (AA_D C.2.2.2.2.2.2.2.2.2.1 hN) hS q (wm_at ha) h1 k h2 (C.2.2.2.2.2.1 _ h4) (fun _ h9 => h9) h5 h6 (hn ad).1 (hn ad).2 (by rw [List.length_map]; exact hk) hd (fun H1 locs1 hP1 hD1 hS1 => ?_)
  refine kk ad p e s m args below meth c C H1 locs1 ls ?_ hS1 (by rw [List.length_set]; exact hN) hl
  rw [wm_set]
  show va_P _ _ ((wm ad g.2.2.1 A).set q (ad q, .inr (ci, (fs.set k v).map (cv ad)))) H1
  rw [List.map_set]
  exact hP1
theorem Z_put {idx ci k q : Nat} {fs : List AV} {x : Int32} (hd : decode M.2.1 pc = .ok (.putfield idx, 3)) (hf : FPk M.1.cls idx ci k .int) (ha : A[q]? = some (ob ci fs)) (hk : k < fs.length) (kk : Z g M N Q (pc + 3) lv st (A.set q (ob ci (fs.set k (vi x))))) : Z g M N Q pc lv (vi x :: vr q :: st) A :=
  Z_putV hd hf ha hk (fun _ => ⟨rfl, rfl⟩) kk
theorem Z_putz {idx ci k q : Nat} {fs : List AV} {x : Int32} (hd : decode M.2.1 pc = .ok (.putfield idx, 3)) (hf : FPk M.1.cls idx ci k .boolean) (ha : A[q]? = some (ob ci fs)) (hk : k < fs.length) (hx : x = 0 ∨ x = 1) (kk : Z g M N Q (pc + 3) lv st (A.set q (ob ci (fs.set k (vi x))))) : Z g M N Q pc lv (vi x :: vr q :: st) A :=
  Z_putV hd hf ha hk (fun _ => z01 hx) kk
theorem Z_ireturn {x : Int32} {ty : FieldType} (hd : decode M.2.1 pc = .ok (.ireturn, 1)) (hr : M.2.2.2.1 = some ty) (hn : narrow ty (.int x) = .int x) (h : Q (some (vi x)) A) : Z g M N Q pc lv [vi x] A := by
  intro ad p e s m args below meth c C H locs ls hP hS hN hl
  have hlocks : meth.locks = false := C.2.2.2.2.2.2.1
  exact W.zret (ty := ty) (v := x) C.1 C.2.1 (C.2.2.1.trans hr) hn (fun t ht hW => ⟨⟨some (vi x), A, rfl, h, hN, by rw [ht]; exact hP⟩, hS.F ht⟩) hS.2.2 hd
theorem Z_return (hd : decode M.2.1 pc = .ok (.return_, 1)) (hr : M.2.2.2.1 = none) (h : Q none A) : Z g M N Q pc lv [] A := by
  intro ad p e s m args below meth c C H locs ls hP hS hN hl
  have hlocks : meth.locks = false := C.2.2.2.2.2.2.1
  exact W.vret C.1 C.2.1 (C.2.2.1.trans hr) (fun t ht hW => ⟨⟨none, A, rfl, h, hN, by rw [ht]; exact hP⟩, hS.F ht⟩) hS.2.2 hd
/-- behind a call -/
theorem Z_after {me : ME} {vs rest : List AV} {st0 : List AV} (ad : Nat → Nat) {p : Program} {e : Env} {s : State} {m : MethodId} {args : Array Value} {below : List Frame} {meth : Method} {c : Code} (C : Cx g M N ad p s m args meth c) {H : Heap} {locs : List Loc} {ls : Array Slot} (hS : va_S (AA ad N s.heap.size) s.heap H locs) (hN : A.length = N) (hl : LV ad ls M.2.2.1 lv) {a : Array Value}
    (hr : va_Run p g.1 e (rmL M.2.2.2.2) s m args below meth c H locs 0 0 0 0 (F0 m pc ls (st0.map (cv ad))) (rest.map (cv ad)) (QcE g ad A.length (fun r A' => Z g M N Q (pc + 3) lv (r.toList ++ rest) A') a) (AA ad A.length H.size)) :
    W p g.1 e (rmL M.2.2.2.2) s m args below meth c H locs 0 0 (MQ below (QcE g ad N Q) args s 0 0 (AA ad N s.heap.size)) (F0 m pc ls (st0.map (cv ad))) := by
  intro T hT X
  obtain ⟨v, st₀, t, T', L, h0, X', hL, e1, e2, ⟨⟨r, A', hv, hz, hlen, hP1⟩, hF⟩, stp⟩ := hr T hT X
  have hv : v = r.map (cv ad) := Outcome.returned.inj hv
  subst hv
  rw [hN] at hL hlen hF
  obtain ⟨hF1, hF2⟩ := hF
  rw [h0] at hF1 hF2
  have hS' : va_S (AA ad N s.heap.size) s.heap T'.heap (locs ++ L) := by
    refine ⟨Nat.le_trans hS.1 (by rw [e1]; exact hF1), fun q h1 h2 => ?_, fun q hq => ?_⟩
    · rw [e1, hF2 q (Nat.lt_of_lt_of_le h1 hS.1) (fun z => h2 (AA_up hS.1 q z))]
      exact hS.2.1 q h1 h2
    · rcases List.mem_append.mp hq with h | h
      · exact hS.2.2 q h
      · exact AA_up hS.1 _ (hL q h)
  obtain ⟨t2, a1, b1⟩ := hz ad p e s m args below meth c C T'.heap (locs ++ L) ls (by rw [e1]; exact hP1) hS' hlen hl T' rfl X'
  refine ⟨t2, stp t2 ?_, b1⟩
  have e9 : (r.toList ++ rest).map (cv ad) = (r.map (cv ad)).toList ++ rest.map (cv ad) := by
    cases r <;> simp
  rw [e9] at a1
  exact a1
theorem Z_pre {me : ME} {vs : List AV} (ad : Nat → Nat) {p : Program} {s : State} {m : MethodId} {args : Array Value} {meth : Method} {c : Code} (C : Cx g M N ad p s m args meth c) {H : Heap} {locs : List Loc} (hP : va_P g.2.1 vwCl (wm ad g.2.2.1 A) H) (hS : va_S (AA ad N s.heap.size) s.heap H locs) (hN : A.length = N) :
    ∀ U : State, U.heap = H → s.WarmedH U.vm → PcE g ad H.size vs A (vs.map (cv ad)).toArray U := by
  intro U hU hW
  refine ⟨rfl, by rw [hU], by rw [hU]; exact hP, va_K.moved hW.alike C.2.2.2.2.2.2.2.1, ?_⟩
  rw [hN]
  exact C.2.2.2.2.2.2.2.2.1.go hW (AA_up hS.1) (fun q h1 h2 => by rw [hU]; exact hS.2.1 q h1 h2)
theorem rm_ok {dc dm maxL : Nat} (h : dc < dm) (hl : maxL ≤ 16) : (rmL dc).frames + 1 ≤ (rmL dm).frames ∧ 8 + (maxL + 11) + (rmL dc).locals ≤ (rmL dm).locals := by
  constructor
  · exact h
  · show 8 + (maxL + 11) + 35 * dc ≤ 35 * dm
    omega
def cats (l : List AV) : Nat := match l with
  | [] => 0
  | v :: r => (if isL (some v) then 2 else 1) + cats r
theorem cats_ok {ad : Nat → Nat} : ∀ l : List AV, ((l.map (cv ad)).map fun v => v.category).sum = cats l := by
  intro l
  induction l with
  | nil => rfl
  | cons v r ih =>
    rcases v with x | x | k <;> simp [cats, cv, Value.category, isL] at ih ⊢ <;> exact ih
theorem Z_callV {me : ME} {idx n ci q : Nat} {fs vs rest : List AV} (hd : decode M.2.1 pc = .ok (.invokevirtual idx, 3)) (hlink : Cond.methodLink M.1.cls idx me.1 ∈ wsG) (ho : okV me n) (hlev : me.2.2.2.2 < M.2.2.2.2) (ha : A[q]? = some (ob ci fs)) (hcl : (vwCl[ci]?).map (fun r => r.1) = some me.1.cls) (hn : vs.length = n) (hcat : cats rest ≤ 8)
    (h : Ev g me (vr q :: vs) A (fun r A' => Z g M N Q (pc + 3) lv (r.toList ++ rest) A')) : Z g M N Q pc lv (vs.reverse ++ vr q :: rest) A := by
  intro ad p e s m args below meth c C H locs ls hP hS hN hl
  obtain ⟨⟨o1, o2, o3, o4, o5⟩, o6, o7, o8⟩ := ho
  have hM := h ad H.size (hN ▸ C.2.2.2.2.2.2.2.2.2.1) C.2.2.2.2.2.2.2.2.2.2
  obtain ⟨rC, hrC, hrC2⟩ : ∃ r, vwCl[ci]? = some r ∧ r.1 = me.1.cls := by
    cases hr : vwCl[ci]? with
    | none => rw [hr] at hcl; cases hcl
    | some r => rw [hr] at hcl; exact ⟨r, rfl, Option.some.inj hcl⟩
  have hrecv := va_recv (a := ad q) (q0 := q) (ci := ci) C.2.2.2.2.2.2.2.1 hP hrC (wm_at ha)
  rw [hrC2] at hrecv
  have hGV : GoodIn wsG (wsV M.1.cls idx me.1.cls me.1 (wsM me)) := by
    intro w hw
    unfold wsV at hw
    rcases List.mem_append.mp hw with hw | hw
    · simp only [List.mem_cons, List.not_mem_nil, or_false] at hw
      rcases hw with rfl | rfl | rfl | rfl
      · exact good_one hlink
      · exact good_one o6
      · exact good_one o7
      · exact good_one o2
    · exact good_M o1 w hw
  have hr := va_runV (p := p) (e := e) (below := below) (meth := meth) (locs := locs) (cells := 0) (slots := 0) (H := H) (R := rmL M.2.2.2.2) (g := F0 m pc ls ((vs.reverse ++ vr q :: rest).map (cv ad))) (As := vs.map (cv ad)) (rest := rest.map (cv ad)) (b := ad q) (nL := M.2.2.1)
    (S := (⟨C.1, C.2.1, C.2.2.2.1, C.2.2.2.2.1, C.2.2.2.2.2.1⟩ : CallFix p m c M.2.1 M.2.2.1 s args wsG M.1.cls)) hM (cwV n C.2.2.2.2.2.1 hGV rfl rfl rfl ⟨rfl, o3.1, o3.2, o8⟩ (rm_ok hlev o4)) ⟨PcE_blind, hrecv, Z_pre (me := me) ad C hP hS hN⟩ rfl (by rw [List.length_map]; exact hn) hl.1 (by simp [List.map_append, List.map_reverse, cv]) (lv_room (by rw [cats_ok]; exact hcat)) hd ⟨Nat.le_refl _, Nat.le_refl _⟩
  exact Z_after (me := me) (vs := vs) ad C hS hN hl hr
theorem Z_callS {me : ME} {idx n : Nat} {vs rest : List AV} (hd : decode M.2.1 pc = .ok (.invokestatic idx, 3)) (hlink : Cond.methodLink M.1.cls idx me.1 ∈ wsG) (ho : okT me n) (hcls : me.1.cls = M.1.cls) (hlev : me.2.2.2.2 < M.2.2.2.2) (hn : vs.length = n) (hcat : cats rest ≤ 8)
    (h : Ev g me vs A (fun r A' => Z g M N Q (pc + 3) lv (r.toList ++ rest) A')) : Z g M N Q pc lv (vs.reverse ++ rest) A := by
  intro ad p e s m args below meth c C H locs ls hP hS hN hl
  obtain ⟨⟨o1, o2, o3, o4, o5⟩, o6, o8⟩ := ho
  have hM := h ad H.size (hN ▸ C.2.2.2.2.2.2.2.2.2.1) C.2.2.2.2.2.2.2.2.2.2
  have hGS : GoodIn wsG (wsS M.1.cls idx me.1 (wsM me)) := by
    intro w hw
    unfold wsS at hw
    rcases List.mem_append.mp hw with hw | hw
    · simp only [List.mem_cons, List.not_mem_nil, or_false] at hw
      rcases hw with rfl | rfl | rfl
      · exact good_one hlink
      · exact good_one o6
      · rw [← hcls]; exact good_one o2
    · exact good_M o1 w hw
  have hr := va_runS (p := p) (e := e) (below := below) (meth := meth) (locs := locs) (cells := 0) (slots := 0) (H := H) (R := rmL M.2.2.2.2) (g := F0 m pc ls ((vs.reverse ++ rest).map (cv ad))) (As := vs.map (cv ad)) (rest := rest.map (cv ad)) (nL := M.2.2.1)
    (S := (⟨C.1, C.2.1, C.2.2.2.1, C.2.2.2.2.1, C.2.2.2.2.2.1⟩ : CallFix p m c M.2.1 M.2.2.1 s args wsG M.1.cls)) hM (cwS n C.2.2.2.2.2.1 hGS rfl rfl rfl ⟨hcls, o3.1, o3.2, o8⟩ (rm_ok hlev o4)) ⟨PcE_blind, Z_pre (me := me) ad C hP hS hN⟩ rfl (by rw [List.length_map]; exact hn) hl.1 (by simp [List.map_append, List.map_reverse]) (lv_room (by rw [cats_ok]; exact hcat)) hd ⟨Nat.le_refl _, Nat.le_refl _⟩
  exact Z_after (me := me) (vs := vs) ad C hS hN hl hr
/-- a private static method of a nest mate: isColour out of Reader and Slip -/
theorem Z_callN {me : ME} {idx n : Nat} {vs rest : List AV} (hd : decode M.2.1 pc = .ok (.invokestatic idx, 3)) (hw : (M.1.cls = RX3 ∧ idx = 106 ∨ M.1.cls = RX5 ∧ idx = 54) ∧ me.1 = yX9_isColour) (ho : okT me n) (hlev : me.2.2.2.2 < M.2.2.2.2) (hn : vs.length = n) (hcat : cats rest ≤ 8)
    (h : Ev g me vs A (fun r A' => Z g M N Q (pc + 3) lv (r.toList ++ rest) A')) : Z g M N Q pc lv (vs.reverse ++ rest) A := by
  intro ad p e s m args below meth c C H locs ls hP hS hN hl
  obtain ⟨⟨o1, o2, o3, o4, o5⟩, o6, o8⟩ := ho
  have hM := h ad H.size (hN ▸ C.2.2.2.2.2.2.2.2.2.1) C.2.2.2.2.2.2.2.2.2.2
  have hlk : va_Nw (.methodLinkNest M.1.cls idx me.1 RX9) s := by
    have hsx := C.2.2.2.2.2.2.2.2.1.1
    obtain ⟨hw1, hw2⟩ := hw
    rw [hw2]
    rcases hw1 with ⟨w1, w2⟩ | ⟨w1, w2⟩
    · rw [w1, w2]; exact hsx.1
    · rw [w1, w2]; exact hsx.2
  have hr := va_runSN (p := p) (e := e) (below := below) (meth := meth) (locs := locs) (cells := 0) (slots := 0) (H := H) (R := rmL M.2.2.2.2) (g := F0 m pc ls ((vs.reverse ++ rest).map (cv ad))) (As := vs.map (cv ad)) (rest := rest.map (cv ad)) (nL := M.2.2.1)
    (S := (⟨C.1, C.2.1, C.2.2.2.1, C.2.2.2.2.1, C.2.2.2.2.2.1⟩ : CallFix p m c M.2.1 M.2.2.1 s args wsG M.1.cls)) hM ⟨va_cnB (host := RX9) n C.2.2.2.2.2.1 (good_M o1) rfl rfl rfl hlk (C.2.2.2.2.2.1 _ o2) ⟨o3.1, o3.2, o8⟩ (rm_ok hlev o4), C.2.2.2.2.2.1 _ o6, trivial⟩ ⟨PcE_blind, Z_pre (me := me) ad C hP hS hN⟩ rfl (by rw [List.length_map]; exact hn) hl.1 (by simp [List.map_append, List.map_reverse]) (lv_room (by rw [cats_ok]; exact hcat)) hd ⟨Nat.le_refl _, Nat.le_refl _⟩
  exact Z_after (me := me) (vs := vs) ad C hS hN hl hr
/-- System.arraycopy of ints -/
theorem Z_acopy {idx q0 q1 n0 n1 : Nat} {f f1 : Nat → Int32} {sp dp n : Int32} (hd : decode M.2.1 pc = .ok (.invokestatic idx, 3)) (hlink : Cond.methodLink M.1.cls idx arraycopyName ∈ wsG) (hnat : Cond.native arraycopyName ∈ wsG) (hst : Cond.static arraycopyName ∈ wsG) (hini : Cond.initialized "java/lang/System" ∈ wsG)
    (hlev : 0 < M.2.2.2.2) (ha0 : A[q0]? = some (ar 0 n0 f)) (ha1 : A[q1]? = some (ar 0 n1 f1)) (h1 : ¬ sp < 0) (h2 : ¬ dp < 0) (h3 : ¬ n < 0) (h4 : sp.toNatClampNeg + n.toNatClampNeg ≤ n0) (h5 : dp.toNatClampNeg + n.toNatClampNeg ≤ n1) (hcat : cats st ≤ 8)
    (k : Z g M N Q (pc + 3) lv st (A.set q1 (ar 0 n1 (va_cpy f f1 sp.toNatClampNeg dp.toNatClampNeg n.toNatClampNeg)))) : Z g M N Q pc lv (vi n :: vi dp :: vr q1 :: vi sp :: vr q0 :: st) A := by
  intro ad p e s m args below meth c C H locs ls hP hS hN hl
  have hw := C.2.2.2.2.2.1
  refine va_copyi (ty := .int) C.1 C.2.1 (C.2.2.2.1.trans hl.1.symm) C.2.2.2.2.1 (hw _ hlink) (hw _ hnat) (hw _ hst) (hw _ hini) C.2.2.2.2.2.2.2.1 hP (AA_D C.2.2.2.2.2.2.2.2.2.1 hN) hS q0 q1 0 0 (wm_at ha0) (wm_at ha1) rfl rfl rfl h1 h2 h3 h4 h5 (fun i hi => rfl) hlev ?_ hd (fun H1 locs1 hP1 hD1 hS1 => ?_)
  · rw [cats_ok]
    have e9 : nativeFrameWords "java/lang/System" "arraycopy" 5 = 7 := by decide +kernel
    rw [e9]
    show cats st + (7 + 11) ≤ 35 * M.2.2.2.2
    omega
  · exact k ad p e s m args below meth c C H1 locs1 ls (by rw [wm_set]; exact hP1) hS1 (by rw [List.length_set]; exact hN) hl
end ZC
/-- a method's start -/
theorem Ev_of {g : GG} {me : ME} {vs : List AV} {A : AH} {Q : Option AV → AH → Prop} (ho : okM me) (hlen : (lv0 vs).length ≤ me.2.2.1) (h : Z g me A.length Q 0 (lv0 vs ++ List.replicate (me.2.2.1 - (lv0 vs).length) none) [] A) : Ev g me vs A Q := by
  intro ad sz hi hs
  refine Met.ofW (cc := me.2.1) (maxL := me.2.2.1) (ret := me.2.2.2.1) ho.2.2.2.2 rfl ?_
  intro p e s m args below meth c s₁ B hml hv
  obtain ⟨rfl, hsz, hP, hK, hX⟩ := hv
  subst hsz
  have hts := atoms_spec (ws := wsM me) B.pre
  have hl := lv_entry (vs.map (cv ad)) (n := me.2.2.1) (by rw [lv0_len]; exact hlen)
  rw [lg_entry_eq]
  generalize (lg_sl (vs.map (cv ad)) ++ List.replicate (me.2.2.1 - (lg_sl (vs.map (cv ad))).length) Slot.unset).toArray = ls at hl ⊢
  refine h ad p e s m _ below meth c ⟨B.exec, B.bytes, B.returns, hml, findClass_of_methodNamed B.named, fun w hw => hts w (List.mem_cons_of_mem _ hw), B.notSynchronized, hK, hX, hi, hs⟩ s.heap [] ls hP va_S.rf rfl ⟨hl.1, hl.2.1, fun k v hk => ?_⟩
  have hk2 : (lv0 vs)[k]? = some (some v) := by
    rcases Nat.lt_or_ge k (lv0 vs).length with h1 | h1
    · rwa [List.getElem?_append_left h1] at hk
    · rw [List.getElem?_append_right h1] at hk
      have := List.mem_of_getElem? hk
      rw [List.mem_replicate] at this
      cases this.2
  have := lv0_mem (ad := ad) vs 0 k v hk2
  rw [Nat.zero_add] at this
  exact hl.2.2 _ this
theorem Ev.mono {g : GG} {me : ME} {vs : List AV} {A : AH} {Q Q' : Option AV → AH → Prop} (h : Ev g me vs A Q) (hq : ∀ r A', A'.length = A.length → Q r A' → Q' r A') : Ev g me vs A Q' := by
  intro ad sz hi hs p e ha hc hk s m args below hf happ hP hK
  obtain ⟨n, o, h1, h2, h3, ⟨⟨r, A', b1, b2, b3, b4⟩, hF⟩, h5⟩ := h ad sz hi hs p e ha hc hk s m args below hf happ hP hK
  exact ⟨n, o, h1, h2, h3, ⟨⟨r, A', b1, hq r A' b3 b2, b3, b4⟩, hF⟩, h5⟩
end
section
/-! the frame: a contract over a small world holds in every world that has it as a part -/
def ren (is : List Nat) (k : Nat) : Nat := is.getD k k
def renV (is : List Nat) : AV → AV
  | .inl x => .inl x
  | .inr (.inl x) => .inr (.inl x)
  | .inr (.inr k) => .inr (.inr (ren is k))
def renC (is : List Nat) : AC → AC
  | .inl a => .inl a
  | .inr (.inl (t, n, f)) => .inr (.inl (t, n, fun i => ren is (f i)))
  | .inr (.inr (ci, fs)) => .inr (.inr (ci, fs.map (renV is)))
def put (r : List Nat) : List Nat → AH → AH → AH
  | i :: is, c :: A, B => put r is A (B.set i (renC r c))
  | _, _, B => B
theorem cv_ren {ad : Nat → Nat} {is : List Nat} (v : AV) : cv ad (renV is v) = cv (fun k => ad (ren is k)) v := by
  rcases v with x | x | k <;> rfl
theorem ce_ren {ad : Nat → Nat} {tc : Nat → ClassId} {is : List Nat} (c : AC) : ce ad tc (renC is c) = ce (fun k => ad (ren is k)) tc c := by
  rcases c with ⟨t, n, f⟩ | ⟨t, n, f⟩ | ⟨ci, fs⟩
  · rfl
  · rfl
  · show (Sum.inr (ci, (fs.map (renV is)).map (cv ad)) : va_E) = Sum.inr (ci, fs.map (cv (fun k => ad (ren is k))))
    rw [List.map_map]
    congr 2
    apply List.map_congr_left
    intro v _
    exact cv_ren v
theorem put_len {r : List Nat} : ∀ (is : List Nat) (A B : AH), (put r is A B).length = B.length := by
  intro is
  induction is with
  | nil => intro A B; rfl
  | cons i is ih =>
    intro A B
    cases A with
    | nil => rfl
    | cons c A => simp only [put]; rw [ih, List.length_set]
theorem put_out {r : List Nat} {k : Nat} : ∀ (is : List Nat) (A B : AH), k ∉ is → (put r is A B)[k]? = B[k]? := by
  intro is
  induction is with
  | nil => intro A B _; rfl
  | cons i is ih =>
    intro A B h
    cases A with
    | nil => rfl
    | cons c A =>
      simp only [put]
      rw [ih A _ (fun q => h (List.mem_cons_of_mem _ q)), List.getElem?_set_ne (fun (e : i = k) => h (by rw [e]; exact List.mem_cons_self))]
theorem put_in {r : List Nat} : ∀ (is : List Nat) (A B : AH), is.Nodup → ∀ (j k : Nat) (c : AC), is[j]? = some k → A[j]? = some c → k < B.length → (put r is A B)[k]? = some (renC r c) := by
  intro is
  induction is with
  | nil => intro A B _ j k c h; simp at h
  | cons i is ih =>
    intro A B hn j k c h1 h2 h3
    obtain ⟨hn1, hn2⟩ := List.nodup_cons.mp hn
    cases A with
    | nil => simp at h2
    | cons c0 A =>
      simp only [put]
      cases j with
      | zero =>
        simp at h1 h2
        subst h1; subst h2
        rw [put_out is A _ hn1, List.getElem?_set_self h3]
      | succ j =>
        simp at h1 h2
        exact ih A _ hn2 j k c h1 h2 (by rw [List.length_set]; exact h3)
theorem nd_of {l : List Nat} (h : va_nd l = true) : l.Nodup := by
  induction l with
  | nil => exact List.nodup_nil
  | cons a l ih =>
    simp only [va_nd, Bool.and_eq_true] at h
    refine List.nodup_cons.mpr ⟨?_, ih h.2⟩
    have h1 := h.1
    intro hm
    simp [hm] at h1
theorem Sx.nar {g : GG} {A B : Nat → Prop} {s : State} (h : Sx g A s) (hAB : ∀ q, B q → A q) : Sx g B s :=
  ⟨h.1, h.2.1, h.2.2.1.narrow hAB, h.2.2.2.1.narrow hAB, h.2.2.2.2.narrow hAB⟩
theorem Ev.fr {g : GG} {me : ME} {vs : List AV} {A B : AH} {Q Q' : Option AV → AH → Prop} (is : List Nat) (h : Ev g me vs A Q) (hnd : va_nd is = true) (hbd : is.length ≤ 1000) (hB : is.map (fun i => B[i]?) = A.map (fun c => some (renC is c)))
    (hq : ∀ r A', A'.length = A.length → Q r A' → Q' (r.map (renV is)) (put is is A' B)) : Ev g me (vs.map (renV is)) B Q' := by
  have hlen : is.length = A.length := by have := congrArg List.length hB; simpa using this
  have hN := nd_of hnd
  have atB : ∀ (j : Nat) (c : AC), A[j]? = some c → ∃ k : Nat, is[j]? = some k ∧ B[k]? = some (renC is c) := by
    intro j c hc
    have h1 : (is.map (fun i => B[i]?))[j]? = some (some (renC is c)) := by rw [hB, List.getElem?_map, hc]; rfl
    rw [List.getElem?_map] at h1
    cases hi : is[j]? with
    | none => rw [hi] at h1; cases h1
    | some k => rw [hi] at h1; exact ⟨k, rfl, Option.some.inj h1⟩
  have renAt : ∀ (j k : Nat), is[j]? = some k → ren is j = k := by
    intro j k hj
    unfold ren
    rw [List.getD_eq_getElem?_getD, hj]
    rfl
  have isA : ∀ (j : Nat), j < A.length → ∃ c, A[j]? = some c := fun j hj => ⟨A[j], List.getElem?_eq_getElem hj⟩
  intro ad sz hi hs
  have hAA : ∀ q, AA (fun k => ad (ren is k)) A.length sz q → AA ad B.length sz q := by
    rintro q (⟨j, h1, h2⟩ | h1)
    · obtain ⟨c, hc⟩ := isA j h1
      obtain ⟨k, k1, k2⟩ := atB j c hc
      refine Or.inl ⟨k, (List.getElem?_eq_some_iff.mp k2).1, ?_⟩
      rw [h2]
      show ad (ren is j) = ad k
      rw [renAt j k k1]
    · exact Or.inr h1
  have hi' : inj (fun k => ad (ren is k)) A.length := by
    intro i j h1 h2 h3
    obtain ⟨c1, hc1⟩ := isA i h1
    obtain ⟨c2, hc2⟩ := isA j h2
    obtain ⟨k1, a1, b1⟩ := atB i c1 hc1
    obtain ⟨k2, a2, b2⟩ := atB j c2 hc2
    have h3 : ad (ren is i) = ad (ren is j) := h3
    rw [renAt i k1 a1, renAt j k2 a2] at h3
    have e := hi k1 k2 (List.getElem?_eq_some_iff.mp b1).1 (List.getElem?_eq_some_iff.mp b2).1 h3
    subst e
    exact va_nd_inj is hnd i j k1 a1 a2
  have hs' : okS g (fun k => ad (ren is k)) := by
    intro i hi2
    have : ren is (1000 + i) = 1000 + i := by
      unfold ren
      rw [List.getD_eq_getElem?_getD, List.getElem?_eq_none (by omega)]
      rfl
    show ad (ren is (1000 + i)) = _
    rw [this]
    exact hs i hi2
  intro p e ha hc hk s m args below hf happ hP hK
  obtain ⟨p0, p1, p2, p3, p4⟩ := hP
  have hP' : PcE g (fun k => ad (ren is k)) sz vs A args s := by
    refine ⟨?_, p1, ?_, p3, ?_⟩
    · rw [p0, List.map_map]
      congr 1
      apply List.map_congr_left
      intro v _
      exact cv_ren v
    · intro j q hq2
      obtain ⟨c, c1, rfl⟩ := wm_of hq2
      obtain ⟨k, k1, k2⟩ := atB j c c1
      have := p2 k _ (wm_at k2)
      rw [ce_ren] at this
      show va_at _ _ (ad (ren is j), _) _
      rw [renAt j k k1]
      exact this
    · exact p4.nar hAA
  obtain ⟨n, o, h1, h2, h3, ⟨⟨r, A', b1, b2, b3, b4⟩, hF⟩, L, h5, h6⟩ := h _ sz hi' hs' p e ha hc hk s m args below hf happ hP' hK
  refine ⟨n, o, h1, h2, h3, ⟨⟨r.map (renV is), put is is A' B, ?_, hq r A' b3 b2, put_len _ _ _, ?_⟩, ?_⟩, L, h5, fun q hq2 => hAA _ (h6 q hq2)⟩
  · rw [b1]
    cases r with
    | none => rfl
    | some v => show Outcome.returned (some _) = Outcome.returned (some _); rw [cv_ren]
  · intro k q hq2
    obtain ⟨c, c1, rfl⟩ := wm_of hq2
    have hkB : k < B.length := by have := (List.getElem?_eq_some_iff.mp c1).1; rwa [put_len] at this
    by_cases hin : k ∈ is
    · obtain ⟨j, hj⟩ := List.getElem?_of_mem hin
      have hjA : j < A'.length := by rw [b3, ← hlen]; exact (List.getElem?_eq_some_iff.mp hj).1
      have hc' : A'[j]? = some A'[j] := List.getElem?_eq_getElem hjA
      have e1 := put_in (r := is) is A' B hN j k _ hj hc' hkB
      have e2 : c = renC is A'[j] := Option.some.inj (c1.symm.trans e1)
      have e3 := b4 j _ (wm_at hc')
      rw [e2]
      show va_at _ _ (ad k, ce ad _ (renC is A'[j])) _
      rw [ce_ren, ← renAt j k hj]
      exact e3
    · rw [put_out is A' B hin] at c1
      have hat := p2 k _ (wm_at c1)
      refine hat.kept ?_
      have hlt : ad k < s.heap.size := hat.lt
      refine hF.2 _ hlt ?_
      rintro (⟨j, j1, j2⟩ | j1)
      · obtain ⟨c2, hc2⟩ := isA j j1
        obtain ⟨k2, k3, k4⟩ := atB j c2 hc2
        have j2 : ad k = ad (ren is j) := j2
        rw [renAt j k2 k3] at j2
        have := hi k k2 hkB (List.getElem?_eq_some_iff.mp k4).1 j2
        subst this
        exact hin (List.mem_of_getElem? k3)
      · exact absurd hlt (by have : s.heap.size ≤ ad k := j1; omega)
  · rw [p1] at hF ⊢
    exact ⟨hF.1, fun q h1 h2 => hF.2 q h1 (fun z => h2 (by rw [p1] at *; exact hAA q z))⟩
end
section
/-! what an instruction asks: a program's text as a proposition -/
/-- pc, length, instruction, target (or the default's), constant, a switch's targets -/
abbrev En : Type := Nat × Nat × Instr × Nat × Int32 × List Nat
/-- (index, class, slot, kind: 0 int, 1 boolean, 2 not to be put) -/
abbrev FT : Type := List (Nat × Nat × Nat × Nat)
/-- (index, kind: 0 virtual, 1 static, 2 static of a nest mate, 3 arraycopy; number of arguments; the method) -/
abbrev IT : Type := List (Nat × Nat × Nat × ME)
/-- a class' tables: fields, methods, ints, longs, Strings -/
abbrev CT : Type := FT × IT × List (Nat × Int32) × List (Nat × Int64) × List (Nat × Nat)
def lk {α : Type} : List (Nat × α) → Nat → Option α
  | [], _ => none
  | q :: r, i => bif Nat.beq q.1 i then some q.2 else lk r i
theorem lk_mem {α : Type} : ∀ (l : List (Nat × α)) (i : Nat) (x : α), lk l i = some x → (i, x) ∈ l := by
  intro l
  induction l with
  | nil => intro i x h; cases h
  | cons q r ih =>
    intro i x h
    simp only [lk] at h
    cases hb : Nat.beq q.1 i with
    | true =>
      rw [hb] at h
      have e1 := Nat.eq_of_beq_eq_true hb
      have e2 : q.2 = x := Option.some.inj h
      rw [← e1, ← e2]
      exact List.mem_cons_self
    | false =>
      rw [hb] at h
      exact List.mem_cons_of_mem _ (ih i x h)
abbrev KK : Type := Nat → List (Option AV) → List AV → AH → Prop
/-- a switch over targets from i on -/
def swc (k : Nat → Prop) (x : Int32) : Nat → List Nat → Nat → Prop
  | _, [], d => k d
  | i, t :: r, d => (x = nI i → k t) ∧ (¬ x = nI i → swc k x (i + 1) r d)
def top1 (v : Option AV) : Bool := !(isL v)
def stp (g : GG) (M : ME) (Q : Option AV → AH → Prop) (E : List En) (T : CT) (K : KK) (pc : Nat) (lv : List (Option AV)) (st : List AV) (A : AH) : Prop :=
  match lk E pc with
  | none => False
  | some (len, ins, tg, x, tl) =>
    match ins with
    | .iconst _ => K (pc + 1) lv (vi x :: st) A
    | .bipush _ => K (pc + 2) lv (vi x :: st) A
    | .sipush _ => K (pc + 3) lv (vi x :: st) A
    | .lconst n => K (pc + 1) lv (vl (lN n)  :: st) A
    | .ldc i => match lk T.2.2.1 i with
      | some y => K (pc + 2) lv (vi y :: st) A
      | none => match lk T.2.2.2.2 i with
        | some q => K (pc + 2) lv (vr (1000 + q) :: st) A
        | none => False
    | .ldc2_w i => match lk T.2.2.2.1 i with
      | some y => K (pc + 3) lv (vl y :: st) A
      | none => False
    | .iload_n n => match lv[(n : Nat)]? with
      | some (some (.inl y)) => K (pc + 1) lv (vi y :: st) A
      | _ => False
    | .iload n => match lv[n]? with
      | some (some (.inl y)) => K (pc + 2) lv (vi y :: st) A
      | _ => False
    | .lload_n n => match lv[(n : Nat)]? with
      | some (some (.inr (.inl y))) => K (pc + 1) lv (vl y :: st) A
      | _ => False
    | .lload n => match lv[n]? with
      | some (some (.inr (.inl y))) => K (pc + 2) lv (vl y :: st) A
      | _ => False
    | .aload_n n => match lv[(n : Nat)]? with
      | some (some (.inr (.inr y))) => K (pc + 1) lv (vr y :: st) A
      | _ => False
    | .aload n => match lv[n]? with
      | some (some (.inr (.inr y))) => K (pc + 2) lv (vr y :: st) A
      | _ => False
    | .istore_n n => match st with
      | .inl y :: r => bif Nat.blt n M.2.2.1 && okSt lv n then K (pc + 1) (lv.set n (some (vi y))) r A else False
      | _ => False
    | .istore n => match st with
      | .inl y :: r => bif Nat.blt n M.2.2.1 && okSt lv n then K (pc + 2) (lv.set n (some (vi y))) r A else False
      | _ => False
    | .astore_n n => match st with
      | .inr (.inr y) :: r => bif Nat.blt n M.2.2.1 && okSt lv n then K (pc + 1) (lv.set n (some (vr y))) r A else False
      | _ => False
    | .astore n => match st with
      | .inr (.inr y) :: r => bif Nat.blt n M.2.2.1 && okSt lv n then K (pc + 2) (lv.set n (some (vr y))) r A else False
      | _ => False
    | .lstore n => match st with
      | .inr (.inl y) :: r => bif Nat.blt (n + 1) M.2.2.1 && okSt lv n then K (pc + 2) ((lv.set n (some (vl y))).set (n + 1) none) r A else False
      | _ => False
    | .iinc n _ => match lv[n]? with
      | some (some (.inl y)) => bif Nat.blt n M.2.2.1 && okSt lv n then K (pc + 3) (lv.set n (some (vi (y + x)))) st A else False
      | _ => False
    | .iadd => match st with
      | .inl z :: .inl y :: r => K (pc + 1) lv (vi (y + z) :: r) A
      | _ => False
    | .isub => match st with
      | .inl z :: .inl y :: r => K (pc + 1) lv (vi (y - z) :: r) A
      | _ => False
    | .imul => match st with
      | .inl z :: .inl y :: r => K (pc + 1) lv (vi (y * z) :: r) A
      | _ => False
    | .iand => match st with
      | .inl z :: .inl y :: r => K (pc + 1) lv (vi (y &&& z) :: r) A
      | _ => False
    | .ishr => match st with
      | .inl z :: .inl y :: r => K (pc + 1) lv (vi (y >>> (z &&& 31)) :: r) A
      | _ => False
    | .iushr => match st with
      | .inl z :: .inl y :: r => K (pc + 1) lv (vi (y.toUInt32 >>> (z.toUInt32 &&& Int32.toUInt32 31)).toInt32 :: r) A
      | _ => False
    | .idiv => match st with
      | .inl z :: .inl y :: r => ¬ z = 0 ∧ K (pc + 1) lv (vi (y / z) :: r) A
      | _ => False
    | .irem => match st with
      | .inl z :: .inl y :: r => ¬ z = 0 ∧ K (pc + 1) lv (vi (y - y / z * z) :: r) A
      | _ => False
    | .ladd => match st with
      | .inr (.inl z) :: .inr (.inl y) :: r => K (pc + 1) lv (vl (y + z) :: r) A
      | _ => False
    | .lcmp => match st with
      | .inr (.inl z) :: .inr (.inl y) :: r => K (pc + 1) lv (vi (lg_cmp y z) :: r) A
      | _ => False
    | .i2l => match st with
      | .inl y :: r => K (pc + 1) lv (vl y.toInt64 :: r) A
      | _ => False
    | .l2i => match st with
      | .inr (.inl y) :: r => K (pc + 1) lv (vi y.toInt32 :: r) A
      | _ => False
    | .i2b => match st with
      | .inl y :: r => K (pc + 1) lv (vi y.toInt8.toInt32 :: r) A
      | _ => False
    | .i2s => match st with
      | .inl y :: r => K (pc + 1) lv (vi y.toInt16.toInt32 :: r) A
      | _ => False
    | .dup => match st with
      | v :: r => bif isL (some v) then False else K (pc + 1) lv (v :: v :: r) A
      | _ => False
    | .pop => match st with
      | v :: r => bif isL (some v) then False else K (pc + 1) lv r A
      | _ => False
    | .dup2 => match st with
      | v :: w :: r => bif isL (some v) || isL (some w) then False else K (pc + 1) lv (v :: w :: v :: w :: r) A
      | _ => False
    | .goto _ => K tg lv st A
    | .ifCond o _ => match st with
      | .inl y :: r => (cnd o y 0 → K tg lv r A) ∧ (¬ cnd o y 0 → K (pc + 3) lv r A)
      | _ => False
    | .if_icmp o _ => match st with
      | .inl z :: .inl y :: r => (cnd o y z → K tg lv r A) ∧ (¬ cnd o y z → K (pc + 3) lv r A)
      | _ => False
    | .tableswitch _ lo hi _ => match st with
      | .inl y :: r => swc (fun t => K t lv r A) y lo.toNat tl tg
      | _ => False
    | .iaload => match st with
      | .inl i :: .inr (.inr q) :: r => match A[q]? with
        | some (.inl (0, n, f)) => vp_in i n ∧ K (pc + 1) lv (vi (f i.toNatClampNeg) :: r) A
        | _ => False
      | _ => False
    | .baload => match st with
      | .inl i :: .inr (.inr q) :: r => match A[q]? with
        | some (.inl (1, n, f)) => vp_in i n ∧ K (pc + 1) lv (vi (f i.toNatClampNeg) :: r) A
        | _ => False
      | _ => False
    | .aaload => match st with
      | .inl i :: .inr (.inr q) :: r => match A[q]? with
        | some (.inr (.inl (t, n, f))) => (t = 2 ∨ t = 3) ∧ vp_in i n ∧ K (pc + 1) lv (vr (f i.toNatClampNeg) :: r) A
        | _ => False
      | _ => False
    | .iastore => match st with
      | .inl y :: .inl i :: .inr (.inr q) :: r => match A[q]? with
        | some (.inl (0, n, f)) => vp_in i n ∧ K (pc + 1) lv r (A.set q (ar 0 n (upd f i.toNatClampNeg y)))
        | _ => False
      | _ => False
    | .bastore => match st with
      | .inl y :: .inl i :: .inr (.inr q) :: r => match A[q]? with
        | some (.inl (1, n, f)) => vp_in i n ∧ (y = 0 ∨ y = 1) ∧ K (pc + 1) lv r (A.set q (ar 1 n (upd f i.toNatClampNeg y)))
        | _ => False
      | _ => False
    | .getfield i => match lk T.1 i with
      | some (ci, k, _) => match st with
        | .inr (.inr q) :: r => match A[q]? with
          | some (.inr (.inr (cj, fs))) => bif Nat.beq cj ci then (match fs[k]? with
            | some v => K (pc + 3) lv (v :: r) A
            | none => False) else False
          | _ => False
        | _ => False
      | none => False
    | .putfield i => match lk T.1 i with
      | some (ci, k, ty) => match st with
        | .inl y :: .inr (.inr q) :: r => match A[q]? with
          | some (.inr (.inr (cj, fs))) => bif Nat.beq cj ci && Nat.blt k fs.length then (match ty with
            | 0 => K (pc + 3) lv r (A.set q (ob ci (fs.set k (vi y))))
            | 1 => (y = 0 ∨ y = 1) ∧ K (pc + 3) lv r (A.set q (ob ci (fs.set k (vi y))))
            | _ => False) else False
          | _ => False
        | _ => False
      | none => False
    | .ireturn => match st with
      | [.inl y] => (match M.2.2.2.1 with
        | some .int => Q (some (vi y)) A
        | some .boolean => (y = 0 ∨ y = 1) ∧ Q (some (vi y)) A
        | _ => False)
      | _ => False
    | .return_ => match st with
      | [] => (match M.2.2.2.1 with
        | none => Q none A
        | _ => False)
      | _ => False
    | .invokevirtual i => match lk T.2.1 i with
      | some (0, n, me) => match st.drop n with
        | .inr (.inr q) :: r => match A[q]? with
          | some (.inr (.inr (ci, fs))) => bif Nat.blt me.2.2.2.2 M.2.2.2.2 && Nat.ble (cats r) 8 then
              ((vwCl[ci]?).map (fun r => r.1) = some me.1.cls ∧ Ev g me (.inr (.inr q) :: (st.take n).reverse) A (fun v A' => K (pc + 3) lv (v.toList ++ r) A')) else False
          | _ => False
        | _ => False
      | _ => False
    | .invokestatic i => match lk T.2.1 i with
      | some (1, n, me) => bif Nat.ble n st.length && Nat.blt me.2.2.2.2 M.2.2.2.2 && Nat.ble (cats (st.drop n)) 8 then
          Ev g me (st.take n).reverse A (fun v A' => K (pc + 3) lv (v.toList ++ st.drop n) A') else False
      | some (2, n, me) => bif Nat.ble n st.length && Nat.blt me.2.2.2.2 M.2.2.2.2 && Nat.ble (cats (st.drop n)) 8 then
          Ev g me (st.take n).reverse A (fun v A' => K (pc + 3) lv (v.toList ++ st.drop n) A') else False
      | some (3, _, _) => match st with
        | .inl n :: .inl dp :: .inr (.inr q1) :: .inl sp :: .inr (.inr q0) :: r => match A[q0]? with
          | some (.inl (0, n0, f)) => match A[q1]? with
            | some (.inl (0, n1, f1)) => bif Nat.blt 0 M.2.2.2.2 && Nat.ble (cats r) 8 then
              (¬ sp < 0 ∧ ¬ dp < 0 ∧ ¬ n < 0 ∧ sp.toNatClampNeg + n.toNatClampNeg ≤ n0 ∧ dp.toNatClampNeg + n.toNatClampNeg ≤ n1 ∧ K (pc + 3) lv r (A.set q1 (ar 0 n1 (va_cpy f f1 sp.toNatClampNeg dp.toNatClampNeg n.toNatClampNeg)))) else False
            | _ => False
          | _ => False
        | _ => False
      | _ => False
    | _ => False
/-- so many steps at most, none at a pc of cuts -/
def wpz (g : GG) (M : ME) (Q : Option AV → AH → Prop) (E : List En) (T : CT) (cuts : List Nat) (K : KK) : Nat → KK
  | 0 => K
  | n + 1 => fun pc lv st A => bif cuts.contains pc then K pc lv st A else stp g M Q E T (wpz g M Q E T cuts K n) pc lv st A
end
section
/-! the walk follows what the text asks -/
def ln : Instr → Nat
  | .iconst _ => 1 | .bipush _ => 2 | .sipush _ => 3 | .lconst _ => 1 | .ldc _ => 2 | .ldc2_w _ => 3
  | .iload _ => 2 | .lload _ => 2 | .aload _ => 2 | .istore _ => 2 | .astore _ => 2 | .lstore _ => 2 | .iinc _ _ => 3
  | .goto _ => 3 | .ifCond _ _ => 3 | .if_icmp _ _ => 3 | .getfield _ => 3 | .putfield _ => 3 | .invokevirtual _ => 3 | .invokestatic _ => 3
  | .tableswitch _ _ _ _ => 0
  | _ => 1
def chk (pc len : Nat) (ins : Instr) (tg : Nat) (x : Int32) (tl : List Nat) : Bool :=
  (ln ins == 0 || len == ln ins) && match ins with
  | .iconst n => Int32.ofInt n == x
  | .bipush n => (Int8.ofInt n).toInt32 == x
  | .sipush n => (Int16.ofInt n).toInt32 == x
  | .iinc _ n => Int32.ofInt n == x
  | .goto off => (pc : Int) + off == (tg : Int)
  | .ifCond _ off => (pc : Int) + off == (tg : Int)
  | .if_icmp _ off => (pc : Int) + off == (tg : Int)
  | .tableswitch d lo hi offs => decide (0 ≤ lo) && decide (hi < 1000) && (hi == lo + (tl.length : Int) - 1) && ((pc : Int) + d == (tg : Int)) && (offs.toList.map (fun o => (pc : Int) + o) == tl.map (fun (t : Nat) => (t : Int)))
  | _ => true
def okE (b : ByteArray) (E : List En) : Prop := ∀ q ∈ E, decode b q.1 = .ok (q.2.2.1, q.2.1) ∧ chk q.1 q.2.1 q.2.2.1 q.2.2.2.1 q.2.2.2.2.1 q.2.2.2.2.2 = true
def okIv (cls : String) (q : Nat × Nat × Nat × ME) : Prop :=
  (q.2.1 = 0 → Cond.methodLink cls q.1 q.2.2.2.1 ∈ wsG ∧ okV q.2.2.2 q.2.2.1) ∧
  (q.2.1 = 1 → Cond.methodLink cls q.1 q.2.2.2.1 ∈ wsG ∧ okT q.2.2.2 q.2.2.1 ∧ q.2.2.2.1.cls = cls) ∧
  (q.2.1 = 2 → ((cls = RX3 ∧ q.1 = 106 ∨ cls = RX5 ∧ q.1 = 54) ∧ q.2.2.2.1 = yX9_isColour) ∧ okT q.2.2.2 q.2.2.1) ∧
  (q.2.1 = 3 → Cond.methodLink cls q.1 arraycopyName ∈ wsG ∧ Cond.native arraycopyName ∈ wsG ∧ Cond.static arraycopyName ∈ wsG ∧ Cond.initialized "java/lang/System" ∈ wsG)
def okF (cls : String) (q : Nat × Nat × Nat × Nat) : Prop := FLk cls q.1 q.2.1 q.2.2.1 ∧ (q.2.2.2 = 0 → FPk cls q.1 q.2.1 q.2.2.1 .int) ∧ (q.2.2.2 = 1 → FPk cls q.1 q.2.1 q.2.2.1 .boolean)
def okCT (cls : String) (T : CT) : Prop := (∀ q ∈ T.1, okF cls q) ∧ (∀ q ∈ T.2.1, okIv cls q) ∧ (∀ q ∈ T.2.2.1, Cond.constant cls q.1 q.2 ∈ wsG) ∧ (∀ q ∈ T.2.2.2.1, Cond.constantLong cls q.1 q.2 ∈ wsG) ∧ (∀ q ∈ T.2.2.2.2, cls = RX3 ∧ (q = (60, 0) ∨ q = (69, 1)))
section SND
variable {g : GG} {M : ME} {N : Nat} {Q : Option AV → AH → Prop} {pc : Nat} {lv : List (Option AV)} {st : List AV} {A : AH}
theorem Z_ldcS {i q : Nat} (hd : decode M.2.1 pc = .ok (.ldc i, 2)) (hw : M.1.cls = RX3 ∧ ((i, q) = (60, 0) ∨ (i, q) = (69, 1))) (k : Z g M N Q (pc + 2) lv (vr (1000 + q) :: st) A) : Z g M N Q pc lv st A := by
  intro ad p e s m args below meth c C H locs ls hP hS hN hl
  have hk := k ad p e s m args below meth c C H locs ls hP hS hN hl
  have hsx := C.2.2.2.2.2.2.2.2.1.2.1
  have hos := C.2.2.2.2.2.2.2.2.2.2
  obtain ⟨h1, h2⟩ := hw
  have ho := C.2.2.2.2.1
  rw [h1] at ho
  rcases h2 with h2 | h2 <;> cases h2
  · have e : ad (1000 + 0) = g.2.2.2.1 0 := hos 0 (by decide)
    refine va_ldcS C.1 C.2.1 ho hsx.1 hd ?_
    rw [← e]; exact hk
  · have e : ad (1000 + 1) = g.2.2.2.1 1 := hos 1 (by decide)
    refine va_ldcS C.1 C.2.1 ho hsx.2 hd ?_
    rw [← e]; exact hk
theorem Z_sw {d lo hi : Int} {offs : Array Int} {len tg : Nat} {tl : List Nat} {x : Int32} (hd : decode M.2.1 pc = .ok (.tableswitch d lo hi offs, len)) (h0 : 0 ≤ lo) (h9 : hi < 1000) (h1 : hi = lo + (tl.length : Int) - 1) (h2 : (pc : Int) + d = (tg : Int)) (h3 : offs.toList.map (fun o => (pc : Int) + o) = tl.map (fun (t : Nat) => (t : Int)))
    (k : ∀ t, (∃ i : Nat, tl[i]? = some t ∧ x = nI (lo.toNat + i)) → Z g M N Q t lv st A) (kd : (∀ i : Nat, i < tl.length → ¬ x = nI (lo.toNat + i)) → Z g M N Q tg lv st A) : Z g M N Q pc lv (vi x :: st) A := by
  intro ad p e s m args below meth c C H locs ls hP hS hN hl
  by_cases hin : x.toInt < lo ∨ hi < x.toInt
  · refine lv_tableOut C.1 C.2.1 hd hin h2 (kd (fun i hi2 he => ?_) ad p e s m args below meth c C H locs ls hP hS hN hl)
    rw [he, nI_toInt (by omega)] at hin
    omega
  · have hin1 : ¬ x.toInt < lo := fun h => hin (Or.inl h)
    have hin2 : ¬ hi < x.toInt := fun h => hin (Or.inr h)
    have hlen : (x.toInt - lo).toNat < tl.length := by omega
    obtain ⟨t, ht⟩ : ∃ t, tl[(x.toInt - lo).toNat]? = some t := ⟨_, List.getElem?_eq_getElem hlen⟩
    have h4 : (offs.toList.map (fun o => (pc : Int) + o))[(x.toInt - lo).toNat]? = some (t : Int) := by rw [h3, List.getElem?_map, ht]; rfl
    rw [List.getElem?_map, Array.getElem?_toList] at h4
    cases ho : offs[(x.toInt - lo).toNat]? with
    | none => rw [ho] at h4; cases h4
    | some o =>
      rw [ho] at h4
      refine lv_tableIn C.1 C.2.1 hd hin1 hin2 ho (Option.some.inj h4) (k t ⟨_, ht, ?_⟩ ad p e s m args below meth c C H locs ls hP hS hN hl)
      apply Int32.toInt_inj.mp
      rw [nI_toInt (by omega)]
      omega
theorem swc_in {k : Nat → Prop} {x : Int32} : ∀ (tl : List Nat) (i d : Nat), swc k x i tl d → (∀ t, (∃ j : Nat, tl[j]? = some t ∧ x = nI (i + j) ∧ ∀ j', j' < j → ¬ x = nI (i + j')) → k t) ∧ ((∀ j : Nat, j < tl.length → ¬ x = nI (i + j)) → k d) := by
  intro tl
  induction tl with
  | nil => intro i d h; exact ⟨fun t ⟨j, h1, _⟩ => by simp at h1, fun _ => h⟩
  | cons a r ih =>
    intro i d h
    obtain ⟨h1, h2⟩ := h
    refine ⟨?_, fun h3 => ?_⟩
    · rintro t ⟨j, h3, h4, h5⟩
      cases j with
      | zero => simp at h3; subst h3; exact h1 h4
      | succ j =>
        have hx := h5 0 (by omega)
        refine (ih (i + 1) d (h2 hx)).1 t ⟨j, by simpa using h3, by rw [h4]; congr 1; omega, fun j' hj' => ?_⟩
        have := h5 (j' + 1) (by omega)
        rwa [show i + 1 + j' = i + (j' + 1) by omega]
    · have hx := h3 0 (by simp)
      refine (ih (i + 1) d (h2 hx)).2 (fun j hj => ?_)
      have := h3 (j + 1) (by simp; omega)
      rwa [show i + 1 + j = i + (j + 1) by omega]
end SND
theorem bif_f {b : Bool} {P : Prop} (h : bif b then P else False) : b = true ∧ P := by
  cases b with
  | true => exact ⟨rfl, h⟩
  | false => exact h.elim
theorem bif_n {b : Bool} {P : Prop} (h : bif b then False else P) : b = false ∧ P := by
  cases b with
  | false => exact ⟨rfl, h⟩
  | true => exact h.elim
theorem blt_lt {a b : Nat} (h : Nat.blt a b = true) : a < b := Nat.le_of_ble_eq_true h
set_option maxHeartbeats 4000000 in
theorem stp_sound {g : GG} {M : ME} {N : Nat} {Q : Option AV → AH → Prop} {E : List En} {T : CT} {K : KK} (hE : okE M.2.1 E) (hT : okCT M.1.cls T) (hK : ∀ pc lv st A, K pc lv st A → Z g M N Q pc lv st A) (pc : Nat) (lv : List (Option AV)) (st : List AV) (A : AH) (h : stp g M Q E T K pc lv st A) : Z g M N Q pc lv st A := by
  unfold stp at h
  cases hl : lk E pc with
  | none => rw [hl] at h; exact h.elim
  | some w =>
    obtain ⟨len, ins, tg, x, tl⟩ := w
    rw [hl] at h
    have hm := lk_mem _ _ _ hl
    obtain ⟨hd, hc⟩ := hE _ hm
    dsimp only at hd hc h
    unfold chk at hc
    rw [Bool.and_eq_true] at hc
    obtain ⟨hc1, hc2⟩ := hc
    cases ins
    case iconst n =>
      obtain rfl : len = 1 := by simpa [ln] using hc1
      exact Z_iconst hd (by simpa using hc2) (hK _ _ _ _ h)
    case bipush n =>
      obtain rfl : len = 2 := by simpa [ln] using hc1
      exact Z_bipush hd (by simpa using hc2) (hK _ _ _ _ h)
    case sipush n =>
      obtain rfl : len = 3 := by simpa [ln] using hc1
      exact Z_sipush hd (by simpa using hc2) (hK _ _ _ _ h)
    case lconst n =>
      obtain rfl : len = 1 := by simpa [ln] using hc1
      exact Z_lconst hd rfl (hK _ _ _ _ h)
    case ldc i =>
      obtain rfl : len = 2 := by simpa [ln] using hc1
      dsimp only at h
      split at h
      · rename_i y hy
        exact Z_ldc hd (hT.2.2.1 _ (lk_mem _ _ _ hy)) (hK _ _ _ _ h)
      · split at h
        · rename_i q hq
          exact Z_ldcS hd (hT.2.2.2.2 _ (lk_mem _ _ _ hq)) (hK _ _ _ _ h)
        · exact h.elim
    case ldc2_w i =>
      obtain rfl : len = 3 := by simpa [ln] using hc1
      dsimp only at h
      split at h
      · rename_i y hy
        exact Z_ldc2 hd (hT.2.2.2.1 _ (lk_mem _ _ _ hy)) (hK _ _ _ _ h)
      · exact h.elim
    case iload_n n =>
      obtain rfl : len = 1 := by simpa [ln] using hc1
      dsimp only at h
      split at h
      · rename_i y hy
        exact Z_iload_n hd hy (hK _ _ _ _ h)
      · exact h.elim
    case iload n =>
      obtain rfl : len = 2 := by simpa [ln] using hc1
      dsimp only at h
      split at h
      · rename_i y hy
        exact Z_iload hd hy (hK _ _ _ _ h)
      · exact h.elim
    case lload_n n =>
      obtain rfl : len = 1 := by simpa [ln] using hc1
      dsimp only at h
      split at h
      · rename_i y hy
        exact Z_lload_n hd hy (hK _ _ _ _ h)
      · exact h.elim
    case lload n =>
      obtain rfl : len = 2 := by simpa [ln] using hc1
      dsimp only at h
      split at h
      · rename_i y hy
        exact Z_lload hd hy (hK _ _ _ _ h)
      · exact h.elim
    case aload_n n =>
      obtain rfl : len = 1 := by simpa [ln] using hc1
      dsimp only at h
      split at h
      · rename_i y hy
        exact Z_aload_n hd hy (hK _ _ _ _ h)
      · exact h.elim
    case aload n =>
      obtain rfl : len = 2 := by simpa [ln] using hc1
      dsimp only at h
      split at h
      · rename_i y hy
        exact Z_aload hd hy (hK _ _ _ _ h)
      · exact h.elim
    case istore_n n =>
      obtain rfl : len = 1 := by simpa [ln] using hc1
      dsimp only at h
      split at h
      · obtain ⟨hb, h⟩ := bif_f h
        rw [Bool.and_eq_true] at hb
        exact Z_istore_n hd (blt_lt hb.1) hb.2 (hK _ _ _ _ h)
      · exact h.elim
    case istore n =>
      obtain rfl : len = 2 := by simpa [ln] using hc1
      dsimp only at h
      split at h
      · obtain ⟨hb, h⟩ := bif_f h
        rw [Bool.and_eq_true] at hb
        exact Z_istore hd (blt_lt hb.1) hb.2 (hK _ _ _ _ h)
      · exact h.elim
    case astore_n n =>
      obtain rfl : len = 1 := by simpa [ln] using hc1
      dsimp only at h
      split at h
      · obtain ⟨hb, h⟩ := bif_f h
        rw [Bool.and_eq_true] at hb
        exact Z_astore_n hd (blt_lt hb.1) hb.2 (hK _ _ _ _ h)
      · exact h.elim
    case astore n =>
      obtain rfl : len = 2 := by simpa [ln] using hc1
      dsimp only at h
      split at h
      · obtain ⟨hb, h⟩ := bif_f h
        rw [Bool.and_eq_true] at hb
        exact Z_astore hd (blt_lt hb.1) hb.2 (hK _ _ _ _ h)
      · exact h.elim
    case lstore n =>
      obtain rfl : len = 2 := by simpa [ln] using hc1
      dsimp only at h
      split at h
      · obtain ⟨hb, h⟩ := bif_f h
        rw [Bool.and_eq_true] at hb
        exact Z_lstore hd (blt_lt hb.1) hb.2 (hK _ _ _ _ h)
      · exact h.elim
    case iinc i n =>
      obtain rfl : len = 3 := by simpa [ln] using hc1
      dsimp only at h
      split at h
      · rename_i y hy
        obtain ⟨hb, h⟩ := bif_f h
        rw [Bool.and_eq_true] at hb
        exact Z_iinc hd hy (by simpa using hc2) (blt_lt hb.1) hb.2 (hK _ _ _ _ h)
      · exact h.elim
    case iadd =>
      obtain rfl : len = 1 := by simpa [ln] using hc1
      dsimp only at h
      split at h
      · exact Z_iadd hd (hK _ _ _ _ h)
      · exact h.elim
    case isub =>
      obtain rfl : len = 1 := by simpa [ln] using hc1
      dsimp only at h
      split at h
      · exact Z_isub hd (hK _ _ _ _ h)
      · exact h.elim
    case imul =>
      obtain rfl : len = 1 := by simpa [ln] using hc1
      dsimp only at h
      split at h
      · exact Z_imul hd (hK _ _ _ _ h)
      · exact h.elim
    case iand =>
      obtain rfl : len = 1 := by simpa [ln] using hc1
      dsimp only at h
      split at h
      · exact Z_iand hd (hK _ _ _ _ h)
      · exact h.elim
    case ishr =>
      obtain rfl : len = 1 := by simpa [ln] using hc1
      dsimp only at h
      split at h
      · exact Z_ishr hd (hK _ _ _ _ h)
      · exact h.elim
    case iushr =>
      obtain rfl : len = 1 := by simpa [ln] using hc1
      dsimp only at h
      split at h
      · exact Z_iushr hd (hK _ _ _ _ h)
      · exact h.elim
    case ladd =>
      obtain rfl : len = 1 := by simpa [ln] using hc1
      dsimp only at h
      split at h
      · exact Z_ladd hd (hK _ _ _ _ h)
      · exact h.elim
    case lcmp =>
      obtain rfl : len = 1 := by simpa [ln] using hc1
      dsimp only at h
      split at h
      · exact Z_lcmp hd (hK _ _ _ _ h)
      · exact h.elim
    case i2l =>
      obtain rfl : len = 1 := by simpa [ln] using hc1
      dsimp only at h
      split at h
      · exact Z_i2l hd (hK _ _ _ _ h)
      · exact h.elim
    case l2i =>
      obtain rfl : len = 1 := by simpa [ln] using hc1
      dsimp only at h
      split at h
      · exact Z_l2i hd (hK _ _ _ _ h)
      · exact h.elim
    case i2b =>
      obtain rfl : len = 1 := by simpa [ln] using hc1
      dsimp only at h
      split at h
      · exact Z_i2b hd (hK _ _ _ _ h)
      · exact h.elim
    case i2s =>
      obtain rfl : len = 1 := by simpa [ln] using hc1
      dsimp only at h
      split at h
      · exact Z_i2s hd (hK _ _ _ _ h)
      · exact h.elim
    case idiv =>
      obtain rfl : len = 1 := by simpa [ln] using hc1
      dsimp only at h
      split at h
      · exact Z_idiv hd h.1 (hK _ _ _ _ h.2)
      · exact h.elim
    case irem =>
      obtain rfl : len = 1 := by simpa [ln] using hc1
      dsimp only at h
      split at h
      · exact Z_irem hd h.1 (hK _ _ _ _ h.2)
      · exact h.elim
    case dup =>
      obtain rfl : len = 1 := by simpa [ln] using hc1
      dsimp only at h
      split at h
      · obtain ⟨hb, h⟩ := bif_n h
        exact Z_dup hd hb (hK _ _ _ _ h)
      · exact h.elim
    case pop =>
      obtain rfl : len = 1 := by simpa [ln] using hc1
      dsimp only at h
      split at h
      · obtain ⟨hb, h⟩ := bif_n h
        exact Z_pop hd hb (hK _ _ _ _ h)
      · exact h.elim
    case dup2 =>
      obtain rfl : len = 1 := by simpa [ln] using hc1
      dsimp only at h
      split at h
      · obtain ⟨hb, h⟩ := bif_n h
        rw [Bool.or_eq_false_iff] at hb
        exact Z_dup2 hd hb.1 hb.2 (hK _ _ _ _ h)
      · exact h.elim
    case goto off =>
      obtain rfl : len = 3 := by simpa [ln] using hc1
      exact Z_goto hd (by simpa using hc2) (hK _ _ _ _ h)
    case ifCond o off =>
      obtain rfl : len = 3 := by simpa [ln] using hc1
      dsimp only at h
      split at h
      · exact Z_if hd (by simpa using hc2) (fun q => hK _ _ _ _ (h.1 q)) (fun q => hK _ _ _ _ (h.2 q))
      · exact h.elim
    case if_icmp o off =>
      obtain rfl : len = 3 := by simpa [ln] using hc1
      dsimp only at h
      split at h
      · exact Z_icmp hd (by simpa using hc2) (fun q => hK _ _ _ _ (h.1 q)) (fun q => hK _ _ _ _ (h.2 q))
      · exact h.elim
    case tableswitch d lo hi offs =>
      dsimp only at h hc2
      simp only [Bool.and_eq_true, decide_eq_true_eq, beq_iff_eq] at hc2
      obtain ⟨⟨⟨⟨c1, c2⟩, c3⟩, c4⟩, c5⟩ := hc2
      split at h
      · rename_i y r
        obtain ⟨s1, s2⟩ := swc_in tl lo.toNat tg h
        refine Z_sw hd c1 c2 c3 c4 c5 (fun t ht => hK _ _ _ _ (s1 t ?_)) (fun hh => hK _ _ _ _ (s2 hh))
        obtain ⟨i, i1, i2⟩ := ht
        refine ⟨i, i1, i2, fun j hj he => ?_⟩
        have hi : i < tl.length := (List.getElem?_eq_some_iff.mp i1).1
        rw [i2] at he
        have := (nI_eq (by omega) (by omega)).mp he
        omega
      · exact h.elim
    case iaload =>
      obtain rfl : len = 1 := by simpa [ln] using hc1
      dsimp only at h
      split at h
      · split at h
        · rename_i hq
          exact Z_iaload hd hq h.1 (hK _ _ _ _ h.2)
        · exact h.elim
      · exact h.elim
    case baload =>
      obtain rfl : len = 1 := by simpa [ln] using hc1
      dsimp only at h
      split at h
      · split at h
        · rename_i hq
          exact Z_baload hd hq h.1 (hK _ _ _ _ h.2)
        · exact h.elim
      · exact h.elim
    case aaload =>
      obtain rfl : len = 1 := by simpa [ln] using hc1
      dsimp only at h
      split at h
      · split at h
        · rename_i hq
          exact Z_aaload hd hq h.1 h.2.1 (hK _ _ _ _ h.2.2)
        · exact h.elim
      · exact h.elim
    case iastore =>
      obtain rfl : len = 1 := by simpa [ln] using hc1
      dsimp only at h
      split at h
      · split at h
        · rename_i hq
          exact Z_iastore hd hq h.1 (hK _ _ _ _ h.2)
        · exact h.elim
      · exact h.elim
    case bastore =>
      obtain rfl : len = 1 := by simpa [ln] using hc1
      dsimp only at h
      split at h
      · split at h
        · rename_i hq
          exact Z_bastore hd hq h.1 h.2.1 (hK _ _ _ _ h.2.2)
        · exact h.elim
      · exact h.elim
    case getfield i =>
      obtain rfl : len = 3 := by simpa [ln] using hc1
      dsimp only at h
      split at h
      · rename_i ci k ty hf
        split at h
        · split at h
          · rename_i cj fs hq
            obtain ⟨hb, h2⟩ := bif_f h
            clear h
            have h := h2
            clear h2
            have e := Nat.eq_of_beq_eq_true hb
            subst e
            split at h
            · rename_i v hv
              exact Z_getfield hd (hT.1 _ (lk_mem _ _ _ hf)).1 hq hv (hK _ _ _ _ h)
            · exact h.elim
          · exact h.elim
        · exact h.elim
      · exact h.elim
    case putfield i =>
      obtain rfl : len = 3 := by simpa [ln] using hc1
      dsimp only at h
      split at h
      · rename_i ci k ty hf
        split at h
        · split at h
          · rename_i cj fs hq
            obtain ⟨hb, h⟩ := bif_f h
            rw [Bool.and_eq_true] at hb
            have e := Nat.eq_of_beq_eq_true hb.1
            subst e
            split at h
            · exact Z_put hd ((hT.1 _ (lk_mem _ _ _ hf)).2.1 rfl) hq (blt_lt hb.2) (hK _ _ _ _ h)
            · exact Z_putz hd ((hT.1 _ (lk_mem _ _ _ hf)).2.2 rfl) hq (blt_lt hb.2) h.1 (hK _ _ _ _ h.2)
            · exact h.elim
          · exact h.elim
        · exact h.elim
      · exact h.elim
    case ireturn =>
      obtain rfl : len = 1 := by simpa [ln] using hc1
      dsimp only at h
      split at h
      · split at h
        · rename_i hr
          exact Z_ireturn hd hr rfl h
        · rename_i hr
          exact Z_ireturn hd hr (z01 h.1).1 h.2
        · exact h.elim
      · exact h.elim
    case return_ =>
      obtain rfl : len = 1 := by simpa [ln] using hc1
      dsimp only at h
      split at h
      · split at h
        · rename_i hr
          exact Z_return hd hr h
        · exact h.elim
      · exact h.elim
    case invokevirtual i =>
      obtain rfl : len = 3 := by simpa [ln] using hc1
      dsimp only at h
      split at h
      · rename_i n me hi
        split at h
        · rename_i q r hst
          split at h
          · rename_i ci fs hq
            obtain ⟨hb, h1, h2⟩ := bif_f h
            rw [Bool.and_eq_true] at hb
            obtain ⟨hv1, -⟩ := hT.2.1 _ (lk_mem _ _ _ hi)
            obtain ⟨hv2, hv3⟩ := hv1 rfl
            have hlen : n < st.length := by
              rcases Nat.lt_or_ge n st.length with q1 | q1
              · exact q1
              · rw [List.drop_eq_nil_of_le q1] at hst; cases hst
            have e : st = (st.take n).reverse.reverse ++ .inr (.inr q) :: r := by rw [List.reverse_reverse, ← hst, List.take_append_drop]
            have := Z_callV (N := N) (vs := (st.take n).reverse) (rest := r) hd hv2 hv3 (blt_lt hb.1) hq h1 (by simp; omega) (Nat.le_of_ble_eq_true hb.2) (h2.mono (fun v A' _ h9 => hK _ _ _ _ h9))
            rw [← e] at this
            exact this
          · exact h.elim
        · exact h.elim
      · exact h.elim
    case invokestatic i =>
      obtain rfl : len = 3 := by simpa [ln] using hc1
      dsimp only at h
      split at h
      · rename_i n me hi
        obtain ⟨hb, h1⟩ := bif_f h
        rw [Bool.and_eq_true, Bool.and_eq_true] at hb
        obtain ⟨-, hv1, -⟩ := hT.2.1 _ (lk_mem _ _ _ hi)
        obtain ⟨hv2, hv3, hv4⟩ := hv1 rfl
        have hlen := Nat.le_of_ble_eq_true hb.1.1
        have e : st = (st.take n).reverse.reverse ++ st.drop n := by rw [List.reverse_reverse, List.take_append_drop]
        have := Z_callS (N := N) (vs := (st.take n).reverse) (rest := st.drop n) hd hv2 hv3 hv4 (blt_lt hb.1.2) (by simp; omega) (Nat.le_of_ble_eq_true hb.2) (h1.mono (fun v A' _ h9 => hK _ _ _ _ h9))
        rw [← e] at this
        exact this
      · rename_i n me hi
        obtain ⟨hb, h1⟩ := bif_f h
        rw [Bool.and_eq_true, Bool.and_eq_true] at hb
        obtain ⟨-, -, hv1, -⟩ := hT.2.1 _ (lk_mem _ _ _ hi)
        obtain ⟨hv2, hv3⟩ := hv1 rfl
        have hlen := Nat.le_of_ble_eq_true hb.1.1
        have e : st = (st.take n).reverse.reverse ++ st.drop n := by rw [List.reverse_reverse, List.take_append_drop]
        have := Z_callN (N := N) (vs := (st.take n).reverse) (rest := st.drop n) hd hv2 hv3 (blt_lt hb.1.2) (by simp; omega) (Nat.le_of_ble_eq_true hb.2) (h1.mono (fun v A' _ h9 => hK _ _ _ _ h9))
        rw [← e] at this
        exact this
      · rename_i hi
        obtain ⟨-, -, -, hv1⟩ := hT.2.1 _ (lk_mem _ _ _ hi)
        obtain ⟨v1, v2, v3, v4⟩ := hv1 rfl
        split at h
        · split at h
          · rename_i ha0
            split at h
            · rename_i ha1
              obtain ⟨hb, h1, h2, h3, h4, h5, h6⟩ := bif_f h
              rw [Bool.and_eq_true] at hb
              exact Z_acopy hd v1 v2 v3 v4 (blt_lt hb.1) ha0 ha1 h1 h2 h3 h4 h5 (Nat.le_of_ble_eq_true hb.2) (hK _ _ _ _ h6)
            · exact h.elim
          · exact h.elim
        · exact h.elim
      · exact h.elim
    all_goals exact h.elim
theorem wpz_sound {g : GG} {M : ME} {N : Nat} {Q : Option AV → AH → Prop} {E : List En} {T : CT} {cuts : List Nat} (hE : okE M.2.1 E) (hT : okCT M.1.cls T) : ∀ (n pc : Nat) (lv : List (Option AV)) (st : List AV) (A : AH), wpz g M Q E T cuts (Z g M N Q) n pc lv st A → Z g M N Q pc lv st A := by
  intro n
  induction n with
  | zero => intro pc lv st A h; exact h
  | succ n ih =>
    intro pc lv st A h
    simp only [wpz] at h
    cases hc : cuts.contains pc with
    | true => rw [hc] at h; exact h
    | false => rw [hc] at h; exact stp_sound hE hT ih pc lv st A h
/-- from pc on: one step, then up to n more -/
theorem Z_go {g : GG} {M : ME} {N : Nat} {Q : Option AV → AH → Prop} {E : List En} {T : CT} (hE : okE M.2.1 E) (hT : okCT M.1.cls T) (cuts : List Nat) (n : Nat) {pc : Nat} {lv : List (Option AV)} {st : List AV} {A : AH} (h : stp g M Q E T (wpz g M Q E T cuts (Z g M N Q) n) pc lv st A) : Z g M N Q pc lv st A :=
  stp_sound hE hT (wpz_sound hE hT n) pc lv st A h
end
section
theorem tb1 {w : Cond} (i : Nat) (h : tables_1_1[i]? = some w) (hg : goodWord w = true) : w ∈ wsG := List.mem_filter.mpr ⟨List.mem_append_right _ (List.mem_append_left _ (List.mem_of_getElem? h)), hg⟩
theorem tb2 {w : Cond} (i : Nat) (h : tables_1_2[i]? = some w) (hg : goodWord w = true) : w ∈ wsG := List.mem_filter.mpr ⟨List.mem_append_right _ (List.mem_append_right _ (List.mem_append_left _ (List.mem_of_getElem? h))), hg⟩
theorem tb3 {w : Cond} (i : Nat) (h : tables_1_3[i]? = some w) (hg : goodWord w = true) : w ∈ wsG := List.mem_filter.mpr ⟨List.mem_append_right _ (List.mem_append_right _ (List.mem_append_right _ (List.mem_append_left _ (List.mem_of_getElem? h)))), hg⟩
theorem tb4 {w : Cond} (i : Nat) (h : tables_1_4[i]? = some w) (hg : goodWord w = true) : w ∈ wsG := List.mem_filter.mpr ⟨List.mem_append_right _ (List.mem_append_right _ (List.mem_append_right _ (List.mem_append_right _ (List.mem_append_left _ (List.mem_of_getElem? h))))), hg⟩
theorem tb5 {w : Cond} (i : Nat) (h : tables_1_5[i]? = some w) (hg : goodWord w = true) : w ∈ wsG := List.mem_filter.mpr ⟨List.mem_append_right _ (List.mem_append_right _ (List.mem_append_right _ (List.mem_append_right _ (List.mem_append_right _ (List.mem_of_getElem? h))))), hg⟩
theorem pv1 {y : MethodName} {n : Nat} (i : Nat) (h : lw_privs_1[i]? = some (y, n)) : Cond.selects y.cls y y ∈ wsG := List.mem_filter.mpr ⟨List.mem_append_left _ (List.mem_map.mpr ⟨(y, n), (List.mem_append_left _ (List.mem_of_getElem? h) : (y, n) ∈ lw_privs), rfl⟩), rfl⟩
theorem pv2 {y : MethodName} {n : Nat} (i : Nat) (h : lw_privs_2[i]? = some (y, n)) : Cond.selects y.cls y y ∈ wsG := List.mem_filter.mpr ⟨List.mem_append_left _ (List.mem_map.mpr ⟨(y, n), (List.mem_append_right _ (List.mem_append_left _ (List.mem_of_getElem? h)) : (y, n) ∈ lw_privs), rfl⟩), rfl⟩
theorem pv3 {y : MethodName} {n : Nat} (i : Nat) (h : lw_privs_3[i]? = some (y, n)) : Cond.selects y.cls y y ∈ wsG := List.mem_filter.mpr ⟨List.mem_append_left _ (List.mem_map.mpr ⟨(y, n), (List.mem_append_right _ (List.mem_append_right _ (List.mem_append_left _ (List.mem_of_getElem? h))) : (y, n) ∈ lw_privs), rfl⟩), rfl⟩
theorem pv4 {y : MethodName} {n : Nat} (i : Nat) (h : lw_privs_4[i]? = some (y, n)) : Cond.selects y.cls y y ∈ wsG := List.mem_filter.mpr ⟨List.mem_append_left _ (List.mem_map.mpr ⟨(y, n), (List.mem_append_right _ (List.mem_append_right _ (List.mem_append_right _ (List.mem_of_getElem? h))) : (y, n) ∈ lw_privs), rfl⟩), rfl⟩
def mX0_below : ME := (yX0_below, cX0_below, 3, (some .int), 0)
def mX2_become : ME := (yX2_become, cX2_become, 2, none, 1)
def mX2_clear : ME := (yX2_clear, cX2_clear, 1, none, 0)
def mX2_size : ME := (yX2_size, cX2_size, 1, (some .int), 0)
def mX2_hasRow : ME := (yX2_hasRow, cX2_hasRow, 2, (some .boolean), 0)
def mX2_hasBead : ME := (yX2_hasBead, cX2_hasBead, 3, (some .boolean), 1)
def mX2_colourAt : ME := (yX2_colourAt, cX2_colourAt, 3, (some .int), 0)
def mX2_put : ME := (yX2_put, cX2_put, 4, none, 0)
def mX2_placeOf : ME := (yX2_placeOf, cX2_placeOf, 3, (some .int), 0)
def mX2_readAt : ME := (yX2_readAt, cX2_readAt, 3, (some .int), 1)
def mX2_manyIn : ME := (yX2_manyIn, cX2_manyIn, 5, (some .int), 1)
def mX2_manyInAll : ME := (yX2_manyInAll, cX2_manyInAll, 4, (some .int), 2)
def mX2_sameBeads : ME := (yX2_sameBeads, cX2_sameBeads, 4, (some .boolean), 1)
def mX2_sameLine : ME := (yX2_sameLine, cX2_sameLine, 5, (some .boolean), 2)
def mX2_likeAhead : ME := (yX2_likeAhead, cX2_likeAhead, 4, (some .int), 3)
def mX2_firstLike : ME := (yX2_firstLike, cX2_firstLike, 3, (some .int), 4)
def mX2_manyLike : ME := (yX2_manyLike, cX2_manyLike, 4, (some .int), 3)
def mX2_linesUnlike : ME := (yX2_linesUnlike, cX2_linesUnlike, 3, (some .int), 4)
def mX2_runsOf : ME := (yX2_runsOf, cX2_runsOf, 4, (some .int), 2)
def mX2_runsInAll : ME := (yX2_runsInAll, cX2_runsInAll, 3, (some .int), 3)
def mX2_partOf : ME := (yX2_partOf, cX2_partOf, 3, (some .int), 3)
def mX2_comesAgain : ME := (yX2_comesAgain, cX2_comesAgain, 4, (some .boolean), 2)
def mX2_rowOfPlan : ME := (yX2_rowOfPlan, cX2_rowOfPlan, 2, (some .int), 0)
def mX2_placeOfPlan : ME := (yX2_placeOfPlan, cX2_placeOfPlan, 2, (some .int), 0)
def mX2_planAt : ME := (yX2_planAt, cX2_planAt, 2, (some .int), 2)
def mX2_takeRow : ME := (yX2_takeRow, cX2_takeRow, 2, none, 0)
def mX2_takeLine : ME := (yX2_takeLine, cX2_takeLine, 4, none, 1)
def mX2_copyRow : ME := (yX2_copyRow, cX2_copyRow, 3, none, 1)
def mX2_dyeAll : ME := (yX2_dyeAll, cX2_dyeAll, 5, none, 1)
def mX2_turn : ME := (yX2_turn, cX2_turn, 4, none, 1)
def mX2_moveOn : ME := (yX2_moveOn, cX2_moveOn, 4, none, 1)
def mX2_drop : ME := (yX2_drop, cX2_drop, 3, none, 2)
def mX2_repeat : ME := (yX2_repeat, cX2_repeat, 3, none, 2)
def mX2_exchange : ME := (yX2_exchange, cX2_exchange, 5, none, 1)
def mX3_readAll : ME := (yX3_readAll, cX3_readAll, 4, (some .int), 7)
def mX3_readToken : ME := (yX3_readToken, cX3_readToken, 2, none, 1)
def mX3_readLine : ME := (yX3_readLine, cX3_readLine, 2, (some .int), 6)
def mX3_readRow : ME := (yX3_readRow, cX3_readRow, 3, (some .int), 3)
def mX3_readFro : ME := (yX3_readFro, cX3_readFro, 2, (some .int), 3)
def mX3_readSign : ME := (yX3_readSign, cX3_readSign, 2, (some .int), 2)
def mX3_unfit : ME := (yX3_unfit, cX3_unfit, 1, (some .int), 0)
def mX3_isName : ME := (yX3_isName, cX3_isName, 4, (some .boolean), 5)
def mX3_isBeads : ME := (yX3_isBeads, cX3_isBeads, 4, (some .boolean), 1)
def mX4_renew : ME := (yX4_renew, cX4_renew, 4, none, 0)
def mX4_faultAt : ME := (yX4_faultAt, cX4_faultAt, 3, (some .int), 0)
def mX4_put : ME := (yX4_put, cX4_put, 3, none, 0)
def mX5_take : ME := (yX5_take, cX5_take, 2, (some .boolean), 0)
def mX5_speak : ME := (yX5_speak, cX5_speak, 2, (some .int), 3)
def mX5_speakLike : ME := (yX5_speakLike, cX5_speakLike, 5, (some .int), 2)
def mX5_speakMirror : ME := (yX5_speakMirror, cX5_speakMirror, 4, (some .int), 2)
def mX5_speakTimes : ME := (yX5_speakTimes, cX5_speakTimes, 6, (some .int), 2)
def mX5_speakRuns : ME := (yX5_speakRuns, cX5_speakRuns, 6, (some .int), 1)
def mX5_fitting : ME := (yX5_fitting, cX5_fitting, 3, (some .int), 0)
def mX6_become : ME := (yX6_become, cX6_become, 2, none, 1)
def mX6_take : ME := (yX6_take, cX6_take, 2, none, 0)
def mX6_firstWrong : ME := (yX6_firstWrong, cX6_firstWrong, 3, (some .int), 3)
def mX6_asTold : ME := (yX6_asTold, cX6_asTold, 7, (some .int), 3)
def mX6_kindOf : ME := (yX6_kindOf, cX6_kindOf, 5, (some .int), 4)
def mX7_take : ME := (yX7_take, cX7_take, 2, (some .boolean), 0)
def mX7_isLetter : ME := (yX7_isLetter, cX7_isLetter, 2, (some .boolean), 0)
def mX8_tellBest : ME := (yX8_tellBest, cX8_tellBest, 7, (some .int), 5)
def mX8_tellBy : ME := (yX8_tellBy, cX8_tellBy, 4, (some .int), 4)
def mX8_put : ME := (yX8_put, cX8_put, 2, none, 0)
def mX8_tellLike : ME := (yX8_tellLike, cX8_tellLike, 2, (some .int), 1)
def mX8_tellMirror : ME := (yX8_tellMirror, cX8_tellMirror, 3, (some .int), 3)
def mX8_tellTimes : ME := (yX8_tellTimes, cX8_tellTimes, 4, (some .int), 3)
def mX8_tellRuns : ME := (yX8_tellRuns, cX8_tellRuns, 7, (some .int), 2)
def mX9_feed : ME := (yX9_feed, cX9_feed, 2, (some .int), 1)
def mX9_end : ME := (yX9_end, cX9_end, 3, (some .int), 0)
def mX9_text : ME := (yX9_text, cX9_text, 2, (some .int), 8)
def mX9_fault : ME := (yX9_fault, cX9_fault, 1, (some .int), 0)
def mX9_rule : ME := (yX9_rule, cX9_rule, 2, (some .int), 7)
def mX9_bead : ME := (yX9_bead, cX9_bead, 3, (some .int), 2)
def mX9_many : ME := (yX9_many, cX9_many, 3, (some .int), 3)
def mX9_row : ME := (yX9_row, cX9_row, 3, (some .int), 6)
def mX9_words : ME := (yX9_words, cX9_words, 3, (some .int), 5)
def mX9_word : ME := (yX9_word, cX9_word, 3, (some .int), 6)
def mX9_tell : ME := (yX9_tell, cX9_tell, 2, (some .int), 1)
def mX9_tear : ME := (yX9_tear, cX9_tear, 2, (some .int), 0)
def mX9_spoken : ME := (yX9_spoken, cX9_spoken, 1, (some .int), 4)
def mX9_said : ME := (yX9_said, cX9_said, 2, (some .int), 4)
def mX9_add : ME := (yX9_add, cX9_add, 2, (some .int), 4)
def mX9_string : ME := (yX9_string, cX9_string, 2, (some .int), 1)
def mX9_off : ME := (yX9_off, cX9_off, 2, (some .int), 0)
def mX9_plan : ME := (yX9_plan, cX9_plan, 2, (some .int), 3)
def mX9_mistake : ME := (yX9_mistake, cX9_mistake, 3, (some .int), 5)
def mX9_paint : ME := (yX9_paint, cX9_paint, 5, (some .int), 2)
def mX9_dye : ME := (yX9_dye, cX9_dye, 4, (some .int), 3)
def mX9_change : ME := (yX9_change, cX9_change, 3, (some .int), 3)
def mX9_swap : ME := (yX9_swap, cX9_swap, 4, (some .int), 2)
def mX9_mode : ME := (yX9_mode, cX9_mode, 3, (some .int), 0)
def mX9_draw : ME := (yX9_draw, cX9_draw, 6, (some .int), 3)
def mX9_keep : ME := (yX9_keep, cX9_keep, 4, (some .int), 2)
def mX9_back : ME := (yX9_back, cX9_back, 3, (some .int), 2)
def mX9_sheet : ME := (yX9_sheet, cX9_sheet, 4, (some .int), 1)
def mX9_lay : ME := (yX9_lay, cX9_lay, 6, (some .int), 1)
def mX9_run : ME := (yX9_run, cX9_run, 7, (some .int), 2)
def mX9_torn : ME := (yX9_torn, cX9_torn, 1, (some .int), 0)
def mX9_count : ME := (yX9_count, cX9_count, 2, (some .int), 1)
def mX9_isColour : ME := (yX9_isColour, cX9_isColour, 1, (some .boolean), 0)
def mX9_isSheet : ME := (yX9_isSheet, cX9_isSheet, 1, (some .boolean), 0)
def mX9_isLane : ME := (yX9_isLane, cX9_isLane, 1, (some .boolean), 0)
def mX9_wordsInAll : ME := (yX9_wordsInAll, cX9_wordsInAll, 3, (some .int), 6)
def mX9_coloursInAll : ME := (yX9_coloursInAll, cX9_coloursInAll, 3, (some .int), 3)
def mX9_imagesThere : ME := (yX9_imagesThere, cX9_imagesThere, 3, (some .int), 0)
def mX9_drawRow : ME := (yX9_drawRow, cX9_drawRow, 6, none, 2)
def mX10_in : ME := (yX10_in, cX10_in, 6, (some .boolean), 0)
def mX10_flag : ME := (yX10_flag, cX10_flag, 1, (some .int), 0)
def mX10_feed : ME := (yX10_feed, cX10_feed, 2, (some .int), 1)
def mX10_end : ME := (yX10_end, cX10_end, 3, (some .int), 1)
def mX10_requires : ME := (yX10_requires, cX10_requires, 3, none, 0)
def mX10_byteAt : ME := (yX10_byteAt, cX10_byteAt, 2, (some .int), 0)
def mX10_reads : ME := (yX10_reads, cX10_reads, 2, none, 1)
def mX10_is : ME := (yX10_is, cX10_is, 4, (some .boolean), 1)
def mX10_areBeads : ME := (yX10_areBeads, cX10_areBeads, 4, (some .boolean), 0)
def mX10_readRow : ME := (yX10_readRow, cX10_readRow, 2, none, 2)
def mX10_readLine : ME := (yX10_readLine, cX10_readLine, 2, none, 3)
def mX10_text : ME := (yX10_text, cX10_text, 2, (some .int), 4)
def mX10_fault : ME := (yX10_fault, cX10_fault, 1, (some .int), 0)
def mX10_isRow : ME := (yX10_isRow, cX10_isRow, 2, (some .boolean), 1)
def mX10_isColour : ME := (yX10_isColour, cX10_isColour, 1, (some .boolean), 1)
def mX10_beadOf : ME := (yX10_beadOf, cX10_beadOf, 3, (some .int), 0)
def mX10_isBack : ME := (yX10_isBack, cX10_isBack, 2, (some .boolean), 0)
def mX10_lineOf : ME := (yX10_lineOf, cX10_lineOf, 3, (some .int), 1)
def mX10_isSame : ME := (yX10_isSame, cX10_isSame, 6, (some .boolean), 2)
def mX10_likeOf : ME := (yX10_likeOf, cX10_likeOf, 5, (some .int), 3)
def mX10_runsOf : ME := (yX10_runsOf, cX10_runsOf, 5, (some .int), 2)
def mX10_partOf : ME := (yX10_partOf, cX10_partOf, 5, (some .int), 2)
def mX10_wordsBy : ME := (yX10_wordsBy, cX10_wordsBy, 3, (some .int), 4)
def mX10_formOf : ME := (yX10_formOf, cX10_formOf, 5, (some .int), 5)
def mX10_wordOf : ME := (yX10_wordOf, cX10_wordOf, 10, (some .int), 6)
def mX10_allWords : ME := (yX10_allWords, cX10_allWords, 3, (some .int), 6)
def mX10_unlike : ME := (yX10_unlike, cX10_unlike, 3, (some .int), 4)
def mX10_allRuns : ME := (yX10_allRuns, cX10_allRuns, 3, (some .int), 3)
def mX10_width : ME := (yX10_width, cX10_width, 1, (some .int), 0)
def mX10_beads : ME := (yX10_beads, cX10_beads, 1, (some .int), 1)
def mX10_manyOf : ME := (yX10_manyOf, cX10_manyOf, 6, (some .int), 1)
def mX10_colours : ME := (yX10_colours, cX10_colours, 3, (some .int), 2)
def mX10_rule : ME := (yX10_rule, cX10_rule, 2, (some .int), 7)
def mX10_bead : ME := (yX10_bead, cX10_bead, 3, (some .int), 2)
def mX10_many : ME := (yX10_many, cX10_many, 3, (some .int), 2)
def mX10_likes : ME := (yX10_likes, cX10_likes, 4, (some .int), 3)
def mX10_row : ME := (yX10_row, cX10_row, 3, (some .int), 6)
def mX10_words : ME := (yX10_words, cX10_words, 3, (some .int), 5)
def mX10_word : ME := (yX10_word, cX10_word, 3, (some .int), 7)
def mX10_tell : ME := (yX10_tell, cX10_tell, 2, (some .int), 1)
def mX10_tear : ME := (yX10_tear, cX10_tear, 2, (some .int), 0)
def mX10_readRuns : ME := (yX10_readRuns, cX10_readRuns, 5, (some .boolean), 2)
def mX10_readLike : ME := (yX10_readLike, cX10_readLike, 3, (some .boolean), 2)
def mX10_readMirror : ME := (yX10_readMirror, cX10_readMirror, 3, (some .boolean), 3)
def mX10_readTimes : ME := (yX10_readTimes, cX10_readTimes, 4, (some .boolean), 3)
def mX10_speaks : ME := (yX10_speaks, cX10_speaks, 1, (some .boolean), 4)
def mX10_spoken : ME := (yX10_spoken, cX10_spoken, 1, (some .int), 5)
def mX10_said : ME := (yX10_said, cX10_said, 2, (some .int), 5)
def mX10_add : ME := (yX10_add, cX10_add, 3, (some .int), 5)
def mX10_string : ME := (yX10_string, cX10_string, 2, (some .int), 2)
def mX10_off : ME := (yX10_off, cX10_off, 2, (some .int), 1)
def mX10_planOf : ME := (yX10_planOf, cX10_planOf, 2, (some .int), 2)
def mX10_plan : ME := (yX10_plan, cX10_plan, 2, (some .int), 3)
def mX10_firstMistake : ME := (yX10_firstMistake, cX10_firstMistake, 2, (some .int), 3)
def mX10_asTold : ME := (yX10_asTold, cX10_asTold, 6, (some .int), 3)
def mX10_kindOf : ME := (yX10_kindOf, cX10_kindOf, 4, (some .int), 4)
def mX10_mistake : ME := (yX10_mistake, cX10_mistake, 3, (some .int), 5)
def mX10_paint : ME := (yX10_paint, cX10_paint, 5, (some .int), 2)
def mX10_dye : ME := (yX10_dye, cX10_dye, 5, (some .int), 2)
def mX10_copiesRow : ME := (yX10_copiesRow, cX10_copiesRow, 4, none, 0)
def mX10_turns : ME := (yX10_turns, cX10_turns, 5, none, 0)
def mX10_goesOn : ME := (yX10_goesOn, cX10_goesOn, 5, none, 0)
def mX10_change : ME := (yX10_change, cX10_change, 4, (some .int), 2)
def mX10_swap : ME := (yX10_swap, cX10_swap, 6, (some .int), 2)
def mX10_mode : ME := (yX10_mode, cX10_mode, 3, (some .int), 1)
def mX10_gets : ME := (yX10_gets, cX10_gets, 1, (some .int), 0)
def mX10_drawsRow : ME := (yX10_drawsRow, cX10_drawsRow, 8, none, 1)
def mX10_draw : ME := (yX10_draw, cX10_draw, 6, (some .int), 2)
def mX10_keep : ME := (yX10_keep, cX10_keep, 4, (some .int), 1)
def mX10_back : ME := (yX10_back, cX10_back, 3, (some .int), 1)
def mX10_isSheet : ME := (yX10_isSheet, cX10_isSheet, 2, (some .boolean), 1)
def mX10_sheet : ME := (yX10_sheet, cX10_sheet, 5, (some .int), 2)
def mX10_lay : ME := (yX10_lay, cX10_lay, 4, (some .int), 2)
def mX10_run : ME := (yX10_run, cX10_run, 9, (some .int), 3)
def mX10_torn : ME := (yX10_torn, cX10_torn, 1, (some .int), 0)
def mX10_count : ME := (yX10_count, cX10_count, 2, (some .int), 1)
theorem omX0_below : okV mX0_below 1 := ⟨⟨tb3 192 rfl rfl, tb1 8 rfl rfl, ⟨by decide, by decide⟩, by decide, by decide⟩, tb3 190 rfl rfl, tb3 191 rfl rfl, by decide +kernel⟩
theorem omX2_become : okV mX2_become 1 := ⟨⟨tb2 116 rfl rfl, tb1 2 rfl rfl, ⟨by decide, by decide⟩, by decide, by decide⟩, tb2 114 rfl rfl, tb2 115 rfl rfl, by decide +kernel⟩
theorem omX2_clear : okV mX2_clear 0 := ⟨⟨tb2 15 rfl rfl, tb1 2 rfl rfl, ⟨by decide, by decide⟩, by decide, by decide⟩, tb2 13 rfl rfl, tb2 14 rfl rfl, by decide +kernel⟩
theorem omX2_size : okV mX2_size 0 := ⟨⟨tb2 132 rfl rfl, tb1 2 rfl rfl, ⟨by decide, by decide⟩, by decide, by decide⟩, tb2 130 rfl rfl, tb2 131 rfl rfl, by decide +kernel⟩
theorem omX2_hasRow : okV mX2_hasRow 1 := ⟨⟨tb2 231 rfl rfl, tb1 2 rfl rfl, ⟨by decide, by decide⟩, by decide, by decide⟩, tb2 229 rfl rfl, tb2 230 rfl rfl, by decide +kernel⟩
theorem omX2_hasBead : okV mX2_hasBead 2 := ⟨⟨tb2 227 rfl rfl, tb1 2 rfl rfl, ⟨by decide, by decide⟩, by decide, by decide⟩, tb2 225 rfl rfl, tb2 226 rfl rfl, by decide +kernel⟩
theorem omX2_colourAt : okV mX2_colourAt 2 := ⟨⟨tb2 219 rfl rfl, tb1 2 rfl rfl, ⟨by decide, by decide⟩, by decide, by decide⟩, tb2 217 rfl rfl, tb2 218 rfl rfl, by decide +kernel⟩
theorem omX2_put : okV mX2_put 3 := ⟨⟨tb2 103 rfl rfl, tb1 2 rfl rfl, ⟨by decide, by decide⟩, by decide, by decide⟩, tb2 101 rfl rfl, tb2 102 rfl rfl, by decide +kernel⟩
theorem omX2_placeOf : okV mX2_placeOf 2 := ⟨⟨tb2 164 rfl rfl, tb1 2 rfl rfl, ⟨by decide, by decide⟩, by decide, by decide⟩, tb2 162 rfl rfl, tb2 163 rfl rfl, by decide +kernel⟩
theorem omX2_readAt : okV mX2_readAt 2 := ⟨⟨tb2 160 rfl rfl, tb1 2 rfl rfl, ⟨by decide, by decide⟩, by decide, by decide⟩, tb2 158 rfl rfl, tb2 159 rfl rfl, by decide +kernel⟩
theorem omX2_manyIn : okV mX2_manyIn 2 := ⟨⟨tb2 215 rfl rfl, tb1 2 rfl rfl, ⟨by decide, by decide⟩, by decide, by decide⟩, tb2 213 rfl rfl, tb2 214 rfl rfl, by decide +kernel⟩
theorem omX2_manyInAll : okV mX2_manyInAll 1 := ⟨⟨tb2 211 rfl rfl, tb1 2 rfl rfl, ⟨by decide, by decide⟩, by decide, by decide⟩, tb2 209 rfl rfl, tb2 210 rfl rfl, by decide +kernel⟩
theorem omX2_sameBeads : okV mX2_sameBeads 2 := ⟨⟨tb3 172 rfl rfl, tb1 2 rfl rfl, ⟨by decide, by decide⟩, by decide, by decide⟩, tb3 170 rfl rfl, tb3 171 rfl rfl, by decide +kernel⟩
theorem omX2_sameLine : okV mX2_sameLine 3 := ⟨⟨tb2 156 rfl rfl, tb1 2 rfl rfl, ⟨by decide, by decide⟩, by decide, by decide⟩, tb2 154 rfl rfl, tb2 155 rfl rfl, by decide +kernel⟩
theorem omX2_likeAhead : okV mX2_likeAhead 2 := ⟨⟨tb2 152 rfl rfl, tb1 2 rfl rfl, ⟨by decide, by decide⟩, by decide, by decide⟩, tb2 150 rfl rfl, tb2 151 rfl rfl, by decide +kernel⟩
theorem omX2_firstLike : okV mX2_firstLike 1 := ⟨⟨tb3 8 rfl rfl, tb1 2 rfl rfl, ⟨by decide, by decide⟩, by decide, by decide⟩, tb3 6 rfl rfl, tb3 7 rfl rfl, by decide +kernel⟩
theorem omX2_manyLike : okV mX2_manyLike 1 := ⟨⟨tb3 12 rfl rfl, tb1 2 rfl rfl, ⟨by decide, by decide⟩, by decide, by decide⟩, tb3 10 rfl rfl, tb3 11 rfl rfl, by decide +kernel⟩
theorem omX2_linesUnlike : okV mX2_linesUnlike 0 := ⟨⟨tb2 194 rfl rfl, tb1 2 rfl rfl, ⟨by decide, by decide⟩, by decide, by decide⟩, tb2 192 rfl rfl, tb2 193 rfl rfl, by decide +kernel⟩
theorem omX2_runsOf : okV mX2_runsOf 1 := ⟨⟨tb2 203 rfl rfl, tb1 2 rfl rfl, ⟨by decide, by decide⟩, by decide, by decide⟩, tb2 201 rfl rfl, tb2 202 rfl rfl, by decide +kernel⟩
theorem omX2_runsInAll : okV mX2_runsInAll 0 := ⟨⟨tb2 199 rfl rfl, tb1 2 rfl rfl, ⟨by decide, by decide⟩, by decide, by decide⟩, tb2 197 rfl rfl, tb2 198 rfl rfl, by decide +kernel⟩
theorem omX2_partOf : okV mX2_partOf 1 := ⟨⟨tb2 182 rfl rfl, tb1 2 rfl rfl, ⟨by decide, by decide⟩, by decide, by decide⟩, tb2 180 rfl rfl, tb2 181 rfl rfl, by decide +kernel⟩
theorem omX2_comesAgain : okV mX2_comesAgain 2 := ⟨⟨tb2 186 rfl rfl, tb1 2 rfl rfl, ⟨by decide, by decide⟩, by decide, by decide⟩, tb2 185 rfl rfl, pv1 13 rfl, by decide +kernel⟩
theorem omX2_rowOfPlan : okV mX2_rowOfPlan 1 := ⟨⟨tb3 103 rfl rfl, tb1 2 rfl rfl, ⟨by decide, by decide⟩, by decide, by decide⟩, tb3 101 rfl rfl, tb3 102 rfl rfl, by decide +kernel⟩
theorem omX2_placeOfPlan : okV mX2_placeOfPlan 1 := ⟨⟨tb3 107 rfl rfl, tb1 2 rfl rfl, ⟨by decide, by decide⟩, by decide, by decide⟩, tb3 105 rfl rfl, tb3 106 rfl rfl, by decide +kernel⟩
theorem omX2_planAt : okV mX2_planAt 1 := ⟨⟨tb3 98 rfl rfl, tb1 2 rfl rfl, ⟨by decide, by decide⟩, by decide, by decide⟩, tb3 96 rfl rfl, tb3 97 rfl rfl, by decide +kernel⟩
theorem omX2_takeRow : okV mX2_takeRow 1 := ⟨⟨tb2 99 rfl rfl, tb1 2 rfl rfl, ⟨by decide, by decide⟩, by decide, by decide⟩, tb2 97 rfl rfl, tb2 98 rfl rfl, by decide +kernel⟩
theorem omX2_takeLine : okV mX2_takeLine 2 := ⟨⟨tb3 76 rfl rfl, tb1 2 rfl rfl, ⟨by decide, by decide⟩, by decide, by decide⟩, tb3 74 rfl rfl, tb3 75 rfl rfl, by decide +kernel⟩
theorem omX2_copyRow : okV mX2_copyRow 2 := ⟨⟨tb3 160 rfl rfl, tb1 2 rfl rfl, ⟨by decide, by decide⟩, by decide, by decide⟩, tb3 158 rfl rfl, tb3 159 rfl rfl, by decide +kernel⟩
theorem omX2_dyeAll : okV mX2_dyeAll 2 := ⟨⟨tb3 140 rfl rfl, tb1 2 rfl rfl, ⟨by decide, by decide⟩, by decide, by decide⟩, tb3 138 rfl rfl, tb3 139 rfl rfl, by decide +kernel⟩
theorem omX2_turn : okV mX2_turn 1 := ⟨⟨tb3 148 rfl rfl, tb1 2 rfl rfl, ⟨by decide, by decide⟩, by decide, by decide⟩, tb3 146 rfl rfl, tb3 147 rfl rfl, by decide +kernel⟩
theorem omX2_moveOn : okV mX2_moveOn 1 := ⟨⟨tb3 152 rfl rfl, tb1 2 rfl rfl, ⟨by decide, by decide⟩, by decide, by decide⟩, tb3 150 rfl rfl, tb3 151 rfl rfl, by decide +kernel⟩
theorem omX2_drop : okV mX2_drop 1 := ⟨⟨tb3 156 rfl rfl, tb1 2 rfl rfl, ⟨by decide, by decide⟩, by decide, by decide⟩, tb3 154 rfl rfl, tb3 155 rfl rfl, by decide +kernel⟩
theorem omX2_repeat : okV mX2_repeat 1 := ⟨⟨tb3 164 rfl rfl, tb1 2 rfl rfl, ⟨by decide, by decide⟩, by decide, by decide⟩, tb3 162 rfl rfl, tb3 163 rfl rfl, by decide +kernel⟩
theorem omX2_exchange : okV mX2_exchange 2 := ⟨⟨tb3 176 rfl rfl, tb1 2 rfl rfl, ⟨by decide, by decide⟩, by decide, by decide⟩, tb3 174 rfl rfl, tb3 175 rfl rfl, by decide +kernel⟩
theorem omX3_readAll : okV mX3_readAll 1 := ⟨⟨tb2 11 rfl rfl, tb1 5 rfl rfl, ⟨by decide, by decide⟩, by decide, by decide⟩, tb2 9 rfl rfl, tb2 10 rfl rfl, by decide +kernel⟩
theorem omX3_readToken : okV mX3_readToken 1 := ⟨⟨tb2 19 rfl rfl, tb1 5 rfl rfl, ⟨by decide, by decide⟩, by decide, by decide⟩, tb2 18 rfl rfl, pv1 0 rfl, by decide +kernel⟩
theorem omX3_readLine : okV mX3_readLine 1 := ⟨⟨tb2 27 rfl rfl, tb1 5 rfl rfl, ⟨by decide, by decide⟩, by decide, by decide⟩, tb2 26 rfl rfl, pv1 1 rfl, by decide +kernel⟩
theorem omX3_readRow : okV mX3_readRow 1 := ⟨⟨tb2 88 rfl rfl, tb1 5 rfl rfl, ⟨by decide, by decide⟩, by decide, by decide⟩, tb2 87 rfl rfl, pv1 4 rfl, by decide +kernel⟩
theorem omX3_readFro : okV mX3_readFro 1 := ⟨⟨tb2 112 rfl rfl, tb1 5 rfl rfl, ⟨by decide, by decide⟩, by decide, by decide⟩, tb2 111 rfl rfl, pv1 7 rfl, by decide +kernel⟩
theorem omX3_readSign : okV mX3_readSign 1 := ⟨⟨tb2 107 rfl rfl, tb1 5 rfl rfl, ⟨by decide, by decide⟩, by decide, by decide⟩, tb2 106 rfl rfl, pv1 6 rfl, by decide +kernel⟩
theorem omX3_unfit : okV mX3_unfit 0 := ⟨⟨tb2 31 rfl rfl, tb1 5 rfl rfl, ⟨by decide, by decide⟩, by decide, by decide⟩, tb2 30 rfl rfl, pv1 2 rfl, by decide +kernel⟩
theorem omX3_isName : okV mX3_isName 2 := ⟨⟨tb2 36 rfl rfl, tb1 5 rfl rfl, ⟨by decide, by decide⟩, by decide, by decide⟩, tb2 35 rfl rfl, pv1 3 rfl, by decide +kernel⟩
theorem omX3_isBeads : okV mX3_isBeads 1 := ⟨⟨tb2 92 rfl rfl, tb1 5 rfl rfl, ⟨by decide, by decide⟩, by decide, by decide⟩, tb2 91 rfl rfl, pv1 5 rfl, by decide +kernel⟩
theorem omX4_renew : okV mX4_renew 2 := ⟨⟨tb3 221 rfl rfl, tb1 10 rfl rfl, ⟨by decide, by decide⟩, by decide, by decide⟩, tb3 219 rfl rfl, tb3 220 rfl rfl, by decide +kernel⟩
theorem omX4_faultAt : okV mX4_faultAt 2 := ⟨⟨tb3 229 rfl rfl, tb1 10 rfl rfl, ⟨by decide, by decide⟩, by decide, by decide⟩, tb3 227 rfl rfl, tb3 228 rfl rfl, by decide +kernel⟩
theorem omX4_put : okV mX4_put 2 := ⟨⟨tb3 233 rfl rfl, tb1 10 rfl rfl, ⟨by decide, by decide⟩, by decide, by decide⟩, tb3 231 rfl rfl, tb3 232 rfl rfl, by decide +kernel⟩
theorem omX5_take : okV mX5_take 1 := ⟨⟨tb3 30 rfl rfl, tb1 7 rfl rfl, ⟨by decide, by decide⟩, by decide, by decide⟩, tb3 28 rfl rfl, tb3 29 rfl rfl, by decide +kernel⟩
theorem omX5_speak : okV mX5_speak 1 := ⟨⟨tb3 42 rfl rfl, tb1 7 rfl rfl, ⟨by decide, by decide⟩, by decide, by decide⟩, tb3 40 rfl rfl, tb3 41 rfl rfl, by decide +kernel⟩
theorem omX5_speakLike : okV mX5_speakLike 2 := ⟨⟨tb3 46 rfl rfl, tb1 7 rfl rfl, ⟨by decide, by decide⟩, by decide, by decide⟩, tb3 45 rfl rfl, pv2 0 rfl, by decide +kernel⟩
theorem omX5_speakMirror : okV mX5_speakMirror 1 := ⟨⟨tb3 52 rfl rfl, tb1 7 rfl rfl, ⟨by decide, by decide⟩, by decide, by decide⟩, tb3 51 rfl rfl, pv2 1 rfl, by decide +kernel⟩
theorem omX5_speakTimes : okV mX5_speakTimes 1 := ⟨⟨tb3 61 rfl rfl, tb1 7 rfl rfl, ⟨by decide, by decide⟩, by decide, by decide⟩, tb3 60 rfl rfl, pv2 3 rfl, by decide +kernel⟩
theorem omX5_speakRuns : okV mX5_speakRuns 1 := ⟨⟨tb3 56 rfl rfl, tb1 7 rfl rfl, ⟨by decide, by decide⟩, by decide, by decide⟩, tb3 55 rfl rfl, pv2 2 rfl, by decide +kernel⟩
theorem omX5_fitting : okT mX5_fitting 2 := ⟨⟨tb3 64 rfl rfl, tb1 7 rfl rfl, ⟨by decide, by decide⟩, by decide, by decide⟩, tb3 63 rfl rfl, by decide +kernel⟩
theorem omX6_become : okV mX6_become 1 := ⟨⟨tb3 202 rfl rfl, tb1 3 rfl rfl, ⟨by decide, by decide⟩, by decide, by decide⟩, tb3 200 rfl rfl, tb3 201 rfl rfl, by decide +kernel⟩
theorem omX6_take : okV mX6_take 1 := ⟨⟨tb3 86 rfl rfl, tb1 3 rfl rfl, ⟨by decide, by decide⟩, by decide, by decide⟩, tb3 84 rfl rfl, tb3 85 rfl rfl, by decide +kernel⟩
theorem omX6_firstWrong : okV mX6_firstWrong 1 := ⟨⟨tb3 115 rfl rfl, tb1 3 rfl rfl, ⟨by decide, by decide⟩, by decide, by decide⟩, tb3 113 rfl rfl, tb3 114 rfl rfl, by decide +kernel⟩
theorem omX6_asTold : okV mX6_asTold 3 := ⟨⟨tb3 126 rfl rfl, tb1 3 rfl rfl, ⟨by decide, by decide⟩, by decide, by decide⟩, tb3 124 rfl rfl, tb3 125 rfl rfl, by decide +kernel⟩
theorem omX6_kindOf : okV mX6_kindOf 2 := ⟨⟨tb3 122 rfl rfl, tb1 3 rfl rfl, ⟨by decide, by decide⟩, by decide, by decide⟩, tb3 120 rfl rfl, tb3 121 rfl rfl, by decide +kernel⟩
theorem omX7_take : okV mX7_take 1 := ⟨⟨tb1 239 rfl rfl, tb1 4 rfl rfl, ⟨by decide, by decide⟩, by decide, by decide⟩, tb1 237 rfl rfl, tb1 238 rfl rfl, by decide +kernel⟩
theorem omX7_isLetter : okV mX7_isLetter 1 := ⟨⟨tb2 23 rfl rfl, tb1 4 rfl rfl, ⟨by decide, by decide⟩, by decide, by decide⟩, tb2 21 rfl rfl, tb2 22 rfl rfl, by decide +kernel⟩
theorem omX8_tellBest : okV mX8_tellBest 2 := ⟨⟨tb2 140 rfl rfl, tb1 6 rfl rfl, ⟨by decide, by decide⟩, by decide, by decide⟩, tb2 138 rfl rfl, tb2 139 rfl rfl, by decide +kernel⟩
theorem omX8_tellBy : okV mX8_tellBy 3 := ⟨⟨tb2 144 rfl rfl, tb1 6 rfl rfl, ⟨by decide, by decide⟩, by decide, by decide⟩, tb2 142 rfl rfl, tb2 143 rfl rfl, by decide +kernel⟩
theorem omX8_put : okV mX8_put 1 := ⟨⟨tb2 148 rfl rfl, tb1 6 rfl rfl, ⟨by decide, by decide⟩, by decide, by decide⟩, tb2 147 rfl rfl, pv1 9 rfl, by decide +kernel⟩
theorem omX8_tellLike : okV mX8_tellLike 1 := ⟨⟨tb2 168 rfl rfl, tb1 6 rfl rfl, ⟨by decide, by decide⟩, by decide, by decide⟩, tb2 167 rfl rfl, pv1 10 rfl, by decide +kernel⟩
theorem omX8_tellMirror : okV mX8_tellMirror 2 := ⟨⟨tb2 172 rfl rfl, tb1 6 rfl rfl, ⟨by decide, by decide⟩, by decide, by decide⟩, tb2 171 rfl rfl, pv1 11 rfl, by decide +kernel⟩
theorem omX8_tellTimes : okV mX8_tellTimes 3 := ⟨⟨tb2 190 rfl rfl, tb1 6 rfl rfl, ⟨by decide, by decide⟩, by decide, by decide⟩, tb2 189 rfl rfl, pv1 14 rfl, by decide +kernel⟩
theorem omX8_tellRuns : okV mX8_tellRuns 3 := ⟨⟨tb2 177 rfl rfl, tb1 6 rfl rfl, ⟨by decide, by decide⟩, by decide, by decide⟩, tb2 176 rfl rfl, pv1 12 rfl, by decide +kernel⟩
theorem omX9_feed : okV mX9_feed 1 := ⟨⟨tb1 235 rfl rfl, tb1 1 rfl rfl, ⟨by decide, by decide⟩, by decide, by decide⟩, tb1 233 rfl rfl, tb1 234 rfl rfl, by decide +kernel⟩
theorem omX9_end : okV mX9_end 1 := ⟨⟨tb2 3 rfl rfl, tb1 1 rfl rfl, ⟨by decide, by decide⟩, by decide, by decide⟩, tb2 1 rfl rfl, tb2 2 rfl rfl, by decide +kernel⟩
theorem omX9_text : okV mX9_text 0 := ⟨⟨tb2 7 rfl rfl, tb1 1 rfl rfl, ⟨by decide, by decide⟩, by decide, by decide⟩, tb2 5 rfl rfl, tb2 6 rfl rfl, by decide +kernel⟩
theorem omX9_fault : okV mX9_fault 0 := ⟨⟨tb2 124 rfl rfl, tb1 1 rfl rfl, ⟨by decide, by decide⟩, by decide, by decide⟩, tb2 122 rfl rfl, tb2 123 rfl rfl, by decide +kernel⟩
theorem omX9_rule : okV mX9_rule 1 := ⟨⟨tb2 128 rfl rfl, tb1 1 rfl rfl, ⟨by decide, by decide⟩, by decide, by decide⟩, tb2 126 rfl rfl, tb2 127 rfl rfl, by decide +kernel⟩
theorem omX9_bead : okV mX9_bead 2 := ⟨⟨tb2 223 rfl rfl, tb1 1 rfl rfl, ⟨by decide, by decide⟩, by decide, by decide⟩, tb2 221 rfl rfl, tb2 222 rfl rfl, by decide +kernel⟩
theorem omX9_many : okV mX9_many 2 := ⟨⟨tb2 236 rfl rfl, tb1 1 rfl rfl, ⟨by decide, by decide⟩, by decide, by decide⟩, tb2 234 rfl rfl, tb2 235 rfl rfl, by decide +kernel⟩
theorem omX9_row : okV mX9_row 2 := ⟨⟨tb3 3 rfl rfl, tb1 1 rfl rfl, ⟨by decide, by decide⟩, by decide, by decide⟩, tb3 1 rfl rfl, tb3 2 rfl rfl, by decide +kernel⟩
theorem omX9_words : okV mX9_words 2 := ⟨⟨tb3 17 rfl rfl, tb1 1 rfl rfl, ⟨by decide, by decide⟩, by decide, by decide⟩, tb3 15 rfl rfl, tb3 16 rfl rfl, by decide +kernel⟩
theorem omX9_word : okV mX9_word 2 := ⟨⟨tb3 22 rfl rfl, tb1 1 rfl rfl, ⟨by decide, by decide⟩, by decide, by decide⟩, tb3 20 rfl rfl, tb3 21 rfl rfl, by decide +kernel⟩
theorem omX9_tell : okV mX9_tell 1 := ⟨⟨tb3 26 rfl rfl, tb1 1 rfl rfl, ⟨by decide, by decide⟩, by decide, by decide⟩, tb3 24 rfl rfl, tb3 25 rfl rfl, by decide +kernel⟩
theorem omX9_tear : okV mX9_tear 0 := ⟨⟨tb3 34 rfl rfl, tb1 1 rfl rfl, ⟨by decide, by decide⟩, by decide, by decide⟩, tb3 32 rfl rfl, tb3 33 rfl rfl, by decide +kernel⟩
theorem omX9_spoken : okV mX9_spoken 0 := ⟨⟨tb3 38 rfl rfl, tb1 1 rfl rfl, ⟨by decide, by decide⟩, by decide, by decide⟩, tb3 36 rfl rfl, tb3 37 rfl rfl, by decide +kernel⟩
theorem omX9_said : okV mX9_said 1 := ⟨⟨tb3 68 rfl rfl, tb1 1 rfl rfl, ⟨by decide, by decide⟩, by decide, by decide⟩, tb3 66 rfl rfl, tb3 67 rfl rfl, by decide +kernel⟩
theorem omX9_add : okV mX9_add 0 := ⟨⟨tb3 72 rfl rfl, tb1 1 rfl rfl, ⟨by decide, by decide⟩, by decide, by decide⟩, tb3 70 rfl rfl, tb3 71 rfl rfl, by decide +kernel⟩
theorem omX9_string : okV mX9_string 1 := ⟨⟨tb3 82 rfl rfl, tb1 1 rfl rfl, ⟨by decide, by decide⟩, by decide, by decide⟩, tb3 80 rfl rfl, tb3 81 rfl rfl, by decide +kernel⟩
theorem omX9_off : okV mX9_off 1 := ⟨⟨tb3 90 rfl rfl, tb1 1 rfl rfl, ⟨by decide, by decide⟩, by decide, by decide⟩, tb3 88 rfl rfl, tb3 89 rfl rfl, by decide +kernel⟩
theorem omX9_plan : okV mX9_plan 1 := ⟨⟨tb3 94 rfl rfl, tb1 1 rfl rfl, ⟨by decide, by decide⟩, by decide, by decide⟩, tb3 92 rfl rfl, tb3 93 rfl rfl, by decide +kernel⟩
theorem omX9_mistake : okV mX9_mistake 1 := ⟨⟨tb3 111 rfl rfl, tb1 1 rfl rfl, ⟨by decide, by decide⟩, by decide, by decide⟩, tb3 109 rfl rfl, tb3 110 rfl rfl, by decide +kernel⟩
theorem omX9_paint : okV mX9_paint 3 := ⟨⟨tb3 131 rfl rfl, tb1 1 rfl rfl, ⟨by decide, by decide⟩, by decide, by decide⟩, tb3 129 rfl rfl, tb3 130 rfl rfl, by decide +kernel⟩
theorem omX9_dye : okV mX9_dye 2 := ⟨⟨tb3 136 rfl rfl, tb1 1 rfl rfl, ⟨by decide, by decide⟩, by decide, by decide⟩, tb3 134 rfl rfl, tb3 135 rfl rfl, by decide +kernel⟩
theorem omX9_change : okV mX9_change 2 := ⟨⟨tb3 144 rfl rfl, tb1 1 rfl rfl, ⟨by decide, by decide⟩, by decide, by decide⟩, tb3 142 rfl rfl, tb3 143 rfl rfl, by decide +kernel⟩
theorem omX9_swap : okV mX9_swap 2 := ⟨⟨tb3 168 rfl rfl, tb1 1 rfl rfl, ⟨by decide, by decide⟩, by decide, by decide⟩, tb3 166 rfl rfl, tb3 167 rfl rfl, by decide +kernel⟩
theorem omX9_mode : okV mX9_mode 1 := ⟨⟨tb3 180 rfl rfl, tb1 1 rfl rfl, ⟨by decide, by decide⟩, by decide, by decide⟩, tb3 178 rfl rfl, tb3 179 rfl rfl, by decide +kernel⟩
theorem omX9_draw : okV mX9_draw 4 := ⟨⟨tb3 184 rfl rfl, tb1 1 rfl rfl, ⟨by decide, by decide⟩, by decide, by decide⟩, tb3 182 rfl rfl, tb3 183 rfl rfl, by decide +kernel⟩
theorem omX9_keep : okV mX9_keep 1 := ⟨⟨tb3 198 rfl rfl, tb1 1 rfl rfl, ⟨by decide, by decide⟩, by decide, by decide⟩, tb3 196 rfl rfl, tb3 197 rfl rfl, by decide +kernel⟩
theorem omX9_back : okV mX9_back 1 := ⟨⟨tb3 207 rfl rfl, tb1 1 rfl rfl, ⟨by decide, by decide⟩, by decide, by decide⟩, tb3 205 rfl rfl, tb3 206 rfl rfl, by decide +kernel⟩
theorem omX9_sheet : okV mX9_sheet 3 := ⟨⟨tb3 211 rfl rfl, tb1 1 rfl rfl, ⟨by decide, by decide⟩, by decide, by decide⟩, tb3 209 rfl rfl, tb3 210 rfl rfl, by decide +kernel⟩
theorem omX9_lay : okV mX9_lay 3 := ⟨⟨tb3 225 rfl rfl, tb1 1 rfl rfl, ⟨by decide, by decide⟩, by decide, by decide⟩, tb3 223 rfl rfl, tb3 224 rfl rfl, by decide +kernel⟩
theorem omX9_run : okV mX9_run 4 := ⟨⟨tb3 237 rfl rfl, tb1 1 rfl rfl, ⟨by decide, by decide⟩, by decide, by decide⟩, tb3 235 rfl rfl, tb3 236 rfl rfl, by decide +kernel⟩
theorem omX9_torn : okV mX9_torn 0 := ⟨⟨tb4 2 rfl rfl, tb1 1 rfl rfl, ⟨by decide, by decide⟩, by decide, by decide⟩, tb4 0 rfl rfl, tb4 1 rfl rfl, by decide +kernel⟩
theorem omX9_count : okV mX9_count 1 := ⟨⟨tb4 6 rfl rfl, tb1 1 rfl rfl, ⟨by decide, by decide⟩, by decide, by decide⟩, tb4 4 rfl rfl, tb4 5 rfl rfl, by decide +kernel⟩
theorem omX9_isColour : okT mX9_isColour 1 := ⟨⟨tb2 95 rfl rfl, tb1 1 rfl rfl, ⟨by decide, by decide⟩, by decide, by decide⟩, tb2 94 rfl rfl, by decide +kernel⟩
theorem omX9_isSheet : okT mX9_isSheet 1 := ⟨⟨tb3 214 rfl rfl, tb1 1 rfl rfl, ⟨by decide, by decide⟩, by decide, by decide⟩, tb3 213 rfl rfl, by decide +kernel⟩
theorem omX9_isLane : okT mX9_isLane 1 := ⟨⟨tb3 217 rfl rfl, tb1 1 rfl rfl, ⟨by decide, by decide⟩, by decide, by decide⟩, tb3 216 rfl rfl, by decide +kernel⟩
theorem omX9_wordsInAll : okV mX9_wordsInAll 0 := ⟨⟨tb2 136 rfl rfl, tb1 1 rfl rfl, ⟨by decide, by decide⟩, by decide, by decide⟩, tb2 135 rfl rfl, pv1 8 rfl, by decide +kernel⟩
theorem omX9_coloursInAll : okV mX9_coloursInAll 0 := ⟨⟨tb2 207 rfl rfl, tb1 1 rfl rfl, ⟨by decide, by decide⟩, by decide, by decide⟩, tb2 206 rfl rfl, pv1 15 rfl, by decide +kernel⟩
theorem omX9_imagesThere : okV mX9_imagesThere 0 := ⟨⟨tb4 10 rfl rfl, tb1 1 rfl rfl, ⟨by decide, by decide⟩, by decide, by decide⟩, tb4 9 rfl rfl, pv2 5 rfl, by decide +kernel⟩
theorem omX9_drawRow : okV mX9_drawRow 2 := ⟨⟨tb3 188 rfl rfl, tb1 1 rfl rfl, ⟨by decide, by decide⟩, by decide, by decide⟩, tb3 187 rfl rfl, pv2 4 rfl, by decide +kernel⟩
theorem omX10_in : okT mX10_in 3 := ⟨⟨tb4 86 rfl rfl, tb1 11 rfl rfl, ⟨by decide, by decide⟩, by decide, by decide⟩, tb4 85 rfl rfl, by decide +kernel⟩
theorem omX10_flag : okT mX10_flag 1 := ⟨⟨tb4 179 rfl rfl, tb1 11 rfl rfl, ⟨by decide, by decide⟩, by decide, by decide⟩, tb4 178 rfl rfl, by decide +kernel⟩
theorem omX10_feed : okV mX10_feed 1 := ⟨⟨tb4 82 rfl rfl, tb1 11 rfl rfl, ⟨by decide, by decide⟩, by decide, by decide⟩, tb4 80 rfl rfl, tb4 81 rfl rfl, by decide +kernel⟩
theorem omX10_end : okV mX10_end 1 := ⟨⟨tb4 90 rfl rfl, tb1 11 rfl rfl, ⟨by decide, by decide⟩, by decide, by decide⟩, tb4 88 rfl rfl, tb4 89 rfl rfl, by decide +kernel⟩
theorem omX10_requires : okV mX10_requires 2 := ⟨⟨tb4 108 rfl rfl, tb1 11 rfl rfl, ⟨by decide, by decide⟩, by decide, by decide⟩, tb4 107 rfl rfl, pv2 8 rfl, by decide +kernel⟩
theorem omX10_byteAt : okV mX10_byteAt 1 := ⟨⟨tb4 102 rfl rfl, tb1 11 rfl rfl, ⟨by decide, by decide⟩, by decide, by decide⟩, tb4 101 rfl rfl, pv2 7 rfl, by decide +kernel⟩
theorem omX10_reads : okV mX10_reads 0 := ⟨⟨tb4 98 rfl rfl, tb1 11 rfl rfl, ⟨by decide, by decide⟩, by decide, by decide⟩, tb4 97 rfl rfl, pv2 6 rfl, by decide +kernel⟩
theorem omX10_is : okV mX10_is 3 := ⟨⟨tb4 116 rfl rfl, tb1 11 rfl rfl, ⟨by decide, by decide⟩, by decide, by decide⟩, tb4 115 rfl rfl, pv2 10 rfl, by decide +kernel⟩
theorem omX10_areBeads : okV mX10_areBeads 0 := ⟨⟨tb4 124 rfl rfl, tb1 11 rfl rfl, ⟨by decide, by decide⟩, by decide, by decide⟩, tb4 123 rfl rfl, pv2 12 rfl, by decide +kernel⟩
theorem omX10_readRow : okV mX10_readRow 0 := ⟨⟨tb4 120 rfl rfl, tb1 11 rfl rfl, ⟨by decide, by decide⟩, by decide, by decide⟩, tb4 119 rfl rfl, pv2 11 rfl, by decide +kernel⟩
theorem omX10_readLine : okV mX10_readLine 0 := ⟨⟨tb4 112 rfl rfl, tb1 11 rfl rfl, ⟨by decide, by decide⟩, by decide, by decide⟩, tb4 111 rfl rfl, pv2 9 rfl, by decide +kernel⟩
theorem omX10_text : okV mX10_text 0 := ⟨⟨tb4 94 rfl rfl, tb1 11 rfl rfl, ⟨by decide, by decide⟩, by decide, by decide⟩, tb4 92 rfl rfl, tb4 93 rfl rfl, by decide +kernel⟩
theorem omX10_fault : okV mX10_fault 0 := ⟨⟨tb4 128 rfl rfl, tb1 11 rfl rfl, ⟨by decide, by decide⟩, by decide, by decide⟩, tb4 126 rfl rfl, tb4 127 rfl rfl, by decide +kernel⟩
theorem omX10_isRow : okV mX10_isRow 1 := ⟨⟨tb4 207 rfl rfl, tb1 11 rfl rfl, ⟨by decide, by decide⟩, by decide, by decide⟩, tb4 206 rfl rfl, pv3 13 rfl, by decide +kernel⟩
theorem omX10_isColour : okT mX10_isColour 1 := ⟨⟨tb4 214 rfl rfl, tb1 11 rfl rfl, ⟨by decide, by decide⟩, by decide, by decide⟩, tb4 213 rfl rfl, by decide +kernel⟩
theorem omX10_beadOf : okV mX10_beadOf 2 := ⟨⟨tb4 172 rfl rfl, tb1 11 rfl rfl, ⟨by decide, by decide⟩, by decide, by decide⟩, tb4 171 rfl rfl, pv3 6 rfl, by decide +kernel⟩
theorem omX10_isBack : okV mX10_isBack 1 := ⟨⟨tb4 168 rfl rfl, tb1 11 rfl rfl, ⟨by decide, by decide⟩, by decide, by decide⟩, tb4 167 rfl rfl, pv3 5 rfl, by decide +kernel⟩
theorem omX10_lineOf : okV mX10_lineOf 2 := ⟨⟨tb4 164 rfl rfl, tb1 11 rfl rfl, ⟨by decide, by decide⟩, by decide, by decide⟩, tb4 163 rfl rfl, pv3 4 rfl, by decide +kernel⟩
theorem omX10_isSame : okV mX10_isSame 3 := ⟨⟨tb4 160 rfl rfl, tb1 11 rfl rfl, ⟨by decide, by decide⟩, by decide, by decide⟩, tb4 159 rfl rfl, pv3 3 rfl, by decide +kernel⟩
theorem omX10_likeOf : okV mX10_likeOf 3 := ⟨⟨tb4 156 rfl rfl, tb1 11 rfl rfl, ⟨by decide, by decide⟩, by decide, by decide⟩, tb4 155 rfl rfl, pv3 2 rfl, by decide +kernel⟩
theorem omX10_runsOf : okV mX10_runsOf 2 := ⟨⟨tb4 176 rfl rfl, tb1 11 rfl rfl, ⟨by decide, by decide⟩, by decide, by decide⟩, tb4 175 rfl rfl, pv3 7 rfl, by decide +kernel⟩
theorem omX10_partOf : okV mX10_partOf 1 := ⟨⟨tb4 183 rfl rfl, tb1 11 rfl rfl, ⟨by decide, by decide⟩, by decide, by decide⟩, tb4 182 rfl rfl, pv3 8 rfl, by decide +kernel⟩
theorem omX10_wordsBy : okV mX10_wordsBy 2 := ⟨⟨tb4 152 rfl rfl, tb1 11 rfl rfl, ⟨by decide, by decide⟩, by decide, by decide⟩, tb4 151 rfl rfl, pv3 1 rfl, by decide +kernel⟩
theorem omX10_formOf : okV mX10_formOf 1 := ⟨⟨tb4 148 rfl rfl, tb1 11 rfl rfl, ⟨by decide, by decide⟩, by decide, by decide⟩, tb4 147 rfl rfl, pv3 0 rfl, by decide +kernel⟩
theorem omX10_wordOf : okV mX10_wordOf 2 := ⟨⟨tb4 236 rfl rfl, tb1 11 rfl rfl, ⟨by decide, by decide⟩, by decide, by decide⟩, tb4 235 rfl rfl, pv3 15 rfl, by decide +kernel⟩
theorem omX10_allWords : okV mX10_allWords 0 := ⟨⟨tb4 144 rfl rfl, tb1 11 rfl rfl, ⟨by decide, by decide⟩, by decide, by decide⟩, tb4 143 rfl rfl, pv2 15 rfl, by decide +kernel⟩
theorem omX10_unlike : okV mX10_unlike 0 := ⟨⟨tb4 187 rfl rfl, tb1 11 rfl rfl, ⟨by decide, by decide⟩, by decide, by decide⟩, tb4 186 rfl rfl, pv3 9 rfl, by decide +kernel⟩
theorem omX10_allRuns : okV mX10_allRuns 0 := ⟨⟨tb4 191 rfl rfl, tb1 11 rfl rfl, ⟨by decide, by decide⟩, by decide, by decide⟩, tb4 190 rfl rfl, pv3 10 rfl, by decide +kernel⟩
theorem omX10_width : okV mX10_width 0 := ⟨⟨tb4 136 rfl rfl, tb1 11 rfl rfl, ⟨by decide, by decide⟩, by decide, by decide⟩, tb4 135 rfl rfl, pv2 13 rfl, by decide +kernel⟩
theorem omX10_beads : okV mX10_beads 0 := ⟨⟨tb4 140 rfl rfl, tb1 11 rfl rfl, ⟨by decide, by decide⟩, by decide, by decide⟩, tb4 139 rfl rfl, pv2 14 rfl, by decide +kernel⟩
theorem omX10_manyOf : okV mX10_manyOf 2 := ⟨⟨tb4 199 rfl rfl, tb1 11 rfl rfl, ⟨by decide, by decide⟩, by decide, by decide⟩, tb4 198 rfl rfl, pv3 12 rfl, by decide +kernel⟩
theorem omX10_colours : okV mX10_colours 0 := ⟨⟨tb4 195 rfl rfl, tb1 11 rfl rfl, ⟨by decide, by decide⟩, by decide, by decide⟩, tb4 194 rfl rfl, pv3 11 rfl, by decide +kernel⟩
theorem omX10_rule : okV mX10_rule 1 := ⟨⟨tb4 132 rfl rfl, tb1 11 rfl rfl, ⟨by decide, by decide⟩, by decide, by decide⟩, tb4 130 rfl rfl, tb4 131 rfl rfl, by decide +kernel⟩
theorem omX10_bead : okV mX10_bead 2 := ⟨⟨tb4 203 rfl rfl, tb1 11 rfl rfl, ⟨by decide, by decide⟩, by decide, by decide⟩, tb4 201 rfl rfl, tb4 202 rfl rfl, by decide +kernel⟩
theorem omX10_many : okV mX10_many 2 := ⟨⟨tb4 211 rfl rfl, tb1 11 rfl rfl, ⟨by decide, by decide⟩, by decide, by decide⟩, tb4 209 rfl rfl, tb4 210 rfl rfl, by decide +kernel⟩
theorem omX10_likes : okV mX10_likes 1 := ⟨⟨tb4 223 rfl rfl, tb1 11 rfl rfl, ⟨by decide, by decide⟩, by decide, by decide⟩, tb4 222 rfl rfl, pv3 14 rfl, by decide +kernel⟩
theorem omX10_row : okV mX10_row 2 := ⟨⟨tb4 219 rfl rfl, tb1 11 rfl rfl, ⟨by decide, by decide⟩, by decide, by decide⟩, tb4 217 rfl rfl, tb4 218 rfl rfl, by decide +kernel⟩
theorem omX10_words : okV mX10_words 2 := ⟨⟨tb4 227 rfl rfl, tb1 11 rfl rfl, ⟨by decide, by decide⟩, by decide, by decide⟩, tb4 225 rfl rfl, tb4 226 rfl rfl, by decide +kernel⟩
theorem omX10_word : okV mX10_word 2 := ⟨⟨tb4 232 rfl rfl, tb1 11 rfl rfl, ⟨by decide, by decide⟩, by decide, by decide⟩, tb4 230 rfl rfl, tb4 231 rfl rfl, by decide +kernel⟩
theorem omX10_tell : okV mX10_tell 1 := ⟨⟨tb5 0 rfl rfl, tb1 11 rfl rfl, ⟨by decide, by decide⟩, by decide, by decide⟩, tb4 238 rfl rfl, tb4 239 rfl rfl, by decide +kernel⟩
theorem omX10_tear : okV mX10_tear 0 := ⟨⟨tb5 5 rfl rfl, tb1 11 rfl rfl, ⟨by decide, by decide⟩, by decide, by decide⟩, tb5 3 rfl rfl, tb5 4 rfl rfl, by decide +kernel⟩
theorem omX10_readRuns : okV mX10_readRuns 1 := ⟨⟨tb5 25 rfl rfl, tb1 11 rfl rfl, ⟨by decide, by decide⟩, by decide, by decide⟩, tb5 24 rfl rfl, pv4 3 rfl, by decide +kernel⟩
theorem omX10_readLike : okV mX10_readLike 1 := ⟨⟨tb5 17 rfl rfl, tb1 11 rfl rfl, ⟨by decide, by decide⟩, by decide, by decide⟩, tb5 16 rfl rfl, pv4 1 rfl, by decide +kernel⟩
theorem omX10_readMirror : okV mX10_readMirror 0 := ⟨⟨tb5 21 rfl rfl, tb1 11 rfl rfl, ⟨by decide, by decide⟩, by decide, by decide⟩, tb5 20 rfl rfl, pv4 2 rfl, by decide +kernel⟩
theorem omX10_readTimes : okV mX10_readTimes 0 := ⟨⟨tb5 30 rfl rfl, tb1 11 rfl rfl, ⟨by decide, by decide⟩, by decide, by decide⟩, tb5 29 rfl rfl, pv4 4 rfl, by decide +kernel⟩
theorem omX10_speaks : okV mX10_speaks 0 := ⟨⟨tb5 13 rfl rfl, tb1 11 rfl rfl, ⟨by decide, by decide⟩, by decide, by decide⟩, tb5 12 rfl rfl, pv4 0 rfl, by decide +kernel⟩
theorem omX10_spoken : okV mX10_spoken 0 := ⟨⟨tb5 9 rfl rfl, tb1 11 rfl rfl, ⟨by decide, by decide⟩, by decide, by decide⟩, tb5 7 rfl rfl, tb5 8 rfl rfl, by decide +kernel⟩
theorem omX10_said : okV mX10_said 1 := ⟨⟨tb5 35 rfl rfl, tb1 11 rfl rfl, ⟨by decide, by decide⟩, by decide, by decide⟩, tb5 33 rfl rfl, tb5 34 rfl rfl, by decide +kernel⟩
theorem omX10_add : okV mX10_add 0 := ⟨⟨tb5 39 rfl rfl, tb1 11 rfl rfl, ⟨by decide, by decide⟩, by decide, by decide⟩, tb5 37 rfl rfl, tb5 38 rfl rfl, by decide +kernel⟩
theorem omX10_string : okV mX10_string 1 := ⟨⟨tb5 43 rfl rfl, tb1 11 rfl rfl, ⟨by decide, by decide⟩, by decide, by decide⟩, tb5 41 rfl rfl, tb5 42 rfl rfl, by decide +kernel⟩
theorem omX10_off : okV mX10_off 1 := ⟨⟨tb5 47 rfl rfl, tb1 11 rfl rfl, ⟨by decide, by decide⟩, by decide, by decide⟩, tb5 45 rfl rfl, tb5 46 rfl rfl, by decide +kernel⟩
theorem omX10_planOf : okV mX10_planOf 1 := ⟨⟨tb5 55 rfl rfl, tb1 11 rfl rfl, ⟨by decide, by decide⟩, by decide, by decide⟩, tb5 54 rfl rfl, pv4 5 rfl, by decide +kernel⟩
theorem omX10_plan : okV mX10_plan 1 := ⟨⟨tb5 51 rfl rfl, tb1 11 rfl rfl, ⟨by decide, by decide⟩, by decide, by decide⟩, tb5 49 rfl rfl, tb5 50 rfl rfl, by decide +kernel⟩
theorem omX10_firstMistake : okV mX10_firstMistake 0 := ⟨⟨tb5 64 rfl rfl, tb1 11 rfl rfl, ⟨by decide, by decide⟩, by decide, by decide⟩, tb5 63 rfl rfl, pv4 6 rfl, by decide +kernel⟩
theorem omX10_asTold : okV mX10_asTold 2 := ⟨⟨tb5 72 rfl rfl, tb1 11 rfl rfl, ⟨by decide, by decide⟩, by decide, by decide⟩, tb5 71 rfl rfl, pv4 8 rfl, by decide +kernel⟩
theorem omX10_kindOf : okV mX10_kindOf 1 := ⟨⟨tb5 68 rfl rfl, tb1 11 rfl rfl, ⟨by decide, by decide⟩, by decide, by decide⟩, tb5 67 rfl rfl, pv4 7 rfl, by decide +kernel⟩
theorem omX10_mistake : okV mX10_mistake 1 := ⟨⟨tb5 59 rfl rfl, tb1 11 rfl rfl, ⟨by decide, by decide⟩, by decide, by decide⟩, tb5 57 rfl rfl, tb5 58 rfl rfl, by decide +kernel⟩
theorem omX10_paint : okV mX10_paint 3 := ⟨⟨tb5 76 rfl rfl, tb1 11 rfl rfl, ⟨by decide, by decide⟩, by decide, by decide⟩, tb5 74 rfl rfl, tb5 75 rfl rfl, by decide +kernel⟩
theorem omX10_dye : okV mX10_dye 2 := ⟨⟨tb5 80 rfl rfl, tb1 11 rfl rfl, ⟨by decide, by decide⟩, by decide, by decide⟩, tb5 78 rfl rfl, tb5 79 rfl rfl, by decide +kernel⟩
theorem omX10_copiesRow : okV mX10_copiesRow 2 := ⟨⟨tb5 97 rfl rfl, tb1 11 rfl rfl, ⟨by decide, by decide⟩, by decide, by decide⟩, tb5 96 rfl rfl, pv4 11 rfl, by decide +kernel⟩
theorem omX10_turns : okV mX10_turns 1 := ⟨⟨tb5 89 rfl rfl, tb1 11 rfl rfl, ⟨by decide, by decide⟩, by decide, by decide⟩, tb5 88 rfl rfl, pv4 9 rfl, by decide +kernel⟩
theorem omX10_goesOn : okV mX10_goesOn 1 := ⟨⟨tb5 93 rfl rfl, tb1 11 rfl rfl, ⟨by decide, by decide⟩, by decide, by decide⟩, tb5 92 rfl rfl, pv4 10 rfl, by decide +kernel⟩
theorem omX10_change : okV mX10_change 2 := ⟨⟨tb5 84 rfl rfl, tb1 11 rfl rfl, ⟨by decide, by decide⟩, by decide, by decide⟩, tb5 82 rfl rfl, tb5 83 rfl rfl, by decide +kernel⟩
theorem omX10_swap : okV mX10_swap 2 := ⟨⟨tb5 101 rfl rfl, tb1 11 rfl rfl, ⟨by decide, by decide⟩, by decide, by decide⟩, tb5 99 rfl rfl, tb5 100 rfl rfl, by decide +kernel⟩
theorem omX10_mode : okV mX10_mode 1 := ⟨⟨tb5 105 rfl rfl, tb1 11 rfl rfl, ⟨by decide, by decide⟩, by decide, by decide⟩, tb5 103 rfl rfl, tb5 104 rfl rfl, by decide +kernel⟩
theorem omX10_gets : okV mX10_gets 0 := ⟨⟨tb5 118 rfl rfl, tb1 11 rfl rfl, ⟨by decide, by decide⟩, by decide, by decide⟩, tb5 117 rfl rfl, pv4 13 rfl, by decide +kernel⟩
theorem omX10_drawsRow : okV mX10_drawsRow 3 := ⟨⟨tb5 114 rfl rfl, tb1 11 rfl rfl, ⟨by decide, by decide⟩, by decide, by decide⟩, tb5 113 rfl rfl, pv4 12 rfl, by decide +kernel⟩
theorem omX10_draw : okV mX10_draw 4 := ⟨⟨tb5 109 rfl rfl, tb1 11 rfl rfl, ⟨by decide, by decide⟩, by decide, by decide⟩, tb5 107 rfl rfl, tb5 108 rfl rfl, by decide +kernel⟩
theorem omX10_keep : okV mX10_keep 1 := ⟨⟨tb5 123 rfl rfl, tb1 11 rfl rfl, ⟨by decide, by decide⟩, by decide, by decide⟩, tb5 121 rfl rfl, tb5 122 rfl rfl, by decide +kernel⟩
theorem omX10_back : okV mX10_back 1 := ⟨⟨tb5 127 rfl rfl, tb1 11 rfl rfl, ⟨by decide, by decide⟩, by decide, by decide⟩, tb5 125 rfl rfl, tb5 126 rfl rfl, by decide +kernel⟩
theorem omX10_isSheet : okT mX10_isSheet 2 := ⟨⟨tb5 134 rfl rfl, tb1 11 rfl rfl, ⟨by decide, by decide⟩, by decide, by decide⟩, tb5 133 rfl rfl, by decide +kernel⟩
theorem omX10_sheet : okV mX10_sheet 3 := ⟨⟨tb5 131 rfl rfl, tb1 11 rfl rfl, ⟨by decide, by decide⟩, by decide, by decide⟩, tb5 129 rfl rfl, tb5 130 rfl rfl, by decide +kernel⟩
theorem omX10_lay : okV mX10_lay 3 := ⟨⟨tb5 138 rfl rfl, tb1 11 rfl rfl, ⟨by decide, by decide⟩, by decide, by decide⟩, tb5 136 rfl rfl, tb5 137 rfl rfl, by decide +kernel⟩
theorem omX10_run : okV mX10_run 4 := ⟨⟨tb5 142 rfl rfl, tb1 11 rfl rfl, ⟨by decide, by decide⟩, by decide, by decide⟩, tb5 140 rfl rfl, tb5 141 rfl rfl, by decide +kernel⟩
theorem omX10_torn : okV mX10_torn 0 := ⟨⟨tb5 148 rfl rfl, tb1 11 rfl rfl, ⟨by decide, by decide⟩, by decide, by decide⟩, tb5 146 rfl rfl, tb5 147 rfl rfl, by decide +kernel⟩
theorem omX10_count : okV mX10_count 1 := ⟨⟨tb5 152 rfl rfl, tb1 11 rfl rfl, ⟨by decide, by decide⟩, by decide, by decide⟩, tb5 150 rfl rfl, tb5 151 rfl rfl, by decide +kernel⟩
end
section
theorem inG0 : ∀ w ∈ u_ws RX0 TX0 1, w ∈ wsG := by
  intro w hw
  obtain ⟨k, hk, rfl⟩ := List.mem_map.mp hw
  have hk := List.mem_range.mp hk
  obtain rfl : k = 0 := by omega
  exact tb1 151 rfl rfl
theorem inG1 : ∀ w ∈ u_ws RX1 TX1 3, w ∈ wsG := by
  intro w hw
  obtain ⟨k, hk, rfl⟩ := List.mem_map.mp hw
  have hk := List.mem_range.mp hk
  rcases (show k = 0 ∨ k = 1 ∨ k = 2 by omega) with rfl | rfl | rfl
  · exact tb1 173 rfl rfl
  · exact tb1 175 rfl rfl
  · exact tb1 177 rfl rfl
theorem inG2 : ∀ w ∈ u_ws RX2 TX2 4, w ∈ wsG := by
  intro w hw
  obtain ⟨k, hk, rfl⟩ := List.mem_map.mp hw
  have hk := List.mem_range.mp hk
  rcases (show k = 0 ∨ k = 1 ∨ k = 2 ∨ k = 3 by omega) with rfl | rfl | rfl | rfl
  · exact tb1 44 rfl rfl
  · exact tb1 46 rfl rfl
  · exact tb1 48 rfl rfl
  · exact tb1 50 rfl rfl
theorem inG3 : ∀ w ∈ u_ws RX3 TX3 5, w ∈ wsG := by
  intro w hw
  obtain ⟨k, hk, rfl⟩ := List.mem_map.mp hw
  have hk := List.mem_range.mp hk
  rcases (show k = 0 ∨ k = 1 ∨ k = 2 ∨ k = 3 ∨ k = 4 by omega) with rfl | rfl | rfl | rfl | rfl
  · exact tb1 99 rfl rfl
  · exact tb1 101 rfl rfl
  · exact tb1 103 rfl rfl
  · exact tb1 105 rfl rfl
  · exact tb1 107 rfl rfl
theorem inG4 : ∀ w ∈ u_ws RX4 TX4 3, w ∈ wsG := by
  intro w hw
  obtain ⟨k, hk, rfl⟩ := List.mem_map.mp hw
  have hk := List.mem_range.mp hk
  rcases (show k = 0 ∨ k = 1 ∨ k = 2 by omega) with rfl | rfl | rfl
  · exact tb1 191 rfl rfl
  · exact tb1 193 rfl rfl
  · exact tb1 195 rfl rfl
theorem inG5 : ∀ w ∈ u_ws RX5 TX5 3, w ∈ wsG := by
  intro w hw
  obtain ⟨k, hk, rfl⟩ := List.mem_map.mp hw
  have hk := List.mem_range.mp hk
  rcases (show k = 0 ∨ k = 1 ∨ k = 2 by omega) with rfl | rfl | rfl
  · exact tb1 136 rfl rfl
  · exact tb1 138 rfl rfl
  · exact tb1 140 rfl rfl
theorem inG6 : ∀ w ∈ u_ws RX6 TX6 2, w ∈ wsG := by
  intro w hw
  obtain ⟨k, hk, rfl⟩ := List.mem_map.mp hw
  have hk := List.mem_range.mp hk
  rcases (show k = 0 ∨ k = 1 by omega) with rfl | rfl
  · exact tb1 63 rfl rfl
  · exact tb1 65 rfl rfl
theorem inG7 : ∀ w ∈ u_ws RX7 TX7 2, w ∈ wsG := by
  intro w hw
  obtain ⟨k, hk, rfl⟩ := List.mem_map.mp hw
  have hk := List.mem_range.mp hk
  rcases (show k = 0 ∨ k = 1 by omega) with rfl | rfl
  · exact tb1 79 rfl rfl
  · exact tb1 81 rfl rfl
theorem inG8 : ∀ w ∈ u_ws RX8 TX8 2, w ∈ wsG := by
  intro w hw
  obtain ⟨k, hk, rfl⟩ := List.mem_map.mp hw
  have hk := List.mem_range.mp hk
  rcases (show k = 0 ∨ k = 1 by omega) with rfl | rfl
  · exact tb1 120 rfl rfl
  · exact tb1 122 rfl rfl
theorem inG9 : ∀ w ∈ u_ws RX9 TX9 11, w ∈ wsG := by
  intro w hw
  obtain ⟨k, hk, rfl⟩ := List.mem_map.mp hw
  have hk := List.mem_range.mp hk
  rcases (show k = 0 ∨ k = 1 ∨ k = 2 ∨ k = 3 ∨ k = 4 ∨ k = 5 ∨ k = 6 ∨ k = 7 ∨ k = 8 ∨ k = 9 ∨ k = 10 by omega) with rfl | rfl | rfl | rfl | rfl | rfl | rfl | rfl | rfl | rfl | rfl
  · exact tb1 209 rfl rfl
  · exact tb1 211 rfl rfl
  · exact tb1 213 rfl rfl
  · exact tb1 215 rfl rfl
  · exact tb1 217 rfl rfl
  · exact tb1 219 rfl rfl
  · exact tb1 221 rfl rfl
  · exact tb1 223 rfl rfl
  · exact tb1 225 rfl rfl
  · exact tb1 227 rfl rfl
  · exact tb1 229 rfl rfl
theorem inG10 : ∀ w ∈ u_ws RX10 TX10 20, w ∈ wsG := by
  intro w hw
  obtain ⟨k, hk, rfl⟩ := List.mem_map.mp hw
  have hk := List.mem_range.mp hk
  rcases (show k = 0 ∨ k = 1 ∨ k = 2 ∨ k = 3 ∨ k = 4 ∨ k = 5 ∨ k = 6 ∨ k = 7 ∨ k = 8 ∨ k = 9 ∨ k = 10 ∨ k = 11 ∨ k = 12 ∨ k = 13 ∨ k = 14 ∨ k = 15 ∨ k = 16 ∨ k = 17 ∨ k = 18 ∨ k = 19 by omega) with rfl | rfl | rfl | rfl | rfl | rfl | rfl | rfl | rfl | rfl | rfl | rfl | rfl | rfl | rfl | rfl | rfl | rfl | rfl | rfl
  · exact tb4 37 rfl rfl
  · exact tb4 39 rfl rfl
  · exact tb4 41 rfl rfl
  · exact tb4 43 rfl rfl
  · exact tb4 45 rfl rfl
  · exact tb4 47 rfl rfl
  · exact tb4 49 rfl rfl
  · exact tb4 51 rfl rfl
  · exact tb4 53 rfl rfl
  · exact tb4 55 rfl rfl
  · exact tb4 57 rfl rfl
  · exact tb4 59 rfl rfl
  · exact tb4 61 rfl rfl
  · exact tb4 63 rfl rfl
  · exact tb4 65 rfl rfl
  · exact tb4 67 rfl rfl
  · exact tb4 69 rfl rfl
  · exact tb4 71 rfl rfl
  · exact tb4 73 rfl rfl
  · exact tb4 75 rfl rfl
theorem fk0_7 : okF RX0 (7, 0, 0, 0) := ⟨⟨RX0, TX0, 1, rfl, by decide, inG0, tb1 149 rfl rfl⟩, fun _ => ⟨RX0, TX0, 1, rfl, by decide, inG0, tb1 149 rfl rfl, rfl, by decide +kernel, ⟨tyX0, tyX0_ok⟩, nmX0⟩, fun h => absurd h (by decide)⟩
def tX0 : CT := ([(7, 0, 0, 0)], [], [(13, 1103515245)], [], [])
theorem okX0 : okCT RX0 tX0 := ⟨List.forall_mem_cons.mpr ⟨fk0_7, fun _ h => absurd h List.not_mem_nil⟩, fun _ h => absurd h List.not_mem_nil, List.forall_mem_cons.mpr ⟨tb3 193 rfl rfl, fun _ h => absurd h List.not_mem_nil⟩, fun _ h => absurd h List.not_mem_nil, fun _ h => absurd h List.not_mem_nil⟩
def tX1 : CT := ([], [], [], [], [])
theorem okX1 : okCT RX1 tX1 := ⟨fun _ h => absurd h List.not_mem_nil, fun _ h => absurd h List.not_mem_nil, fun _ h => absurd h List.not_mem_nil, fun _ h => absurd h List.not_mem_nil, fun _ h => absurd h List.not_mem_nil⟩
theorem fk2_9 : okF RX2 (9, 2, 0, 2) := ⟨⟨RX2, TX2, 4, rfl, by decide, inG2, tb1 31 rfl rfl⟩, fun h => absurd h (by decide), fun h => absurd h (by decide)⟩
theorem fk2_15 : okF RX2 (15, 2, 1, 0) := ⟨⟨RX2, TX2, 4, rfl, by decide, inG2, tb1 32 rfl rfl⟩, fun _ => ⟨RX2, TX2, 4, rfl, by decide, inG2, tb1 32 rfl rfl, rfl, by decide +kernel, ⟨tyX2, tyX2_ok⟩, nmX2⟩, fun h => absurd h (by decide)⟩
theorem fk2_19 : okF RX2 (19, 2, 2, 0) := ⟨⟨RX2, TX2, 4, rfl, by decide, inG2, tb1 36 rfl rfl⟩, fun _ => ⟨RX2, TX2, 4, rfl, by decide, inG2, tb1 36 rfl rfl, rfl, by decide +kernel, ⟨tyX2, tyX2_ok⟩, nmX2⟩, fun h => absurd h (by decide)⟩
theorem fk2_22 : okF RX2 (22, 2, 3, 0) := ⟨⟨RX2, TX2, 4, rfl, by decide, inG2, tb1 41 rfl rfl⟩, fun _ => ⟨RX2, TX2, 4, rfl, by decide, inG2, tb1 41 rfl rfl, rfl, by decide +kernel, ⟨tyX2, tyX2_ok⟩, nmX2⟩, fun h => absurd h (by decide)⟩
theorem ik2_25 : okIv RX2 (25, 3, 5, mX0_below) := ⟨fun h => absurd h (by decide), fun h => absurd h (by decide), fun h => absurd h (by decide), fun _ => ⟨tb2 117 rfl rfl, tb2 119 rfl rfl, tb2 118 rfl rfl, tb1 16 rfl rfl⟩⟩
theorem ik2_31 : okIv RX2 (31, 0, 1, mX2_hasRow) := ⟨fun _ => ⟨tb2 228 rfl rfl, omX2_hasRow⟩, fun h => absurd h (by decide), fun h => absurd h (by decide), fun h => absurd h (by decide)⟩
theorem ik2_35 : okIv RX2 (35, 0, 2, mX2_placeOf) := ⟨fun _ => ⟨tb2 161 rfl rfl, omX2_placeOf⟩, fun h => absurd h (by decide), fun h => absurd h (by decide), fun h => absurd h (by decide)⟩
theorem ik2_39 : okIv RX2 (39, 0, 2, mX2_colourAt) := ⟨fun _ => ⟨tb2 216 rfl rfl, omX2_colourAt⟩, fun h => absurd h (by decide), fun h => absurd h (by decide), fun h => absurd h (by decide)⟩
theorem ik2_42 : okIv RX2 (42, 0, 2, mX2_manyIn) := ⟨fun _ => ⟨tb2 212 rfl rfl, omX2_manyIn⟩, fun h => absurd h (by decide), fun h => absurd h (by decide), fun h => absurd h (by decide)⟩
theorem ik2_45 : okIv RX2 (45, 0, 2, mX2_readAt) := ⟨fun _ => ⟨tb2 157 rfl rfl, omX2_readAt⟩, fun h => absurd h (by decide), fun h => absurd h (by decide), fun h => absurd h (by decide)⟩
theorem ik2_48 : okIv RX2 (48, 0, 3, mX2_sameLine) := ⟨fun _ => ⟨tb2 153 rfl rfl, omX2_sameLine⟩, fun h => absurd h (by decide), fun h => absurd h (by decide), fun h => absurd h (by decide)⟩
theorem ik2_52 : okIv RX2 (52, 0, 2, mX2_likeAhead) := ⟨fun _ => ⟨tb2 195 rfl rfl, omX2_likeAhead⟩, fun h => absurd h (by decide), fun h => absurd h (by decide), fun h => absurd h (by decide)⟩
theorem ik2_56 : okIv RX2 (56, 0, 1, mX2_runsOf) := ⟨fun _ => ⟨tb2 200 rfl rfl, omX2_runsOf⟩, fun h => absurd h (by decide), fun h => absurd h (by decide), fun h => absurd h (by decide)⟩
theorem ik2_60 : okIv RX2 (60, 0, 2, mX2_comesAgain) := ⟨fun _ => ⟨tb2 183 rfl rfl, omX2_comesAgain⟩, fun h => absurd h (by decide), fun h => absurd h (by decide), fun h => absurd h (by decide)⟩
theorem ik2_64 : okIv RX2 (64, 0, 0, mX2_size) := ⟨fun _ => ⟨tb3 99 rfl rfl, omX2_size⟩, fun h => absurd h (by decide), fun h => absurd h (by decide), fun h => absurd h (by decide)⟩
theorem ik2_68 : okIv RX2 (68, 0, 1, mX2_rowOfPlan) := ⟨fun _ => ⟨tb3 100 rfl rfl, omX2_rowOfPlan⟩, fun h => absurd h (by decide), fun h => absurd h (by decide), fun h => absurd h (by decide)⟩
theorem ik2_71 : okIv RX2 (71, 0, 1, mX2_placeOfPlan) := ⟨fun _ => ⟨tb3 104 rfl rfl, omX2_placeOfPlan⟩, fun h => absurd h (by decide), fun h => absurd h (by decide), fun h => absurd h (by decide)⟩
theorem ik2_74 : okIv RX2 (74, 0, 1, mX2_takeRow) := ⟨fun _ => ⟨tb3 77 rfl rfl, omX2_takeRow⟩, fun h => absurd h (by decide), fun h => absurd h (by decide), fun h => absurd h (by decide)⟩
theorem ik2_78 : okIv RX2 (78, 0, 3, mX2_put) := ⟨fun _ => ⟨tb3 78 rfl rfl, omX2_put⟩, fun h => absurd h (by decide), fun h => absurd h (by decide), fun h => absurd h (by decide)⟩
theorem ik2_82 : okIv RX2 (82, 0, 2, mX2_copyRow) := ⟨fun _ => ⟨tb3 157 rfl rfl, omX2_copyRow⟩, fun h => absurd h (by decide), fun h => absurd h (by decide), fun h => absurd h (by decide)⟩
def tX2 : CT := ([(9, 2, 0, 2), (15, 2, 1, 0), (19, 2, 2, 0), (22, 2, 3, 0)], [(25, 3, 5, mX0_below), (31, 0, 1, mX2_hasRow), (35, 0, 2, mX2_placeOf), (39, 0, 2, mX2_colourAt), (42, 0, 2, mX2_manyIn), (45, 0, 2, mX2_readAt), (48, 0, 3, mX2_sameLine), (52, 0, 2, mX2_likeAhead), (56, 0, 1, mX2_runsOf), (60, 0, 2, mX2_comesAgain), (64, 0, 0, mX2_size), (68, 0, 1, mX2_rowOfPlan), (71, 0, 1, mX2_placeOfPlan), (74, 0, 1, mX2_takeRow), (78, 0, 3, mX2_put), (82, 0, 2, mX2_copyRow)], [], [], [])
theorem okX2 : okCT RX2 tX2 := ⟨List.forall_mem_cons.mpr ⟨fk2_9, List.forall_mem_cons.mpr ⟨fk2_15, List.forall_mem_cons.mpr ⟨fk2_19, List.forall_mem_cons.mpr ⟨fk2_22, fun _ h => absurd h List.not_mem_nil⟩⟩⟩⟩, List.forall_mem_cons.mpr ⟨ik2_25, List.forall_mem_cons.mpr ⟨ik2_31, List.forall_mem_cons.mpr ⟨ik2_35, List.forall_mem_cons.mpr ⟨ik2_39, List.forall_mem_cons.mpr ⟨ik2_42, List.forall_mem_cons.mpr ⟨ik2_45, List.forall_mem_cons.mpr ⟨ik2_48, List.forall_mem_cons.mpr ⟨ik2_52, List.forall_mem_cons.mpr ⟨ik2_56, List.forall_mem_cons.mpr ⟨ik2_60, List.forall_mem_cons.mpr ⟨ik2_64, List.forall_mem_cons.mpr ⟨ik2_68, List.forall_mem_cons.mpr ⟨ik2_71, List.forall_mem_cons.mpr ⟨ik2_74, List.forall_mem_cons.mpr ⟨ik2_78, List.forall_mem_cons.mpr ⟨ik2_82, fun _ h => absurd h List.not_mem_nil⟩⟩⟩⟩⟩⟩⟩⟩⟩⟩⟩⟩⟩⟩⟩⟩, fun _ h => absurd h List.not_mem_nil, fun _ h => absurd h List.not_mem_nil, fun _ h => absurd h List.not_mem_nil⟩
theorem fk3_12 : okF RX3 (12, 3, 0, 2) := ⟨⟨RX3, TX3, 5, rfl, by decide, inG3, tb1 92 rfl rfl⟩, fun h => absurd h (by decide), fun h => absurd h (by decide)⟩
theorem fk3_18 : okF RX3 (18, 3, 1, 0) := ⟨⟨RX3, TX3, 5, rfl, by decide, inG3, tb1 94 rfl rfl⟩, fun _ => ⟨RX3, TX3, 5, rfl, by decide, inG3, tb1 94 rfl rfl, rfl, by decide +kernel, ⟨tyX3, tyX3_ok⟩, nmX3⟩, fun h => absurd h (by decide)⟩
theorem fk3_22 : okF RX3 (22, 3, 2, 0) := ⟨⟨RX3, TX3, 5, rfl, by decide, inG3, tb1 96 rfl rfl⟩, fun _ => ⟨RX3, TX3, 5, rfl, by decide, inG3, tb1 96 rfl rfl, rfl, by decide +kernel, ⟨tyX3, tyX3_ok⟩, nmX3⟩, fun h => absurd h (by decide)⟩
theorem fk3_25 : okF RX3 (25, 3, 3, 0) := ⟨⟨RX3, TX3, 5, rfl, by decide, inG3, tb1 97 rfl rfl⟩, fun _ => ⟨RX3, TX3, 5, rfl, by decide, inG3, tb1 97 rfl rfl, rfl, by decide +kernel, ⟨tyX3, tyX3_ok⟩, nmX3⟩, fun h => absurd h (by decide)⟩
theorem fk3_28 : okF RX3 (28, 3, 4, 1) := ⟨⟨RX3, TX3, 5, rfl, by decide, inG3, tb1 98 rfl rfl⟩, fun h => absurd h (by decide), fun _ => ⟨RX3, TX3, 5, rfl, by decide, inG3, tb1 98 rfl rfl, rfl, by decide +kernel, ⟨tyX3, tyX3_ok⟩, nmX3⟩⟩
theorem fk3_43 : okF RX3 (43, 7, 1, 0) := ⟨⟨RX7, TX7, 2, rfl, by decide, inG7, tb1 78 rfl rfl⟩, fun _ => ⟨RX7, TX7, 2, rfl, by decide, inG7, tb1 78 rfl rfl, rfl, by decide +kernel, ⟨tyX7, tyX7_ok⟩, nmX7⟩, fun h => absurd h (by decide)⟩
theorem fk3_48 : okF RX3 (48, 7, 0, 2) := ⟨⟨RX7, TX7, 2, rfl, by decide, inG7, tb1 75 rfl rfl⟩, fun h => absurd h (by decide), fun h => absurd h (by decide)⟩
theorem fk3_74 : okF RX3 (74, 2, 1, 0) := ⟨⟨RX2, TX2, 4, rfl, by decide, inG2, tb1 34 rfl rfl⟩, fun _ => ⟨RX2, TX2, 4, rfl, by decide, inG2, tb1 34 rfl rfl, rfl, by decide +kernel, ⟨tyX2, tyX2_ok⟩, nmX2⟩, fun h => absurd h (by decide)⟩
theorem fk3_85 : okF RX3 (85, 2, 2, 0) := ⟨⟨RX2, TX2, 4, rfl, by decide, inG2, tb1 39 rfl rfl⟩, fun _ => ⟨RX2, TX2, 4, rfl, by decide, inG2, tb1 39 rfl rfl, rfl, by decide +kernel, ⟨tyX2, tyX2_ok⟩, nmX2⟩, fun h => absurd h (by decide)⟩
theorem fk3_95 : okF RX3 (95, 2, 3, 0) := ⟨⟨RX2, TX2, 4, rfl, by decide, inG2, tb1 42 rfl rfl⟩, fun _ => ⟨RX2, TX2, 4, rfl, by decide, inG2, tb1 42 rfl rfl, rfl, by decide +kernel, ⟨tyX2, tyX2_ok⟩, nmX2⟩, fun h => absurd h (by decide)⟩
theorem ik3_106 : okIv RX3 (106, 2, 1, mX9_isColour) := ⟨fun h => absurd h (by decide), fun h => absurd h (by decide), fun _ => ⟨⟨Or.inl ⟨rfl, rfl⟩, rfl⟩, omX9_isColour⟩, fun h => absurd h (by decide)⟩
theorem ik3_32 : okIv RX3 (32, 0, 0, mX2_clear) := ⟨fun _ => ⟨tb2 12 rfl rfl, omX2_clear⟩, fun h => absurd h (by decide), fun h => absurd h (by decide), fun h => absurd h (by decide)⟩
theorem ik3_35 : okIv RX3 (35, 0, 1, mX3_readToken) := ⟨fun _ => ⟨tb2 16 rfl rfl, omX3_readToken⟩, fun h => absurd h (by decide), fun h => absurd h (by decide), fun h => absurd h (by decide)⟩
theorem ik3_39 : okIv RX3 (39, 0, 1, mX3_readLine) := ⟨fun _ => ⟨tb2 24 rfl rfl, omX3_readLine⟩, fun h => absurd h (by decide), fun h => absurd h (by decide), fun h => absurd h (by decide)⟩
theorem ik3_52 : okIv RX3 (52, 0, 1, mX7_isLetter) := ⟨fun _ => ⟨tb2 20 rfl rfl, omX7_isLetter⟩, fun h => absurd h (by decide), fun h => absurd h (by decide), fun h => absurd h (by decide)⟩
theorem ik3_56 : okIv RX3 (56, 0, 0, mX3_unfit) := ⟨fun _ => ⟨tb2 28 rfl rfl, omX3_unfit⟩, fun h => absurd h (by decide), fun h => absurd h (by decide), fun h => absurd h (by decide)⟩
theorem ik3_62 : okIv RX3 (62, 0, 2, mX3_isName) := ⟨fun _ => ⟨tb2 33 rfl rfl, omX3_isName⟩, fun h => absurd h (by decide), fun h => absurd h (by decide), fun h => absurd h (by decide)⟩
theorem ik3_66 : okIv RX3 (66, 0, 1, mX3_readRow) := ⟨fun _ => ⟨tb2 85 rfl rfl, omX3_readRow⟩, fun h => absurd h (by decide), fun h => absurd h (by decide), fun h => absurd h (by decide)⟩
theorem ik3_71 : okIv RX3 (71, 0, 1, mX3_readFro) := ⟨fun _ => ⟨tb2 109 rfl rfl, omX3_readFro⟩, fun h => absurd h (by decide), fun h => absurd h (by decide), fun h => absurd h (by decide)⟩
theorem ik3_77 : okIv RX3 (77, 0, 1, mX3_isBeads) := ⟨fun _ => ⟨tb2 89 rfl rfl, omX3_isBeads⟩, fun h => absurd h (by decide), fun h => absurd h (by decide), fun h => absurd h (by decide)⟩
theorem ik3_81 : okIv RX3 (81, 0, 1, mX2_takeRow) := ⟨fun _ => ⟨tb2 96 rfl rfl, omX2_takeRow⟩, fun h => absurd h (by decide), fun h => absurd h (by decide), fun h => absurd h (by decide)⟩
theorem ik3_88 : okIv RX3 (88, 0, 3, mX2_put) := ⟨fun _ => ⟨tb2 100 rfl rfl, omX2_put⟩, fun h => absurd h (by decide), fun h => absurd h (by decide), fun h => absurd h (by decide)⟩
theorem ik3_92 : okIv RX3 (92, 0, 1, mX3_readSign) := ⟨fun _ => ⟨tb2 104 rfl rfl, omX3_readSign⟩, fun h => absurd h (by decide), fun h => absurd h (by decide), fun h => absurd h (by decide)⟩
def tX3 : CT := ([(12, 3, 0, 2), (18, 3, 1, 0), (22, 3, 2, 0), (25, 3, 3, 0), (28, 3, 4, 1), (43, 7, 1, 0), (48, 7, 0, 2), (74, 2, 1, 0), (85, 2, 2, 0), (95, 2, 3, 0)], [(106, 2, 1, mX9_isColour), (32, 0, 0, mX2_clear), (35, 0, 1, mX3_readToken), (39, 0, 1, mX3_readLine), (52, 0, 1, mX7_isLetter), (56, 0, 0, mX3_unfit), (62, 0, 2, mX3_isName), (66, 0, 1, mX3_readRow), (71, 0, 1, mX3_readFro), (77, 0, 1, mX3_isBeads), (81, 0, 1, mX2_takeRow), (88, 0, 3, mX2_put), (92, 0, 1, mX3_readSign)], [], [], [(60, 0), (69, 1)])
theorem okX3 : okCT RX3 tX3 := ⟨List.forall_mem_cons.mpr ⟨fk3_12, List.forall_mem_cons.mpr ⟨fk3_18, List.forall_mem_cons.mpr ⟨fk3_22, List.forall_mem_cons.mpr ⟨fk3_25, List.forall_mem_cons.mpr ⟨fk3_28, List.forall_mem_cons.mpr ⟨fk3_43, List.forall_mem_cons.mpr ⟨fk3_48, List.forall_mem_cons.mpr ⟨fk3_74, List.forall_mem_cons.mpr ⟨fk3_85, List.forall_mem_cons.mpr ⟨fk3_95, fun _ h => absurd h List.not_mem_nil⟩⟩⟩⟩⟩⟩⟩⟩⟩⟩, List.forall_mem_cons.mpr ⟨ik3_106, List.forall_mem_cons.mpr ⟨ik3_32, List.forall_mem_cons.mpr ⟨ik3_35, List.forall_mem_cons.mpr ⟨ik3_39, List.forall_mem_cons.mpr ⟨ik3_52, List.forall_mem_cons.mpr ⟨ik3_56, List.forall_mem_cons.mpr ⟨ik3_62, List.forall_mem_cons.mpr ⟨ik3_66, List.forall_mem_cons.mpr ⟨ik3_71, List.forall_mem_cons.mpr ⟨ik3_77, List.forall_mem_cons.mpr ⟨ik3_81, List.forall_mem_cons.mpr ⟨ik3_88, List.forall_mem_cons.mpr ⟨ik3_92, fun _ h => absurd h List.not_mem_nil⟩⟩⟩⟩⟩⟩⟩⟩⟩⟩⟩⟩⟩, fun _ h => absurd h List.not_mem_nil, fun _ h => absurd h List.not_mem_nil, List.forall_mem_cons.mpr ⟨⟨rfl, Or.inl rfl⟩, List.forall_mem_cons.mpr ⟨⟨rfl, Or.inr rfl⟩, fun _ h => absurd h List.not_mem_nil⟩⟩⟩
theorem fk4_9 : okF RX4 (9, 4, 0, 2) := ⟨⟨RX4, TX4, 3, rfl, by decide, inG4, tb1 185 rfl rfl⟩, fun h => absurd h (by decide), fun h => absurd h (by decide)⟩
theorem fk4_15 : okF RX4 (15, 4, 1, 0) := ⟨⟨RX4, TX4, 3, rfl, by decide, inG4, tb1 187 rfl rfl⟩, fun _ => ⟨RX4, TX4, 3, rfl, by decide, inG4, tb1 187 rfl rfl, rfl, by decide +kernel, ⟨tyX4, tyX4_ok⟩, nmX4⟩, fun h => absurd h (by decide)⟩
theorem fk4_19 : okF RX4 (19, 4, 2, 0) := ⟨⟨RX4, TX4, 3, rfl, by decide, inG4, tb1 189 rfl rfl⟩, fun _ => ⟨RX4, TX4, 3, rfl, by decide, inG4, tb1 189 rfl rfl, rfl, by decide +kernel, ⟨tyX4, tyX4_ok⟩, nmX4⟩, fun h => absurd h (by decide)⟩
def tX4 : CT := ([(9, 4, 0, 2), (15, 4, 1, 0), (19, 4, 2, 0)], [], [], [], [])
theorem okX4 : okCT RX4 tX4 := ⟨List.forall_mem_cons.mpr ⟨fk4_9, List.forall_mem_cons.mpr ⟨fk4_15, List.forall_mem_cons.mpr ⟨fk4_19, fun _ h => absurd h List.not_mem_nil⟩⟩⟩, fun _ h => absurd h List.not_mem_nil, fun _ h => absurd h List.not_mem_nil, fun _ h => absurd h List.not_mem_nil, fun _ h => absurd h List.not_mem_nil⟩
theorem fk5_9 : okF RX5 (9, 5, 0, 2) := ⟨⟨RX5, TX5, 3, rfl, by decide, inG5, tb1 131 rfl rfl⟩, fun h => absurd h (by decide), fun h => absurd h (by decide)⟩
theorem fk5_15 : okF RX5 (15, 5, 1, 0) := ⟨⟨RX5, TX5, 3, rfl, by decide, inG5, tb1 133 rfl rfl⟩, fun _ => ⟨RX5, TX5, 3, rfl, by decide, inG5, tb1 133 rfl rfl, rfl, by decide +kernel, ⟨tyX5, tyX5_ok⟩, nmX5⟩, fun h => absurd h (by decide)⟩
theorem fk5_19 : okF RX5 (19, 5, 2, 2) := ⟨⟨RX5, TX5, 3, rfl, by decide, inG5, tb1 135 rfl rfl⟩, fun h => absurd h (by decide), fun h => absurd h (by decide)⟩
theorem fk5_47 : okF RX5 (47, 2, 2, 0) := ⟨⟨RX2, TX2, 4, rfl, by decide, inG2, tb1 38 rfl rfl⟩, fun _ => ⟨RX2, TX2, 4, rfl, by decide, inG2, tb1 38 rfl rfl, rfl, by decide +kernel, ⟨tyX2, tyX2_ok⟩, nmX2⟩, fun h => absurd h (by decide)⟩
theorem fk5_57 : okF RX5 (57, 2, 1, 0) := ⟨⟨RX2, TX2, 4, rfl, by decide, inG2, tb1 35 rfl rfl⟩, fun _ => ⟨RX2, TX2, 4, rfl, by decide, inG2, tb1 35 rfl rfl, rfl, by decide +kernel, ⟨tyX2, tyX2_ok⟩, nmX2⟩, fun h => absurd h (by decide)⟩
theorem ik5_37 : okIv RX5 (37, 1, 2, mX5_fitting) := ⟨fun h => absurd h (by decide), fun _ => ⟨tb3 62 rfl rfl, omX5_fitting, rfl⟩, fun h => absurd h (by decide), fun h => absurd h (by decide)⟩
theorem ik5_54 : okIv RX5 (54, 2, 1, mX9_isColour) := ⟨fun h => absurd h (by decide), fun h => absurd h (by decide), fun _ => ⟨⟨Or.inr ⟨rfl, rfl⟩, rfl⟩, omX9_isColour⟩, fun h => absurd h (by decide)⟩
theorem ik5_22 : okIv RX5 (22, 0, 2, mX5_speakLike) := ⟨fun _ => ⟨tb3 43 rfl rfl, omX5_speakLike⟩, fun h => absurd h (by decide), fun h => absurd h (by decide), fun h => absurd h (by decide)⟩
theorem ik5_26 : okIv RX5 (26, 0, 1, mX5_speakMirror) := ⟨fun _ => ⟨tb3 49 rfl rfl, omX5_speakMirror⟩, fun h => absurd h (by decide), fun h => absurd h (by decide), fun h => absurd h (by decide)⟩
theorem ik5_30 : okIv RX5 (30, 0, 1, mX5_speakTimes) := ⟨fun _ => ⟨tb3 58 rfl rfl, omX5_speakTimes⟩, fun h => absurd h (by decide), fun h => absurd h (by decide), fun h => absurd h (by decide)⟩
theorem ik5_33 : okIv RX5 (33, 0, 1, mX5_speakRuns) := ⟨fun _ => ⟨tb3 53 rfl rfl, omX5_speakRuns⟩, fun h => absurd h (by decide), fun h => absurd h (by decide), fun h => absurd h (by decide)⟩
theorem ik5_41 : okIv RX5 (41, 0, 1, mX2_hasRow) := ⟨fun _ => ⟨tb3 47 rfl rfl, omX2_hasRow⟩, fun h => absurd h (by decide), fun h => absurd h (by decide), fun h => absurd h (by decide)⟩
theorem ik5_50 : okIv RX5 (50, 0, 2, mX2_readAt) := ⟨fun _ => ⟨tb3 48 rfl rfl, omX2_readAt⟩, fun h => absurd h (by decide), fun h => absurd h (by decide), fun h => absurd h (by decide)⟩
def tX5 : CT := ([(9, 5, 0, 2), (15, 5, 1, 0), (19, 5, 2, 2), (47, 2, 2, 0), (57, 2, 1, 0)], [(37, 1, 2, mX5_fitting), (54, 2, 1, mX9_isColour), (22, 0, 2, mX5_speakLike), (26, 0, 1, mX5_speakMirror), (30, 0, 1, mX5_speakTimes), (33, 0, 1, mX5_speakRuns), (41, 0, 1, mX2_hasRow), (50, 0, 2, mX2_readAt)], [], [], [])
theorem okX5 : okCT RX5 tX5 := ⟨List.forall_mem_cons.mpr ⟨fk5_9, List.forall_mem_cons.mpr ⟨fk5_15, List.forall_mem_cons.mpr ⟨fk5_19, List.forall_mem_cons.mpr ⟨fk5_47, List.forall_mem_cons.mpr ⟨fk5_57, fun _ h => absurd h List.not_mem_nil⟩⟩⟩⟩⟩, List.forall_mem_cons.mpr ⟨ik5_37, List.forall_mem_cons.mpr ⟨ik5_54, List.forall_mem_cons.mpr ⟨ik5_22, List.forall_mem_cons.mpr ⟨ik5_26, List.forall_mem_cons.mpr ⟨ik5_30, List.forall_mem_cons.mpr ⟨ik5_33, List.forall_mem_cons.mpr ⟨ik5_41, List.forall_mem_cons.mpr ⟨ik5_50, fun _ h => absurd h List.not_mem_nil⟩⟩⟩⟩⟩⟩⟩⟩, fun _ h => absurd h List.not_mem_nil, fun _ h => absurd h List.not_mem_nil, fun _ h => absurd h List.not_mem_nil⟩
theorem fk6_9 : okF RX6 (9, 6, 0, 2) := ⟨⟨RX6, TX6, 2, rfl, by decide, inG6, tb1 60 rfl rfl⟩, fun h => absurd h (by decide), fun h => absurd h (by decide)⟩
theorem fk6_15 : okF RX6 (15, 6, 1, 0) := ⟨⟨RX6, TX6, 2, rfl, by decide, inG6, tb1 61 rfl rfl⟩, fun _ => ⟨RX6, TX6, 2, rfl, by decide, inG6, tb1 61 rfl rfl, rfl, by decide +kernel, ⟨tyX6, tyX6_ok⟩, nmX6⟩, fun h => absurd h (by decide)⟩
theorem ik6_19 : okIv RX6 (19, 3, 5, mX0_below) := ⟨fun h => absurd h (by decide), fun h => absurd h (by decide), fun h => absurd h (by decide), fun _ => ⟨tb3 203 rfl rfl, tb2 119 rfl rfl, tb2 118 rfl rfl, tb1 16 rfl rfl⟩⟩
theorem ik6_25 : okIv RX6 (25, 0, 1, mX2_planAt) := ⟨fun _ => ⟨tb3 116 rfl rfl, omX2_planAt⟩, fun h => absurd h (by decide), fun h => absurd h (by decide), fun h => absurd h (by decide)⟩
theorem ik6_31 : okIv RX6 (31, 0, 3, mX6_asTold) := ⟨fun _ => ⟨tb3 123 rfl rfl, omX6_asTold⟩, fun h => absurd h (by decide), fun h => absurd h (by decide), fun h => absurd h (by decide)⟩
def tX6 : CT := ([(9, 6, 0, 2), (15, 6, 1, 0)], [(19, 3, 5, mX0_below), (25, 0, 1, mX2_planAt), (31, 0, 3, mX6_asTold)], [], [], [])
theorem okX6 : okCT RX6 tX6 := ⟨List.forall_mem_cons.mpr ⟨fk6_9, List.forall_mem_cons.mpr ⟨fk6_15, fun _ h => absurd h List.not_mem_nil⟩⟩, List.forall_mem_cons.mpr ⟨ik6_19, List.forall_mem_cons.mpr ⟨ik6_25, List.forall_mem_cons.mpr ⟨ik6_31, fun _ h => absurd h List.not_mem_nil⟩⟩⟩, fun _ h => absurd h List.not_mem_nil, fun _ h => absurd h List.not_mem_nil, fun _ h => absurd h List.not_mem_nil⟩
theorem fk7_9 : okF RX7 (9, 7, 0, 2) := ⟨⟨RX7, TX7, 2, rfl, by decide, inG7, tb1 74 rfl rfl⟩, fun h => absurd h (by decide), fun h => absurd h (by decide)⟩
theorem fk7_15 : okF RX7 (15, 7, 1, 0) := ⟨⟨RX7, TX7, 2, rfl, by decide, inG7, tb1 76 rfl rfl⟩, fun _ => ⟨RX7, TX7, 2, rfl, by decide, inG7, tb1 76 rfl rfl, rfl, by decide +kernel, ⟨tyX7, tyX7_ok⟩, nmX7⟩, fun h => absurd h (by decide)⟩
def tX7 : CT := ([(9, 7, 0, 2), (15, 7, 1, 0)], [], [], [], [])
theorem okX7 : okCT RX7 tX7 := ⟨List.forall_mem_cons.mpr ⟨fk7_9, List.forall_mem_cons.mpr ⟨fk7_15, fun _ h => absurd h List.not_mem_nil⟩⟩, fun _ h => absurd h List.not_mem_nil, fun _ h => absurd h List.not_mem_nil, fun _ h => absurd h List.not_mem_nil, fun _ h => absurd h List.not_mem_nil⟩
theorem fk8_9 : okF RX8 (9, 8, 0, 2) := ⟨⟨RX8, TX8, 2, rfl, by decide, inG8, tb1 116 rfl rfl⟩, fun h => absurd h (by decide), fun h => absurd h (by decide)⟩
theorem fk8_15 : okF RX8 (15, 8, 1, 0) := ⟨⟨RX8, TX8, 2, rfl, by decide, inG8, tb1 118 rfl rfl⟩, fun _ => ⟨RX8, TX8, 2, rfl, by decide, inG8, tb1 118 rfl rfl, rfl, by decide +kernel, ⟨tyX8, tyX8_ok⟩, nmX8⟩, fun h => absurd h (by decide)⟩
theorem fk8_47 : okF RX8 (47, 2, 2, 0) := ⟨⟨RX2, TX2, 4, rfl, by decide, inG2, tb1 37 rfl rfl⟩, fun _ => ⟨RX2, TX2, 4, rfl, by decide, inG2, tb1 37 rfl rfl, rfl, by decide +kernel, ⟨tyX2, tyX2_ok⟩, nmX2⟩, fun h => absurd h (by decide)⟩
theorem ik8_19 : okIv RX8 (19, 0, 3, mX8_tellBy) := ⟨fun _ => ⟨tb2 141 rfl rfl, omX8_tellBy⟩, fun h => absurd h (by decide), fun h => absurd h (by decide), fun h => absurd h (by decide)⟩
theorem ik8_23 : okIv RX8 (23, 0, 1, mX8_put) := ⟨fun _ => ⟨tb2 145 rfl rfl, omX8_put⟩, fun h => absurd h (by decide), fun h => absurd h (by decide), fun h => absurd h (by decide)⟩
theorem ik8_27 : okIv RX8 (27, 0, 2, mX2_likeAhead) := ⟨fun _ => ⟨tb2 149 rfl rfl, omX2_likeAhead⟩, fun h => absurd h (by decide), fun h => absurd h (by decide), fun h => absurd h (by decide)⟩
theorem ik8_33 : okIv RX8 (33, 0, 1, mX8_tellLike) := ⟨fun _ => ⟨tb2 165 rfl rfl, omX8_tellLike⟩, fun h => absurd h (by decide), fun h => absurd h (by decide), fun h => absurd h (by decide)⟩
theorem ik8_37 : okIv RX8 (37, 0, 2, mX8_tellMirror) := ⟨fun _ => ⟨tb2 169 rfl rfl, omX8_tellMirror⟩, fun h => absurd h (by decide), fun h => absurd h (by decide), fun h => absurd h (by decide)⟩
theorem ik8_41 : okIv RX8 (41, 0, 1, mX2_partOf) := ⟨fun _ => ⟨tb2 179 rfl rfl, omX2_partOf⟩, fun h => absurd h (by decide), fun h => absurd h (by decide), fun h => absurd h (by decide)⟩
theorem ik8_44 : okIv RX8 (44, 0, 3, mX8_tellTimes) := ⟨fun _ => ⟨tb2 187 rfl rfl, omX8_tellTimes⟩, fun h => absurd h (by decide), fun h => absurd h (by decide), fun h => absurd h (by decide)⟩
theorem ik8_50 : okIv RX8 (50, 0, 3, mX8_tellRuns) := ⟨fun _ => ⟨tb2 174 rfl rfl, omX8_tellRuns⟩, fun h => absurd h (by decide), fun h => absurd h (by decide), fun h => absurd h (by decide)⟩
theorem ik8_53 : okIv RX8 (53, 0, 3, mX2_sameLine) := ⟨fun _ => ⟨tb2 173 rfl rfl, omX2_sameLine⟩, fun h => absurd h (by decide), fun h => absurd h (by decide), fun h => absurd h (by decide)⟩
theorem ik8_57 : okIv RX8 (57, 0, 2, mX2_readAt) := ⟨fun _ => ⟨tb2 178 rfl rfl, omX2_readAt⟩, fun h => absurd h (by decide), fun h => absurd h (by decide), fun h => absurd h (by decide)⟩
def tX8 : CT := ([(9, 8, 0, 2), (15, 8, 1, 0), (47, 2, 2, 0)], [(19, 0, 3, mX8_tellBy), (23, 0, 1, mX8_put), (27, 0, 2, mX2_likeAhead), (33, 0, 1, mX8_tellLike), (37, 0, 2, mX8_tellMirror), (41, 0, 1, mX2_partOf), (44, 0, 3, mX8_tellTimes), (50, 0, 3, mX8_tellRuns), (53, 0, 3, mX2_sameLine), (57, 0, 2, mX2_readAt)], [], [], [])
theorem okX8 : okCT RX8 tX8 := ⟨List.forall_mem_cons.mpr ⟨fk8_9, List.forall_mem_cons.mpr ⟨fk8_15, List.forall_mem_cons.mpr ⟨fk8_47, fun _ h => absurd h List.not_mem_nil⟩⟩⟩, List.forall_mem_cons.mpr ⟨ik8_19, List.forall_mem_cons.mpr ⟨ik8_23, List.forall_mem_cons.mpr ⟨ik8_27, List.forall_mem_cons.mpr ⟨ik8_33, List.forall_mem_cons.mpr ⟨ik8_37, List.forall_mem_cons.mpr ⟨ik8_41, List.forall_mem_cons.mpr ⟨ik8_44, List.forall_mem_cons.mpr ⟨ik8_50, List.forall_mem_cons.mpr ⟨ik8_53, List.forall_mem_cons.mpr ⟨ik8_57, fun _ h => absurd h List.not_mem_nil⟩⟩⟩⟩⟩⟩⟩⟩⟩⟩, fun _ h => absurd h List.not_mem_nil, fun _ h => absurd h List.not_mem_nil, fun _ h => absurd h List.not_mem_nil⟩
theorem fk9_12 : okF RX9 (12, 9, 0, 2) := ⟨⟨RX9, TX9, 11, rfl, by decide, inG9, tb1 198 rfl rfl⟩, fun h => absurd h (by decide), fun h => absurd h (by decide)⟩
theorem fk9_19 : okF RX9 (19, 9, 1, 2) := ⟨⟨RX9, TX9, 11, rfl, by decide, inG9, tb1 199 rfl rfl⟩, fun h => absurd h (by decide), fun h => absurd h (by decide)⟩
theorem fk9_26 : okF RX9 (26, 9, 2, 2) := ⟨⟨RX9, TX9, 11, rfl, by decide, inG9, tb1 200 rfl rfl⟩, fun h => absurd h (by decide), fun h => absurd h (by decide)⟩
theorem fk9_33 : okF RX9 (33, 9, 3, 2) := ⟨⟨RX9, TX9, 11, rfl, by decide, inG9, tb1 201 rfl rfl⟩, fun h => absurd h (by decide), fun h => absurd h (by decide)⟩
theorem fk9_40 : okF RX9 (40, 9, 4, 2) := ⟨⟨RX9, TX9, 11, rfl, by decide, inG9, tb1 202 rfl rfl⟩, fun h => absurd h (by decide), fun h => absurd h (by decide)⟩
theorem fk9_47 : okF RX9 (47, 9, 5, 2) := ⟨⟨RX9, TX9, 11, rfl, by decide, inG9, tb1 203 rfl rfl⟩, fun h => absurd h (by decide), fun h => absurd h (by decide)⟩
theorem fk9_54 : okF RX9 (54, 9, 6, 2) := ⟨⟨RX9, TX9, 11, rfl, by decide, inG9, tb1 204 rfl rfl⟩, fun h => absurd h (by decide), fun h => absurd h (by decide)⟩
theorem fk9_60 : okF RX9 (60, 9, 7, 2) := ⟨⟨RX9, TX9, 11, rfl, by decide, inG9, tb1 205 rfl rfl⟩, fun h => absurd h (by decide), fun h => absurd h (by decide)⟩
theorem fk9_66 : okF RX9 (66, 9, 8, 2) := ⟨⟨RX9, TX9, 11, rfl, by decide, inG9, tb1 206 rfl rfl⟩, fun h => absurd h (by decide), fun h => absurd h (by decide)⟩
theorem fk9_70 : okF RX9 (70, 9, 9, 0) := ⟨⟨RX9, TX9, 11, rfl, by decide, inG9, tb1 207 rfl rfl⟩, fun _ => ⟨RX9, TX9, 11, rfl, by decide, inG9, tb1 207 rfl rfl, rfl, by decide +kernel, ⟨tyX9, tyX9_ok⟩, nmX9⟩, fun h => absurd h (by decide)⟩
theorem fk9_74 : okF RX9 (74, 9, 10, 0) := ⟨⟨RX9, TX9, 11, rfl, by decide, inG9, tb1 208 rfl rfl⟩, fun _ => ⟨RX9, TX9, 11, rfl, by decide, inG9, tb1 208 rfl rfl, rfl, by decide +kernel, ⟨tyX9, tyX9_ok⟩, nmX9⟩, fun h => absurd h (by decide)⟩
theorem fk9_83 : okF RX9 (83, 7, 1, 0) := ⟨⟨RX7, TX7, 2, rfl, by decide, inG7, tb1 77 rfl rfl⟩, fun _ => ⟨RX7, TX7, 2, rfl, by decide, inG7, tb1 77 rfl rfl, rfl, by decide +kernel, ⟨tyX7, tyX7_ok⟩, nmX7⟩, fun h => absurd h (by decide)⟩
theorem fk9_90 : okF RX9 (90, 3, 1, 0) := ⟨⟨RX3, TX3, 5, rfl, by decide, inG3, tb1 95 rfl rfl⟩, fun _ => ⟨RX3, TX3, 5, rfl, by decide, inG3, tb1 95 rfl rfl, rfl, by decide +kernel, ⟨tyX3, tyX3_ok⟩, nmX3⟩, fun h => absurd h (by decide)⟩
theorem fk9_93 : okF RX9 (93, 3, 0, 2) := ⟨⟨RX3, TX3, 5, rfl, by decide, inG3, tb1 93 rfl rfl⟩, fun h => absurd h (by decide), fun h => absurd h (by decide)⟩
theorem fk9_100 : okF RX9 (100, 6, 1, 0) := ⟨⟨RX6, TX6, 2, rfl, by decide, inG6, tb1 62 rfl rfl⟩, fun _ => ⟨RX6, TX6, 2, rfl, by decide, inG6, tb1 62 rfl rfl, rfl, by decide +kernel, ⟨tyX6, tyX6_ok⟩, nmX6⟩, fun h => absurd h (by decide)⟩
theorem fk9_101 : okF RX9 (101, 1, 2, 1) := ⟨⟨RX1, TX1, 3, rfl, by decide, inG1, tb1 172 rfl rfl⟩, fun h => absurd h (by decide), fun _ => ⟨RX1, TX1, 3, rfl, by decide, inG1, tb1 172 rfl rfl, rfl, by decide +kernel, ⟨tyX1, tyX1_ok⟩, nmX1⟩⟩
theorem fk9_105 : okF RX9 (105, 2, 1, 0) := ⟨⟨RX2, TX2, 4, rfl, by decide, inG2, tb1 33 rfl rfl⟩, fun _ => ⟨RX2, TX2, 4, rfl, by decide, inG2, tb1 33 rfl rfl, rfl, by decide +kernel, ⟨tyX2, tyX2_ok⟩, nmX2⟩, fun h => absurd h (by decide)⟩
theorem fk9_108 : okF RX9 (108, 2, 2, 0) := ⟨⟨RX2, TX2, 4, rfl, by decide, inG2, tb1 40 rfl rfl⟩, fun _ => ⟨RX2, TX2, 4, rfl, by decide, inG2, tb1 40 rfl rfl, rfl, by decide +kernel, ⟨tyX2, tyX2_ok⟩, nmX2⟩, fun h => absurd h (by decide)⟩
theorem fk9_111 : okF RX9 (111, 2, 3, 0) := ⟨⟨RX2, TX2, 4, rfl, by decide, inG2, tb1 43 rfl rfl⟩, fun _ => ⟨RX2, TX2, 4, rfl, by decide, inG2, tb1 43 rfl rfl, rfl, by decide +kernel, ⟨tyX2, tyX2_ok⟩, nmX2⟩, fun h => absurd h (by decide)⟩
theorem fk9_130 : okF RX9 (130, 5, 1, 0) := ⟨⟨RX5, TX5, 3, rfl, by decide, inG5, tb1 134 rfl rfl⟩, fun _ => ⟨RX5, TX5, 3, rfl, by decide, inG5, tb1 134 rfl rfl, rfl, by decide +kernel, ⟨tyX5, tyX5_ok⟩, nmX5⟩, fun h => absurd h (by decide)⟩
theorem fk9_156 : okF RX9 (156, 8, 0, 2) := ⟨⟨RX8, TX8, 2, rfl, by decide, inG8, tb1 117 rfl rfl⟩, fun h => absurd h (by decide), fun h => absurd h (by decide)⟩
theorem fk9_176 : okF RX9 (176, 8, 1, 0) := ⟨⟨RX8, TX8, 2, rfl, by decide, inG8, tb1 119 rfl rfl⟩, fun _ => ⟨RX8, TX8, 2, rfl, by decide, inG8, tb1 119 rfl rfl, rfl, by decide +kernel, ⟨tyX8, tyX8_ok⟩, nmX8⟩, fun h => absurd h (by decide)⟩
theorem fk9_182 : okF RX9 (182, 5, 0, 2) := ⟨⟨RX5, TX5, 3, rfl, by decide, inG5, tb1 132 rfl rfl⟩, fun h => absurd h (by decide), fun h => absurd h (by decide)⟩
theorem fk9_236 : okF RX9 (236, 0, 0, 0) := ⟨⟨RX0, TX0, 1, rfl, by decide, inG0, tb1 150 rfl rfl⟩, fun _ => ⟨RX0, TX0, 1, rfl, by decide, inG0, tb1 150 rfl rfl, rfl, by decide +kernel, ⟨tyX0, tyX0_ok⟩, nmX0⟩, fun h => absurd h (by decide)⟩
theorem fk9_242 : okF RX9 (242, 1, 0, 2) := ⟨⟨RX1, TX1, 3, rfl, by decide, inG1, tb1 168 rfl rfl⟩, fun h => absurd h (by decide), fun h => absurd h (by decide)⟩
theorem fk9_243 : okF RX9 (243, 1, 1, 2) := ⟨⟨RX1, TX1, 3, rfl, by decide, inG1, tb1 170 rfl rfl⟩, fun h => absurd h (by decide), fun h => absurd h (by decide)⟩
theorem fk9_256 : okF RX9 (256, 4, 2, 0) := ⟨⟨RX4, TX4, 3, rfl, by decide, inG4, tb1 190 rfl rfl⟩, fun _ => ⟨RX4, TX4, 3, rfl, by decide, inG4, tb1 190 rfl rfl, rfl, by decide +kernel, ⟨tyX4, tyX4_ok⟩, nmX4⟩, fun h => absurd h (by decide)⟩
theorem fk9_264 : okF RX9 (264, 4, 0, 2) := ⟨⟨RX4, TX4, 3, rfl, by decide, inG4, tb1 186 rfl rfl⟩, fun h => absurd h (by decide), fun h => absurd h (by decide)⟩
theorem fk9_273 : okF RX9 (273, 4, 1, 0) := ⟨⟨RX4, TX4, 3, rfl, by decide, inG4, tb1 188 rfl rfl⟩, fun _ => ⟨RX4, TX4, 3, rfl, by decide, inG4, tb1 188 rfl rfl, rfl, by decide +kernel, ⟨tyX4, tyX4_ok⟩, nmX4⟩, fun h => absurd h (by decide)⟩
theorem ik9_139 : okIv RX9 (139, 1, 1, mX9_isColour) := ⟨fun h => absurd h (by decide), fun _ => ⟨tb2 237 rfl rfl, omX9_isColour, rfl⟩, fun h => absurd h (by decide), fun h => absurd h (by decide)⟩
theorem ik9_247 : okIv RX9 (247, 1, 1, mX9_isSheet) := ⟨fun h => absurd h (by decide), fun _ => ⟨tb3 212 rfl rfl, omX9_isSheet, rfl⟩, fun h => absurd h (by decide), fun h => absurd h (by decide)⟩
theorem ik9_250 : okIv RX9 (250, 1, 1, mX9_isLane) := ⟨fun h => absurd h (by decide), fun _ => ⟨tb3 215 rfl rfl, omX9_isLane, rfl⟩, fun h => absurd h (by decide), fun h => absurd h (by decide)⟩
theorem ik9_79 : okIv RX9 (79, 0, 1, mX7_take) := ⟨fun _ => ⟨tb1 236 rfl rfl, omX7_take⟩, fun h => absurd h (by decide), fun h => absurd h (by decide), fun h => absurd h (by decide)⟩
theorem ik9_86 : okIv RX9 (86, 0, 1, mX3_readAll) := ⟨fun _ => ⟨tb2 8 rfl rfl, omX3_readAll⟩, fun h => absurd h (by decide), fun h => absurd h (by decide), fun h => absurd h (by decide)⟩
theorem ik9_96 : okIv RX9 (96, 0, 1, mX2_become) := ⟨fun _ => ⟨tb2 113 rfl rfl, omX2_become⟩, fun h => absurd h (by decide), fun h => absurd h (by decide), fun h => absurd h (by decide)⟩
theorem ik9_114 : okIv RX9 (114, 0, 0, mX2_size) := ⟨fun _ => ⟨tb2 129 rfl rfl, omX2_size⟩, fun h => absurd h (by decide), fun h => absurd h (by decide), fun h => absurd h (by decide)⟩
theorem ik9_118 : okIv RX9 (118, 0, 0, mX9_wordsInAll) := ⟨fun _ => ⟨tb2 133 rfl rfl, omX9_wordsInAll⟩, fun h => absurd h (by decide), fun h => absurd h (by decide), fun h => absurd h (by decide)⟩
theorem ik9_121 : okIv RX9 (121, 0, 0, mX2_linesUnlike) := ⟨fun _ => ⟨tb2 191 rfl rfl, omX2_linesUnlike⟩, fun h => absurd h (by decide), fun h => absurd h (by decide), fun h => absurd h (by decide)⟩
theorem ik9_124 : okIv RX9 (124, 0, 0, mX2_runsInAll) := ⟨fun _ => ⟨tb2 196 rfl rfl, omX2_runsInAll⟩, fun h => absurd h (by decide), fun h => absurd h (by decide), fun h => absurd h (by decide)⟩
theorem ik9_127 : okIv RX9 (127, 0, 0, mX9_coloursInAll) := ⟨fun _ => ⟨tb2 204 rfl rfl, omX9_coloursInAll⟩, fun h => absurd h (by decide), fun h => absurd h (by decide), fun h => absurd h (by decide)⟩
theorem ik9_131 : okIv RX9 (131, 0, 2, mX2_hasBead) := ⟨fun _ => ⟨tb2 224 rfl rfl, omX2_hasBead⟩, fun h => absurd h (by decide), fun h => absurd h (by decide), fun h => absurd h (by decide)⟩
theorem ik9_135 : okIv RX9 (135, 0, 2, mX2_colourAt) := ⟨fun _ => ⟨tb2 232 rfl rfl, omX2_colourAt⟩, fun h => absurd h (by decide), fun h => absurd h (by decide), fun h => absurd h (by decide)⟩
theorem ik9_142 : okIv RX9 (142, 0, 1, mX2_manyInAll) := ⟨fun _ => ⟨tb2 208 rfl rfl, omX2_manyInAll⟩, fun h => absurd h (by decide), fun h => absurd h (by decide), fun h => absurd h (by decide)⟩
theorem ik9_146 : okIv RX9 (146, 0, 1, mX2_hasRow) := ⟨fun _ => ⟨tb2 238 rfl rfl, omX2_hasRow⟩, fun h => absurd h (by decide), fun h => absurd h (by decide), fun h => absurd h (by decide)⟩
theorem ik9_149 : okIv RX9 (149, 0, 2, mX2_manyIn) := ⟨fun _ => ⟨tb2 239 rfl rfl, omX2_manyIn⟩, fun h => absurd h (by decide), fun h => absurd h (by decide), fun h => absurd h (by decide)⟩
theorem ik9_152 : okIv RX9 (152, 0, 2, mX8_tellBest) := ⟨fun _ => ⟨tb2 137 rfl rfl, omX8_tellBest⟩, fun h => absurd h (by decide), fun h => absurd h (by decide), fun h => absurd h (by decide)⟩
theorem ik9_160 : okIv RX9 (160, 0, 1, mX2_runsOf) := ⟨fun _ => ⟨tb3 4 rfl rfl, omX2_runsOf⟩, fun h => absurd h (by decide), fun h => absurd h (by decide), fun h => absurd h (by decide)⟩
theorem ik9_163 : okIv RX9 (163, 0, 1, mX2_firstLike) := ⟨fun _ => ⟨tb3 5 rfl rfl, omX2_firstLike⟩, fun h => absurd h (by decide), fun h => absurd h (by decide), fun h => absurd h (by decide)⟩
theorem ik9_166 : okIv RX9 (166, 0, 1, mX2_manyLike) := ⟨fun _ => ⟨tb3 9 rfl rfl, omX2_manyLike⟩, fun h => absurd h (by decide), fun h => absurd h (by decide), fun h => absurd h (by decide)⟩
theorem ik9_169 : okIv RX9 (169, 0, 1, mX2_partOf) := ⟨fun _ => ⟨tb3 13 rfl rfl, omX2_partOf⟩, fun h => absurd h (by decide), fun h => absurd h (by decide), fun h => absurd h (by decide)⟩
theorem ik9_172 : okIv RX9 (172, 0, 3, mX8_tellBy) := ⟨fun _ => ⟨tb3 18 rfl rfl, omX8_tellBy⟩, fun h => absurd h (by decide), fun h => absurd h (by decide), fun h => absurd h (by decide)⟩
theorem ik9_177 : okIv RX9 (177, 0, 1, mX5_take) := ⟨fun _ => ⟨tb3 27 rfl rfl, omX5_take⟩, fun h => absurd h (by decide), fun h => absurd h (by decide), fun h => absurd h (by decide)⟩
theorem ik9_178 : okIv RX9 (178, 0, 1, mX5_speak) := ⟨fun _ => ⟨tb3 39 rfl rfl, omX5_speak⟩, fun h => absurd h (by decide), fun h => absurd h (by decide), fun h => absurd h (by decide)⟩
theorem ik9_185 : okIv RX9 (185, 0, 2, mX2_takeLine) := ⟨fun _ => ⟨tb3 73 rfl rfl, omX2_takeLine⟩, fun h => absurd h (by decide), fun h => absurd h (by decide), fun h => absurd h (by decide)⟩
theorem ik9_189 : okIv RX9 (189, 0, 1, mX6_take) := ⟨fun _ => ⟨tb3 83 rfl rfl, omX6_take⟩, fun h => absurd h (by decide), fun h => absurd h (by decide), fun h => absurd h (by decide)⟩
theorem ik9_192 : okIv RX9 (192, 0, 1, mX2_planAt) := ⟨fun _ => ⟨tb3 95 rfl rfl, omX2_planAt⟩, fun h => absurd h (by decide), fun h => absurd h (by decide), fun h => absurd h (by decide)⟩
theorem ik9_195 : okIv RX9 (195, 0, 1, mX6_firstWrong) := ⟨fun _ => ⟨tb3 112 rfl rfl, omX6_firstWrong⟩, fun h => absurd h (by decide), fun h => absurd h (by decide), fun h => absurd h (by decide)⟩
theorem ik9_198 : okIv RX9 (198, 0, 1, mX2_rowOfPlan) := ⟨fun _ => ⟨tb3 117 rfl rfl, omX2_rowOfPlan⟩, fun h => absurd h (by decide), fun h => absurd h (by decide), fun h => absurd h (by decide)⟩
theorem ik9_201 : okIv RX9 (201, 0, 1, mX2_placeOfPlan) := ⟨fun _ => ⟨tb3 118 rfl rfl, omX2_placeOfPlan⟩, fun h => absurd h (by decide), fun h => absurd h (by decide), fun h => absurd h (by decide)⟩
theorem ik9_204 : okIv RX9 (204, 0, 2, mX6_kindOf) := ⟨fun _ => ⟨tb3 119 rfl rfl, omX6_kindOf⟩, fun h => absurd h (by decide), fun h => absurd h (by decide), fun h => absurd h (by decide)⟩
theorem ik9_207 : okIv RX9 (207, 0, 3, mX6_asTold) := ⟨fun _ => ⟨tb3 127 rfl rfl, omX6_asTold⟩, fun h => absurd h (by decide), fun h => absurd h (by decide), fun h => absurd h (by decide)⟩
theorem ik9_210 : okIv RX9 (210, 0, 3, mX2_put) := ⟨fun _ => ⟨tb3 132 rfl rfl, omX2_put⟩, fun h => absurd h (by decide), fun h => absurd h (by decide), fun h => absurd h (by decide)⟩
theorem ik9_214 : okIv RX9 (214, 0, 2, mX2_dyeAll) := ⟨fun _ => ⟨tb3 137 rfl rfl, omX2_dyeAll⟩, fun h => absurd h (by decide), fun h => absurd h (by decide), fun h => absurd h (by decide)⟩
theorem ik9_218 : okIv RX9 (218, 0, 1, mX2_turn) := ⟨fun _ => ⟨tb3 145 rfl rfl, omX2_turn⟩, fun h => absurd h (by decide), fun h => absurd h (by decide), fun h => absurd h (by decide)⟩
theorem ik9_221 : okIv RX9 (221, 0, 1, mX2_moveOn) := ⟨fun _ => ⟨tb3 149 rfl rfl, omX2_moveOn⟩, fun h => absurd h (by decide), fun h => absurd h (by decide), fun h => absurd h (by decide)⟩
theorem ik9_224 : okIv RX9 (224, 0, 1, mX2_drop) := ⟨fun _ => ⟨tb3 153 rfl rfl, omX2_drop⟩, fun h => absurd h (by decide), fun h => absurd h (by decide), fun h => absurd h (by decide)⟩
theorem ik9_227 : okIv RX9 (227, 0, 1, mX2_repeat) := ⟨fun _ => ⟨tb3 161 rfl rfl, omX2_repeat⟩, fun h => absurd h (by decide), fun h => absurd h (by decide), fun h => absurd h (by decide)⟩
theorem ik9_230 : okIv RX9 (230, 0, 2, mX2_sameBeads) := ⟨fun _ => ⟨tb3 169 rfl rfl, omX2_sameBeads⟩, fun h => absurd h (by decide), fun h => absurd h (by decide), fun h => absurd h (by decide)⟩
theorem ik9_233 : okIv RX9 (233, 0, 2, mX2_exchange) := ⟨fun _ => ⟨tb3 173 rfl rfl, omX2_exchange⟩, fun h => absurd h (by decide), fun h => absurd h (by decide), fun h => absurd h (by decide)⟩
theorem ik9_239 : okIv RX9 (239, 0, 2, mX9_drawRow) := ⟨fun _ => ⟨tb3 185 rfl rfl, omX9_drawRow⟩, fun h => absurd h (by decide), fun h => absurd h (by decide), fun h => absurd h (by decide)⟩
theorem ik9_244 : okIv RX9 (244, 0, 1, mX6_become) := ⟨fun _ => ⟨tb3 199 rfl rfl, omX6_become⟩, fun h => absurd h (by decide), fun h => absurd h (by decide), fun h => absurd h (by decide)⟩
theorem ik9_253 : okIv RX9 (253, 0, 2, mX4_renew) := ⟨fun _ => ⟨tb3 218 rfl rfl, omX4_renew⟩, fun h => absurd h (by decide), fun h => absurd h (by decide), fun h => absurd h (by decide)⟩
theorem ik9_259 : okIv RX9 (259, 0, 2, mX4_faultAt) := ⟨fun _ => ⟨tb3 226 rfl rfl, omX4_faultAt⟩, fun h => absurd h (by decide), fun h => absurd h (by decide), fun h => absurd h (by decide)⟩
theorem ik9_262 : okIv RX9 (262, 0, 2, mX4_put) := ⟨fun _ => ⟨tb3 230 rfl rfl, omX4_put⟩, fun h => absurd h (by decide), fun h => absurd h (by decide), fun h => absurd h (by decide)⟩
theorem ik9_267 : okIv RX9 (267, 0, 1, mX9_string) := ⟨fun _ => ⟨tb3 238 rfl rfl, omX9_string⟩, fun h => absurd h (by decide), fun h => absurd h (by decide), fun h => absurd h (by decide)⟩
theorem ik9_270 : okIv RX9 (270, 0, 0, mX9_imagesThere) := ⟨fun _ => ⟨tb4 7 rfl rfl, omX9_imagesThere⟩, fun h => absurd h (by decide), fun h => absurd h (by decide), fun h => absurd h (by decide)⟩
theorem ik9_274 : okIv RX9 (274, 0, 1, mX0_below) := ⟨fun _ => ⟨tb3 189 rfl rfl, omX0_below⟩, fun h => absurd h (by decide), fun h => absurd h (by decide), fun h => absurd h (by decide)⟩
theorem ik9_277 : okIv RX9 (277, 0, 2, mX2_copyRow) := ⟨fun _ => ⟨tb3 194 rfl rfl, omX2_copyRow⟩, fun h => absurd h (by decide), fun h => absurd h (by decide), fun h => absurd h (by decide)⟩
def tX9 : CT := ([(12, 9, 0, 2), (19, 9, 1, 2), (26, 9, 2, 2), (33, 9, 3, 2), (40, 9, 4, 2), (47, 9, 5, 2), (54, 9, 6, 2), (60, 9, 7, 2), (66, 9, 8, 2), (70, 9, 9, 0), (74, 9, 10, 0), (83, 7, 1, 0), (90, 3, 1, 0), (93, 3, 0, 2), (100, 6, 1, 0), (101, 1, 2, 1), (105, 2, 1, 0), (108, 2, 2, 0), (111, 2, 3, 0), (130, 5, 1, 0), (156, 8, 0, 2), (176, 8, 1, 0), (182, 5, 0, 2), (236, 0, 0, 0), (242, 1, 0, 2), (243, 1, 1, 2), (256, 4, 2, 0), (264, 4, 0, 2), (273, 4, 1, 0)], [(139, 1, 1, mX9_isColour), (247, 1, 1, mX9_isSheet), (250, 1, 1, mX9_isLane), (79, 0, 1, mX7_take), (86, 0, 1, mX3_readAll), (96, 0, 1, mX2_become), (114, 0, 0, mX2_size), (118, 0, 0, mX9_wordsInAll), (121, 0, 0, mX2_linesUnlike), (124, 0, 0, mX2_runsInAll), (127, 0, 0, mX9_coloursInAll), (131, 0, 2, mX2_hasBead), (135, 0, 2, mX2_colourAt), (142, 0, 1, mX2_manyInAll), (146, 0, 1, mX2_hasRow), (149, 0, 2, mX2_manyIn), (152, 0, 2, mX8_tellBest), (160, 0, 1, mX2_runsOf), (163, 0, 1, mX2_firstLike), (166, 0, 1, mX2_manyLike), (169, 0, 1, mX2_partOf), (172, 0, 3, mX8_tellBy), (177, 0, 1, mX5_take), (178, 0, 1, mX5_speak), (185, 0, 2, mX2_takeLine), (189, 0, 1, mX6_take), (192, 0, 1, mX2_planAt), (195, 0, 1, mX6_firstWrong), (198, 0, 1, mX2_rowOfPlan), (201, 0, 1, mX2_placeOfPlan), (204, 0, 2, mX6_kindOf), (207, 0, 3, mX6_asTold), (210, 0, 3, mX2_put), (214, 0, 2, mX2_dyeAll), (218, 0, 1, mX2_turn), (221, 0, 1, mX2_moveOn), (224, 0, 1, mX2_drop), (227, 0, 1, mX2_repeat), (230, 0, 2, mX2_sameBeads), (233, 0, 2, mX2_exchange), (239, 0, 2, mX9_drawRow), (244, 0, 1, mX6_become), (253, 0, 2, mX4_renew), (259, 0, 2, mX4_faultAt), (262, 0, 2, mX4_put), (267, 0, 1, mX9_string), (270, 0, 0, mX9_imagesThere), (274, 0, 1, mX0_below), (277, 0, 2, mX2_copyRow)], [], [], [])
theorem okX9 : okCT RX9 tX9 := ⟨List.forall_mem_cons.mpr ⟨fk9_12, List.forall_mem_cons.mpr ⟨fk9_19, List.forall_mem_cons.mpr ⟨fk9_26, List.forall_mem_cons.mpr ⟨fk9_33, List.forall_mem_cons.mpr ⟨fk9_40, List.forall_mem_cons.mpr ⟨fk9_47, List.forall_mem_cons.mpr ⟨fk9_54, List.forall_mem_cons.mpr ⟨fk9_60, List.forall_mem_cons.mpr ⟨fk9_66, List.forall_mem_cons.mpr ⟨fk9_70, List.forall_mem_cons.mpr ⟨fk9_74, List.forall_mem_cons.mpr ⟨fk9_83, List.forall_mem_cons.mpr ⟨fk9_90, List.forall_mem_cons.mpr ⟨fk9_93, List.forall_mem_cons.mpr ⟨fk9_100, List.forall_mem_cons.mpr ⟨fk9_101, List.forall_mem_cons.mpr ⟨fk9_105, List.forall_mem_cons.mpr ⟨fk9_108, List.forall_mem_cons.mpr ⟨fk9_111, List.forall_mem_cons.mpr ⟨fk9_130, List.forall_mem_cons.mpr ⟨fk9_156, List.forall_mem_cons.mpr ⟨fk9_176, List.forall_mem_cons.mpr ⟨fk9_182, List.forall_mem_cons.mpr ⟨fk9_236, List.forall_mem_cons.mpr ⟨fk9_242, List.forall_mem_cons.mpr ⟨fk9_243, List.forall_mem_cons.mpr ⟨fk9_256, List.forall_mem_cons.mpr ⟨fk9_264, List.forall_mem_cons.mpr ⟨fk9_273, fun _ h => absurd h List.not_mem_nil⟩⟩⟩⟩⟩⟩⟩⟩⟩⟩⟩⟩⟩⟩⟩⟩⟩⟩⟩⟩⟩⟩⟩⟩⟩⟩⟩⟩⟩, List.forall_mem_cons.mpr ⟨ik9_139, List.forall_mem_cons.mpr ⟨ik9_247, List.forall_mem_cons.mpr ⟨ik9_250, List.forall_mem_cons.mpr ⟨ik9_79, List.forall_mem_cons.mpr ⟨ik9_86, List.forall_mem_cons.mpr ⟨ik9_96, List.forall_mem_cons.mpr ⟨ik9_114, List.forall_mem_cons.mpr ⟨ik9_118, List.forall_mem_cons.mpr ⟨ik9_121, List.forall_mem_cons.mpr ⟨ik9_124, List.forall_mem_cons.mpr ⟨ik9_127, List.forall_mem_cons.mpr ⟨ik9_131, List.forall_mem_cons.mpr ⟨ik9_135, List.forall_mem_cons.mpr ⟨ik9_142, List.forall_mem_cons.mpr ⟨ik9_146, List.forall_mem_cons.mpr ⟨ik9_149, List.forall_mem_cons.mpr ⟨ik9_152, List.forall_mem_cons.mpr ⟨ik9_160, List.forall_mem_cons.mpr ⟨ik9_163, List.forall_mem_cons.mpr ⟨ik9_166, List.forall_mem_cons.mpr ⟨ik9_169, List.forall_mem_cons.mpr ⟨ik9_172, List.forall_mem_cons.mpr ⟨ik9_177, List.forall_mem_cons.mpr ⟨ik9_178, List.forall_mem_cons.mpr ⟨ik9_185, List.forall_mem_cons.mpr ⟨ik9_189, List.forall_mem_cons.mpr ⟨ik9_192, List.forall_mem_cons.mpr ⟨ik9_195, List.forall_mem_cons.mpr ⟨ik9_198, List.forall_mem_cons.mpr ⟨ik9_201, List.forall_mem_cons.mpr ⟨ik9_204, List.forall_mem_cons.mpr ⟨ik9_207, List.forall_mem_cons.mpr ⟨ik9_210, List.forall_mem_cons.mpr ⟨ik9_214, List.forall_mem_cons.mpr ⟨ik9_218, List.forall_mem_cons.mpr ⟨ik9_221, List.forall_mem_cons.mpr ⟨ik9_224, List.forall_mem_cons.mpr ⟨ik9_227, List.forall_mem_cons.mpr ⟨ik9_230, List.forall_mem_cons.mpr ⟨ik9_233, List.forall_mem_cons.mpr ⟨ik9_239, List.forall_mem_cons.mpr ⟨ik9_244, List.forall_mem_cons.mpr ⟨ik9_253, List.forall_mem_cons.mpr ⟨ik9_259, List.forall_mem_cons.mpr ⟨ik9_262, List.forall_mem_cons.mpr ⟨ik9_267, List.forall_mem_cons.mpr ⟨ik9_270, List.forall_mem_cons.mpr ⟨ik9_274, List.forall_mem_cons.mpr ⟨ik9_277, fun _ h => absurd h List.not_mem_nil⟩⟩⟩⟩⟩⟩⟩⟩⟩⟩⟩⟩⟩⟩⟩⟩⟩⟩⟩⟩⟩⟩⟩⟩⟩⟩⟩⟩⟩⟩⟩⟩⟩⟩⟩⟩⟩⟩⟩⟩⟩⟩⟩⟩⟩⟩⟩⟩⟩, fun _ h => absurd h List.not_mem_nil, fun _ h => absurd h List.not_mem_nil, fun _ h => absurd h List.not_mem_nil⟩
theorem fk10_7 : okF RX10 (7, 10, 0, 2) := ⟨⟨RX10, TX10, 20, rfl, by decide, inG10, tb4 17 rfl rfl⟩, fun h => absurd h (by decide), fun h => absurd h (by decide)⟩
theorem fk10_13 : okF RX10 (13, 10, 1, 2) := ⟨⟨RX10, TX10, 20, rfl, by decide, inG10, tb4 18 rfl rfl⟩, fun h => absurd h (by decide), fun h => absurd h (by decide)⟩
theorem fk10_16 : okF RX10 (16, 10, 2, 2) := ⟨⟨RX10, TX10, 20, rfl, by decide, inG10, tb4 19 rfl rfl⟩, fun h => absurd h (by decide), fun h => absurd h (by decide)⟩
theorem fk10_19 : okF RX10 (19, 10, 3, 2) := ⟨⟨RX10, TX10, 20, rfl, by decide, inG10, tb4 20 rfl rfl⟩, fun h => absurd h (by decide), fun h => absurd h (by decide)⟩
theorem fk10_23 : okF RX10 (23, 10, 4, 2) := ⟨⟨RX10, TX10, 20, rfl, by decide, inG10, tb4 21 rfl rfl⟩, fun h => absurd h (by decide), fun h => absurd h (by decide)⟩
theorem fk10_26 : okF RX10 (26, 10, 11, 2) := ⟨⟨RX10, TX10, 20, rfl, by decide, inG10, tb4 28 rfl rfl⟩, fun h => absurd h (by decide), fun h => absurd h (by decide)⟩
theorem fk10_29 : okF RX10 (29, 10, 13, 2) := ⟨⟨RX10, TX10, 20, rfl, by decide, inG10, tb4 30 rfl rfl⟩, fun h => absurd h (by decide), fun h => absurd h (by decide)⟩
theorem fk10_32 : okF RX10 (32, 10, 16, 2) := ⟨⟨RX10, TX10, 20, rfl, by decide, inG10, tb4 33 rfl rfl⟩, fun h => absurd h (by decide), fun h => absurd h (by decide)⟩
theorem fk10_35 : okF RX10 (35, 10, 17, 2) := ⟨⟨RX10, TX10, 20, rfl, by decide, inG10, tb4 34 rfl rfl⟩, fun h => absurd h (by decide), fun h => absurd h (by decide)⟩
theorem fk10_38 : okF RX10 (38, 10, 18, 2) := ⟨⟨RX10, TX10, 20, rfl, by decide, inG10, tb4 35 rfl rfl⟩, fun h => absurd h (by decide), fun h => absurd h (by decide)⟩
theorem fk10_47 : okF RX10 (47, 10, 5, 0) := ⟨⟨RX10, TX10, 20, rfl, by decide, inG10, tb4 22 rfl rfl⟩, fun _ => ⟨RX10, TX10, 20, rfl, by decide, inG10, tb4 22 rfl rfl, rfl, by decide +kernel, ⟨tyX10, tyX10_ok⟩, nmX10⟩, fun h => absurd h (by decide)⟩
theorem fk10_51 : okF RX10 (51, 10, 9, 0) := ⟨⟨RX10, TX10, 20, rfl, by decide, inG10, tb4 26 rfl rfl⟩, fun _ => ⟨RX10, TX10, 20, rfl, by decide, inG10, tb4 26 rfl rfl, rfl, by decide +kernel, ⟨tyX10, tyX10_ok⟩, nmX10⟩, fun h => absurd h (by decide)⟩
theorem fk10_54 : okF RX10 (54, 10, 7, 0) := ⟨⟨RX10, TX10, 20, rfl, by decide, inG10, tb4 24 rfl rfl⟩, fun _ => ⟨RX10, TX10, 20, rfl, by decide, inG10, tb4 24 rfl rfl, rfl, by decide +kernel, ⟨tyX10, tyX10_ok⟩, nmX10⟩, fun h => absurd h (by decide)⟩
theorem fk10_57 : okF RX10 (57, 10, 10, 0) := ⟨⟨RX10, TX10, 20, rfl, by decide, inG10, tb4 27 rfl rfl⟩, fun _ => ⟨RX10, TX10, 20, rfl, by decide, inG10, tb4 27 rfl rfl, rfl, by decide +kernel, ⟨tyX10, tyX10_ok⟩, nmX10⟩, fun h => absurd h (by decide)⟩
theorem fk10_60 : okF RX10 (60, 10, 6, 0) := ⟨⟨RX10, TX10, 20, rfl, by decide, inG10, tb4 23 rfl rfl⟩, fun _ => ⟨RX10, TX10, 20, rfl, by decide, inG10, tb4 23 rfl rfl, rfl, by decide +kernel, ⟨tyX10, tyX10_ok⟩, nmX10⟩, fun h => absurd h (by decide)⟩
theorem fk10_67 : okF RX10 (67, 10, 8, 0) := ⟨⟨RX10, TX10, 20, rfl, by decide, inG10, tb4 25 rfl rfl⟩, fun _ => ⟨RX10, TX10, 20, rfl, by decide, inG10, tb4 25 rfl rfl, rfl, by decide +kernel, ⟨tyX10, tyX10_ok⟩, nmX10⟩, fun h => absurd h (by decide)⟩
theorem fk10_154 : okF RX10 (154, 10, 12, 0) := ⟨⟨RX10, TX10, 20, rfl, by decide, inG10, tb4 29 rfl rfl⟩, fun _ => ⟨RX10, TX10, 20, rfl, by decide, inG10, tb4 29 rfl rfl, rfl, by decide +kernel, ⟨tyX10, tyX10_ok⟩, nmX10⟩, fun h => absurd h (by decide)⟩
theorem fk10_173 : okF RX10 (173, 10, 14, 0) := ⟨⟨RX10, TX10, 20, rfl, by decide, inG10, tb4 31 rfl rfl⟩, fun _ => ⟨RX10, TX10, 20, rfl, by decide, inG10, tb4 31 rfl rfl, rfl, by decide +kernel, ⟨tyX10, tyX10_ok⟩, nmX10⟩, fun h => absurd h (by decide)⟩
theorem fk10_223 : okF RX10 (223, 10, 15, 0) := ⟨⟨RX10, TX10, 20, rfl, by decide, inG10, tb4 32 rfl rfl⟩, fun _ => ⟨RX10, TX10, 20, rfl, by decide, inG10, tb4 32 rfl rfl, rfl, by decide +kernel, ⟨tyX10, tyX10_ok⟩, nmX10⟩, fun h => absurd h (by decide)⟩
theorem fk10_242 : okF RX10 (242, 10, 19, 0) := ⟨⟨RX10, TX10, 20, rfl, by decide, inG10, tb4 36 rfl rfl⟩, fun _ => ⟨RX10, TX10, 20, rfl, by decide, inG10, tb4 36 rfl rfl, rfl, by decide +kernel, ⟨tyX10, tyX10_ok⟩, nmX10⟩, fun h => absurd h (by decide)⟩
theorem ik10_43 : okIv RX10 (43, 1, 3, mX10_in) := ⟨fun h => absurd h (by decide), fun _ => ⟨tb4 84 rfl rfl, omX10_in, rfl⟩, fun h => absurd h (by decide), fun h => absurd h (by decide)⟩
theorem ik10_112 : okIv RX10 (112, 1, 1, mX10_flag) := ⟨fun h => absurd h (by decide), fun _ => ⟨tb4 177 rfl rfl, omX10_flag, rfl⟩, fun h => absurd h (by decide), fun h => absurd h (by decide)⟩
theorem ik10_160 : okIv RX10 (160, 1, 1, mX10_isColour) := ⟨fun h => absurd h (by decide), fun _ => ⟨tb4 212 rfl rfl, omX10_isColour, rfl⟩, fun h => absurd h (by decide), fun h => absurd h (by decide)⟩
theorem ik10_236 : okIv RX10 (236, 1, 2, mX10_isSheet) := ⟨fun h => absurd h (by decide), fun _ => ⟨tb5 132 rfl rfl, omX10_isSheet, rfl⟩, fun h => absurd h (by decide), fun h => absurd h (by decide)⟩
theorem ik10_63 : okIv RX10 (63, 0, 1, mX10_byteAt) := ⟨fun _ => ⟨tb4 99 rfl rfl, omX10_byteAt⟩, fun h => absurd h (by decide), fun h => absurd h (by decide), fun h => absurd h (by decide)⟩
theorem ik10_74 : okIv RX10 (74, 0, 2, mX10_requires) := ⟨fun _ => ⟨tb4 105 rfl rfl, omX10_requires⟩, fun h => absurd h (by decide), fun h => absurd h (by decide), fun h => absurd h (by decide)⟩
theorem ik10_78 : okIv RX10 (78, 0, 0, mX10_reads) := ⟨fun _ => ⟨tb4 95 rfl rfl, omX10_reads⟩, fun h => absurd h (by decide), fun h => absurd h (by decide), fun h => absurd h (by decide)⟩
theorem ik10_81 : okIv RX10 (81, 0, 0, mX10_areBeads) := ⟨fun _ => ⟨tb4 121 rfl rfl, omX10_areBeads⟩, fun h => absurd h (by decide), fun h => absurd h (by decide), fun h => absurd h (by decide)⟩
theorem ik10_85 : okIv RX10 (85, 0, 3, mX10_is) := ⟨fun _ => ⟨tb4 113 rfl rfl, omX10_is⟩, fun h => absurd h (by decide), fun h => absurd h (by decide), fun h => absurd h (by decide)⟩
theorem ik10_89 : okIv RX10 (89, 0, 0, mX10_readRow) := ⟨fun _ => ⟨tb4 117 rfl rfl, omX10_readRow⟩, fun h => absurd h (by decide), fun h => absurd h (by decide), fun h => absurd h (by decide)⟩
theorem ik10_92 : okIv RX10 (92, 0, 0, mX10_readLine) := ⟨fun _ => ⟨tb4 109 rfl rfl, omX10_readLine⟩, fun h => absurd h (by decide), fun h => absurd h (by decide), fun h => absurd h (by decide)⟩
theorem ik10_97 : okIv RX10 (97, 0, 1, mX10_isBack) := ⟨fun _ => ⟨tb4 165 rfl rfl, omX10_isBack⟩, fun h => absurd h (by decide), fun h => absurd h (by decide), fun h => absurd h (by decide)⟩
theorem ik10_101 : okIv RX10 (101, 0, 2, mX10_beadOf) := ⟨fun _ => ⟨tb4 169 rfl rfl, omX10_beadOf⟩, fun h => absurd h (by decide), fun h => absurd h (by decide), fun h => absurd h (by decide)⟩
theorem ik10_105 : okIv RX10 (105, 0, 2, mX10_lineOf) := ⟨fun _ => ⟨tb4 161 rfl rfl, omX10_lineOf⟩, fun h => absurd h (by decide), fun h => absurd h (by decide), fun h => absurd h (by decide)⟩
theorem ik10_108 : okIv RX10 (108, 0, 3, mX10_isSame) := ⟨fun _ => ⟨tb4 157 rfl rfl, omX10_isSame⟩, fun h => absurd h (by decide), fun h => absurd h (by decide), fun h => absurd h (by decide)⟩
theorem ik10_116 : okIv RX10 (116, 0, 3, mX10_likeOf) := ⟨fun _ => ⟨tb4 153 rfl rfl, omX10_likeOf⟩, fun h => absurd h (by decide), fun h => absurd h (by decide), fun h => absurd h (by decide)⟩
theorem ik10_120 : okIv RX10 (120, 0, 2, mX10_runsOf) := ⟨fun _ => ⟨tb4 173 rfl rfl, omX10_runsOf⟩, fun h => absurd h (by decide), fun h => absurd h (by decide), fun h => absurd h (by decide)⟩
theorem ik10_123 : okIv RX10 (123, 0, 1, mX10_partOf) := ⟨fun _ => ⟨tb4 180 rfl rfl, omX10_partOf⟩, fun h => absurd h (by decide), fun h => absurd h (by decide), fun h => absurd h (by decide)⟩
theorem ik10_126 : okIv RX10 (126, 0, 2, mX10_wordsBy) := ⟨fun _ => ⟨tb4 149 rfl rfl, omX10_wordsBy⟩, fun h => absurd h (by decide), fun h => absurd h (by decide), fun h => absurd h (by decide)⟩
theorem ik10_129 : okIv RX10 (129, 0, 1, mX10_formOf) := ⟨fun _ => ⟨tb4 145 rfl rfl, omX10_formOf⟩, fun h => absurd h (by decide), fun h => absurd h (by decide), fun h => absurd h (by decide)⟩
theorem ik10_132 : okIv RX10 (132, 0, 0, mX10_width) := ⟨fun _ => ⟨tb4 133 rfl rfl, omX10_width⟩, fun h => absurd h (by decide), fun h => absurd h (by decide), fun h => absurd h (by decide)⟩
theorem ik10_136 : okIv RX10 (136, 0, 2, mX10_manyOf) := ⟨fun _ => ⟨tb4 196 rfl rfl, omX10_manyOf⟩, fun h => absurd h (by decide), fun h => absurd h (by decide), fun h => absurd h (by decide)⟩
theorem ik10_139 : okIv RX10 (139, 0, 0, mX10_beads) := ⟨fun _ => ⟨tb4 137 rfl rfl, omX10_beads⟩, fun h => absurd h (by decide), fun h => absurd h (by decide), fun h => absurd h (by decide)⟩
theorem ik10_142 : okIv RX10 (142, 0, 0, mX10_allWords) := ⟨fun _ => ⟨tb4 141 rfl rfl, omX10_allWords⟩, fun h => absurd h (by decide), fun h => absurd h (by decide), fun h => absurd h (by decide)⟩
theorem ik10_145 : okIv RX10 (145, 0, 0, mX10_unlike) := ⟨fun _ => ⟨tb4 184 rfl rfl, omX10_unlike⟩, fun h => absurd h (by decide), fun h => absurd h (by decide), fun h => absurd h (by decide)⟩
theorem ik10_148 : okIv RX10 (148, 0, 0, mX10_allRuns) := ⟨fun _ => ⟨tb4 188 rfl rfl, omX10_allRuns⟩, fun h => absurd h (by decide), fun h => absurd h (by decide), fun h => absurd h (by decide)⟩
theorem ik10_151 : okIv RX10 (151, 0, 0, mX10_colours) := ⟨fun _ => ⟨tb4 192 rfl rfl, omX10_colours⟩, fun h => absurd h (by decide), fun h => absurd h (by decide), fun h => absurd h (by decide)⟩
theorem ik10_157 : okIv RX10 (157, 0, 1, mX10_isRow) := ⟨fun _ => ⟨tb4 204 rfl rfl, omX10_isRow⟩, fun h => absurd h (by decide), fun h => absurd h (by decide), fun h => absurd h (by decide)⟩
theorem ik10_163 : okIv RX10 (163, 0, 1, mX10_likes) := ⟨fun _ => ⟨tb4 220 rfl rfl, omX10_likes⟩, fun h => absurd h (by decide), fun h => absurd h (by decide), fun h => absurd h (by decide)⟩
theorem ik10_168 : okIv RX10 (168, 0, 2, mX10_wordOf) := ⟨fun _ => ⟨tb4 233 rfl rfl, omX10_wordOf⟩, fun h => absurd h (by decide), fun h => absurd h (by decide), fun h => absurd h (by decide)⟩
theorem ik10_178 : okIv RX10 (178, 0, 1, mX10_readRuns) := ⟨fun _ => ⟨tb5 22 rfl rfl, omX10_readRuns⟩, fun h => absurd h (by decide), fun h => absurd h (by decide), fun h => absurd h (by decide)⟩
theorem ik10_183 : okIv RX10 (183, 0, 1, mX10_readLike) := ⟨fun _ => ⟨tb5 14 rfl rfl, omX10_readLike⟩, fun h => absurd h (by decide), fun h => absurd h (by decide), fun h => absurd h (by decide)⟩
theorem ik10_187 : okIv RX10 (187, 0, 0, mX10_readMirror) := ⟨fun _ => ⟨tb5 18 rfl rfl, omX10_readMirror⟩, fun h => absurd h (by decide), fun h => absurd h (by decide), fun h => absurd h (by decide)⟩
theorem ik10_190 : okIv RX10 (190, 0, 0, mX10_readTimes) := ⟨fun _ => ⟨tb5 27 rfl rfl, omX10_readTimes⟩, fun h => absurd h (by decide), fun h => absurd h (by decide), fun h => absurd h (by decide)⟩
theorem ik10_193 : okIv RX10 (193, 0, 0, mX10_speaks) := ⟨fun _ => ⟨tb5 10 rfl rfl, omX10_speaks⟩, fun h => absurd h (by decide), fun h => absurd h (by decide), fun h => absurd h (by decide)⟩
theorem ik10_196 : okIv RX10 (196, 0, 1, mX10_planOf) := ⟨fun _ => ⟨tb5 52 rfl rfl, omX10_planOf⟩, fun h => absurd h (by decide), fun h => absurd h (by decide), fun h => absurd h (by decide)⟩
theorem ik10_199 : okIv RX10 (199, 0, 2, mX10_asTold) := ⟨fun _ => ⟨tb5 69 rfl rfl, omX10_asTold⟩, fun h => absurd h (by decide), fun h => absurd h (by decide), fun h => absurd h (by decide)⟩
theorem ik10_204 : okIv RX10 (204, 0, 0, mX10_firstMistake) := ⟨fun _ => ⟨tb5 61 rfl rfl, omX10_firstMistake⟩, fun h => absurd h (by decide), fun h => absurd h (by decide), fun h => absurd h (by decide)⟩
theorem ik10_207 : okIv RX10 (207, 0, 1, mX10_kindOf) := ⟨fun _ => ⟨tb5 65 rfl rfl, omX10_kindOf⟩, fun h => absurd h (by decide), fun h => absurd h (by decide), fun h => absurd h (by decide)⟩
theorem ik10_212 : okIv RX10 (212, 0, 1, mX10_turns) := ⟨fun _ => ⟨tb5 86 rfl rfl, omX10_turns⟩, fun h => absurd h (by decide), fun h => absurd h (by decide), fun h => absurd h (by decide)⟩
theorem ik10_216 : okIv RX10 (216, 0, 1, mX10_goesOn) := ⟨fun _ => ⟨tb5 90 rfl rfl, omX10_goesOn⟩, fun h => absurd h (by decide), fun h => absurd h (by decide), fun h => absurd h (by decide)⟩
theorem ik10_219 : okIv RX10 (219, 0, 2, mX10_copiesRow) := ⟨fun _ => ⟨tb5 94 rfl rfl, omX10_copiesRow⟩, fun h => absurd h (by decide), fun h => absurd h (by decide), fun h => absurd h (by decide)⟩
theorem ik10_227 : okIv RX10 (227, 0, 0, mX10_gets) := ⟨fun _ => ⟨tb5 115 rfl rfl, omX10_gets⟩, fun h => absurd h (by decide), fun h => absurd h (by decide), fun h => absurd h (by decide)⟩
theorem ik10_232 : okIv RX10 (232, 0, 3, mX10_drawsRow) := ⟨fun _ => ⟨tb5 111 rfl rfl, omX10_drawsRow⟩, fun h => absurd h (by decide), fun h => absurd h (by decide), fun h => absurd h (by decide)⟩
theorem ik10_245 : okIv RX10 (245, 0, 1, mX10_string) := ⟨fun _ => ⟨tb5 144 rfl rfl, omX10_string⟩, fun h => absurd h (by decide), fun h => absurd h (by decide), fun h => absurd h (by decide)⟩
def tX10 : CT := ([(7, 10, 0, 2), (13, 10, 1, 2), (16, 10, 2, 2), (19, 10, 3, 2), (23, 10, 4, 2), (26, 10, 11, 2), (29, 10, 13, 2), (32, 10, 16, 2), (35, 10, 17, 2), (38, 10, 18, 2), (47, 10, 5, 0), (51, 10, 9, 0), (54, 10, 7, 0), (57, 10, 10, 0), (60, 10, 6, 0), (67, 10, 8, 0), (154, 10, 12, 0), (173, 10, 14, 0), (223, 10, 15, 0), (242, 10, 19, 0)], [(43, 1, 3, mX10_in), (112, 1, 1, mX10_flag), (160, 1, 1, mX10_isColour), (236, 1, 2, mX10_isSheet), (63, 0, 1, mX10_byteAt), (74, 0, 2, mX10_requires), (78, 0, 0, mX10_reads), (81, 0, 0, mX10_areBeads), (85, 0, 3, mX10_is), (89, 0, 0, mX10_readRow), (92, 0, 0, mX10_readLine), (97, 0, 1, mX10_isBack), (101, 0, 2, mX10_beadOf), (105, 0, 2, mX10_lineOf), (108, 0, 3, mX10_isSame), (116, 0, 3, mX10_likeOf), (120, 0, 2, mX10_runsOf), (123, 0, 1, mX10_partOf), (126, 0, 2, mX10_wordsBy), (129, 0, 1, mX10_formOf), (132, 0, 0, mX10_width), (136, 0, 2, mX10_manyOf), (139, 0, 0, mX10_beads), (142, 0, 0, mX10_allWords), (145, 0, 0, mX10_unlike), (148, 0, 0, mX10_allRuns), (151, 0, 0, mX10_colours), (157, 0, 1, mX10_isRow), (163, 0, 1, mX10_likes), (168, 0, 2, mX10_wordOf), (178, 0, 1, mX10_readRuns), (183, 0, 1, mX10_readLike), (187, 0, 0, mX10_readMirror), (190, 0, 0, mX10_readTimes), (193, 0, 0, mX10_speaks), (196, 0, 1, mX10_planOf), (199, 0, 2, mX10_asTold), (204, 0, 0, mX10_firstMistake), (207, 0, 1, mX10_kindOf), (212, 0, 1, mX10_turns), (216, 0, 1, mX10_goesOn), (219, 0, 2, mX10_copiesRow), (227, 0, 0, mX10_gets), (232, 0, 3, mX10_drawsRow), (245, 0, 1, mX10_string)], [(226, 1103515245)], [(41, lN 127), (70, lN 97), (72, lN 122), (95, lN 5), (166, lN 4), (171, lN 99), (176, lN 16), (181, lN 2), (202, lN 6), (210, lN 3), (230, lN 12), (240, lN 32)], [])
theorem okX10 : okCT RX10 tX10 := ⟨List.forall_mem_cons.mpr ⟨fk10_7, List.forall_mem_cons.mpr ⟨fk10_13, List.forall_mem_cons.mpr ⟨fk10_16, List.forall_mem_cons.mpr ⟨fk10_19, List.forall_mem_cons.mpr ⟨fk10_23, List.forall_mem_cons.mpr ⟨fk10_26, List.forall_mem_cons.mpr ⟨fk10_29, List.forall_mem_cons.mpr ⟨fk10_32, List.forall_mem_cons.mpr ⟨fk10_35, List.forall_mem_cons.mpr ⟨fk10_38, List.forall_mem_cons.mpr ⟨fk10_47, List.forall_mem_cons.mpr ⟨fk10_51, List.forall_mem_cons.mpr ⟨fk10_54, List.forall_mem_cons.mpr ⟨fk10_57, List.forall_mem_cons.mpr ⟨fk10_60, List.forall_mem_cons.mpr ⟨fk10_67, List.forall_mem_cons.mpr ⟨fk10_154, List.forall_mem_cons.mpr ⟨fk10_173, List.forall_mem_cons.mpr ⟨fk10_223, List.forall_mem_cons.mpr ⟨fk10_242, fun _ h => absurd h List.not_mem_nil⟩⟩⟩⟩⟩⟩⟩⟩⟩⟩⟩⟩⟩⟩⟩⟩⟩⟩⟩⟩, List.forall_mem_cons.mpr ⟨ik10_43, List.forall_mem_cons.mpr ⟨ik10_112, List.forall_mem_cons.mpr ⟨ik10_160, List.forall_mem_cons.mpr ⟨ik10_236, List.forall_mem_cons.mpr ⟨ik10_63, List.forall_mem_cons.mpr ⟨ik10_74, List.forall_mem_cons.mpr ⟨ik10_78, List.forall_mem_cons.mpr ⟨ik10_81, List.forall_mem_cons.mpr ⟨ik10_85, List.forall_mem_cons.mpr ⟨ik10_89, List.forall_mem_cons.mpr ⟨ik10_92, List.forall_mem_cons.mpr ⟨ik10_97, List.forall_mem_cons.mpr ⟨ik10_101, List.forall_mem_cons.mpr ⟨ik10_105, List.forall_mem_cons.mpr ⟨ik10_108, List.forall_mem_cons.mpr ⟨ik10_116, List.forall_mem_cons.mpr ⟨ik10_120, List.forall_mem_cons.mpr ⟨ik10_123, List.forall_mem_cons.mpr ⟨ik10_126, List.forall_mem_cons.mpr ⟨ik10_129, List.forall_mem_cons.mpr ⟨ik10_132, List.forall_mem_cons.mpr ⟨ik10_136, List.forall_mem_cons.mpr ⟨ik10_139, List.forall_mem_cons.mpr ⟨ik10_142, List.forall_mem_cons.mpr ⟨ik10_145, List.forall_mem_cons.mpr ⟨ik10_148, List.forall_mem_cons.mpr ⟨ik10_151, List.forall_mem_cons.mpr ⟨ik10_157, List.forall_mem_cons.mpr ⟨ik10_163, List.forall_mem_cons.mpr ⟨ik10_168, List.forall_mem_cons.mpr ⟨ik10_178, List.forall_mem_cons.mpr ⟨ik10_183, List.forall_mem_cons.mpr ⟨ik10_187, List.forall_mem_cons.mpr ⟨ik10_190, List.forall_mem_cons.mpr ⟨ik10_193, List.forall_mem_cons.mpr ⟨ik10_196, List.forall_mem_cons.mpr ⟨ik10_199, List.forall_mem_cons.mpr ⟨ik10_204, List.forall_mem_cons.mpr ⟨ik10_207, List.forall_mem_cons.mpr ⟨ik10_212, List.forall_mem_cons.mpr ⟨ik10_216, List.forall_mem_cons.mpr ⟨ik10_219, List.forall_mem_cons.mpr ⟨ik10_227, List.forall_mem_cons.mpr ⟨ik10_232, List.forall_mem_cons.mpr ⟨ik10_245, fun _ h => absurd h List.not_mem_nil⟩⟩⟩⟩⟩⟩⟩⟩⟩⟩⟩⟩⟩⟩⟩⟩⟩⟩⟩⟩⟩⟩⟩⟩⟩⟩⟩⟩⟩⟩⟩⟩⟩⟩⟩⟩⟩⟩⟩⟩⟩⟩⟩⟩⟩, List.forall_mem_cons.mpr ⟨tb5 119 rfl rfl, fun _ h => absurd h List.not_mem_nil⟩, List.forall_mem_cons.mpr ⟨tb4 83 rfl rfl, List.forall_mem_cons.mpr ⟨tb4 103 rfl rfl, List.forall_mem_cons.mpr ⟨tb4 104 rfl rfl, List.forall_mem_cons.mpr ⟨tb4 215 rfl rfl, List.forall_mem_cons.mpr ⟨tb4 228 rfl rfl, List.forall_mem_cons.mpr ⟨tb5 1 rfl rfl, List.forall_mem_cons.mpr ⟨tb5 26 rfl rfl, List.forall_mem_cons.mpr ⟨tb5 31 rfl rfl, List.forall_mem_cons.mpr ⟨tb5 60 rfl rfl, List.forall_mem_cons.mpr ⟨tb5 85 rfl rfl, List.forall_mem_cons.mpr ⟨tb5 110 rfl rfl, List.forall_mem_cons.mpr ⟨tb5 143 rfl rfl, fun _ h => absurd h List.not_mem_nil⟩⟩⟩⟩⟩⟩⟩⟩⟩⟩⟩⟩, fun _ h => absurd h List.not_mem_nil⟩
end
section
def eX0_below : List En := [(0, 1, .aload_n 0, 0, 0, []), (1, 1, .aload_n 0, 0, 0, []), (2, 3, .getfield 7, 0, 0, []), (5, 2, .ldc 13, 0, 0, []), (7, 1, .imul, 0, 0, []), (8, 3, .sipush 12345, 0, nI 12345, []), (11, 1, .iadd, 0, 0, []), (12, 3, .putfield 7, 0, 0, []), (15, 1, .aload_n 0, 0, 0, []), (16, 3, .getfield 7, 0, 0, []), (19, 2, .bipush 16, 0, nI 16, []), (21, 1, .iushr, 0, 0, []), (22, 3, .sipush 32767, 0, nI 32767, []), (25, 1, .iand, 0, 0, []), (26, 1, .istore_n 2, 0, 0, []), (27, 1, .iload_n 1, 0, 0, []), (28, 1, .iconst 1, 0, nI 1, []), (29, 3, .if_icmp .ge 7, 36, 0, []), (32, 1, .iconst 0, 0, nI 0, []), (33, 3, .goto 6, 39, 0, []), (36, 1, .iload_n 2, 0, 0, []), (37, 1, .iload_n 1, 0, 0, []), (38, 1, .irem, 0, 0, []), (39, 1, .ireturn, 0, 0, [])]
set_option maxRecDepth 20000 in
theorem kX0_below : okE mX0_below.2.1 eX0_below := by unfold okE; decide +kernel
def eX2_become : List En := [(0, 1, .aload_n 1, 0, 0, []), (1, 3, .getfield 9, 0, 0, []), (4, 1, .iconst 0, 0, nI 0, []), (5, 1, .aload_n 0, 0, 0, []), (6, 3, .getfield 9, 0, 0, []), (9, 1, .iconst 0, 0, nI 0, []), (10, 3, .sipush 192, 0, nI 192, []), (13, 3, .invokestatic 25, 0, 0, []), (16, 1, .aload_n 0, 0, 0, []), (17, 1, .aload_n 1, 0, 0, []), (18, 3, .getfield 15, 0, 0, []), (21, 3, .putfield 15, 0, 0, []), (24, 1, .aload_n 0, 0, 0, []), (25, 1, .aload_n 1, 0, 0, []), (26, 3, .getfield 19, 0, 0, []), (29, 3, .putfield 19, 0, 0, []), (32, 1, .aload_n 0, 0, 0, []), (33, 1, .aload_n 1, 0, 0, []), (34, 3, .getfield 22, 0, 0, []), (37, 3, .putfield 22, 0, 0, []), (40, 1, .return_, 0, 0, [])]
set_option maxRecDepth 20000 in
theorem kX2_become : okE mX2_become.2.1 eX2_become := by unfold okE; decide +kernel
def eX2_clear : List En := [(0, 1, .aload_n 0, 0, 0, []), (1, 1, .iconst 0, 0, nI 0, []), (2, 3, .putfield 15, 0, 0, []), (5, 1, .aload_n 0, 0, 0, []), (6, 1, .iconst 0, 0, nI 0, []), (7, 3, .putfield 19, 0, 0, []), (10, 1, .aload_n 0, 0, 0, []), (11, 1, .iconst 0, 0, nI 0, []), (12, 3, .putfield 22, 0, 0, []), (15, 1, .return_, 0, 0, [])]
set_option maxRecDepth 20000 in
theorem kX2_clear : okE mX2_clear.2.1 eX2_clear := by unfold okE; decide +kernel
def eX2_size : List En := [(0, 1, .aload_n 0, 0, 0, []), (1, 3, .getfield 15, 0, 0, []), (4, 1, .aload_n 0, 0, 0, []), (5, 3, .getfield 19, 0, 0, []), (8, 1, .imul, 0, 0, []), (9, 1, .ireturn, 0, 0, [])]
set_option maxRecDepth 20000 in
theorem kX2_size : okE mX2_size.2.1 eX2_size := by unfold okE; decide +kernel
def eX2_hasRow : List En := [(0, 1, .iload_n 1, 0, 0, []), (1, 3, .ifCond .lt 15, 16, 0, []), (4, 1, .iload_n 1, 0, 0, []), (5, 1, .aload_n 0, 0, 0, []), (6, 3, .getfield 15, 0, 0, []), (9, 3, .if_icmp .ge 7, 16, 0, []), (12, 1, .iconst 1, 0, nI 1, []), (13, 3, .goto 4, 17, 0, []), (16, 1, .iconst 0, 0, nI 0, []), (17, 1, .ireturn, 0, 0, [])]
set_option maxRecDepth 20000 in
theorem kX2_hasRow : okE mX2_hasRow.2.1 eX2_hasRow := by unfold okE; decide +kernel
def eX2_hasBead : List En := [(0, 1, .aload_n 0, 0, 0, []), (1, 1, .iload_n 1, 0, 0, []), (2, 3, .invokevirtual 31, 0, 0, []), (5, 3, .ifCond .eq 19, 24, 0, []), (8, 1, .iload_n 2, 0, 0, []), (9, 3, .ifCond .lt 15, 24, 0, []), (12, 1, .iload_n 2, 0, 0, []), (13, 1, .aload_n 0, 0, 0, []), (14, 3, .getfield 19, 0, 0, []), (17, 3, .if_icmp .ge 7, 24, 0, []), (20, 1, .iconst 1, 0, nI 1, []), (21, 3, .goto 4, 25, 0, []), (24, 1, .iconst 0, 0, nI 0, []), (25, 1, .ireturn, 0, 0, [])]
set_option maxRecDepth 20000 in
theorem kX2_hasBead : okE mX2_hasBead.2.1 eX2_hasBead := by unfold okE; decide +kernel
def eX2_colourAt : List En := [(0, 1, .aload_n 0, 0, 0, []), (1, 3, .getfield 9, 0, 0, []), (4, 1, .iload_n 1, 0, 0, []), (5, 2, .bipush 16, 0, nI 16, []), (7, 1, .imul, 0, 0, []), (8, 1, .iload_n 2, 0, 0, []), (9, 1, .iadd, 0, 0, []), (10, 1, .iaload, 0, 0, []), (11, 1, .ireturn, 0, 0, [])]
set_option maxRecDepth 20000 in
theorem kX2_colourAt : okE mX2_colourAt.2.1 eX2_colourAt := by unfold okE; decide +kernel
def eX2_put : List En := [(0, 1, .aload_n 0, 0, 0, []), (1, 3, .getfield 9, 0, 0, []), (4, 1, .iload_n 1, 0, 0, []), (5, 2, .bipush 16, 0, nI 16, []), (7, 1, .imul, 0, 0, []), (8, 1, .iload_n 2, 0, 0, []), (9, 1, .iadd, 0, 0, []), (10, 1, .iload_n 3, 0, 0, []), (11, 1, .iastore, 0, 0, []), (12, 1, .return_, 0, 0, [])]
set_option maxRecDepth 20000 in
theorem kX2_put : okE mX2_put.2.1 eX2_put := by unfold okE; decide +kernel
def eX2_placeOf : List En := [(0, 1, .aload_n 0, 0, 0, []), (1, 3, .getfield 22, 0, 0, []), (4, 1, .iconst 1, 0, nI 1, []), (5, 3, .if_icmp .ne 21, 26, 0, []), (8, 1, .iload_n 1, 0, 0, []), (9, 1, .iconst 2, 0, nI 2, []), (10, 1, .irem, 0, 0, []), (11, 1, .iconst 1, 0, nI 1, []), (12, 3, .if_icmp .ne 14, 26, 0, []), (15, 1, .aload_n 0, 0, 0, []), (16, 3, .getfield 19, 0, 0, []), (19, 1, .iconst 1, 0, nI 1, []), (20, 1, .isub, 0, 0, []), (21, 1, .iload_n 2, 0, 0, []), (22, 1, .isub, 0, 0, []), (23, 3, .goto 4, 27, 0, []), (26, 1, .iload_n 2, 0, 0, []), (27, 1, .ireturn, 0, 0, [])]
set_option maxRecDepth 20000 in
theorem kX2_placeOf : okE mX2_placeOf.2.1 eX2_placeOf := by unfold okE; decide +kernel
def eX2_readAt : List En := [(0, 1, .aload_n 0, 0, 0, []), (1, 3, .getfield 9, 0, 0, []), (4, 1, .iload_n 1, 0, 0, []), (5, 2, .bipush 16, 0, nI 16, []), (7, 1, .imul, 0, 0, []), (8, 1, .aload_n 0, 0, 0, []), (9, 1, .iload_n 1, 0, 0, []), (10, 1, .iload_n 2, 0, 0, []), (11, 3, .invokevirtual 35, 0, 0, []), (14, 1, .iadd, 0, 0, []), (15, 1, .iaload, 0, 0, []), (16, 1, .ireturn, 0, 0, [])]
set_option maxRecDepth 20000 in
theorem kX2_readAt : okE mX2_readAt.2.1 eX2_readAt := by unfold okE; decide +kernel
def eX2_manyIn : List En := [(0, 1, .iconst 0, 0, nI 0, []), (1, 1, .istore_n 3, 0, 0, []), (2, 1, .iconst 0, 0, nI 0, []), (3, 2, .istore 4, 0, 0, []), (5, 2, .iload 4, 0, 0, []), (7, 1, .aload_n 0, 0, 0, []), (8, 3, .getfield 19, 0, 0, []), (11, 3, .if_icmp .ge 23, 34, 0, []), (14, 1, .aload_n 0, 0, 0, []), (15, 1, .iload_n 1, 0, 0, []), (16, 2, .iload 4, 0, 0, []), (18, 3, .invokevirtual 39, 0, 0, []), (21, 1, .iload_n 2, 0, 0, []), (22, 3, .if_icmp .ne 6, 28, 0, []), (25, 3, .iinc 3 1, 0, nI 1, []), (28, 3, .iinc 4 1, 0, nI 1, []), (31, 3, .goto (-26), 5, 0, []), (34, 1, .iload_n 3, 0, 0, []), (35, 1, .ireturn, 0, 0, [])]
set_option maxRecDepth 20000 in
theorem kX2_manyIn : okE mX2_manyIn.2.1 eX2_manyIn := by unfold okE; decide +kernel
def eX2_manyInAll : List En := [(0, 1, .iconst 0, 0, nI 0, []), (1, 1, .istore_n 2, 0, 0, []), (2, 1, .iconst 0, 0, nI 0, []), (3, 1, .istore_n 3, 0, 0, []), (4, 1, .iload_n 3, 0, 0, []), (5, 1, .aload_n 0, 0, 0, []), (6, 3, .getfield 15, 0, 0, []), (9, 3, .if_icmp .ge 18, 27, 0, []), (12, 1, .iload_n 2, 0, 0, []), (13, 1, .aload_n 0, 0, 0, []), (14, 1, .iload_n 3, 0, 0, []), (15, 1, .iload_n 1, 0, 0, []), (16, 3, .invokevirtual 42, 0, 0, []), (19, 1, .iadd, 0, 0, []), (20, 1, .istore_n 2, 0, 0, []), (21, 3, .iinc 3 1, 0, nI 1, []), (24, 3, .goto (-20), 4, 0, []), (27, 1, .iload_n 2, 0, 0, []), (28, 1, .ireturn, 0, 0, [])]
set_option maxRecDepth 20000 in
theorem kX2_manyInAll : okE mX2_manyInAll.2.1 eX2_manyInAll := by unfold okE; decide +kernel
def eX2_sameBeads : List En := [(0, 1, .iconst 0, 0, nI 0, []), (1, 1, .istore_n 3, 0, 0, []), (2, 1, .iload_n 3, 0, 0, []), (3, 1, .aload_n 0, 0, 0, []), (4, 3, .getfield 19, 0, 0, []), (7, 3, .if_icmp .ge 26, 33, 0, []), (10, 1, .aload_n 0, 0, 0, []), (11, 1, .iload_n 1, 0, 0, []), (12, 1, .iload_n 3, 0, 0, []), (13, 3, .invokevirtual 39, 0, 0, []), (16, 1, .aload_n 0, 0, 0, []), (17, 1, .iload_n 2, 0, 0, []), (18, 1, .iload_n 3, 0, 0, []), (19, 3, .invokevirtual 39, 0, 0, []), (22, 3, .if_icmp .eq 5, 27, 0, []), (25, 1, .iconst 0, 0, nI 0, []), (26, 1, .ireturn, 0, 0, []), (27, 3, .iinc 3 1, 0, nI 1, []), (30, 3, .goto (-28), 2, 0, []), (33, 1, .iconst 1, 0, nI 1, []), (34, 1, .ireturn, 0, 0, [])]
set_option maxRecDepth 20000 in
theorem kX2_sameBeads : okE mX2_sameBeads.2.1 eX2_sameBeads := by unfold okE; decide +kernel
def eX2_sameLine : List En := [(0, 1, .iconst 0, 0, nI 0, []), (1, 2, .istore 4, 0, 0, []), (3, 2, .iload 4, 0, 0, []), (5, 1, .aload_n 0, 0, 0, []), (6, 3, .getfield 19, 0, 0, []), (9, 3, .if_icmp .ge 44, 53, 0, []), (12, 1, .aload_n 0, 0, 0, []), (13, 1, .iload_n 1, 0, 0, []), (14, 2, .iload 4, 0, 0, []), (16, 3, .invokevirtual 45, 0, 0, []), (19, 1, .aload_n 0, 0, 0, []), (20, 1, .iload_n 2, 0, 0, []), (21, 1, .iload_n 3, 0, 0, []), (22, 3, .ifCond .eq 15, 37, 0, []), (25, 1, .aload_n 0, 0, 0, []), (26, 3, .getfield 19, 0, 0, []), (29, 1, .iconst 1, 0, nI 1, []), (30, 1, .isub, 0, 0, []), (31, 2, .iload 4, 0, 0, []), (33, 1, .isub, 0, 0, []), (34, 3, .goto 5, 39, 0, []), (37, 2, .iload 4, 0, 0, []), (39, 3, .invokevirtual 45, 0, 0, []), (42, 3, .if_icmp .eq 5, 47, 0, []), (45, 1, .iconst 0, 0, nI 0, []), (46, 1, .ireturn, 0, 0, []), (47, 3, .iinc 4 1, 0, nI 1, []), (50, 3, .goto (-47), 3, 0, []), (53, 1, .iconst 1, 0, nI 1, []), (54, 1, .ireturn, 0, 0, [])]
set_option maxRecDepth 20000 in
theorem kX2_sameLine : okE mX2_sameLine.2.1 eX2_sameLine := by unfold okE; decide +kernel
def eX2_likeAhead : List En := [(0, 1, .iconst 0, 0, nI 0, []), (1, 1, .istore_n 3, 0, 0, []), (2, 1, .iload_n 3, 0, 0, []), (3, 1, .iload_n 1, 0, 0, []), (4, 3, .if_icmp .ge 21, 25, 0, []), (7, 1, .aload_n 0, 0, 0, []), (8, 1, .iload_n 1, 0, 0, []), (9, 1, .iload_n 3, 0, 0, []), (10, 1, .iload_n 2, 0, 0, []), (11, 3, .invokevirtual 48, 0, 0, []), (14, 3, .ifCond .eq 5, 19, 0, []), (17, 1, .iload_n 3, 0, 0, []), (18, 1, .ireturn, 0, 0, []), (19, 3, .iinc 3 1, 0, nI 1, []), (22, 3, .goto (-20), 2, 0, []), (25, 2, .bipush (-4), 0, -nI 4, []), (27, 1, .ireturn, 0, 0, [])]
set_option maxRecDepth 20000 in
theorem kX2_likeAhead : okE mX2_likeAhead.2.1 eX2_likeAhead := by unfold okE; decide +kernel
def eX2_firstLike : List En := [(0, 1, .aload_n 0, 0, 0, []), (1, 1, .iload_n 1, 0, 0, []), (2, 1, .iconst 0, 0, nI 0, []), (3, 3, .invokevirtual 52, 0, 0, []), (6, 1, .istore_n 2, 0, 0, []), (7, 1, .iload_n 2, 0, 0, []), (8, 2, .bipush (-4), 0, -nI 4, []), (10, 3, .if_icmp .ne 7, 17, 0, []), (13, 1, .iload_n 1, 0, 0, []), (14, 3, .goto 4, 18, 0, []), (17, 1, .iload_n 2, 0, 0, []), (18, 1, .ireturn, 0, 0, [])]
set_option maxRecDepth 20000 in
theorem kX2_firstLike : okE mX2_firstLike.2.1 eX2_firstLike := by unfold okE; decide +kernel
def eX2_manyLike : List En := [(0, 1, .iconst 0, 0, nI 0, []), (1, 1, .istore_n 2, 0, 0, []), (2, 1, .iconst 0, 0, nI 0, []), (3, 1, .istore_n 3, 0, 0, []), (4, 1, .iload_n 3, 0, 0, []), (5, 1, .aload_n 0, 0, 0, []), (6, 3, .getfield 15, 0, 0, []), (9, 3, .if_icmp .ge 22, 31, 0, []), (12, 1, .aload_n 0, 0, 0, []), (13, 1, .iload_n 1, 0, 0, []), (14, 1, .iload_n 3, 0, 0, []), (15, 1, .iconst 0, 0, nI 0, []), (16, 3, .invokevirtual 48, 0, 0, []), (19, 3, .ifCond .eq 6, 25, 0, []), (22, 3, .iinc 2 1, 0, nI 1, []), (25, 3, .iinc 3 1, 0, nI 1, []), (28, 3, .goto (-24), 4, 0, []), (31, 1, .iload_n 2, 0, 0, []), (32, 1, .ireturn, 0, 0, [])]
set_option maxRecDepth 20000 in
theorem kX2_manyLike : okE mX2_manyLike.2.1 eX2_manyLike := by unfold okE; decide +kernel
def eX2_linesUnlike : List En := [(0, 1, .iconst 0, 0, nI 0, []), (1, 1, .istore_n 1, 0, 0, []), (2, 1, .iconst 0, 0, nI 0, []), (3, 1, .istore_n 2, 0, 0, []), (4, 1, .iload_n 2, 0, 0, []), (5, 1, .aload_n 0, 0, 0, []), (6, 3, .getfield 15, 0, 0, []), (9, 3, .if_icmp .ge 23, 32, 0, []), (12, 1, .aload_n 0, 0, 0, []), (13, 1, .iload_n 2, 0, 0, []), (14, 1, .iconst 0, 0, nI 0, []), (15, 3, .invokevirtual 52, 0, 0, []), (18, 2, .bipush (-4), 0, -nI 4, []), (20, 3, .if_icmp .ne 6, 26, 0, []), (23, 3, .iinc 1 1, 0, nI 1, []), (26, 3, .iinc 2 1, 0, nI 1, []), (29, 3, .goto (-25), 4, 0, []), (32, 1, .iload_n 1, 0, 0, []), (33, 1, .ireturn, 0, 0, [])]
set_option maxRecDepth 20000 in
theorem kX2_linesUnlike : okE mX2_linesUnlike.2.1 eX2_linesUnlike := by unfold okE; decide +kernel
def eX2_runsOf : List En := [(0, 1, .iconst 0, 0, nI 0, []), (1, 1, .istore_n 2, 0, 0, []), (2, 1, .iconst 0, 0, nI 0, []), (3, 1, .istore_n 3, 0, 0, []), (4, 1, .iload_n 3, 0, 0, []), (5, 1, .aload_n 0, 0, 0, []), (6, 3, .getfield 19, 0, 0, []), (9, 3, .if_icmp .ge 33, 42, 0, []), (12, 1, .iload_n 3, 0, 0, []), (13, 3, .ifCond .eq 20, 33, 0, []), (16, 1, .aload_n 0, 0, 0, []), (17, 1, .iload_n 1, 0, 0, []), (18, 1, .iload_n 3, 0, 0, []), (19, 3, .invokevirtual 45, 0, 0, []), (22, 1, .aload_n 0, 0, 0, []), (23, 1, .iload_n 1, 0, 0, []), (24, 1, .iload_n 3, 0, 0, []), (25, 1, .iconst 1, 0, nI 1, []), (26, 1, .isub, 0, 0, []), (27, 3, .invokevirtual 45, 0, 0, []), (30, 3, .if_icmp .eq 6, 36, 0, []), (33, 3, .iinc 2 1, 0, nI 1, []), (36, 3, .iinc 3 1, 0, nI 1, []), (39, 3, .goto (-35), 4, 0, []), (42, 1, .iload_n 2, 0, 0, []), (43, 1, .ireturn, 0, 0, [])]
set_option maxRecDepth 20000 in
theorem kX2_runsOf : okE mX2_runsOf.2.1 eX2_runsOf := by unfold okE; decide +kernel
def eX2_runsInAll : List En := [(0, 1, .iconst 0, 0, nI 0, []), (1, 1, .istore_n 1, 0, 0, []), (2, 1, .iconst 0, 0, nI 0, []), (3, 1, .istore_n 2, 0, 0, []), (4, 1, .iload_n 2, 0, 0, []), (5, 1, .aload_n 0, 0, 0, []), (6, 3, .getfield 15, 0, 0, []), (9, 3, .if_icmp .ge 17, 26, 0, []), (12, 1, .iload_n 1, 0, 0, []), (13, 1, .aload_n 0, 0, 0, []), (14, 1, .iload_n 2, 0, 0, []), (15, 3, .invokevirtual 56, 0, 0, []), (18, 1, .iadd, 0, 0, []), (19, 1, .istore_n 1, 0, 0, []), (20, 3, .iinc 2 1, 0, nI 1, []), (23, 3, .goto (-19), 4, 0, []), (26, 1, .iload_n 1, 0, 0, []), (27, 1, .ireturn, 0, 0, [])]
set_option maxRecDepth 20000 in
theorem kX2_runsInAll : okE mX2_runsInAll.2.1 eX2_runsInAll := by unfold okE; decide +kernel
def eX2_partOf : List En := [(0, 1, .iconst 1, 0, nI 1, []), (1, 1, .istore_n 2, 0, 0, []), (2, 1, .iload_n 2, 0, 0, []), (3, 1, .aload_n 0, 0, 0, []), (4, 3, .getfield 19, 0, 0, []), (7, 3, .if_icmp .ge 29, 36, 0, []), (10, 1, .aload_n 0, 0, 0, []), (11, 3, .getfield 19, 0, 0, []), (14, 1, .iload_n 2, 0, 0, []), (15, 1, .irem, 0, 0, []), (16, 3, .ifCond .ne 14, 30, 0, []), (19, 1, .aload_n 0, 0, 0, []), (20, 1, .iload_n 1, 0, 0, []), (21, 1, .iload_n 2, 0, 0, []), (22, 3, .invokevirtual 60, 0, 0, []), (25, 3, .ifCond .eq 5, 30, 0, []), (28, 1, .iload_n 2, 0, 0, []), (29, 1, .ireturn, 0, 0, []), (30, 3, .iinc 2 1, 0, nI 1, []), (33, 3, .goto (-31), 2, 0, []), (36, 1, .aload_n 0, 0, 0, []), (37, 3, .getfield 19, 0, 0, []), (40, 1, .ireturn, 0, 0, [])]
set_option maxRecDepth 20000 in
theorem kX2_partOf : okE mX2_partOf.2.1 eX2_partOf := by unfold okE; decide +kernel
def eX2_comesAgain : List En := [(0, 1, .iload_n 2, 0, 0, []), (1, 1, .istore_n 3, 0, 0, []), (2, 1, .iload_n 3, 0, 0, []), (3, 1, .aload_n 0, 0, 0, []), (4, 3, .getfield 19, 0, 0, []), (7, 3, .if_icmp .ge 28, 35, 0, []), (10, 1, .aload_n 0, 0, 0, []), (11, 1, .iload_n 1, 0, 0, []), (12, 1, .iload_n 3, 0, 0, []), (13, 3, .invokevirtual 45, 0, 0, []), (16, 1, .aload_n 0, 0, 0, []), (17, 1, .iload_n 1, 0, 0, []), (18, 1, .iload_n 3, 0, 0, []), (19, 1, .iload_n 2, 0, 0, []), (20, 1, .isub, 0, 0, []), (21, 3, .invokevirtual 45, 0, 0, []), (24, 3, .if_icmp .eq 5, 29, 0, []), (27, 1, .iconst 0, 0, nI 0, []), (28, 1, .ireturn, 0, 0, []), (29, 3, .iinc 3 1, 0, nI 1, []), (32, 3, .goto (-30), 2, 0, []), (35, 1, .iconst 1, 0, nI 1, []), (36, 1, .ireturn, 0, 0, [])]
set_option maxRecDepth 20000 in
theorem kX2_comesAgain : okE mX2_comesAgain.2.1 eX2_comesAgain := by unfold okE; decide +kernel
def eX2_rowOfPlan : List En := [(0, 1, .aload_n 0, 0, 0, []), (1, 3, .getfield 19, 0, 0, []), (4, 3, .ifCond .ne 8, 12, 0, []), (7, 2, .bipush (-4), 0, -nI 4, []), (9, 3, .goto 9, 18, 0, []), (12, 1, .iload_n 1, 0, 0, []), (13, 1, .aload_n 0, 0, 0, []), (14, 3, .getfield 19, 0, 0, []), (17, 1, .idiv, 0, 0, []), (18, 1, .ireturn, 0, 0, [])]
set_option maxRecDepth 20000 in
theorem kX2_rowOfPlan : okE mX2_rowOfPlan.2.1 eX2_rowOfPlan := by unfold okE; decide +kernel
def eX2_placeOfPlan : List En := [(0, 1, .aload_n 0, 0, 0, []), (1, 3, .getfield 19, 0, 0, []), (4, 3, .ifCond .ne 8, 12, 0, []), (7, 2, .bipush (-4), 0, -nI 4, []), (9, 3, .goto 9, 18, 0, []), (12, 1, .iload_n 1, 0, 0, []), (13, 1, .aload_n 0, 0, 0, []), (14, 3, .getfield 19, 0, 0, []), (17, 1, .irem, 0, 0, []), (18, 1, .ireturn, 0, 0, [])]
set_option maxRecDepth 20000 in
theorem kX2_placeOfPlan : okE mX2_placeOfPlan.2.1 eX2_placeOfPlan := by unfold okE; decide +kernel
def eX2_planAt : List En := [(0, 1, .iload_n 1, 0, 0, []), (1, 3, .ifCond .lt 11, 12, 0, []), (4, 1, .iload_n 1, 0, 0, []), (5, 1, .aload_n 0, 0, 0, []), (6, 3, .invokevirtual 64, 0, 0, []), (9, 3, .if_icmp .lt 8, 17, 0, []), (12, 2, .bipush (-4), 0, -nI 4, []), (14, 3, .goto 17, 31, 0, []), (17, 1, .aload_n 0, 0, 0, []), (18, 1, .aload_n 0, 0, 0, []), (19, 1, .iload_n 1, 0, 0, []), (20, 3, .invokevirtual 68, 0, 0, []), (23, 1, .aload_n 0, 0, 0, []), (24, 1, .iload_n 1, 0, 0, []), (25, 3, .invokevirtual 71, 0, 0, []), (28, 3, .invokevirtual 45, 0, 0, []), (31, 1, .ireturn, 0, 0, [])]
set_option maxRecDepth 20000 in
theorem kX2_planAt : okE mX2_planAt.2.1 eX2_planAt := by unfold okE; decide +kernel
def eX2_takeRow : List En := [(0, 1, .aload_n 0, 0, 0, []), (1, 1, .iload_n 1, 0, 0, []), (2, 3, .putfield 19, 0, 0, []), (5, 1, .aload_n 0, 0, 0, []), (6, 1, .dup, 0, 0, []), (7, 3, .getfield 15, 0, 0, []), (10, 1, .iconst 1, 0, nI 1, []), (11, 1, .iadd, 0, 0, []), (12, 3, .putfield 15, 0, 0, []), (15, 1, .return_, 0, 0, [])]
set_option maxRecDepth 20000 in
theorem kX2_takeRow : okE mX2_takeRow.2.1 eX2_takeRow := by unfold okE; decide +kernel
def eX2_takeLine : List En := [(0, 1, .aload_n 0, 0, 0, []), (1, 1, .iload_n 2, 0, 0, []), (2, 3, .invokevirtual 74, 0, 0, []), (5, 1, .iconst 0, 0, nI 0, []), (6, 1, .istore_n 3, 0, 0, []), (7, 1, .iload_n 3, 0, 0, []), (8, 1, .aload_n 0, 0, 0, []), (9, 3, .getfield 19, 0, 0, []), (12, 3, .if_icmp .ge 33, 45, 0, []), (15, 1, .aload_n 0, 0, 0, []), (16, 1, .aload_n 0, 0, 0, []), (17, 3, .getfield 15, 0, 0, []), (20, 1, .iconst 1, 0, nI 1, []), (21, 1, .isub, 0, 0, []), (22, 1, .aload_n 0, 0, 0, []), (23, 1, .aload_n 0, 0, 0, []), (24, 3, .getfield 15, 0, 0, []), (27, 1, .iconst 1, 0, nI 1, []), (28, 1, .isub, 0, 0, []), (29, 1, .iload_n 3, 0, 0, []), (30, 3, .invokevirtual 35, 0, 0, []), (33, 1, .aload_n 1, 0, 0, []), (34, 1, .iload_n 3, 0, 0, []), (35, 1, .iaload, 0, 0, []), (36, 3, .invokevirtual 78, 0, 0, []), (39, 3, .iinc 3 1, 0, nI 1, []), (42, 3, .goto (-35), 7, 0, []), (45, 1, .return_, 0, 0, [])]
set_option maxRecDepth 20000 in
theorem kX2_takeLine : okE mX2_takeLine.2.1 eX2_takeLine := by unfold okE; decide +kernel
def eX2_copyRow : List En := [(0, 1, .aload_n 0, 0, 0, []), (1, 3, .getfield 9, 0, 0, []), (4, 1, .iload_n 1, 0, 0, []), (5, 2, .bipush 16, 0, nI 16, []), (7, 1, .imul, 0, 0, []), (8, 1, .aload_n 0, 0, 0, []), (9, 3, .getfield 9, 0, 0, []), (12, 1, .iload_n 2, 0, 0, []), (13, 2, .bipush 16, 0, nI 16, []), (15, 1, .imul, 0, 0, []), (16, 2, .bipush 16, 0, nI 16, []), (18, 3, .invokestatic 25, 0, 0, []), (21, 1, .return_, 0, 0, [])]
set_option maxRecDepth 20000 in
theorem kX2_copyRow : okE mX2_copyRow.2.1 eX2_copyRow := by unfold okE; decide +kernel
def eX2_dyeAll : List En := [(0, 1, .iconst 0, 0, nI 0, []), (1, 1, .istore_n 3, 0, 0, []), (2, 1, .iload_n 3, 0, 0, []), (3, 1, .aload_n 0, 0, 0, []), (4, 3, .getfield 15, 0, 0, []), (7, 3, .if_icmp .ge 46, 53, 0, []), (10, 1, .iconst 0, 0, nI 0, []), (11, 2, .istore 4, 0, 0, []), (13, 2, .iload 4, 0, 0, []), (15, 1, .aload_n 0, 0, 0, []), (16, 3, .getfield 19, 0, 0, []), (19, 3, .if_icmp .ge 28, 47, 0, []), (22, 1, .aload_n 0, 0, 0, []), (23, 1, .iload_n 3, 0, 0, []), (24, 2, .iload 4, 0, 0, []), (26, 3, .invokevirtual 39, 0, 0, []), (29, 1, .iload_n 1, 0, 0, []), (30, 3, .if_icmp .ne 11, 41, 0, []), (33, 1, .aload_n 0, 0, 0, []), (34, 1, .iload_n 3, 0, 0, []), (35, 2, .iload 4, 0, 0, []), (37, 1, .iload_n 2, 0, 0, []), (38, 3, .invokevirtual 78, 0, 0, []), (41, 3, .iinc 4 1, 0, nI 1, []), (44, 3, .goto (-31), 13, 0, []), (47, 3, .iinc 3 1, 0, nI 1, []), (50, 3, .goto (-48), 2, 0, []), (53, 1, .return_, 0, 0, [])]
set_option maxRecDepth 20000 in
theorem kX2_dyeAll : okE mX2_dyeAll.2.1 eX2_dyeAll := by unfold okE; decide +kernel
def eX2_turn : List En := [(0, 1, .iconst 0, 0, nI 0, []), (1, 1, .istore_n 2, 0, 0, []), (2, 1, .iload_n 2, 0, 0, []), (3, 1, .aload_n 0, 0, 0, []), (4, 3, .getfield 19, 0, 0, []), (7, 1, .iconst 2, 0, nI 2, []), (8, 1, .idiv, 0, 0, []), (9, 3, .if_icmp .ge 49, 58, 0, []), (12, 1, .aload_n 0, 0, 0, []), (13, 1, .iload_n 1, 0, 0, []), (14, 1, .iload_n 2, 0, 0, []), (15, 3, .invokevirtual 39, 0, 0, []), (18, 1, .istore_n 3, 0, 0, []), (19, 1, .aload_n 0, 0, 0, []), (20, 1, .iload_n 1, 0, 0, []), (21, 1, .iload_n 2, 0, 0, []), (22, 1, .aload_n 0, 0, 0, []), (23, 1, .iload_n 1, 0, 0, []), (24, 1, .aload_n 0, 0, 0, []), (25, 3, .getfield 19, 0, 0, []), (28, 1, .iconst 1, 0, nI 1, []), (29, 1, .isub, 0, 0, []), (30, 1, .iload_n 2, 0, 0, []), (31, 1, .isub, 0, 0, []), (32, 3, .invokevirtual 39, 0, 0, []), (35, 3, .invokevirtual 78, 0, 0, []), (38, 1, .aload_n 0, 0, 0, []), (39, 1, .iload_n 1, 0, 0, []), (40, 1, .aload_n 0, 0, 0, []), (41, 3, .getfield 19, 0, 0, []), (44, 1, .iconst 1, 0, nI 1, []), (45, 1, .isub, 0, 0, []), (46, 1, .iload_n 2, 0, 0, []), (47, 1, .isub, 0, 0, []), (48, 1, .iload_n 3, 0, 0, []), (49, 3, .invokevirtual 78, 0, 0, []), (52, 3, .iinc 2 1, 0, nI 1, []), (55, 3, .goto (-53), 2, 0, []), (58, 1, .return_, 0, 0, [])]
set_option maxRecDepth 20000 in
theorem kX2_turn : okE mX2_turn.2.1 eX2_turn := by unfold okE; decide +kernel
def eX2_moveOn : List En := [(0, 1, .aload_n 0, 0, 0, []), (1, 1, .iload_n 1, 0, 0, []), (2, 1, .aload_n 0, 0, 0, []), (3, 3, .getfield 19, 0, 0, []), (6, 1, .iconst 1, 0, nI 1, []), (7, 1, .isub, 0, 0, []), (8, 3, .invokevirtual 39, 0, 0, []), (11, 1, .istore_n 2, 0, 0, []), (12, 1, .aload_n 0, 0, 0, []), (13, 3, .getfield 19, 0, 0, []), (16, 1, .iconst 1, 0, nI 1, []), (17, 1, .isub, 0, 0, []), (18, 1, .istore_n 3, 0, 0, []), (19, 1, .iload_n 3, 0, 0, []), (20, 3, .ifCond .le 23, 43, 0, []), (23, 1, .aload_n 0, 0, 0, []), (24, 1, .iload_n 1, 0, 0, []), (25, 1, .iload_n 3, 0, 0, []), (26, 1, .aload_n 0, 0, 0, []), (27, 1, .iload_n 1, 0, 0, []), (28, 1, .iload_n 3, 0, 0, []), (29, 1, .iconst 1, 0, nI 1, []), (30, 1, .isub, 0, 0, []), (31, 3, .invokevirtual 39, 0, 0, []), (34, 3, .invokevirtual 78, 0, 0, []), (37, 3, .iinc 3 (-1), 0, -nI 1, []), (40, 3, .goto (-21), 19, 0, []), (43, 1, .aload_n 0, 0, 0, []), (44, 1, .iload_n 1, 0, 0, []), (45, 1, .iconst 0, 0, nI 0, []), (46, 1, .iload_n 2, 0, 0, []), (47, 3, .invokevirtual 78, 0, 0, []), (50, 1, .return_, 0, 0, [])]
set_option maxRecDepth 20000 in
theorem kX2_moveOn : okE mX2_moveOn.2.1 eX2_moveOn := by unfold okE; decide +kernel
def eX2_drop : List En := [(0, 1, .iload_n 1, 0, 0, []), (1, 1, .istore_n 2, 0, 0, []), (2, 1, .iload_n 2, 0, 0, []), (3, 1, .iconst 1, 0, nI 1, []), (4, 1, .iadd, 0, 0, []), (5, 1, .aload_n 0, 0, 0, []), (6, 3, .getfield 15, 0, 0, []), (9, 3, .if_icmp .ge 17, 26, 0, []), (12, 1, .aload_n 0, 0, 0, []), (13, 1, .iload_n 2, 0, 0, []), (14, 1, .iconst 1, 0, nI 1, []), (15, 1, .iadd, 0, 0, []), (16, 1, .iload_n 2, 0, 0, []), (17, 3, .invokevirtual 82, 0, 0, []), (20, 3, .iinc 2 1, 0, nI 1, []), (23, 3, .goto (-21), 2, 0, []), (26, 1, .aload_n 0, 0, 0, []), (27, 1, .dup, 0, 0, []), (28, 3, .getfield 15, 0, 0, []), (31, 1, .iconst 1, 0, nI 1, []), (32, 1, .isub, 0, 0, []), (33, 3, .putfield 15, 0, 0, []), (36, 1, .aload_n 0, 0, 0, []), (37, 3, .getfield 15, 0, 0, []), (40, 3, .ifCond .ne 8, 48, 0, []), (43, 1, .aload_n 0, 0, 0, []), (44, 1, .iconst 0, 0, nI 0, []), (45, 3, .putfield 19, 0, 0, []), (48, 1, .return_, 0, 0, [])]
set_option maxRecDepth 20000 in
theorem kX2_drop : okE mX2_drop.2.1 eX2_drop := by unfold okE; decide +kernel
def eX2_repeat : List En := [(0, 1, .aload_n 0, 0, 0, []), (1, 3, .getfield 15, 0, 0, []), (4, 1, .istore_n 2, 0, 0, []), (5, 1, .iload_n 2, 0, 0, []), (6, 1, .iload_n 1, 0, 0, []), (7, 3, .if_icmp .le 17, 24, 0, []), (10, 1, .aload_n 0, 0, 0, []), (11, 1, .iload_n 2, 0, 0, []), (12, 1, .iconst 1, 0, nI 1, []), (13, 1, .isub, 0, 0, []), (14, 1, .iload_n 2, 0, 0, []), (15, 3, .invokevirtual 82, 0, 0, []), (18, 3, .iinc 2 (-1), 0, -nI 1, []), (21, 3, .goto (-16), 5, 0, []), (24, 1, .aload_n 0, 0, 0, []), (25, 1, .dup, 0, 0, []), (26, 3, .getfield 15, 0, 0, []), (29, 1, .iconst 1, 0, nI 1, []), (30, 1, .iadd, 0, 0, []), (31, 3, .putfield 15, 0, 0, []), (34, 1, .return_, 0, 0, [])]
set_option maxRecDepth 20000 in
theorem kX2_repeat : okE mX2_repeat.2.1 eX2_repeat := by unfold okE; decide +kernel
def eX2_exchange : List En := [(0, 1, .iconst 0, 0, nI 0, []), (1, 1, .istore_n 3, 0, 0, []), (2, 1, .iload_n 3, 0, 0, []), (3, 1, .aload_n 0, 0, 0, []), (4, 3, .getfield 19, 0, 0, []), (7, 3, .if_icmp .ge 37, 44, 0, []), (10, 1, .aload_n 0, 0, 0, []), (11, 1, .iload_n 1, 0, 0, []), (12, 1, .iload_n 3, 0, 0, []), (13, 3, .invokevirtual 39, 0, 0, []), (16, 2, .istore 4, 0, 0, []), (18, 1, .aload_n 0, 0, 0, []), (19, 1, .iload_n 1, 0, 0, []), (20, 1, .iload_n 3, 0, 0, []), (21, 1, .aload_n 0, 0, 0, []), (22, 1, .iload_n 2, 0, 0, []), (23, 1, .iload_n 3, 0, 0, []), (24, 3, .invokevirtual 39, 0, 0, []), (27, 3, .invokevirtual 78, 0, 0, []), (30, 1, .aload_n 0, 0, 0, []), (31, 1, .iload_n 2, 0, 0, []), (32, 1, .iload_n 3, 0, 0, []), (33, 2, .iload 4, 0, 0, []), (35, 3, .invokevirtual 78, 0, 0, []), (38, 3, .iinc 3 1, 0, nI 1, []), (41, 3, .goto (-39), 2, 0, []), (44, 1, .return_, 0, 0, [])]
set_option maxRecDepth 20000 in
theorem kX2_exchange : okE mX2_exchange.2.1 eX2_exchange := by unfold okE; decide +kernel
def eX3_readAll : List En := [(0, 1, .aload_n 0, 0, 0, []), (1, 3, .getfield 12, 0, 0, []), (4, 3, .invokevirtual 32, 0, 0, []), (7, 1, .aload_n 0, 0, 0, []), (8, 1, .iconst 0, 0, nI 0, []), (9, 3, .putfield 28, 0, 0, []), (12, 1, .aload_n 0, 0, 0, []), (13, 1, .iconst 0, 0, nI 0, []), (14, 3, .putfield 22, 0, 0, []), (17, 1, .iconst 0, 0, nI 0, []), (18, 1, .istore_n 2, 0, 0, []), (19, 1, .iconst 0, 0, nI 0, []), (20, 1, .istore_n 3, 0, 0, []), (21, 1, .iload_n 3, 0, 0, []), (22, 3, .sipush 300, 0, nI 300, []), (25, 3, .if_icmp .gt 34, 59, 0, []), (28, 1, .iload_n 2, 0, 0, []), (29, 3, .ifCond .ne 30, 59, 0, []), (32, 1, .aload_n 0, 0, 0, []), (33, 1, .aload_n 1, 0, 0, []), (34, 3, .invokevirtual 35, 0, 0, []), (37, 1, .aload_n 0, 0, 0, []), (38, 3, .getfield 25, 0, 0, []), (41, 1, .iconst 3, 0, nI 3, []), (42, 3, .if_icmp .ne 5, 47, 0, []), (45, 1, .iconst 0, 0, nI 0, []), (46, 1, .ireturn, 0, 0, []), (47, 1, .aload_n 0, 0, 0, []), (48, 1, .aload_n 1, 0, 0, []), (49, 3, .invokevirtual 39, 0, 0, []), (52, 1, .istore_n 2, 0, 0, []), (53, 3, .iinc 3 1, 0, nI 1, []), (56, 3, .goto (-35), 21, 0, []), (59, 1, .iload_n 2, 0, 0, []), (60, 1, .ireturn, 0, 0, [])]
set_option maxRecDepth 20000 in
theorem kX3_readAll : okE mX3_readAll.2.1 eX3_readAll := by unfold okE; decide +kernel
def eX3_readToken : List En := [(0, 1, .aload_n 0, 0, 0, []), (1, 3, .getfield 22, 0, 0, []), (4, 1, .aload_n 1, 0, 0, []), (5, 3, .getfield 43, 0, 0, []), (8, 3, .if_icmp .ge 30, 38, 0, []), (11, 1, .aload_n 1, 0, 0, []), (12, 3, .getfield 48, 0, 0, []), (15, 1, .aload_n 0, 0, 0, []), (16, 3, .getfield 22, 0, 0, []), (19, 1, .iaload, 0, 0, []), (20, 2, .bipush 32, 0, nI 32, []), (22, 3, .if_icmp .ne 16, 38, 0, []), (25, 1, .aload_n 0, 0, 0, []), (26, 1, .dup, 0, 0, []), (27, 3, .getfield 22, 0, 0, []), (30, 1, .iconst 1, 0, nI 1, []), (31, 1, .iadd, 0, 0, []), (32, 3, .putfield 22, 0, 0, []), (35, 3, .goto (-35), 0, 0, []), (38, 1, .aload_n 0, 0, 0, []), (39, 1, .aload_n 0, 0, 0, []), (40, 3, .getfield 22, 0, 0, []), (43, 3, .putfield 18, 0, 0, []), (46, 1, .aload_n 0, 0, 0, []), (47, 3, .getfield 22, 0, 0, []), (50, 1, .aload_n 1, 0, 0, []), (51, 3, .getfield 43, 0, 0, []), (54, 3, .if_icmp .lt 11, 65, 0, []), (57, 1, .aload_n 0, 0, 0, []), (58, 1, .iconst 3, 0, nI 3, []), (59, 3, .putfield 25, 0, 0, []), (62, 3, .goto 76, 138, 0, []), (65, 1, .aload_n 1, 0, 0, []), (66, 1, .aload_n 0, 0, 0, []), (67, 3, .getfield 22, 0, 0, []), (70, 3, .invokevirtual 52, 0, 0, []), (73, 3, .ifCond .eq 32, 105, 0, []), (76, 1, .aload_n 0, 0, 0, []), (77, 1, .iconst 1, 0, nI 1, []), (78, 3, .putfield 25, 0, 0, []), (81, 1, .aload_n 1, 0, 0, []), (82, 1, .aload_n 0, 0, 0, []), (83, 3, .getfield 22, 0, 0, []), (86, 3, .invokevirtual 52, 0, 0, []), (89, 3, .ifCond .eq 49, 138, 0, []), (92, 1, .aload_n 0, 0, 0, []), (93, 1, .dup, 0, 0, []), (94, 3, .getfield 22, 0, 0, []), (97, 1, .iconst 1, 0, nI 1, []), (98, 1, .iadd, 0, 0, []), (99, 3, .putfield 22, 0, 0, []), (102, 3, .goto (-21), 81, 0, []), (105, 1, .aload_n 0, 0, 0, []), (106, 1, .aload_n 1, 0, 0, []), (107, 3, .getfield 48, 0, 0, []), (110, 1, .aload_n 0, 0, 0, []), (111, 3, .getfield 22, 0, 0, []), (114, 1, .iaload, 0, 0, []), (115, 2, .bipush 59, 0, nI 59, []), (117, 3, .if_icmp .ne 7, 124, 0, []), (120, 1, .iconst 2, 0, nI 2, []), (121, 3, .goto 4, 125, 0, []), (124, 1, .iconst 0, 0, nI 0, []), (125, 3, .putfield 25, 0, 0, []), (128, 1, .aload_n 0, 0, 0, []), (129, 1, .dup, 0, 0, []), (130, 3, .getfield 22, 0, 0, []), (133, 1, .iconst 1, 0, nI 1, []), (134, 1, .iadd, 0, 0, []), (135, 3, .putfield 22, 0, 0, []), (138, 1, .return_, 0, 0, [])]
set_option maxRecDepth 20000 in
theorem kX3_readToken : okE mX3_readToken.2.1 eX3_readToken := by unfold okE; decide +kernel
def eX3_readLine : List En := [(0, 1, .aload_n 0, 0, 0, []), (1, 3, .getfield 25, 0, 0, []), (4, 1, .iconst 1, 0, nI 1, []), (5, 3, .if_icmp .eq 8, 13, 0, []), (8, 1, .aload_n 0, 0, 0, []), (9, 3, .invokevirtual 56, 0, 0, []), (12, 1, .ireturn, 0, 0, []), (13, 1, .aload_n 0, 0, 0, []), (14, 1, .aload_n 1, 0, 0, []), (15, 2, .ldc 60, 0, 0, []), (17, 3, .invokevirtual 62, 0, 0, []), (20, 3, .ifCond .eq 9, 29, 0, []), (23, 1, .aload_n 0, 0, 0, []), (24, 1, .aload_n 1, 0, 0, []), (25, 3, .invokevirtual 66, 0, 0, []), (28, 1, .ireturn, 0, 0, []), (29, 1, .aload_n 0, 0, 0, []), (30, 1, .aload_n 1, 0, 0, []), (31, 2, .ldc 69, 0, 0, []), (33, 3, .invokevirtual 62, 0, 0, []), (36, 3, .ifCond .eq 9, 45, 0, []), (39, 1, .aload_n 0, 0, 0, []), (40, 1, .aload_n 1, 0, 0, []), (41, 3, .invokevirtual 71, 0, 0, []), (44, 1, .ireturn, 0, 0, []), (45, 1, .iconst 2, 0, nI 2, []), (46, 1, .ireturn, 0, 0, [])]
set_option maxRecDepth 20000 in
theorem kX3_readLine : okE mX3_readLine.2.1 eX3_readLine := by unfold okE; decide +kernel
def eX3_readRow : List En := [(0, 1, .aload_n 0, 0, 0, []), (1, 3, .getfield 12, 0, 0, []), (4, 3, .getfield 74, 0, 0, []), (7, 2, .bipush 12, 0, nI 12, []), (9, 3, .if_icmp .lt 5, 14, 0, []), (12, 1, .iconst 4, 0, nI 4, []), (13, 1, .ireturn, 0, 0, []), (14, 1, .aload_n 0, 0, 0, []), (15, 1, .aload_n 1, 0, 0, []), (16, 3, .invokevirtual 35, 0, 0, []), (19, 1, .aload_n 0, 0, 0, []), (20, 3, .getfield 25, 0, 0, []), (23, 1, .iconst 1, 0, nI 1, []), (24, 3, .if_icmp .eq 8, 32, 0, []), (27, 1, .aload_n 0, 0, 0, []), (28, 3, .invokevirtual 56, 0, 0, []), (31, 1, .ireturn, 0, 0, []), (32, 1, .aload_n 0, 0, 0, []), (33, 1, .aload_n 1, 0, 0, []), (34, 3, .invokevirtual 77, 0, 0, []), (37, 3, .ifCond .ne 5, 42, 0, []), (40, 1, .iconst 3, 0, nI 3, []), (41, 1, .ireturn, 0, 0, []), (42, 1, .aload_n 0, 0, 0, []), (43, 3, .getfield 12, 0, 0, []), (46, 1, .aload_n 0, 0, 0, []), (47, 3, .getfield 22, 0, 0, []), (50, 1, .aload_n 0, 0, 0, []), (51, 3, .getfield 18, 0, 0, []), (54, 1, .isub, 0, 0, []), (55, 3, .invokevirtual 81, 0, 0, []), (58, 1, .iconst 0, 0, nI 0, []), (59, 1, .istore_n 2, 0, 0, []), (60, 1, .iload_n 2, 0, 0, []), (61, 1, .aload_n 0, 0, 0, []), (62, 3, .getfield 12, 0, 0, []), (65, 3, .getfield 85, 0, 0, []), (68, 3, .if_icmp .ge 40, 108, 0, []), (71, 1, .aload_n 0, 0, 0, []), (72, 3, .getfield 12, 0, 0, []), (75, 1, .aload_n 0, 0, 0, []), (76, 3, .getfield 12, 0, 0, []), (79, 3, .getfield 74, 0, 0, []), (82, 1, .iconst 1, 0, nI 1, []), (83, 1, .isub, 0, 0, []), (84, 1, .iload_n 2, 0, 0, []), (85, 1, .aload_n 1, 0, 0, []), (86, 3, .getfield 48, 0, 0, []), (89, 1, .aload_n 0, 0, 0, []), (90, 3, .getfield 18, 0, 0, []), (93, 1, .iload_n 2, 0, 0, []), (94, 1, .iadd, 0, 0, []), (95, 1, .iaload, 0, 0, []), (96, 2, .bipush 97, 0, nI 97, []), (98, 1, .isub, 0, 0, []), (99, 3, .invokevirtual 88, 0, 0, []), (102, 3, .iinc 2 1, 0, nI 1, []), (105, 3, .goto (-45), 60, 0, []), (108, 1, .aload_n 0, 0, 0, []), (109, 1, .aload_n 1, 0, 0, []), (110, 3, .invokevirtual 92, 0, 0, []), (113, 1, .ireturn, 0, 0, [])]
set_option maxRecDepth 20000 in
theorem kX3_readRow : okE mX3_readRow.2.1 eX3_readRow := by unfold okE; decide +kernel
def eX3_readFro : List En := [(0, 1, .aload_n 0, 0, 0, []), (1, 3, .getfield 28, 0, 0, []), (4, 3, .ifCond .eq 5, 9, 0, []), (7, 1, .iconst 4, 0, nI 4, []), (8, 1, .ireturn, 0, 0, []), (9, 1, .aload_n 0, 0, 0, []), (10, 1, .iconst 1, 0, nI 1, []), (11, 3, .putfield 28, 0, 0, []), (14, 1, .aload_n 0, 0, 0, []), (15, 3, .getfield 12, 0, 0, []), (18, 1, .iconst 1, 0, nI 1, []), (19, 3, .putfield 95, 0, 0, []), (22, 1, .aload_n 0, 0, 0, []), (23, 1, .aload_n 1, 0, 0, []), (24, 3, .invokevirtual 92, 0, 0, []), (27, 1, .ireturn, 0, 0, [])]
set_option maxRecDepth 20000 in
theorem kX3_readFro : okE mX3_readFro.2.1 eX3_readFro := by unfold okE; decide +kernel
def eX3_readSign : List En := [(0, 1, .aload_n 0, 0, 0, []), (1, 1, .aload_n 1, 0, 0, []), (2, 3, .invokevirtual 35, 0, 0, []), (5, 1, .aload_n 0, 0, 0, []), (6, 3, .getfield 25, 0, 0, []), (9, 1, .iconst 2, 0, nI 2, []), (10, 3, .if_icmp .ne 7, 17, 0, []), (13, 1, .iconst 0, 0, nI 0, []), (14, 3, .goto 7, 21, 0, []), (17, 1, .aload_n 0, 0, 0, []), (18, 3, .invokevirtual 56, 0, 0, []), (21, 1, .ireturn, 0, 0, [])]
set_option maxRecDepth 20000 in
theorem kX3_readSign : okE mX3_readSign.2.1 eX3_readSign := by unfold okE; decide +kernel
def eX3_unfit : List En := [(0, 1, .aload_n 0, 0, 0, []), (1, 3, .getfield 25, 0, 0, []), (4, 3, .ifCond .ne 7, 11, 0, []), (7, 1, .iconst 1, 0, nI 1, []), (8, 3, .goto 4, 12, 0, []), (11, 1, .iconst 2, 0, nI 2, []), (12, 1, .ireturn, 0, 0, [])]
set_option maxRecDepth 20000 in
theorem kX3_unfit : okE mX3_unfit.2.1 eX3_unfit := by unfold okE; decide +kernel
def eX3_isName : List En := [(0, 1, .aload_n 0, 0, 0, []), (1, 3, .getfield 22, 0, 0, []), (4, 1, .aload_n 0, 0, 0, []), (5, 3, .getfield 18, 0, 0, []), (8, 1, .isub, 0, 0, []), (9, 1, .aload_n 2, 0, 0, []), (10, 3, .invokevirtual 98, 0, 0, []), (13, 3, .if_icmp .eq 5, 18, 0, []), (16, 1, .iconst 0, 0, nI 0, []), (17, 1, .ireturn, 0, 0, []), (18, 1, .iconst 0, 0, nI 0, []), (19, 1, .istore_n 3, 0, 0, []), (20, 1, .iload_n 3, 0, 0, []), (21, 1, .aload_n 2, 0, 0, []), (22, 3, .invokevirtual 98, 0, 0, []), (25, 3, .if_icmp .ge 30, 55, 0, []), (28, 1, .aload_n 1, 0, 0, []), (29, 3, .getfield 48, 0, 0, []), (32, 1, .aload_n 0, 0, 0, []), (33, 3, .getfield 18, 0, 0, []), (36, 1, .iload_n 3, 0, 0, []), (37, 1, .iadd, 0, 0, []), (38, 1, .iaload, 0, 0, []), (39, 1, .aload_n 2, 0, 0, []), (40, 1, .iload_n 3, 0, 0, []), (41, 3, .invokevirtual 102, 0, 0, []), (44, 3, .if_icmp .eq 5, 49, 0, []), (47, 1, .iconst 0, 0, nI 0, []), (48, 1, .ireturn, 0, 0, []), (49, 3, .iinc 3 1, 0, nI 1, []), (52, 3, .goto (-32), 20, 0, []), (55, 1, .iconst 1, 0, nI 1, []), (56, 1, .ireturn, 0, 0, [])]
set_option maxRecDepth 20000 in
theorem kX3_isName : okE mX3_isName.2.1 eX3_isName := by unfold okE; decide +kernel
def eX3_isBeads : List En := [(0, 1, .aload_n 0, 0, 0, []), (1, 3, .getfield 22, 0, 0, []), (4, 1, .aload_n 0, 0, 0, []), (5, 3, .getfield 18, 0, 0, []), (8, 1, .isub, 0, 0, []), (9, 1, .istore_n 2, 0, 0, []), (10, 1, .iload_n 2, 0, 0, []), (11, 2, .bipush 16, 0, nI 16, []), (13, 3, .if_icmp .gt 24, 37, 0, []), (16, 1, .aload_n 0, 0, 0, []), (17, 3, .getfield 12, 0, 0, []), (20, 3, .getfield 74, 0, 0, []), (23, 3, .ifCond .le 16, 39, 0, []), (26, 1, .iload_n 2, 0, 0, []), (27, 1, .aload_n 0, 0, 0, []), (28, 3, .getfield 12, 0, 0, []), (31, 3, .getfield 85, 0, 0, []), (34, 3, .if_icmp .eq 5, 39, 0, []), (37, 1, .iconst 0, 0, nI 0, []), (38, 1, .ireturn, 0, 0, []), (39, 1, .aload_n 0, 0, 0, []), (40, 3, .getfield 18, 0, 0, []), (43, 1, .istore_n 3, 0, 0, []), (44, 1, .iload_n 3, 0, 0, []), (45, 1, .aload_n 0, 0, 0, []), (46, 3, .getfield 22, 0, 0, []), (49, 3, .if_icmp .ge 26, 75, 0, []), (52, 1, .aload_n 1, 0, 0, []), (53, 3, .getfield 48, 0, 0, []), (56, 1, .iload_n 3, 0, 0, []), (57, 1, .iaload, 0, 0, []), (58, 2, .bipush 97, 0, nI 97, []), (60, 1, .isub, 0, 0, []), (61, 3, .invokestatic 106, 0, 0, []), (64, 3, .ifCond .ne 5, 69, 0, []), (67, 1, .iconst 0, 0, nI 0, []), (68, 1, .ireturn, 0, 0, []), (69, 3, .iinc 3 1, 0, nI 1, []), (72, 3, .goto (-28), 44, 0, []), (75, 1, .iconst 1, 0, nI 1, []), (76, 1, .ireturn, 0, 0, [])]
set_option maxRecDepth 20000 in
theorem kX3_isBeads : okE mX3_isBeads.2.1 eX3_isBeads := by unfold okE; decide +kernel
def eX4_renew : List En := [(0, 1, .aload_n 0, 0, 0, []), (1, 1, .iload_n 1, 0, 0, []), (2, 3, .putfield 19, 0, 0, []), (5, 1, .aload_n 0, 0, 0, []), (6, 1, .iload_n 2, 0, 0, []), (7, 3, .putfield 15, 0, 0, []), (10, 1, .iconst 0, 0, nI 0, []), (11, 1, .istore_n 3, 0, 0, []), (12, 1, .iload_n 3, 0, 0, []), (13, 2, .bipush 32, 0, nI 32, []), (15, 3, .if_icmp .ge 16, 31, 0, []), (18, 1, .aload_n 0, 0, 0, []), (19, 3, .getfield 9, 0, 0, []), (22, 1, .iload_n 3, 0, 0, []), (23, 1, .iconst 0, 0, nI 0, []), (24, 1, .iastore, 0, 0, []), (25, 3, .iinc 3 1, 0, nI 1, []), (28, 3, .goto (-16), 12, 0, []), (31, 1, .return_, 0, 0, [])]
set_option maxRecDepth 20000 in
theorem kX4_renew : okE mX4_renew.2.1 eX4_renew := by unfold okE; decide +kernel
def eX4_faultAt : List En := [(0, 1, .aload_n 0, 0, 0, []), (1, 3, .getfield 19, 0, 0, []), (4, 2, .bipush (-4), 0, -nI 4, []), (6, 3, .if_icmp .ne 5, 11, 0, []), (9, 1, .iconst 1, 0, nI 1, []), (10, 1, .ireturn, 0, 0, []), (11, 1, .aload_n 0, 0, 0, []), (12, 3, .getfield 19, 0, 0, []), (15, 1, .iload_n 1, 0, 0, []), (16, 3, .if_icmp .eq 5, 21, 0, []), (19, 1, .iconst 2, 0, nI 2, []), (20, 1, .ireturn, 0, 0, []), (21, 1, .iload_n 2, 0, 0, []), (22, 3, .ifCond .lt 11, 33, 0, []), (25, 1, .iload_n 2, 0, 0, []), (26, 1, .aload_n 0, 0, 0, []), (27, 3, .getfield 15, 0, 0, []), (30, 3, .if_icmp .lt 7, 37, 0, []), (33, 1, .iconst 3, 0, nI 3, []), (34, 3, .goto 4, 38, 0, []), (37, 1, .iconst 0, 0, nI 0, []), (38, 1, .ireturn, 0, 0, [])]
set_option maxRecDepth 20000 in
theorem kX4_faultAt : okE mX4_faultAt.2.1 eX4_faultAt := by unfold okE; decide +kernel
def eX4_put : List En := [(0, 1, .aload_n 0, 0, 0, []), (1, 3, .getfield 9, 0, 0, []), (4, 1, .iload_n 1, 0, 0, []), (5, 1, .aload_n 0, 0, 0, []), (6, 3, .getfield 19, 0, 0, []), (9, 3, .ifCond .ne 8, 17, 0, []), (12, 1, .iload_n 2, 0, 0, []), (13, 1, .i2b, 0, 0, []), (14, 3, .goto 17, 31, 0, []), (17, 1, .aload_n 0, 0, 0, []), (18, 3, .getfield 19, 0, 0, []), (21, 1, .iconst 1, 0, nI 1, []), (22, 3, .if_icmp .ne 8, 30, 0, []), (25, 1, .iload_n 2, 0, 0, []), (26, 1, .i2s, 0, 0, []), (27, 3, .goto 4, 31, 0, []), (30, 1, .iload_n 2, 0, 0, []), (31, 1, .iastore, 0, 0, []), (32, 1, .return_, 0, 0, [])]
set_option maxRecDepth 20000 in
theorem kX4_put : okE mX4_put.2.1 eX4_put := by unfold okE; decide +kernel
def eX5_take : List En := [(0, 1, .aload_n 0, 0, 0, []), (1, 3, .getfield 15, 0, 0, []), (4, 2, .bipush 40, 0, nI 40, []), (6, 3, .if_icmp .lt 5, 11, 0, []), (9, 1, .iconst 0, 0, nI 0, []), (10, 1, .ireturn, 0, 0, []), (11, 1, .aload_n 0, 0, 0, []), (12, 3, .getfield 19, 0, 0, []), (15, 1, .aload_n 0, 0, 0, []), (16, 3, .getfield 15, 0, 0, []), (19, 1, .iload_n 1, 0, 0, []), (20, 1, .iastore, 0, 0, []), (21, 1, .aload_n 0, 0, 0, []), (22, 1, .dup, 0, 0, []), (23, 3, .getfield 15, 0, 0, []), (26, 1, .iconst 1, 0, nI 1, []), (27, 1, .iadd, 0, 0, []), (28, 3, .putfield 15, 0, 0, []), (31, 1, .iconst 1, 0, nI 1, []), (32, 1, .ireturn, 0, 0, [])]
set_option maxRecDepth 20000 in
theorem kX5_take : okE mX5_take.2.1 eX5_take := by unfold okE; decide +kernel
def eX5_speak : List En := [(0, 1, .aload_n 0, 0, 0, []), (1, 3, .getfield 15, 0, 0, []), (4, 1, .iconst 2, 0, nI 2, []), (5, 3, .if_icmp .ge 6, 11, 0, []), (8, 2, .bipush (-4), 0, -nI 4, []), (10, 1, .ireturn, 0, 0, []), (11, 1, .aload_n 0, 0, 0, []), (12, 3, .getfield 19, 0, 0, []), (15, 1, .iconst 0, 0, nI 0, []), (16, 1, .iaload, 0, 0, []), (17, 35, .tableswitch 71 0 4 #[35, 42, 49, 55, 61], 88, 0, [52, 59, 66, 72, 78]), (52, 1, .aload_n 0, 0, 0, []), (53, 1, .aload_n 1, 0, 0, []), (54, 1, .iconst 0, 0, nI 0, []), (55, 3, .invokevirtual 22, 0, 0, []), (58, 1, .ireturn, 0, 0, []), (59, 1, .aload_n 0, 0, 0, []), (60, 1, .aload_n 1, 0, 0, []), (61, 1, .iconst 1, 0, nI 1, []), (62, 3, .invokevirtual 22, 0, 0, []), (65, 1, .ireturn, 0, 0, []), (66, 1, .aload_n 0, 0, 0, []), (67, 1, .aload_n 1, 0, 0, []), (68, 3, .invokevirtual 26, 0, 0, []), (71, 1, .ireturn, 0, 0, []), (72, 1, .aload_n 0, 0, 0, []), (73, 1, .aload_n 1, 0, 0, []), (74, 3, .invokevirtual 30, 0, 0, []), (77, 1, .ireturn, 0, 0, []), (78, 1, .aload_n 1, 0, 0, []), (79, 1, .aload_n 0, 0, 0, []), (80, 1, .iconst 1, 0, nI 1, []), (81, 3, .invokevirtual 33, 0, 0, []), (84, 3, .invokestatic 37, 0, 0, []), (87, 1, .ireturn, 0, 0, []), (88, 2, .bipush (-4), 0, -nI 4, []), (90, 1, .ireturn, 0, 0, [])]
set_option maxRecDepth 20000 in
theorem kX5_speak : okE mX5_speak.2.1 eX5_speak := by unfold okE; decide +kernel
def eX5_speakLike : List En := [(0, 1, .aload_n 0, 0, 0, []), (1, 3, .getfield 19, 0, 0, []), (4, 1, .iconst 1, 0, nI 1, []), (5, 1, .iaload, 0, 0, []), (6, 1, .istore_n 3, 0, 0, []), (7, 1, .aload_n 0, 0, 0, []), (8, 3, .getfield 15, 0, 0, []), (11, 1, .iconst 2, 0, nI 2, []), (12, 3, .if_icmp .ne 11, 23, 0, []), (15, 1, .aload_n 1, 0, 0, []), (16, 1, .iload_n 3, 0, 0, []), (17, 3, .invokevirtual 41, 0, 0, []), (20, 3, .ifCond .ne 6, 26, 0, []), (23, 2, .bipush (-4), 0, -nI 4, []), (25, 1, .ireturn, 0, 0, []), (26, 1, .iconst 0, 0, nI 0, []), (27, 2, .istore 4, 0, 0, []), (29, 2, .iload 4, 0, 0, []), (31, 1, .aload_n 1, 0, 0, []), (32, 3, .getfield 47, 0, 0, []), (35, 3, .if_icmp .ge 39, 74, 0, []), (38, 1, .aload_n 0, 0, 0, []), (39, 3, .getfield 9, 0, 0, []), (42, 2, .iload 4, 0, 0, []), (44, 1, .aload_n 1, 0, 0, []), (45, 1, .iload_n 3, 0, 0, []), (46, 1, .iload_n 2, 0, 0, []), (47, 3, .ifCond .eq 15, 62, 0, []), (50, 1, .aload_n 1, 0, 0, []), (51, 3, .getfield 47, 0, 0, []), (54, 1, .iconst 1, 0, nI 1, []), (55, 1, .isub, 0, 0, []), (56, 2, .iload 4, 0, 0, []), (58, 1, .isub, 0, 0, []), (59, 3, .goto 5, 64, 0, []), (62, 2, .iload 4, 0, 0, []), (64, 3, .invokevirtual 50, 0, 0, []), (67, 1, .iastore, 0, 0, []), (68, 3, .iinc 4 1, 0, nI 1, []), (71, 3, .goto (-42), 29, 0, []), (74, 1, .aload_n 1, 0, 0, []), (75, 3, .getfield 47, 0, 0, []), (78, 1, .ireturn, 0, 0, [])]
set_option maxRecDepth 20000 in
theorem kX5_speakLike : okE mX5_speakLike.2.1 eX5_speakLike := by unfold okE; decide +kernel
def eX5_speakMirror : List En := [(0, 1, .aload_n 1, 0, 0, []), (1, 3, .getfield 47, 0, 0, []), (4, 1, .iconst 1, 0, nI 1, []), (5, 1, .iadd, 0, 0, []), (6, 1, .iconst 2, 0, nI 2, []), (7, 1, .idiv, 0, 0, []), (8, 1, .istore_n 2, 0, 0, []), (9, 1, .aload_n 1, 0, 0, []), (10, 3, .getfield 47, 0, 0, []), (13, 1, .iconst 2, 0, nI 2, []), (14, 3, .if_icmp .lt 12, 26, 0, []), (17, 1, .aload_n 0, 0, 0, []), (18, 1, .iconst 1, 0, nI 1, []), (19, 3, .invokevirtual 33, 0, 0, []), (22, 1, .iload_n 2, 0, 0, []), (23, 3, .if_icmp .eq 6, 29, 0, []), (26, 2, .bipush (-4), 0, -nI 4, []), (28, 1, .ireturn, 0, 0, []), (29, 1, .iload_n 2, 0, 0, []), (30, 1, .istore_n 3, 0, 0, []), (31, 1, .iload_n 3, 0, 0, []), (32, 1, .aload_n 1, 0, 0, []), (33, 3, .getfield 47, 0, 0, []), (36, 3, .if_icmp .ge 28, 64, 0, []), (39, 1, .aload_n 0, 0, 0, []), (40, 3, .getfield 9, 0, 0, []), (43, 1, .iload_n 3, 0, 0, []), (44, 1, .aload_n 0, 0, 0, []), (45, 3, .getfield 9, 0, 0, []), (48, 1, .aload_n 1, 0, 0, []), (49, 3, .getfield 47, 0, 0, []), (52, 1, .iconst 1, 0, nI 1, []), (53, 1, .isub, 0, 0, []), (54, 1, .iload_n 3, 0, 0, []), (55, 1, .isub, 0, 0, []), (56, 1, .iaload, 0, 0, []), (57, 1, .iastore, 0, 0, []), (58, 3, .iinc 3 1, 0, nI 1, []), (61, 3, .goto (-30), 31, 0, []), (64, 1, .aload_n 1, 0, 0, []), (65, 3, .getfield 47, 0, 0, []), (68, 1, .ireturn, 0, 0, [])]
set_option maxRecDepth 20000 in
theorem kX5_speakMirror : okE mX5_speakMirror.2.1 eX5_speakMirror := by unfold okE; decide +kernel
def eX5_speakTimes : List En := [(0, 1, .aload_n 0, 0, 0, []), (1, 3, .getfield 19, 0, 0, []), (4, 1, .iconst 1, 0, nI 1, []), (5, 1, .iaload, 0, 0, []), (6, 1, .istore_n 2, 0, 0, []), (7, 1, .aload_n 0, 0, 0, []), (8, 1, .iconst 2, 0, nI 2, []), (9, 3, .invokevirtual 33, 0, 0, []), (12, 1, .istore_n 3, 0, 0, []), (13, 1, .iload_n 2, 0, 0, []), (14, 1, .iconst 2, 0, nI 2, []), (15, 3, .if_icmp .lt 15, 30, 0, []), (18, 1, .iload_n 2, 0, 0, []), (19, 2, .bipush 16, 0, nI 16, []), (21, 3, .if_icmp .gt 9, 30, 0, []), (24, 1, .iload_n 3, 0, 0, []), (25, 2, .bipush (-4), 0, -nI 4, []), (27, 3, .if_icmp .ne 6, 33, 0, []), (30, 2, .bipush (-4), 0, -nI 4, []), (32, 1, .ireturn, 0, 0, []), (33, 1, .aload_n 1, 0, 0, []), (34, 1, .iload_n 2, 0, 0, []), (35, 1, .iload_n 3, 0, 0, []), (36, 1, .imul, 0, 0, []), (37, 3, .invokestatic 37, 0, 0, []), (40, 2, .istore 4, 0, 0, []), (42, 1, .iload_n 3, 0, 0, []), (43, 2, .istore 5, 0, 0, []), (45, 2, .iload 5, 0, 0, []), (47, 2, .iload 4, 0, 0, []), (49, 3, .if_icmp .ge 25, 74, 0, []), (52, 1, .aload_n 0, 0, 0, []), (53, 3, .getfield 9, 0, 0, []), (56, 2, .iload 5, 0, 0, []), (58, 1, .aload_n 0, 0, 0, []), (59, 3, .getfield 9, 0, 0, []), (62, 2, .iload 5, 0, 0, []), (64, 1, .iload_n 3, 0, 0, []), (65, 1, .isub, 0, 0, []), (66, 1, .iaload, 0, 0, []), (67, 1, .iastore, 0, 0, []), (68, 3, .iinc 5 1, 0, nI 1, []), (71, 3, .goto (-26), 45, 0, []), (74, 2, .iload 4, 0, 0, []), (76, 1, .ireturn, 0, 0, [])]
set_option maxRecDepth 20000 in
theorem kX5_speakTimes : okE mX5_speakTimes.2.1 eX5_speakTimes := by unfold okE; decide +kernel
def eX5_speakRuns : List En := [(0, 1, .iload_n 1, 0, 0, []), (1, 1, .aload_n 0, 0, 0, []), (2, 3, .getfield 15, 0, 0, []), (5, 3, .if_icmp .ge 14, 19, 0, []), (8, 1, .aload_n 0, 0, 0, []), (9, 3, .getfield 15, 0, 0, []), (12, 1, .iload_n 1, 0, 0, []), (13, 1, .isub, 0, 0, []), (14, 1, .iconst 2, 0, nI 2, []), (15, 1, .irem, 0, 0, []), (16, 3, .ifCond .eq 6, 22, 0, []), (19, 2, .bipush (-4), 0, -nI 4, []), (21, 1, .ireturn, 0, 0, []), (22, 1, .iconst 0, 0, nI 0, []), (23, 1, .istore_n 2, 0, 0, []), (24, 1, .iload_n 1, 0, 0, []), (25, 1, .istore_n 3, 0, 0, []), (26, 1, .iload_n 3, 0, 0, []), (27, 1, .iconst 1, 0, nI 1, []), (28, 1, .iadd, 0, 0, []), (29, 1, .aload_n 0, 0, 0, []), (30, 3, .getfield 15, 0, 0, []), (33, 3, .if_icmp .ge 87, 120, 0, []), (36, 1, .aload_n 0, 0, 0, []), (37, 3, .getfield 19, 0, 0, []), (40, 1, .iload_n 3, 0, 0, []), (41, 1, .iaload, 0, 0, []), (42, 2, .istore 4, 0, 0, []), (44, 2, .iload 4, 0, 0, []), (46, 1, .iconst 1, 0, nI 1, []), (47, 3, .if_icmp .lt 26, 73, 0, []), (50, 1, .iload_n 2, 0, 0, []), (51, 2, .iload 4, 0, 0, []), (53, 1, .iadd, 0, 0, []), (54, 2, .bipush 16, 0, nI 16, []), (56, 3, .if_icmp .gt 17, 73, 0, []), (59, 1, .aload_n 0, 0, 0, []), (60, 3, .getfield 19, 0, 0, []), (63, 1, .iload_n 3, 0, 0, []), (64, 1, .iconst 1, 0, nI 1, []), (65, 1, .iadd, 0, 0, []), (66, 1, .iaload, 0, 0, []), (67, 3, .invokestatic 54, 0, 0, []), (70, 3, .ifCond .ne 6, 76, 0, []), (73, 2, .bipush (-4), 0, -nI 4, []), (75, 1, .ireturn, 0, 0, []), (76, 1, .iconst 0, 0, nI 0, []), (77, 2, .istore 5, 0, 0, []), (79, 2, .iload 5, 0, 0, []), (81, 2, .iload 4, 0, 0, []), (83, 3, .if_icmp .ge 26, 109, 0, []), (86, 1, .aload_n 0, 0, 0, []), (87, 3, .getfield 9, 0, 0, []), (90, 1, .iload_n 2, 0, 0, []), (91, 2, .iload 5, 0, 0, []), (93, 1, .iadd, 0, 0, []), (94, 1, .aload_n 0, 0, 0, []), (95, 3, .getfield 19, 0, 0, []), (98, 1, .iload_n 3, 0, 0, []), (99, 1, .iconst 1, 0, nI 1, []), (100, 1, .iadd, 0, 0, []), (101, 1, .iaload, 0, 0, []), (102, 1, .iastore, 0, 0, []), (103, 3, .iinc 5 1, 0, nI 1, []), (106, 3, .goto (-27), 79, 0, []), (109, 1, .iload_n 2, 0, 0, []), (110, 2, .iload 4, 0, 0, []), (112, 1, .iadd, 0, 0, []), (113, 1, .istore_n 2, 0, 0, []), (114, 3, .iinc 3 2, 0, nI 2, []), (117, 3, .goto (-91), 26, 0, []), (120, 1, .iload_n 2, 0, 0, []), (121, 1, .ireturn, 0, 0, [])]
set_option maxRecDepth 20000 in
theorem kX5_speakRuns : okE mX5_speakRuns.2.1 eX5_speakRuns := by unfold okE; decide +kernel
def eX5_fitting : List En := [(0, 1, .aload_n 0, 0, 0, []), (1, 3, .getfield 57, 0, 0, []), (4, 3, .ifCond .ne 22, 26, 0, []), (7, 1, .iload_n 1, 0, 0, []), (8, 1, .iconst 1, 0, nI 1, []), (9, 3, .if_icmp .lt 13, 22, 0, []), (12, 1, .iload_n 1, 0, 0, []), (13, 2, .bipush 16, 0, nI 16, []), (15, 3, .if_icmp .gt 7, 22, 0, []), (18, 1, .iconst 1, 0, nI 1, []), (19, 3, .goto 20, 39, 0, []), (22, 1, .iconst 0, 0, nI 0, []), (23, 3, .goto 16, 39, 0, []), (26, 1, .iload_n 1, 0, 0, []), (27, 1, .aload_n 0, 0, 0, []), (28, 3, .getfield 47, 0, 0, []), (31, 3, .if_icmp .ne 7, 38, 0, []), (34, 1, .iconst 1, 0, nI 1, []), (35, 3, .goto 4, 39, 0, []), (38, 1, .iconst 0, 0, nI 0, []), (39, 1, .istore_n 2, 0, 0, []), (40, 1, .iload_n 2, 0, 0, []), (41, 3, .ifCond .eq 7, 48, 0, []), (44, 1, .iload_n 1, 0, 0, []), (45, 3, .goto 5, 50, 0, []), (48, 2, .bipush (-4), 0, -nI 4, []), (50, 1, .ireturn, 0, 0, [])]
set_option maxRecDepth 20000 in
theorem kX5_fitting : okE mX5_fitting.2.1 eX5_fitting := by unfold okE; decide +kernel
def eX6_become : List En := [(0, 1, .aload_n 1, 0, 0, []), (1, 3, .getfield 9, 0, 0, []), (4, 1, .iconst 0, 0, nI 0, []), (5, 1, .aload_n 0, 0, 0, []), (6, 3, .getfield 9, 0, 0, []), (9, 1, .iconst 0, 0, nI 0, []), (10, 3, .sipush 192, 0, nI 192, []), (13, 3, .invokestatic 19, 0, 0, []), (16, 1, .aload_n 0, 0, 0, []), (17, 1, .aload_n 1, 0, 0, []), (18, 3, .getfield 15, 0, 0, []), (21, 3, .putfield 15, 0, 0, []), (24, 1, .return_, 0, 0, [])]
set_option maxRecDepth 20000 in
theorem kX6_become : okE mX6_become.2.1 eX6_become := by unfold okE; decide +kernel
def eX6_take : List En := [(0, 1, .aload_n 0, 0, 0, []), (1, 3, .getfield 15, 0, 0, []), (4, 3, .sipush 192, 0, nI 192, []), (7, 3, .if_icmp .ge 23, 30, 0, []), (10, 1, .aload_n 0, 0, 0, []), (11, 3, .getfield 9, 0, 0, []), (14, 1, .aload_n 0, 0, 0, []), (15, 3, .getfield 15, 0, 0, []), (18, 1, .iload_n 1, 0, 0, []), (19, 1, .iastore, 0, 0, []), (20, 1, .aload_n 0, 0, 0, []), (21, 1, .dup, 0, 0, []), (22, 3, .getfield 15, 0, 0, []), (25, 1, .iconst 1, 0, nI 1, []), (26, 1, .iadd, 0, 0, []), (27, 3, .putfield 15, 0, 0, []), (30, 1, .return_, 0, 0, [])]
set_option maxRecDepth 20000 in
theorem kX6_take : okE mX6_take.2.1 eX6_take := by unfold okE; decide +kernel
def eX6_firstWrong : List En := [(0, 1, .iconst 0, 0, nI 0, []), (1, 1, .istore_n 2, 0, 0, []), (2, 1, .iload_n 2, 0, 0, []), (3, 1, .aload_n 0, 0, 0, []), (4, 3, .getfield 15, 0, 0, []), (7, 3, .if_icmp .ge 25, 32, 0, []), (10, 1, .aload_n 0, 0, 0, []), (11, 3, .getfield 9, 0, 0, []), (14, 1, .iload_n 2, 0, 0, []), (15, 1, .iaload, 0, 0, []), (16, 1, .aload_n 1, 0, 0, []), (17, 1, .iload_n 2, 0, 0, []), (18, 3, .invokevirtual 25, 0, 0, []), (21, 3, .if_icmp .eq 5, 26, 0, []), (24, 1, .iload_n 2, 0, 0, []), (25, 1, .ireturn, 0, 0, []), (26, 3, .iinc 2 1, 0, nI 1, []), (29, 3, .goto (-27), 2, 0, []), (32, 2, .bipush (-4), 0, -nI 4, []), (34, 1, .ireturn, 0, 0, [])]
set_option maxRecDepth 20000 in
theorem kX6_firstWrong : okE mX6_firstWrong.2.1 eX6_firstWrong := by unfold okE; decide +kernel
def eX6_asTold : List En := [(0, 1, .iload_n 3, 0, 0, []), (1, 1, .iconst 1, 0, nI 1, []), (2, 3, .if_icmp .ne 7, 9, 0, []), (5, 1, .iconst 1, 0, nI 1, []), (6, 3, .goto 13, 19, 0, []), (9, 1, .iload_n 3, 0, 0, []), (10, 1, .iconst 2, 0, nI 2, []), (11, 3, .if_icmp .ne 7, 18, 0, []), (14, 1, .iconst (-1), 0, -nI 1, []), (15, 3, .goto 4, 19, 0, []), (18, 1, .iconst 0, 0, nI 0, []), (19, 2, .istore 4, 0, 0, []), (21, 1, .iconst 0, 0, nI 0, []), (22, 2, .istore 5, 0, 0, []), (24, 1, .iload_n 3, 0, 0, []), (25, 1, .iconst 1, 0, nI 1, []), (26, 3, .if_icmp .ne 7, 33, 0, []), (29, 1, .iload_n 2, 0, 0, []), (30, 3, .goto 6, 36, 0, []), (33, 1, .iload_n 2, 0, 0, []), (34, 1, .iconst 1, 0, nI 1, []), (35, 1, .iadd, 0, 0, []), (36, 2, .istore 6, 0, 0, []), (38, 2, .iload 6, 0, 0, []), (40, 1, .aload_n 0, 0, 0, []), (41, 3, .getfield 15, 0, 0, []), (44, 3, .if_icmp .ge 31, 75, 0, []), (47, 1, .aload_n 0, 0, 0, []), (48, 3, .getfield 9, 0, 0, []), (51, 2, .iload 6, 0, 0, []), (53, 1, .iaload, 0, 0, []), (54, 1, .aload_n 1, 0, 0, []), (55, 2, .iload 6, 0, 0, []), (57, 2, .iload 4, 0, 0, []), (59, 1, .iadd, 0, 0, []), (60, 3, .invokevirtual 25, 0, 0, []), (63, 3, .if_icmp .ne 6, 69, 0, []), (66, 3, .iinc 5 1, 0, nI 1, []), (69, 3, .iinc 6 1, 0, nI 1, []), (72, 3, .goto (-34), 38, 0, []), (75, 2, .iload 5, 0, 0, []), (77, 1, .ireturn, 0, 0, [])]
set_option maxRecDepth 20000 in
theorem kX6_asTold : okE mX6_asTold.2.1 eX6_asTold := by unfold okE; decide +kernel
def eX6_kindOf : List En := [(0, 1, .iconst 0, 0, nI 0, []), (1, 1, .istore_n 3, 0, 0, []), (2, 1, .iconst 1, 0, nI 1, []), (3, 2, .istore 4, 0, 0, []), (5, 2, .iload 4, 0, 0, []), (7, 1, .iconst 3, 0, nI 3, []), (8, 3, .if_icmp .ge 30, 38, 0, []), (11, 1, .aload_n 0, 0, 0, []), (12, 1, .aload_n 1, 0, 0, []), (13, 1, .iload_n 2, 0, 0, []), (14, 2, .iload 4, 0, 0, []), (16, 3, .invokevirtual 31, 0, 0, []), (19, 1, .aload_n 0, 0, 0, []), (20, 1, .aload_n 1, 0, 0, []), (21, 1, .iload_n 2, 0, 0, []), (22, 1, .iload_n 3, 0, 0, []), (23, 3, .invokevirtual 31, 0, 0, []), (26, 3, .if_icmp .le 6, 32, 0, []), (29, 2, .iload 4, 0, 0, []), (31, 1, .istore_n 3, 0, 0, []), (32, 3, .iinc 4 1, 0, nI 1, []), (35, 3, .goto (-30), 5, 0, []), (38, 1, .iload_n 3, 0, 0, []), (39, 1, .ireturn, 0, 0, [])]
set_option maxRecDepth 20000 in
theorem kX6_kindOf : okE mX6_kindOf.2.1 eX6_kindOf := by unfold okE; decide +kernel
def eX7_take : List En := [(0, 1, .aload_n 0, 0, 0, []), (1, 3, .getfield 15, 0, 0, []), (4, 3, .sipush 300, 0, nI 300, []), (7, 3, .if_icmp .lt 5, 12, 0, []), (10, 1, .iconst 0, 0, nI 0, []), (11, 1, .ireturn, 0, 0, []), (12, 1, .aload_n 0, 0, 0, []), (13, 3, .getfield 9, 0, 0, []), (16, 1, .aload_n 0, 0, 0, []), (17, 3, .getfield 15, 0, 0, []), (20, 1, .iload_n 1, 0, 0, []), (21, 1, .iastore, 0, 0, []), (22, 1, .aload_n 0, 0, 0, []), (23, 1, .dup, 0, 0, []), (24, 3, .getfield 15, 0, 0, []), (27, 1, .iconst 1, 0, nI 1, []), (28, 1, .iadd, 0, 0, []), (29, 3, .putfield 15, 0, 0, []), (32, 1, .iconst 1, 0, nI 1, []), (33, 1, .ireturn, 0, 0, [])]
set_option maxRecDepth 20000 in
theorem kX7_take : okE mX7_take.2.1 eX7_take := by unfold okE; decide +kernel
def eX7_isLetter : List En := [(0, 1, .iload_n 1, 0, 0, []), (1, 1, .aload_n 0, 0, 0, []), (2, 3, .getfield 15, 0, 0, []), (5, 3, .if_icmp .ge 29, 34, 0, []), (8, 1, .aload_n 0, 0, 0, []), (9, 3, .getfield 9, 0, 0, []), (12, 1, .iload_n 1, 0, 0, []), (13, 1, .iaload, 0, 0, []), (14, 2, .bipush 97, 0, nI 97, []), (16, 3, .if_icmp .lt 18, 34, 0, []), (19, 1, .aload_n 0, 0, 0, []), (20, 3, .getfield 9, 0, 0, []), (23, 1, .iload_n 1, 0, 0, []), (24, 1, .iaload, 0, 0, []), (25, 2, .bipush 122, 0, nI 122, []), (27, 3, .if_icmp .gt 7, 34, 0, []), (30, 1, .iconst 1, 0, nI 1, []), (31, 3, .goto 4, 35, 0, []), (34, 1, .iconst 0, 0, nI 0, []), (35, 1, .ireturn, 0, 0, [])]
set_option maxRecDepth 20000 in
theorem kX7_isLetter : okE mX7_isLetter.2.1 eX7_isLetter := by unfold okE; decide +kernel
def eX8_tellBest : List En := [(0, 1, .iconst 4, 0, nI 4, []), (1, 1, .istore_n 3, 0, 0, []), (2, 1, .aload_n 0, 0, 0, []), (3, 1, .aload_n 1, 0, 0, []), (4, 1, .iload_n 2, 0, 0, []), (5, 1, .iconst 4, 0, nI 4, []), (6, 3, .invokevirtual 19, 0, 0, []), (9, 2, .istore 4, 0, 0, []), (11, 1, .iconst 3, 0, nI 3, []), (12, 2, .istore 5, 0, 0, []), (14, 2, .iload 5, 0, 0, []), (16, 3, .ifCond .lt 40, 56, 0, []), (19, 1, .aload_n 0, 0, 0, []), (20, 1, .aload_n 1, 0, 0, []), (21, 1, .iload_n 2, 0, 0, []), (22, 2, .iload 5, 0, 0, []), (24, 3, .invokevirtual 19, 0, 0, []), (27, 2, .istore 6, 0, 0, []), (29, 2, .iload 6, 0, 0, []), (31, 2, .bipush (-4), 0, -nI 4, []), (33, 3, .if_icmp .eq 17, 50, 0, []), (36, 2, .iload 6, 0, 0, []), (38, 2, .iload 4, 0, 0, []), (40, 3, .if_icmp .gt 10, 50, 0, []), (43, 2, .iload 5, 0, 0, []), (45, 1, .istore_n 3, 0, 0, []), (46, 2, .iload 6, 0, 0, []), (48, 2, .istore 4, 0, 0, []), (50, 3, .iinc 5 (-1), 0, -nI 1, []), (53, 3, .goto (-39), 14, 0, []), (56, 1, .aload_n 0, 0, 0, []), (57, 1, .aload_n 1, 0, 0, []), (58, 1, .iload_n 2, 0, 0, []), (59, 1, .iload_n 3, 0, 0, []), (60, 3, .invokevirtual 19, 0, 0, []), (63, 1, .ireturn, 0, 0, [])]
set_option maxRecDepth 20000 in
theorem kX8_tellBest : okE mX8_tellBest.2.1 eX8_tellBest := by unfold okE; decide +kernel
def eX8_tellBy : List En := [(0, 1, .aload_n 0, 0, 0, []), (1, 1, .iconst 0, 0, nI 0, []), (2, 3, .putfield 15, 0, 0, []), (5, 1, .aload_n 0, 0, 0, []), (6, 1, .iload_n 3, 0, 0, []), (7, 3, .invokevirtual 23, 0, 0, []), (10, 1, .iload_n 3, 0, 0, []), (11, 29, .tableswitch 70 0 3 #[29, 40, 51, 58], 81, 0, [40, 51, 62, 69]), (40, 1, .aload_n 0, 0, 0, []), (41, 1, .aload_n 1, 0, 0, []), (42, 1, .iload_n 2, 0, 0, []), (43, 1, .iconst 0, 0, nI 0, []), (44, 3, .invokevirtual 27, 0, 0, []), (47, 3, .invokevirtual 33, 0, 0, []), (50, 1, .ireturn, 0, 0, []), (51, 1, .aload_n 0, 0, 0, []), (52, 1, .aload_n 1, 0, 0, []), (53, 1, .iload_n 2, 0, 0, []), (54, 1, .iconst 1, 0, nI 1, []), (55, 3, .invokevirtual 27, 0, 0, []), (58, 3, .invokevirtual 33, 0, 0, []), (61, 1, .ireturn, 0, 0, []), (62, 1, .aload_n 0, 0, 0, []), (63, 1, .aload_n 1, 0, 0, []), (64, 1, .iload_n 2, 0, 0, []), (65, 3, .invokevirtual 37, 0, 0, []), (68, 1, .ireturn, 0, 0, []), (69, 1, .aload_n 0, 0, 0, []), (70, 1, .aload_n 1, 0, 0, []), (71, 1, .iload_n 2, 0, 0, []), (72, 1, .aload_n 1, 0, 0, []), (73, 1, .iload_n 2, 0, 0, []), (74, 3, .invokevirtual 41, 0, 0, []), (77, 3, .invokevirtual 44, 0, 0, []), (80, 1, .ireturn, 0, 0, []), (81, 1, .aload_n 0, 0, 0, []), (82, 1, .aload_n 1, 0, 0, []), (83, 1, .iload_n 2, 0, 0, []), (84, 1, .aload_n 1, 0, 0, []), (85, 3, .getfield 47, 0, 0, []), (88, 3, .invokevirtual 50, 0, 0, []), (91, 1, .ireturn, 0, 0, [])]
set_option maxRecDepth 20000 in
theorem kX8_tellBy : okE mX8_tellBy.2.1 eX8_tellBy := by unfold okE; decide +kernel
def eX8_put : List En := [(0, 1, .aload_n 0, 0, 0, []), (1, 3, .getfield 15, 0, 0, []), (4, 2, .bipush 40, 0, nI 40, []), (6, 3, .if_icmp .ge 23, 29, 0, []), (9, 1, .aload_n 0, 0, 0, []), (10, 3, .getfield 9, 0, 0, []), (13, 1, .aload_n 0, 0, 0, []), (14, 3, .getfield 15, 0, 0, []), (17, 1, .iload_n 1, 0, 0, []), (18, 1, .iastore, 0, 0, []), (19, 1, .aload_n 0, 0, 0, []), (20, 1, .dup, 0, 0, []), (21, 3, .getfield 15, 0, 0, []), (24, 1, .iconst 1, 0, nI 1, []), (25, 1, .iadd, 0, 0, []), (26, 3, .putfield 15, 0, 0, []), (29, 1, .return_, 0, 0, [])]
set_option maxRecDepth 20000 in
theorem kX8_put : okE mX8_put.2.1 eX8_put := by unfold okE; decide +kernel
def eX8_tellLike : List En := [(0, 1, .iload_n 1, 0, 0, []), (1, 2, .bipush (-4), 0, -nI 4, []), (3, 3, .if_icmp .ne 6, 9, 0, []), (6, 2, .bipush (-4), 0, -nI 4, []), (8, 1, .ireturn, 0, 0, []), (9, 1, .aload_n 0, 0, 0, []), (10, 1, .iload_n 1, 0, 0, []), (11, 3, .invokevirtual 23, 0, 0, []), (14, 1, .aload_n 0, 0, 0, []), (15, 3, .getfield 15, 0, 0, []), (18, 1, .ireturn, 0, 0, [])]
set_option maxRecDepth 20000 in
theorem kX8_tellLike : okE mX8_tellLike.2.1 eX8_tellLike := by unfold okE; decide +kernel
def eX8_tellMirror : List En := [(0, 1, .aload_n 1, 0, 0, []), (1, 3, .getfield 47, 0, 0, []), (4, 1, .iconst 2, 0, nI 2, []), (5, 3, .if_icmp .lt 13, 18, 0, []), (8, 1, .aload_n 1, 0, 0, []), (9, 1, .iload_n 2, 0, 0, []), (10, 1, .iload_n 2, 0, 0, []), (11, 1, .iconst 1, 0, nI 1, []), (12, 3, .invokevirtual 53, 0, 0, []), (15, 3, .ifCond .ne 6, 21, 0, []), (18, 2, .bipush (-4), 0, -nI 4, []), (20, 1, .ireturn, 0, 0, []), (21, 1, .aload_n 0, 0, 0, []), (22, 1, .aload_n 1, 0, 0, []), (23, 1, .iload_n 2, 0, 0, []), (24, 1, .aload_n 1, 0, 0, []), (25, 3, .getfield 47, 0, 0, []), (28, 1, .iconst 1, 0, nI 1, []), (29, 1, .iadd, 0, 0, []), (30, 1, .iconst 2, 0, nI 2, []), (31, 1, .idiv, 0, 0, []), (32, 3, .invokevirtual 50, 0, 0, []), (35, 1, .ireturn, 0, 0, [])]
set_option maxRecDepth 20000 in
theorem kX8_tellMirror : okE mX8_tellMirror.2.1 eX8_tellMirror := by unfold okE; decide +kernel
def eX8_tellTimes : List En := [(0, 1, .iload_n 3, 0, 0, []), (1, 1, .iconst 1, 0, nI 1, []), (2, 3, .if_icmp .lt 11, 13, 0, []), (5, 1, .iload_n 3, 0, 0, []), (6, 1, .aload_n 1, 0, 0, []), (7, 3, .getfield 47, 0, 0, []), (10, 3, .if_icmp .lt 6, 16, 0, []), (13, 2, .bipush (-4), 0, -nI 4, []), (15, 1, .ireturn, 0, 0, []), (16, 1, .aload_n 0, 0, 0, []), (17, 1, .aload_n 1, 0, 0, []), (18, 3, .getfield 47, 0, 0, []), (21, 1, .iload_n 3, 0, 0, []), (22, 1, .idiv, 0, 0, []), (23, 3, .invokevirtual 23, 0, 0, []), (26, 1, .aload_n 0, 0, 0, []), (27, 1, .aload_n 1, 0, 0, []), (28, 1, .iload_n 2, 0, 0, []), (29, 1, .iload_n 3, 0, 0, []), (30, 3, .invokevirtual 50, 0, 0, []), (33, 1, .ireturn, 0, 0, [])]
set_option maxRecDepth 20000 in
theorem kX8_tellTimes : okE mX8_tellTimes.2.1 eX8_tellTimes := by unfold okE; decide +kernel
def eX8_tellRuns : List En := [(0, 1, .iconst 0, 0, nI 0, []), (1, 2, .istore 4, 0, 0, []), (3, 1, .iconst 0, 0, nI 0, []), (4, 2, .istore 5, 0, 0, []), (6, 2, .iload 5, 0, 0, []), (8, 1, .iload_n 3, 0, 0, []), (9, 3, .if_icmp .ge 58, 67, 0, []), (12, 1, .aload_n 1, 0, 0, []), (13, 1, .iload_n 2, 0, 0, []), (14, 2, .iload 5, 0, 0, []), (16, 3, .invokevirtual 57, 0, 0, []), (19, 2, .istore 6, 0, 0, []), (21, 3, .iinc 4 1, 0, nI 1, []), (24, 2, .iload 5, 0, 0, []), (26, 1, .iconst 1, 0, nI 1, []), (27, 1, .iadd, 0, 0, []), (28, 1, .iload_n 3, 0, 0, []), (29, 3, .if_icmp .eq 17, 46, 0, []), (32, 1, .aload_n 1, 0, 0, []), (33, 1, .iload_n 2, 0, 0, []), (34, 2, .iload 5, 0, 0, []), (36, 1, .iconst 1, 0, nI 1, []), (37, 1, .iadd, 0, 0, []), (38, 3, .invokevirtual 57, 0, 0, []), (41, 2, .iload 6, 0, 0, []), (43, 3, .if_icmp .eq 18, 61, 0, []), (46, 1, .aload_n 0, 0, 0, []), (47, 2, .iload 4, 0, 0, []), (49, 3, .invokevirtual 23, 0, 0, []), (52, 1, .aload_n 0, 0, 0, []), (53, 2, .iload 6, 0, 0, []), (55, 3, .invokevirtual 23, 0, 0, []), (58, 1, .iconst 0, 0, nI 0, []), (59, 2, .istore 4, 0, 0, []), (61, 3, .iinc 5 1, 0, nI 1, []), (64, 3, .goto (-58), 6, 0, []), (67, 1, .aload_n 0, 0, 0, []), (68, 3, .getfield 15, 0, 0, []), (71, 1, .ireturn, 0, 0, [])]
set_option maxRecDepth 20000 in
theorem kX8_tellRuns : okE mX8_tellRuns.2.1 eX8_tellRuns := by unfold okE; decide +kernel
end
section
def eX9_feed : List En := [(0, 1, .iload_n 1, 0, 0, []), (1, 3, .ifCond .lt 9, 10, 0, []), (4, 1, .iload_n 1, 0, 0, []), (5, 2, .bipush 127, 0, nI 127, []), (7, 3, .if_icmp .le 5, 12, 0, []), (10, 1, .iconst (-1), 0, -nI 1, []), (11, 1, .ireturn, 0, 0, []), (12, 1, .aload_n 0, 0, 0, []), (13, 3, .getfield 26, 0, 0, []), (16, 1, .iload_n 1, 0, 0, []), (17, 3, .invokevirtual 79, 0, 0, []), (20, 3, .ifCond .eq 13, 33, 0, []), (23, 1, .aload_n 0, 0, 0, []), (24, 3, .getfield 26, 0, 0, []), (27, 3, .getfield 83, 0, 0, []), (30, 3, .goto 5, 35, 0, []), (33, 2, .bipush (-3), 0, -nI 3, []), (35, 1, .ireturn, 0, 0, [])]
set_option maxRecDepth 20000 in
theorem kX9_feed : okE mX9_feed.2.1 eX9_feed := by unfold okE; decide +kernel
def eX9_end : List En := [(0, 1, .aload_n 0, 0, 0, []), (1, 3, .getfield 26, 0, 0, []), (4, 3, .getfield 83, 0, 0, []), (7, 1, .istore_n 2, 0, 0, []), (8, 1, .iload_n 1, 0, 0, []), (9, 3, .ifCond .lt 8, 17, 0, []), (12, 1, .iload_n 1, 0, 0, []), (13, 1, .iload_n 2, 0, 0, []), (14, 3, .if_icmp .le 5, 19, 0, []), (17, 1, .iconst (-1), 0, -nI 1, []), (18, 1, .ireturn, 0, 0, []), (19, 1, .aload_n 0, 0, 0, []), (20, 3, .getfield 26, 0, 0, []), (23, 1, .iload_n 1, 0, 0, []), (24, 3, .putfield 83, 0, 0, []), (27, 1, .iload_n 2, 0, 0, []), (28, 1, .ireturn, 0, 0, [])]
set_option maxRecDepth 20000 in
theorem kX9_end : okE mX9_end.2.1 eX9_end := by unfold okE; decide +kernel
def eX9_text : List En := [(0, 1, .aload_n 0, 0, 0, []), (1, 1, .aload_n 0, 0, 0, []), (2, 3, .getfield 33, 0, 0, []), (5, 1, .aload_n 0, 0, 0, []), (6, 3, .getfield 26, 0, 0, []), (9, 3, .invokevirtual 86, 0, 0, []), (12, 3, .putfield 70, 0, 0, []), (15, 1, .aload_n 0, 0, 0, []), (16, 3, .getfield 26, 0, 0, []), (19, 1, .iconst 0, 0, nI 0, []), (20, 3, .putfield 83, 0, 0, []), (23, 1, .aload_n 0, 0, 0, []), (24, 3, .getfield 70, 0, 0, []), (27, 3, .ifCond .eq 14, 41, 0, []), (30, 2, .bipush (-10), 0, -nI 10, []), (32, 1, .aload_n 0, 0, 0, []), (33, 3, .getfield 33, 0, 0, []), (36, 3, .getfield 90, 0, 0, []), (39, 1, .isub, 0, 0, []), (40, 1, .ireturn, 0, 0, []), (41, 1, .aload_n 0, 0, 0, []), (42, 3, .getfield 12, 0, 0, []), (45, 1, .aload_n 0, 0, 0, []), (46, 3, .getfield 33, 0, 0, []), (49, 3, .getfield 93, 0, 0, []), (52, 3, .invokevirtual 96, 0, 0, []), (55, 1, .aload_n 0, 0, 0, []), (56, 3, .getfield 19, 0, 0, []), (59, 1, .iconst 0, 0, nI 0, []), (60, 3, .putfield 100, 0, 0, []), (63, 1, .iconst 0, 0, nI 0, []), (64, 1, .istore_n 1, 0, 0, []), (65, 1, .iload_n 1, 0, 0, []), (66, 1, .iconst 2, 0, nI 2, []), (67, 3, .if_icmp .ge 19, 86, 0, []), (70, 1, .aload_n 0, 0, 0, []), (71, 3, .getfield 60, 0, 0, []), (74, 1, .iload_n 1, 0, 0, []), (75, 1, .aaload, 0, 0, []), (76, 1, .iconst 0, 0, nI 0, []), (77, 3, .putfield 101, 0, 0, []), (80, 3, .iinc 1 1, 0, nI 1, []), (83, 3, .goto (-18), 65, 0, []), (86, 1, .aload_n 0, 0, 0, []), (87, 3, .getfield 12, 0, 0, []), (90, 3, .getfield 105, 0, 0, []), (93, 1, .ireturn, 0, 0, [])]
set_option maxRecDepth 20000 in
theorem kX9_text : okE mX9_text.2.1 eX9_text := by unfold okE; decide +kernel
def eX9_fault : List En := [(0, 1, .aload_n 0, 0, 0, []), (1, 3, .getfield 70, 0, 0, []), (4, 1, .ireturn, 0, 0, [])]
set_option maxRecDepth 20000 in
theorem kX9_fault : okE mX9_fault.2.1 eX9_fault := by unfold okE; decide +kernel
def eX9_rule : List En := [(0, 1, .iload_n 1, 0, 0, []), (1, 55, .tableswitch 129 0 9 #[55, 63, 71, 79, 87, 92, 100, 108, 113, 121], 130, 0, [56, 64, 72, 80, 88, 93, 101, 109, 114, 122]), (56, 1, .aload_n 0, 0, 0, []), (57, 3, .getfield 12, 0, 0, []), (60, 3, .getfield 105, 0, 0, []), (63, 1, .ireturn, 0, 0, []), (64, 1, .aload_n 0, 0, 0, []), (65, 3, .getfield 12, 0, 0, []), (68, 3, .getfield 108, 0, 0, []), (71, 1, .ireturn, 0, 0, []), (72, 1, .aload_n 0, 0, 0, []), (73, 3, .getfield 12, 0, 0, []), (76, 3, .getfield 111, 0, 0, []), (79, 1, .ireturn, 0, 0, []), (80, 1, .aload_n 0, 0, 0, []), (81, 3, .getfield 12, 0, 0, []), (84, 3, .invokevirtual 114, 0, 0, []), (87, 1, .ireturn, 0, 0, []), (88, 1, .aload_n 0, 0, 0, []), (89, 3, .invokevirtual 118, 0, 0, []), (92, 1, .ireturn, 0, 0, []), (93, 1, .aload_n 0, 0, 0, []), (94, 3, .getfield 12, 0, 0, []), (97, 3, .invokevirtual 121, 0, 0, []), (100, 1, .ireturn, 0, 0, []), (101, 1, .aload_n 0, 0, 0, []), (102, 3, .getfield 12, 0, 0, []), (105, 3, .invokevirtual 124, 0, 0, []), (108, 1, .ireturn, 0, 0, []), (109, 1, .aload_n 0, 0, 0, []), (110, 3, .invokevirtual 127, 0, 0, []), (113, 1, .ireturn, 0, 0, []), (114, 1, .aload_n 0, 0, 0, []), (115, 3, .getfield 19, 0, 0, []), (118, 3, .getfield 100, 0, 0, []), (121, 1, .ireturn, 0, 0, []), (122, 1, .aload_n 0, 0, 0, []), (123, 3, .getfield 47, 0, 0, []), (126, 3, .getfield 130, 0, 0, []), (129, 1, .ireturn, 0, 0, []), (130, 1, .iconst (-1), 0, -nI 1, []), (131, 1, .ireturn, 0, 0, [])]
set_option maxRecDepth 20000 in
theorem kX9_rule : okE mX9_rule.2.1 eX9_rule := by unfold okE; decide +kernel
def eX9_bead : List En := [(0, 1, .aload_n 0, 0, 0, []), (1, 3, .getfield 12, 0, 0, []), (4, 1, .iload_n 1, 0, 0, []), (5, 1, .iload_n 2, 0, 0, []), (6, 3, .invokevirtual 131, 0, 0, []), (9, 3, .ifCond .eq 15, 24, 0, []), (12, 1, .aload_n 0, 0, 0, []), (13, 3, .getfield 12, 0, 0, []), (16, 1, .iload_n 1, 0, 0, []), (17, 1, .iload_n 2, 0, 0, []), (18, 3, .invokevirtual 135, 0, 0, []), (21, 3, .goto 4, 25, 0, []), (24, 1, .iconst (-1), 0, -nI 1, []), (25, 1, .ireturn, 0, 0, [])]
set_option maxRecDepth 20000 in
theorem kX9_bead : okE mX9_bead.2.1 eX9_bead := by unfold okE; decide +kernel
def eX9_many : List En := [(0, 1, .iload_n 2, 0, 0, []), (1, 3, .invokestatic 139, 0, 0, []), (4, 3, .ifCond .ne 5, 9, 0, []), (7, 1, .iconst (-1), 0, -nI 1, []), (8, 1, .ireturn, 0, 0, []), (9, 1, .iload_n 1, 0, 0, []), (10, 2, .bipush (-4), 0, -nI 4, []), (12, 3, .if_icmp .ne 12, 24, 0, []), (15, 1, .aload_n 0, 0, 0, []), (16, 3, .getfield 12, 0, 0, []), (19, 1, .iload_n 2, 0, 0, []), (20, 3, .invokevirtual 142, 0, 0, []), (23, 1, .ireturn, 0, 0, []), (24, 1, .aload_n 0, 0, 0, []), (25, 3, .getfield 12, 0, 0, []), (28, 1, .iload_n 1, 0, 0, []), (29, 3, .invokevirtual 146, 0, 0, []), (32, 3, .ifCond .eq 15, 47, 0, []), (35, 1, .aload_n 0, 0, 0, []), (36, 3, .getfield 12, 0, 0, []), (39, 1, .iload_n 1, 0, 0, []), (40, 1, .iload_n 2, 0, 0, []), (41, 3, .invokevirtual 149, 0, 0, []), (44, 3, .goto 4, 48, 0, []), (47, 1, .iconst (-1), 0, -nI 1, []), (48, 1, .ireturn, 0, 0, [])]
set_option maxRecDepth 20000 in
theorem kX9_many : okE mX9_many.2.1 eX9_many := by unfold okE; decide +kernel
def eX9_row : List En := [(0, 1, .aload_n 0, 0, 0, []), (1, 3, .getfield 12, 0, 0, []), (4, 1, .iload_n 1, 0, 0, []), (5, 3, .invokevirtual 146, 0, 0, []), (8, 3, .ifCond .ne 5, 13, 0, []), (11, 1, .iconst (-1), 0, -nI 1, []), (12, 1, .ireturn, 0, 0, []), (13, 1, .iload_n 2, 0, 0, []), (14, 38, .tableswitch 110 0 5 #[38, 61, 74, 83, 92, 101], 124, 0, [52, 75, 88, 97, 106, 115]), (52, 1, .aload_n 0, 0, 0, []), (53, 3, .getfield 40, 0, 0, []), (56, 1, .aload_n 0, 0, 0, []), (57, 3, .getfield 12, 0, 0, []), (60, 1, .iload_n 1, 0, 0, []), (61, 3, .invokevirtual 152, 0, 0, []), (64, 1, .pop, 0, 0, []), (65, 1, .aload_n 0, 0, 0, []), (66, 3, .getfield 40, 0, 0, []), (69, 3, .getfield 156, 0, 0, []), (72, 1, .iconst 0, 0, nI 0, []), (73, 1, .iaload, 0, 0, []), (74, 1, .ireturn, 0, 0, []), (75, 1, .aload_n 0, 0, 0, []), (76, 3, .getfield 40, 0, 0, []), (79, 1, .aload_n 0, 0, 0, []), (80, 3, .getfield 12, 0, 0, []), (83, 1, .iload_n 1, 0, 0, []), (84, 3, .invokevirtual 152, 0, 0, []), (87, 1, .ireturn, 0, 0, []), (88, 1, .aload_n 0, 0, 0, []), (89, 3, .getfield 12, 0, 0, []), (92, 1, .iload_n 1, 0, 0, []), (93, 3, .invokevirtual 160, 0, 0, []), (96, 1, .ireturn, 0, 0, []), (97, 1, .aload_n 0, 0, 0, []), (98, 3, .getfield 12, 0, 0, []), (101, 1, .iload_n 1, 0, 0, []), (102, 3, .invokevirtual 163, 0, 0, []), (105, 1, .ireturn, 0, 0, []), (106, 1, .aload_n 0, 0, 0, []), (107, 3, .getfield 12, 0, 0, []), (110, 1, .iload_n 1, 0, 0, []), (111, 3, .invokevirtual 166, 0, 0, []), (114, 1, .ireturn, 0, 0, []), (115, 1, .aload_n 0, 0, 0, []), (116, 3, .getfield 12, 0, 0, []), (119, 1, .iload_n 1, 0, 0, []), (120, 3, .invokevirtual 169, 0, 0, []), (123, 1, .ireturn, 0, 0, []), (124, 1, .iconst (-1), 0, -nI 1, []), (125, 1, .ireturn, 0, 0, [])]
set_option maxRecDepth 20000 in
theorem kX9_row : okE mX9_row.2.1 eX9_row := by unfold okE; decide +kernel
def eX9_words : List En := [(0, 1, .aload_n 0, 0, 0, []), (1, 3, .getfield 12, 0, 0, []), (4, 1, .iload_n 1, 0, 0, []), (5, 3, .invokevirtual 146, 0, 0, []), (8, 3, .ifCond .eq 12, 20, 0, []), (11, 1, .iload_n 2, 0, 0, []), (12, 3, .ifCond .lt 8, 20, 0, []), (15, 1, .iload_n 2, 0, 0, []), (16, 1, .iconst 5, 0, nI 5, []), (17, 3, .if_icmp .lt 5, 22, 0, []), (20, 1, .iconst (-1), 0, -nI 1, []), (21, 1, .ireturn, 0, 0, []), (22, 1, .aload_n 0, 0, 0, []), (23, 3, .getfield 40, 0, 0, []), (26, 1, .aload_n 0, 0, 0, []), (27, 3, .getfield 12, 0, 0, []), (30, 1, .iload_n 1, 0, 0, []), (31, 1, .iload_n 2, 0, 0, []), (32, 3, .invokevirtual 172, 0, 0, []), (35, 1, .ireturn, 0, 0, [])]
set_option maxRecDepth 20000 in
theorem kX9_words : okE mX9_words.2.1 eX9_words := by unfold okE; decide +kernel
def eX9_word : List En := [(0, 1, .aload_n 0, 0, 0, []), (1, 3, .getfield 12, 0, 0, []), (4, 1, .iload_n 1, 0, 0, []), (5, 3, .invokevirtual 146, 0, 0, []), (8, 3, .ifCond .eq 7, 15, 0, []), (11, 1, .iload_n 2, 0, 0, []), (12, 3, .ifCond .ge 5, 17, 0, []), (15, 1, .iconst (-1), 0, -nI 1, []), (16, 1, .ireturn, 0, 0, []), (17, 1, .aload_n 0, 0, 0, []), (18, 3, .getfield 40, 0, 0, []), (21, 1, .aload_n 0, 0, 0, []), (22, 3, .getfield 12, 0, 0, []), (25, 1, .iload_n 1, 0, 0, []), (26, 3, .invokevirtual 152, 0, 0, []), (29, 1, .pop, 0, 0, []), (30, 1, .iload_n 2, 0, 0, []), (31, 1, .aload_n 0, 0, 0, []), (32, 3, .getfield 40, 0, 0, []), (35, 3, .getfield 176, 0, 0, []), (38, 3, .if_icmp .ge 15, 53, 0, []), (41, 1, .aload_n 0, 0, 0, []), (42, 3, .getfield 40, 0, 0, []), (45, 3, .getfield 156, 0, 0, []), (48, 1, .iload_n 2, 0, 0, []), (49, 1, .iaload, 0, 0, []), (50, 3, .goto 5, 55, 0, []), (53, 2, .bipush (-4), 0, -nI 4, []), (55, 1, .ireturn, 0, 0, [])]
set_option maxRecDepth 20000 in
theorem kX9_word : okE mX9_word.2.1 eX9_word := by unfold okE; decide +kernel
def eX9_tell : List En := [(0, 1, .iload_n 1, 0, 0, []), (1, 3, .ifCond .lt 9, 10, 0, []), (4, 1, .iload_n 1, 0, 0, []), (5, 2, .bipush 99, 0, nI 99, []), (7, 3, .if_icmp .le 5, 12, 0, []), (10, 1, .iconst (-1), 0, -nI 1, []), (11, 1, .ireturn, 0, 0, []), (12, 1, .aload_n 0, 0, 0, []), (13, 3, .getfield 47, 0, 0, []), (16, 1, .iload_n 1, 0, 0, []), (17, 3, .invokevirtual 177, 0, 0, []), (20, 3, .ifCond .eq 13, 33, 0, []), (23, 1, .aload_n 0, 0, 0, []), (24, 3, .getfield 47, 0, 0, []), (27, 3, .getfield 130, 0, 0, []), (30, 3, .goto 5, 35, 0, []), (33, 2, .bipush (-3), 0, -nI 3, []), (35, 1, .ireturn, 0, 0, [])]
set_option maxRecDepth 20000 in
theorem kX9_tell : okE mX9_tell.2.1 eX9_tell := by unfold okE; decide +kernel
def eX9_tear : List En := [(0, 1, .aload_n 0, 0, 0, []), (1, 3, .getfield 47, 0, 0, []), (4, 3, .getfield 130, 0, 0, []), (7, 1, .istore_n 1, 0, 0, []), (8, 1, .aload_n 0, 0, 0, []), (9, 3, .getfield 47, 0, 0, []), (12, 1, .iconst 0, 0, nI 0, []), (13, 3, .putfield 130, 0, 0, []), (16, 1, .iload_n 1, 0, 0, []), (17, 1, .ireturn, 0, 0, [])]
set_option maxRecDepth 20000 in
theorem kX9_tear : okE mX9_tear.2.1 eX9_tear := by unfold okE; decide +kernel
def eX9_spoken : List En := [(0, 1, .aload_n 0, 0, 0, []), (1, 3, .getfield 47, 0, 0, []), (4, 1, .aload_n 0, 0, 0, []), (5, 3, .getfield 12, 0, 0, []), (8, 3, .invokevirtual 178, 0, 0, []), (11, 1, .ireturn, 0, 0, [])]
set_option maxRecDepth 20000 in
theorem kX9_spoken : okE mX9_spoken.2.1 eX9_spoken := by unfold okE; decide +kernel
def eX9_said : List En := [(0, 1, .iload_n 1, 0, 0, []), (1, 3, .ifCond .ge 5, 6, 0, []), (4, 1, .iconst (-1), 0, -nI 1, []), (5, 1, .ireturn, 0, 0, []), (6, 1, .iload_n 1, 0, 0, []), (7, 1, .aload_n 0, 0, 0, []), (8, 3, .getfield 47, 0, 0, []), (11, 1, .aload_n 0, 0, 0, []), (12, 3, .getfield 12, 0, 0, []), (15, 3, .invokevirtual 178, 0, 0, []), (18, 3, .if_icmp .ge 15, 33, 0, []), (21, 1, .aload_n 0, 0, 0, []), (22, 3, .getfield 47, 0, 0, []), (25, 3, .getfield 182, 0, 0, []), (28, 1, .iload_n 1, 0, 0, []), (29, 1, .iaload, 0, 0, []), (30, 3, .goto 5, 35, 0, []), (33, 2, .bipush (-4), 0, -nI 4, []), (35, 1, .ireturn, 0, 0, [])]
set_option maxRecDepth 20000 in
theorem kX9_said : okE mX9_said.2.1 eX9_said := by unfold okE; decide +kernel
def eX9_add : List En := [(0, 1, .aload_n 0, 0, 0, []), (1, 3, .getfield 47, 0, 0, []), (4, 1, .aload_n 0, 0, 0, []), (5, 3, .getfield 12, 0, 0, []), (8, 3, .invokevirtual 178, 0, 0, []), (11, 1, .istore_n 1, 0, 0, []), (12, 1, .iload_n 1, 0, 0, []), (13, 2, .bipush (-4), 0, -nI 4, []), (15, 3, .if_icmp .ne 6, 21, 0, []), (18, 2, .bipush (-2), 0, -nI 2, []), (20, 1, .ireturn, 0, 0, []), (21, 1, .aload_n 0, 0, 0, []), (22, 3, .getfield 12, 0, 0, []), (25, 3, .getfield 105, 0, 0, []), (28, 2, .bipush 12, 0, nI 12, []), (30, 3, .if_icmp .lt 6, 36, 0, []), (33, 2, .bipush (-3), 0, -nI 3, []), (35, 1, .ireturn, 0, 0, []), (36, 1, .aload_n 0, 0, 0, []), (37, 3, .getfield 12, 0, 0, []), (40, 1, .aload_n 0, 0, 0, []), (41, 3, .getfield 47, 0, 0, []), (44, 3, .getfield 182, 0, 0, []), (47, 1, .iload_n 1, 0, 0, []), (48, 3, .invokevirtual 185, 0, 0, []), (51, 1, .aload_n 0, 0, 0, []), (52, 3, .getfield 47, 0, 0, []), (55, 1, .iconst 0, 0, nI 0, []), (56, 3, .putfield 130, 0, 0, []), (59, 1, .aload_n 0, 0, 0, []), (60, 3, .getfield 12, 0, 0, []), (63, 3, .getfield 105, 0, 0, []), (66, 1, .ireturn, 0, 0, [])]
set_option maxRecDepth 20000 in
theorem kX9_add : okE mX9_add.2.1 eX9_add := by unfold okE; decide +kernel
def eX9_string : List En := [(0, 1, .iload_n 1, 0, 0, []), (1, 3, .invokestatic 139, 0, 0, []), (4, 3, .ifCond .ne 5, 9, 0, []), (7, 1, .iconst (-1), 0, -nI 1, []), (8, 1, .ireturn, 0, 0, []), (9, 1, .aload_n 0, 0, 0, []), (10, 3, .getfield 19, 0, 0, []), (13, 3, .getfield 100, 0, 0, []), (16, 1, .aload_n 0, 0, 0, []), (17, 3, .getfield 12, 0, 0, []), (20, 3, .invokevirtual 114, 0, 0, []), (23, 3, .if_icmp .lt 6, 29, 0, []), (26, 2, .bipush (-3), 0, -nI 3, []), (28, 1, .ireturn, 0, 0, []), (29, 1, .aload_n 0, 0, 0, []), (30, 3, .getfield 19, 0, 0, []), (33, 1, .iload_n 1, 0, 0, []), (34, 3, .invokevirtual 189, 0, 0, []), (37, 1, .aload_n 0, 0, 0, []), (38, 3, .getfield 19, 0, 0, []), (41, 3, .getfield 100, 0, 0, []), (44, 1, .ireturn, 0, 0, [])]
set_option maxRecDepth 20000 in
theorem kX9_string : okE mX9_string.2.1 eX9_string := by unfold okE; decide +kernel
def eX9_off : List En := [(0, 1, .iload_n 1, 0, 0, []), (1, 3, .ifCond .lt 14, 15, 0, []), (4, 1, .iload_n 1, 0, 0, []), (5, 1, .aload_n 0, 0, 0, []), (6, 3, .getfield 19, 0, 0, []), (9, 3, .getfield 100, 0, 0, []), (12, 3, .if_icmp .le 5, 17, 0, []), (15, 1, .iconst (-1), 0, -nI 1, []), (16, 1, .ireturn, 0, 0, []), (17, 1, .aload_n 0, 0, 0, []), (18, 3, .getfield 19, 0, 0, []), (21, 1, .dup, 0, 0, []), (22, 3, .getfield 100, 0, 0, []), (25, 1, .iload_n 1, 0, 0, []), (26, 1, .isub, 0, 0, []), (27, 3, .putfield 100, 0, 0, []), (30, 1, .aload_n 0, 0, 0, []), (31, 3, .getfield 19, 0, 0, []), (34, 3, .getfield 100, 0, 0, []), (37, 1, .ireturn, 0, 0, [])]
set_option maxRecDepth 20000 in
theorem kX9_off : okE mX9_off.2.1 eX9_off := by unfold okE; decide +kernel
def eX9_plan : List En := [(0, 1, .iload_n 1, 0, 0, []), (1, 3, .ifCond .ge 7, 8, 0, []), (4, 1, .iconst (-1), 0, -nI 1, []), (5, 3, .goto 11, 16, 0, []), (8, 1, .aload_n 0, 0, 0, []), (9, 3, .getfield 12, 0, 0, []), (12, 1, .iload_n 1, 0, 0, []), (13, 3, .invokevirtual 192, 0, 0, []), (16, 1, .ireturn, 0, 0, [])]
set_option maxRecDepth 20000 in
theorem kX9_plan : okE mX9_plan.2.1 eX9_plan := by unfold okE; decide +kernel
def eX9_mistake : List En := [(0, 1, .iload_n 1, 0, 0, []), (1, 3, .ifCond .lt 9, 10, 0, []), (4, 1, .iload_n 1, 0, 0, []), (5, 2, .bipush 6, 0, nI 6, []), (7, 3, .if_icmp .le 5, 12, 0, []), (10, 1, .iconst (-1), 0, -nI 1, []), (11, 1, .ireturn, 0, 0, []), (12, 1, .aload_n 0, 0, 0, []), (13, 3, .getfield 19, 0, 0, []), (16, 1, .aload_n 0, 0, 0, []), (17, 3, .getfield 12, 0, 0, []), (20, 3, .invokevirtual 195, 0, 0, []), (23, 1, .istore_n 2, 0, 0, []), (24, 1, .iload_n 2, 0, 0, []), (25, 2, .bipush (-4), 0, -nI 4, []), (27, 3, .if_icmp .ne 6, 33, 0, []), (30, 2, .bipush (-4), 0, -nI 4, []), (32, 1, .ireturn, 0, 0, []), (33, 1, .iload_n 1, 0, 0, []), (34, 38, .tableswitch 105 0 5 #[38, 40, 49, 58, 67, 80], 139, 0, [72, 74, 83, 92, 101, 114]), (72, 1, .iload_n 2, 0, 0, []), (73, 1, .ireturn, 0, 0, []), (74, 1, .aload_n 0, 0, 0, []), (75, 3, .getfield 12, 0, 0, []), (78, 1, .iload_n 2, 0, 0, []), (79, 3, .invokevirtual 198, 0, 0, []), (82, 1, .ireturn, 0, 0, []), (83, 1, .aload_n 0, 0, 0, []), (84, 3, .getfield 12, 0, 0, []), (87, 1, .iload_n 2, 0, 0, []), (88, 3, .invokevirtual 201, 0, 0, []), (91, 1, .ireturn, 0, 0, []), (92, 1, .aload_n 0, 0, 0, []), (93, 3, .getfield 12, 0, 0, []), (96, 1, .iload_n 2, 0, 0, []), (97, 3, .invokevirtual 192, 0, 0, []), (100, 1, .ireturn, 0, 0, []), (101, 1, .aload_n 0, 0, 0, []), (102, 3, .getfield 19, 0, 0, []), (105, 1, .aload_n 0, 0, 0, []), (106, 3, .getfield 12, 0, 0, []), (109, 1, .iload_n 2, 0, 0, []), (110, 3, .invokevirtual 204, 0, 0, []), (113, 1, .ireturn, 0, 0, []), (114, 1, .aload_n 0, 0, 0, []), (115, 3, .getfield 19, 0, 0, []), (118, 1, .aload_n 0, 0, 0, []), (119, 3, .getfield 12, 0, 0, []), (122, 1, .iload_n 2, 0, 0, []), (123, 1, .aload_n 0, 0, 0, []), (124, 3, .getfield 19, 0, 0, []), (127, 1, .aload_n 0, 0, 0, []), (128, 3, .getfield 12, 0, 0, []), (131, 1, .iload_n 2, 0, 0, []), (132, 3, .invokevirtual 204, 0, 0, []), (135, 3, .invokevirtual 207, 0, 0, []), (138, 1, .ireturn, 0, 0, []), (139, 1, .aload_n 0, 0, 0, []), (140, 3, .getfield 19, 0, 0, []), (143, 3, .getfield 100, 0, 0, []), (146, 1, .iload_n 2, 0, 0, []), (147, 1, .isub, 0, 0, []), (148, 1, .ireturn, 0, 0, [])]
set_option maxRecDepth 20000 in
theorem kX9_mistake : okE mX9_mistake.2.1 eX9_mistake := by unfold okE; decide +kernel
def eX9_paint : List En := [(0, 1, .aload_n 0, 0, 0, []), (1, 3, .getfield 12, 0, 0, []), (4, 1, .iload_n 1, 0, 0, []), (5, 1, .iload_n 2, 0, 0, []), (6, 3, .invokevirtual 131, 0, 0, []), (9, 3, .ifCond .eq 10, 19, 0, []), (12, 1, .iload_n 3, 0, 0, []), (13, 3, .invokestatic 139, 0, 0, []), (16, 3, .ifCond .ne 5, 21, 0, []), (19, 1, .iconst (-1), 0, -nI 1, []), (20, 1, .ireturn, 0, 0, []), (21, 1, .aload_n 0, 0, 0, []), (22, 3, .getfield 12, 0, 0, []), (25, 1, .iload_n 1, 0, 0, []), (26, 1, .iload_n 2, 0, 0, []), (27, 3, .invokevirtual 135, 0, 0, []), (30, 2, .istore 4, 0, 0, []), (32, 1, .aload_n 0, 0, 0, []), (33, 3, .getfield 12, 0, 0, []), (36, 1, .iload_n 1, 0, 0, []), (37, 1, .iload_n 2, 0, 0, []), (38, 1, .iload_n 3, 0, 0, []), (39, 3, .invokevirtual 210, 0, 0, []), (42, 1, .aload_n 0, 0, 0, []), (43, 3, .getfield 19, 0, 0, []), (46, 1, .iconst 0, 0, nI 0, []), (47, 3, .putfield 100, 0, 0, []), (50, 2, .iload 4, 0, 0, []), (52, 1, .ireturn, 0, 0, [])]
set_option maxRecDepth 20000 in
theorem kX9_paint : okE mX9_paint.2.1 eX9_paint := by unfold okE; decide +kernel
def eX9_dye : List En := [(0, 1, .iload_n 1, 0, 0, []), (1, 3, .invokestatic 139, 0, 0, []), (4, 3, .ifCond .eq 10, 14, 0, []), (7, 1, .iload_n 2, 0, 0, []), (8, 3, .invokestatic 139, 0, 0, []), (11, 3, .ifCond .ne 5, 16, 0, []), (14, 1, .iconst (-1), 0, -nI 1, []), (15, 1, .ireturn, 0, 0, []), (16, 1, .aload_n 0, 0, 0, []), (17, 3, .getfield 12, 0, 0, []), (20, 1, .iload_n 1, 0, 0, []), (21, 3, .invokevirtual 142, 0, 0, []), (24, 1, .istore_n 3, 0, 0, []), (25, 1, .aload_n 0, 0, 0, []), (26, 3, .getfield 12, 0, 0, []), (29, 1, .iload_n 1, 0, 0, []), (30, 1, .iload_n 2, 0, 0, []), (31, 3, .invokevirtual 214, 0, 0, []), (34, 1, .aload_n 0, 0, 0, []), (35, 3, .getfield 19, 0, 0, []), (38, 1, .iconst 0, 0, nI 0, []), (39, 3, .putfield 100, 0, 0, []), (42, 1, .iload_n 3, 0, 0, []), (43, 1, .ireturn, 0, 0, [])]
set_option maxRecDepth 20000 in
theorem kX9_dye : okE mX9_dye.2.1 eX9_dye := by unfold okE; decide +kernel
def eX9_change : List En := [(0, 1, .aload_n 0, 0, 0, []), (1, 3, .getfield 12, 0, 0, []), (4, 1, .iload_n 1, 0, 0, []), (5, 3, .invokevirtual 146, 0, 0, []), (8, 3, .ifCond .eq 12, 20, 0, []), (11, 1, .iload_n 2, 0, 0, []), (12, 3, .ifCond .lt 8, 20, 0, []), (15, 1, .iload_n 2, 0, 0, []), (16, 1, .iconst 3, 0, nI 3, []), (17, 3, .if_icmp .le 5, 22, 0, []), (20, 1, .iconst (-1), 0, -nI 1, []), (21, 1, .ireturn, 0, 0, []), (22, 1, .iload_n 2, 0, 0, []), (23, 1, .iconst 3, 0, nI 3, []), (24, 3, .if_icmp .ne 18, 42, 0, []), (27, 1, .aload_n 0, 0, 0, []), (28, 3, .getfield 12, 0, 0, []), (31, 3, .getfield 105, 0, 0, []), (34, 2, .bipush 12, 0, nI 12, []), (36, 3, .if_icmp .lt 6, 42, 0, []), (39, 2, .bipush (-3), 0, -nI 3, []), (41, 1, .ireturn, 0, 0, []), (42, 1, .iload_n 2, 0, 0, []), (43, 25, .tableswitch 58 0 2 #[25, 36, 47], 101, 0, [68, 79, 90]), (68, 1, .aload_n 0, 0, 0, []), (69, 3, .getfield 12, 0, 0, []), (72, 1, .iload_n 1, 0, 0, []), (73, 3, .invokevirtual 218, 0, 0, []), (76, 3, .goto 33, 109, 0, []), (79, 1, .aload_n 0, 0, 0, []), (80, 3, .getfield 12, 0, 0, []), (83, 1, .iload_n 1, 0, 0, []), (84, 3, .invokevirtual 221, 0, 0, []), (87, 3, .goto 22, 109, 0, []), (90, 1, .aload_n 0, 0, 0, []), (91, 3, .getfield 12, 0, 0, []), (94, 1, .iload_n 1, 0, 0, []), (95, 3, .invokevirtual 224, 0, 0, []), (98, 3, .goto 11, 109, 0, []), (101, 1, .aload_n 0, 0, 0, []), (102, 3, .getfield 12, 0, 0, []), (105, 1, .iload_n 1, 0, 0, []), (106, 3, .invokevirtual 227, 0, 0, []), (109, 1, .aload_n 0, 0, 0, []), (110, 3, .getfield 19, 0, 0, []), (113, 1, .iconst 0, 0, nI 0, []), (114, 3, .putfield 100, 0, 0, []), (117, 1, .aload_n 0, 0, 0, []), (118, 3, .getfield 12, 0, 0, []), (121, 3, .getfield 105, 0, 0, []), (124, 1, .ireturn, 0, 0, [])]
set_option maxRecDepth 20000 in
theorem kX9_change : okE mX9_change.2.1 eX9_change := by unfold okE; decide +kernel
def eX9_swap : List En := [(0, 1, .aload_n 0, 0, 0, []), (1, 3, .getfield 12, 0, 0, []), (4, 1, .iload_n 1, 0, 0, []), (5, 3, .invokevirtual 146, 0, 0, []), (8, 3, .ifCond .eq 14, 22, 0, []), (11, 1, .aload_n 0, 0, 0, []), (12, 3, .getfield 12, 0, 0, []), (15, 1, .iload_n 2, 0, 0, []), (16, 3, .invokevirtual 146, 0, 0, []), (19, 3, .ifCond .ne 5, 24, 0, []), (22, 1, .iconst (-1), 0, -nI 1, []), (23, 1, .ireturn, 0, 0, []), (24, 1, .aload_n 0, 0, 0, []), (25, 3, .getfield 12, 0, 0, []), (28, 1, .iload_n 1, 0, 0, []), (29, 1, .iload_n 2, 0, 0, []), (30, 3, .invokevirtual 230, 0, 0, []), (33, 1, .istore_n 3, 0, 0, []), (34, 1, .aload_n 0, 0, 0, []), (35, 3, .getfield 12, 0, 0, []), (38, 1, .iload_n 1, 0, 0, []), (39, 1, .iload_n 2, 0, 0, []), (40, 3, .invokevirtual 233, 0, 0, []), (43, 1, .aload_n 0, 0, 0, []), (44, 3, .getfield 19, 0, 0, []), (47, 1, .iconst 0, 0, nI 0, []), (48, 3, .putfield 100, 0, 0, []), (51, 1, .iload_n 3, 0, 0, []), (52, 3, .ifCond .eq 7, 59, 0, []), (55, 1, .iconst 1, 0, nI 1, []), (56, 3, .goto 4, 60, 0, []), (59, 1, .iconst 0, 0, nI 0, []), (60, 1, .ireturn, 0, 0, [])]
set_option maxRecDepth 20000 in
theorem kX9_swap : okE mX9_swap.2.1 eX9_swap := by unfold okE; decide +kernel
def eX9_mode : List En := [(0, 1, .iload_n 1, 0, 0, []), (1, 3, .ifCond .lt 8, 9, 0, []), (4, 1, .iload_n 1, 0, 0, []), (5, 1, .iconst 1, 0, nI 1, []), (6, 3, .if_icmp .le 5, 11, 0, []), (9, 1, .iconst (-1), 0, -nI 1, []), (10, 1, .ireturn, 0, 0, []), (11, 1, .aload_n 0, 0, 0, []), (12, 3, .getfield 12, 0, 0, []), (15, 3, .getfield 111, 0, 0, []), (18, 1, .istore_n 2, 0, 0, []), (19, 1, .aload_n 0, 0, 0, []), (20, 3, .getfield 12, 0, 0, []), (23, 1, .iload_n 1, 0, 0, []), (24, 3, .putfield 111, 0, 0, []), (27, 1, .aload_n 0, 0, 0, []), (28, 3, .getfield 19, 0, 0, []), (31, 1, .iconst 0, 0, nI 0, []), (32, 3, .putfield 100, 0, 0, []), (35, 1, .iload_n 2, 0, 0, []), (36, 1, .ireturn, 0, 0, [])]
set_option maxRecDepth 20000 in
theorem kX9_mode : okE mX9_mode.2.1 eX9_mode := by unfold okE; decide +kernel
def eX9_draw : List En := [(0, 1, .iload_n 2, 0, 0, []), (1, 1, .iconst 1, 0, nI 1, []), (2, 3, .if_icmp .lt 33, 35, 0, []), (5, 1, .iload_n 2, 0, 0, []), (6, 2, .bipush 12, 0, nI 12, []), (8, 3, .if_icmp .gt 27, 35, 0, []), (11, 1, .iload_n 3, 0, 0, []), (12, 1, .iconst 1, 0, nI 1, []), (13, 3, .if_icmp .lt 22, 35, 0, []), (16, 1, .iload_n 3, 0, 0, []), (17, 2, .bipush 16, 0, nI 16, []), (19, 3, .if_icmp .gt 16, 35, 0, []), (22, 2, .iload 4, 0, 0, []), (24, 1, .iconst 1, 0, nI 1, []), (25, 3, .if_icmp .lt 10, 35, 0, []), (28, 2, .iload 4, 0, 0, []), (30, 2, .bipush 6, 0, nI 6, []), (32, 3, .if_icmp .le 5, 37, 0, []), (35, 1, .iconst (-1), 0, -nI 1, []), (36, 1, .ireturn, 0, 0, []), (37, 1, .aload_n 0, 0, 0, []), (38, 3, .getfield 54, 0, 0, []), (41, 1, .iload_n 1, 0, 0, []), (42, 3, .putfield 236, 0, 0, []), (45, 1, .aload_n 0, 0, 0, []), (46, 3, .getfield 12, 0, 0, []), (49, 1, .iload_n 2, 0, 0, []), (50, 3, .putfield 105, 0, 0, []), (53, 1, .aload_n 0, 0, 0, []), (54, 3, .getfield 12, 0, 0, []), (57, 1, .iload_n 3, 0, 0, []), (58, 3, .putfield 108, 0, 0, []), (61, 1, .iconst 0, 0, nI 0, []), (62, 2, .istore 5, 0, 0, []), (64, 2, .iload 5, 0, 0, []), (66, 1, .iload_n 2, 0, 0, []), (67, 3, .if_icmp .ge 17, 84, 0, []), (70, 1, .aload_n 0, 0, 0, []), (71, 2, .iload 5, 0, 0, []), (73, 2, .iload 4, 0, 0, []), (75, 3, .invokevirtual 239, 0, 0, []), (78, 3, .iinc 5 1, 0, nI 1, []), (81, 3, .goto (-17), 64, 0, []), (84, 1, .aload_n 0, 0, 0, []), (85, 3, .getfield 19, 0, 0, []), (88, 1, .iconst 0, 0, nI 0, []), (89, 3, .putfield 100, 0, 0, []), (92, 1, .aload_n 0, 0, 0, []), (93, 3, .getfield 12, 0, 0, []), (96, 3, .invokevirtual 114, 0, 0, []), (99, 1, .ireturn, 0, 0, [])]
set_option maxRecDepth 20000 in
theorem kX9_draw : okE mX9_draw.2.1 eX9_draw := by unfold okE; decide +kernel
def eX9_keep : List En := [(0, 1, .iload_n 1, 0, 0, []), (1, 3, .ifCond .lt 8, 9, 0, []), (4, 1, .iload_n 1, 0, 0, []), (5, 1, .iconst 2, 0, nI 2, []), (6, 3, .if_icmp .lt 5, 11, 0, []), (9, 1, .iconst (-1), 0, -nI 1, []), (10, 1, .ireturn, 0, 0, []), (11, 1, .aload_n 0, 0, 0, []), (12, 3, .getfield 60, 0, 0, []), (15, 1, .iload_n 1, 0, 0, []), (16, 1, .aaload, 0, 0, []), (17, 1, .astore_n 2, 0, 0, []), (18, 1, .aload_n 2, 0, 0, []), (19, 3, .getfield 101, 0, 0, []), (22, 3, .ifCond .eq 7, 29, 0, []), (25, 1, .iconst 1, 0, nI 1, []), (26, 3, .goto 4, 30, 0, []), (29, 1, .iconst 0, 0, nI 0, []), (30, 1, .istore_n 3, 0, 0, []), (31, 1, .aload_n 2, 0, 0, []), (32, 1, .iconst 1, 0, nI 1, []), (33, 3, .putfield 101, 0, 0, []), (36, 1, .aload_n 2, 0, 0, []), (37, 3, .getfield 242, 0, 0, []), (40, 1, .aload_n 0, 0, 0, []), (41, 3, .getfield 12, 0, 0, []), (44, 3, .invokevirtual 96, 0, 0, []), (47, 1, .aload_n 2, 0, 0, []), (48, 3, .getfield 243, 0, 0, []), (51, 1, .aload_n 0, 0, 0, []), (52, 3, .getfield 19, 0, 0, []), (55, 3, .invokevirtual 244, 0, 0, []), (58, 1, .iload_n 3, 0, 0, []), (59, 1, .ireturn, 0, 0, [])]
set_option maxRecDepth 20000 in
theorem kX9_keep : okE mX9_keep.2.1 eX9_keep := by unfold okE; decide +kernel
def eX9_back : List En := [(0, 1, .iload_n 1, 0, 0, []), (1, 3, .ifCond .lt 8, 9, 0, []), (4, 1, .iload_n 1, 0, 0, []), (5, 1, .iconst 2, 0, nI 2, []), (6, 3, .if_icmp .lt 5, 11, 0, []), (9, 1, .iconst (-1), 0, -nI 1, []), (10, 1, .ireturn, 0, 0, []), (11, 1, .aload_n 0, 0, 0, []), (12, 3, .getfield 60, 0, 0, []), (15, 1, .iload_n 1, 0, 0, []), (16, 1, .aaload, 0, 0, []), (17, 1, .astore_n 2, 0, 0, []), (18, 1, .aload_n 2, 0, 0, []), (19, 3, .getfield 101, 0, 0, []), (22, 3, .ifCond .ne 6, 28, 0, []), (25, 2, .bipush (-2), 0, -nI 2, []), (27, 1, .ireturn, 0, 0, []), (28, 1, .aload_n 0, 0, 0, []), (29, 3, .getfield 12, 0, 0, []), (32, 1, .aload_n 2, 0, 0, []), (33, 3, .getfield 242, 0, 0, []), (36, 3, .invokevirtual 96, 0, 0, []), (39, 1, .aload_n 0, 0, 0, []), (40, 3, .getfield 19, 0, 0, []), (43, 1, .aload_n 2, 0, 0, []), (44, 3, .getfield 243, 0, 0, []), (47, 3, .invokevirtual 244, 0, 0, []), (50, 1, .aload_n 0, 0, 0, []), (51, 3, .getfield 12, 0, 0, []), (54, 3, .getfield 105, 0, 0, []), (57, 1, .ireturn, 0, 0, [])]
set_option maxRecDepth 20000 in
theorem kX9_back : okE mX9_back.2.1 eX9_back := by unfold okE; decide +kernel
def eX9_sheet : List En := [(0, 1, .iload_n 1, 0, 0, []), (1, 3, .invokestatic 247, 0, 0, []), (4, 3, .ifCond .eq 16, 20, 0, []), (7, 1, .iload_n 2, 0, 0, []), (8, 3, .invokestatic 250, 0, 0, []), (11, 3, .ifCond .eq 9, 20, 0, []), (14, 1, .iload_n 3, 0, 0, []), (15, 2, .bipush 32, 0, nI 32, []), (17, 3, .if_icmp .le 5, 22, 0, []), (20, 1, .iconst (-1), 0, -nI 1, []), (21, 1, .ireturn, 0, 0, []), (22, 1, .iload_n 3, 0, 0, []), (23, 3, .ifCond .ge 6, 29, 0, []), (26, 2, .bipush (-14), 0, -nI 14, []), (28, 1, .ireturn, 0, 0, []), (29, 1, .aload_n 0, 0, 0, []), (30, 3, .getfield 66, 0, 0, []), (33, 1, .iload_n 1, 0, 0, []), (34, 1, .aaload, 0, 0, []), (35, 1, .iload_n 2, 0, 0, []), (36, 1, .iload_n 3, 0, 0, []), (37, 3, .invokevirtual 253, 0, 0, []), (40, 1, .iconst 1, 0, nI 1, []), (41, 1, .ireturn, 0, 0, [])]
set_option maxRecDepth 20000 in
theorem kX9_sheet : okE mX9_sheet.2.1 eX9_sheet := by unfold okE; decide +kernel
def eX9_lay : List En := [(0, 1, .iload_n 1, 0, 0, []), (1, 3, .invokestatic 247, 0, 0, []), (4, 3, .ifCond .ne 5, 9, 0, []), (7, 1, .iconst (-1), 0, -nI 1, []), (8, 1, .ireturn, 0, 0, []), (9, 1, .aload_n 0, 0, 0, []), (10, 3, .getfield 66, 0, 0, []), (13, 1, .iload_n 1, 0, 0, []), (14, 1, .aaload, 0, 0, []), (15, 2, .astore 4, 0, 0, []), (17, 2, .aload 4, 0, 0, []), (19, 2, .aload 4, 0, 0, []), (21, 3, .getfield 256, 0, 0, []), (24, 1, .iload_n 2, 0, 0, []), (25, 3, .invokevirtual 259, 0, 0, []), (28, 2, .istore 5, 0, 0, []), (30, 2, .iload 5, 0, 0, []), (32, 3, .ifCond .eq 9, 41, 0, []), (35, 2, .bipush (-10), 0, -nI 10, []), (37, 2, .iload 5, 0, 0, []), (39, 1, .isub, 0, 0, []), (40, 1, .ireturn, 0, 0, []), (41, 2, .aload 4, 0, 0, []), (43, 1, .iload_n 2, 0, 0, []), (44, 1, .iload_n 3, 0, 0, []), (45, 3, .invokevirtual 262, 0, 0, []), (48, 1, .iconst 1, 0, nI 1, []), (49, 1, .ireturn, 0, 0, [])]
set_option maxRecDepth 20000 in
theorem kX9_lay : okE mX9_lay.2.1 eX9_lay := by unfold okE; decide +kernel
def eX9_run : List En := [(0, 1, .iload_n 1, 0, 0, []), (1, 3, .invokestatic 247, 0, 0, []), (4, 3, .ifCond .eq 22, 26, 0, []), (7, 1, .iload_n 2, 0, 0, []), (8, 3, .invokestatic 250, 0, 0, []), (11, 3, .ifCond .eq 15, 26, 0, []), (14, 2, .iload 4, 0, 0, []), (16, 3, .ifCond .lt 10, 26, 0, []), (19, 2, .iload 4, 0, 0, []), (21, 2, .bipush 32, 0, nI 32, []), (23, 3, .if_icmp .le 5, 28, 0, []), (26, 1, .iconst (-1), 0, -nI 1, []), (27, 1, .ireturn, 0, 0, []), (28, 1, .aload_n 0, 0, 0, []), (29, 1, .iconst 0, 0, nI 0, []), (30, 3, .putfield 74, 0, 0, []), (33, 1, .aload_n 0, 0, 0, []), (34, 3, .getfield 66, 0, 0, []), (37, 1, .iload_n 1, 0, 0, []), (38, 1, .aaload, 0, 0, []), (39, 2, .astore 5, 0, 0, []), (41, 1, .iconst 0, 0, nI 0, []), (42, 2, .istore 6, 0, 0, []), (44, 2, .iload 6, 0, 0, []), (46, 2, .iload 4, 0, 0, []), (48, 3, .if_icmp .ge 50, 98, 0, []), (51, 1, .aload_n 0, 0, 0, []), (52, 2, .aload 5, 0, 0, []), (54, 1, .iload_n 2, 0, 0, []), (55, 1, .iload_n 3, 0, 0, []), (56, 2, .iload 6, 0, 0, []), (58, 1, .iadd, 0, 0, []), (59, 3, .invokevirtual 259, 0, 0, []), (62, 3, .putfield 74, 0, 0, []), (65, 1, .aload_n 0, 0, 0, []), (66, 3, .getfield 74, 0, 0, []), (69, 3, .ifCond .ne 20, 89, 0, []), (72, 1, .aload_n 0, 0, 0, []), (73, 2, .aload 5, 0, 0, []), (75, 3, .getfield 264, 0, 0, []), (78, 1, .iload_n 3, 0, 0, []), (79, 2, .iload 6, 0, 0, []), (81, 1, .iadd, 0, 0, []), (82, 1, .iaload, 0, 0, []), (83, 3, .invokevirtual 267, 0, 0, []), (86, 3, .ifCond .ge 6, 92, 0, []), (89, 2, .iload 6, 0, 0, []), (91, 1, .ireturn, 0, 0, []), (92, 3, .iinc 6 1, 0, nI 1, []), (95, 3, .goto (-51), 44, 0, []), (98, 2, .iload 4, 0, 0, []), (100, 1, .ireturn, 0, 0, [])]
set_option maxRecDepth 20000 in
theorem kX9_run : okE mX9_run.2.1 eX9_run := by unfold okE; decide +kernel
def eX9_torn : List En := [(0, 1, .aload_n 0, 0, 0, []), (1, 3, .getfield 74, 0, 0, []), (4, 1, .ireturn, 0, 0, [])]
set_option maxRecDepth 20000 in
theorem kX9_torn : okE mX9_torn.2.1 eX9_torn := by unfold okE; decide +kernel
def eX9_count : List En := [(0, 1, .iload_n 1, 0, 0, []), (1, 27, .tableswitch 69 0 2 #[27, 32, 40], 70, 0, [28, 33, 41]), (28, 1, .aload_n 0, 0, 0, []), (29, 3, .invokevirtual 270, 0, 0, []), (32, 1, .ireturn, 0, 0, []), (33, 1, .aload_n 0, 0, 0, []), (34, 3, .getfield 26, 0, 0, []), (37, 3, .getfield 83, 0, 0, []), (40, 1, .ireturn, 0, 0, []), (41, 1, .aload_n 0, 0, 0, []), (42, 3, .getfield 66, 0, 0, []), (45, 1, .iconst 0, 0, nI 0, []), (46, 1, .aaload, 0, 0, []), (47, 3, .getfield 256, 0, 0, []), (50, 2, .bipush (-4), 0, -nI 4, []), (52, 3, .if_icmp .ne 8, 60, 0, []), (55, 2, .bipush (-4), 0, -nI 4, []), (57, 3, .goto 12, 69, 0, []), (60, 1, .aload_n 0, 0, 0, []), (61, 3, .getfield 66, 0, 0, []), (64, 1, .iconst 0, 0, nI 0, []), (65, 1, .aaload, 0, 0, []), (66, 3, .getfield 273, 0, 0, []), (69, 1, .ireturn, 0, 0, []), (70, 1, .iconst (-1), 0, -nI 1, []), (71, 1, .ireturn, 0, 0, [])]
set_option maxRecDepth 20000 in
theorem kX9_count : okE mX9_count.2.1 eX9_count := by unfold okE; decide +kernel
def eX9_isColour : List En := [(0, 1, .iload_n 0, 0, 0, []), (1, 3, .ifCond .lt 13, 14, 0, []), (4, 1, .iload_n 0, 0, 0, []), (5, 2, .bipush 6, 0, nI 6, []), (7, 3, .if_icmp .ge 7, 14, 0, []), (10, 1, .iconst 1, 0, nI 1, []), (11, 3, .goto 4, 15, 0, []), (14, 1, .iconst 0, 0, nI 0, []), (15, 1, .ireturn, 0, 0, [])]
set_option maxRecDepth 20000 in
theorem kX9_isColour : okE mX9_isColour.2.1 eX9_isColour := by unfold okE; decide +kernel
def eX9_isSheet : List En := [(0, 1, .iload_n 0, 0, 0, []), (1, 3, .ifCond .lt 12, 13, 0, []), (4, 1, .iload_n 0, 0, 0, []), (5, 1, .iconst 4, 0, nI 4, []), (6, 3, .if_icmp .ge 7, 13, 0, []), (9, 1, .iconst 1, 0, nI 1, []), (10, 3, .goto 4, 14, 0, []), (13, 1, .iconst 0, 0, nI 0, []), (14, 1, .ireturn, 0, 0, [])]
set_option maxRecDepth 20000 in
theorem kX9_isSheet : okE mX9_isSheet.2.1 eX9_isSheet := by unfold okE; decide +kernel
def eX9_isLane : List En := [(0, 1, .iload_n 0, 0, 0, []), (1, 3, .ifCond .lt 12, 13, 0, []), (4, 1, .iload_n 0, 0, 0, []), (5, 1, .iconst 3, 0, nI 3, []), (6, 3, .if_icmp .ge 7, 13, 0, []), (9, 1, .iconst 1, 0, nI 1, []), (10, 3, .goto 4, 14, 0, []), (13, 1, .iconst 0, 0, nI 0, []), (14, 1, .ireturn, 0, 0, [])]
set_option maxRecDepth 20000 in
theorem kX9_isLane : okE mX9_isLane.2.1 eX9_isLane := by unfold okE; decide +kernel
def eX9_wordsInAll : List En := [(0, 1, .iconst 0, 0, nI 0, []), (1, 1, .istore_n 1, 0, 0, []), (2, 1, .iconst 0, 0, nI 0, []), (3, 1, .istore_n 2, 0, 0, []), (4, 1, .iload_n 2, 0, 0, []), (5, 1, .aload_n 0, 0, 0, []), (6, 3, .getfield 12, 0, 0, []), (9, 3, .getfield 105, 0, 0, []), (12, 3, .if_icmp .ge 24, 36, 0, []), (15, 1, .iload_n 1, 0, 0, []), (16, 1, .aload_n 0, 0, 0, []), (17, 3, .getfield 40, 0, 0, []), (20, 1, .aload_n 0, 0, 0, []), (21, 3, .getfield 12, 0, 0, []), (24, 1, .iload_n 2, 0, 0, []), (25, 3, .invokevirtual 152, 0, 0, []), (28, 1, .iadd, 0, 0, []), (29, 1, .istore_n 1, 0, 0, []), (30, 3, .iinc 2 1, 0, nI 1, []), (33, 3, .goto (-29), 4, 0, []), (36, 1, .iload_n 1, 0, 0, []), (37, 1, .ireturn, 0, 0, [])]
set_option maxRecDepth 20000 in
theorem kX9_wordsInAll : okE mX9_wordsInAll.2.1 eX9_wordsInAll := by unfold okE; decide +kernel
def eX9_coloursInAll : List En := [(0, 1, .iconst 0, 0, nI 0, []), (1, 1, .istore_n 1, 0, 0, []), (2, 1, .iconst 0, 0, nI 0, []), (3, 1, .istore_n 2, 0, 0, []), (4, 1, .iload_n 2, 0, 0, []), (5, 2, .bipush 6, 0, nI 6, []), (7, 3, .if_icmp .ge 23, 30, 0, []), (10, 1, .aload_n 0, 0, 0, []), (11, 3, .getfield 12, 0, 0, []), (14, 1, .iload_n 2, 0, 0, []), (15, 3, .invokevirtual 142, 0, 0, []), (18, 3, .ifCond .le 6, 24, 0, []), (21, 3, .iinc 1 1, 0, nI 1, []), (24, 3, .iinc 2 1, 0, nI 1, []), (27, 3, .goto (-23), 4, 0, []), (30, 1, .iload_n 1, 0, 0, []), (31, 1, .ireturn, 0, 0, [])]
set_option maxRecDepth 20000 in
theorem kX9_coloursInAll : okE mX9_coloursInAll.2.1 eX9_coloursInAll := by unfold okE; decide +kernel
def eX9_imagesThere : List En := [(0, 1, .iconst 0, 0, nI 0, []), (1, 1, .istore_n 1, 0, 0, []), (2, 1, .iconst 0, 0, nI 0, []), (3, 1, .istore_n 2, 0, 0, []), (4, 1, .iload_n 2, 0, 0, []), (5, 1, .iconst 2, 0, nI 2, []), (6, 3, .if_icmp .ge 24, 30, 0, []), (9, 1, .aload_n 0, 0, 0, []), (10, 3, .getfield 60, 0, 0, []), (13, 1, .iload_n 2, 0, 0, []), (14, 1, .aaload, 0, 0, []), (15, 3, .getfield 101, 0, 0, []), (18, 3, .ifCond .eq 6, 24, 0, []), (21, 3, .iinc 1 1, 0, nI 1, []), (24, 3, .iinc 2 1, 0, nI 1, []), (27, 3, .goto (-23), 4, 0, []), (30, 1, .iload_n 1, 0, 0, []), (31, 1, .ireturn, 0, 0, [])]
set_option maxRecDepth 20000 in
theorem kX9_imagesThere : okE mX9_imagesThere.2.1 eX9_imagesThere := by unfold okE; decide +kernel
def eX9_drawRow : List En := [(0, 1, .aload_n 0, 0, 0, []), (1, 3, .getfield 54, 0, 0, []), (4, 1, .iconst 4, 0, nI 4, []), (5, 3, .invokevirtual 274, 0, 0, []), (8, 1, .istore_n 3, 0, 0, []), (9, 1, .iload_n 3, 0, 0, []), (10, 3, .ifCond .ne 24, 34, 0, []), (13, 1, .iload_n 1, 0, 0, []), (14, 3, .ifCond .le 20, 34, 0, []), (17, 1, .aload_n 0, 0, 0, []), (18, 3, .getfield 12, 0, 0, []), (21, 1, .aload_n 0, 0, 0, []), (22, 3, .getfield 54, 0, 0, []), (25, 1, .iload_n 1, 0, 0, []), (26, 3, .invokevirtual 274, 0, 0, []), (29, 1, .iload_n 1, 0, 0, []), (30, 3, .invokevirtual 277, 0, 0, []), (33, 1, .return_, 0, 0, []), (34, 1, .iload_n 3, 0, 0, []), (35, 1, .iconst 1, 0, nI 1, []), (36, 3, .if_icmp .ne 22, 58, 0, []), (39, 1, .aload_n 0, 0, 0, []), (40, 3, .getfield 54, 0, 0, []), (43, 1, .aload_n 0, 0, 0, []), (44, 3, .getfield 12, 0, 0, []), (47, 3, .getfield 108, 0, 0, []), (50, 3, .invokevirtual 274, 0, 0, []), (53, 1, .iconst 1, 0, nI 1, []), (54, 1, .iadd, 0, 0, []), (55, 3, .goto 10, 65, 0, []), (58, 1, .aload_n 0, 0, 0, []), (59, 3, .getfield 12, 0, 0, []), (62, 3, .getfield 108, 0, 0, []), (65, 2, .istore 4, 0, 0, []), (67, 1, .iconst 0, 0, nI 0, []), (68, 2, .istore 5, 0, 0, []), (70, 2, .iload 5, 0, 0, []), (72, 1, .aload_n 0, 0, 0, []), (73, 3, .getfield 12, 0, 0, []), (76, 3, .getfield 108, 0, 0, []), (79, 3, .if_icmp .ge 50, 129, 0, []), (82, 1, .aload_n 0, 0, 0, []), (83, 3, .getfield 12, 0, 0, []), (86, 1, .iload_n 1, 0, 0, []), (87, 2, .iload 5, 0, 0, []), (89, 2, .iload 5, 0, 0, []), (91, 2, .iload 4, 0, 0, []), (93, 3, .if_icmp .ge 14, 107, 0, []), (96, 1, .aload_n 0, 0, 0, []), (97, 3, .getfield 54, 0, 0, []), (100, 1, .iload_n 2, 0, 0, []), (101, 3, .invokevirtual 274, 0, 0, []), (104, 3, .goto 16, 120, 0, []), (107, 1, .aload_n 0, 0, 0, []), (108, 3, .getfield 12, 0, 0, []), (111, 1, .iload_n 1, 0, 0, []), (112, 2, .iload 5, 0, 0, []), (114, 2, .iload 4, 0, 0, []), (116, 1, .isub, 0, 0, []), (117, 3, .invokevirtual 135, 0, 0, []), (120, 3, .invokevirtual 210, 0, 0, []), (123, 3, .iinc 5 1, 0, nI 1, []), (126, 3, .goto (-56), 70, 0, []), (129, 1, .return_, 0, 0, [])]
set_option maxRecDepth 20000 in
theorem kX9_drawRow : okE mX9_drawRow.2.1 eX9_drawRow := by unfold okE; decide +kernel
end
section
def eX10_in : List En := [(0, 1, .lload_n 0, 0, 0, []), (1, 1, .lload_n 2, 0, 0, []), (2, 1, .lcmp, 0, 0, []), (3, 3, .ifCond .lt 14, 17, 0, []), (6, 1, .lload_n 0, 0, 0, []), (7, 2, .lload 4, 0, 0, []), (9, 1, .lcmp, 0, 0, []), (10, 3, .ifCond .gt 7, 17, 0, []), (13, 1, .iconst 1, 0, nI 1, []), (14, 3, .goto 4, 18, 0, []), (17, 1, .iconst 0, 0, nI 0, []), (18, 1, .ireturn, 0, 0, [])]
set_option maxRecDepth 20000 in
theorem kX10_in : okE mX10_in.2.1 eX10_in := by unfold okE; decide +kernel
def eX10_flag : List En := [(0, 1, .iload_n 0, 0, 0, []), (1, 3, .ifCond .eq 7, 8, 0, []), (4, 1, .iconst 1, 0, nI 1, []), (5, 3, .goto 4, 9, 0, []), (8, 1, .iconst 0, 0, nI 0, []), (9, 1, .ireturn, 0, 0, [])]
set_option maxRecDepth 20000 in
theorem kX10_flag : okE mX10_flag.2.1 eX10_flag := by unfold okE; decide +kernel
def eX10_feed : List En := [(0, 1, .iload_n 1, 0, 0, []), (1, 1, .i2l, 0, 0, []), (2, 1, .lconst 0, 0, 0, []), (3, 3, .ldc2_w 41, 0, 0, []), (6, 3, .invokestatic 43, 0, 0, []), (9, 3, .ifCond .ne 5, 14, 0, []), (12, 1, .iconst (-1), 0, -nI 1, []), (13, 1, .ireturn, 0, 0, []), (14, 1, .aload_n 0, 0, 0, []), (15, 3, .getfield 47, 0, 0, []), (18, 3, .sipush 300, 0, nI 300, []), (21, 3, .if_icmp .ne 6, 27, 0, []), (24, 2, .bipush (-3), 0, -nI 3, []), (26, 1, .ireturn, 0, 0, []), (27, 1, .aload_n 0, 0, 0, []), (28, 3, .getfield 23, 0, 0, []), (31, 1, .aload_n 0, 0, 0, []), (32, 3, .getfield 47, 0, 0, []), (35, 1, .iload_n 1, 0, 0, []), (36, 1, .iastore, 0, 0, []), (37, 1, .aload_n 0, 0, 0, []), (38, 1, .dup, 0, 0, []), (39, 3, .getfield 47, 0, 0, []), (42, 1, .iconst 1, 0, nI 1, []), (43, 1, .iadd, 0, 0, []), (44, 3, .putfield 47, 0, 0, []), (47, 1, .aload_n 0, 0, 0, []), (48, 3, .getfield 47, 0, 0, []), (51, 1, .ireturn, 0, 0, [])]
set_option maxRecDepth 20000 in
theorem kX10_feed : okE mX10_feed.2.1 eX10_feed := by unfold okE; decide +kernel
def eX10_end : List En := [(0, 1, .iload_n 1, 0, 0, []), (1, 1, .i2l, 0, 0, []), (2, 1, .lconst 0, 0, 0, []), (3, 1, .aload_n 0, 0, 0, []), (4, 3, .getfield 47, 0, 0, []), (7, 1, .i2l, 0, 0, []), (8, 3, .invokestatic 43, 0, 0, []), (11, 3, .ifCond .ne 5, 16, 0, []), (14, 1, .iconst (-1), 0, -nI 1, []), (15, 1, .ireturn, 0, 0, []), (16, 1, .aload_n 0, 0, 0, []), (17, 3, .getfield 47, 0, 0, []), (20, 1, .istore_n 2, 0, 0, []), (21, 1, .aload_n 0, 0, 0, []), (22, 1, .iload_n 1, 0, 0, []), (23, 3, .putfield 47, 0, 0, []), (26, 1, .iload_n 2, 0, 0, []), (27, 1, .ireturn, 0, 0, [])]
set_option maxRecDepth 20000 in
theorem kX10_end : okE mX10_end.2.1 eX10_end := by unfold okE; decide +kernel
def eX10_requires : List En := [(0, 1, .iload_n 1, 0, 0, []), (1, 3, .ifCond .ne 23, 24, 0, []), (4, 1, .aload_n 0, 0, 0, []), (5, 3, .getfield 51, 0, 0, []), (8, 3, .ifCond .ne 16, 24, 0, []), (11, 1, .aload_n 0, 0, 0, []), (12, 1, .iload_n 2, 0, 0, []), (13, 3, .putfield 51, 0, 0, []), (16, 1, .aload_n 0, 0, 0, []), (17, 1, .aload_n 0, 0, 0, []), (18, 3, .getfield 54, 0, 0, []), (21, 3, .putfield 57, 0, 0, []), (24, 1, .return_, 0, 0, [])]
set_option maxRecDepth 20000 in
theorem kX10_requires : okE mX10_requires.2.1 eX10_requires := by unfold okE; decide +kernel
def eX10_byteAt : List En := [(0, 1, .iload_n 1, 0, 0, []), (1, 1, .aload_n 0, 0, 0, []), (2, 3, .getfield 47, 0, 0, []), (5, 3, .if_icmp .ge 12, 17, 0, []), (8, 1, .aload_n 0, 0, 0, []), (9, 3, .getfield 23, 0, 0, []), (12, 1, .iload_n 1, 0, 0, []), (13, 1, .iaload, 0, 0, []), (14, 3, .goto 4, 18, 0, []), (17, 1, .iconst (-1), 0, -nI 1, []), (18, 1, .ireturn, 0, 0, [])]
set_option maxRecDepth 20000 in
theorem kX10_byteAt : okE mX10_byteAt.2.1 eX10_byteAt := by unfold okE; decide +kernel
def eX10_reads : List En := [(0, 1, .aload_n 0, 0, 0, []), (1, 3, .getfield 51, 0, 0, []), (4, 3, .ifCond .le 4, 8, 0, []), (7, 1, .return_, 0, 0, []), (8, 1, .aload_n 0, 0, 0, []), (9, 1, .aload_n 0, 0, 0, []), (10, 3, .getfield 60, 0, 0, []), (13, 3, .invokevirtual 63, 0, 0, []), (16, 2, .bipush 32, 0, nI 32, []), (18, 3, .if_icmp .ne 16, 34, 0, []), (21, 1, .aload_n 0, 0, 0, []), (22, 1, .dup, 0, 0, []), (23, 3, .getfield 60, 0, 0, []), (26, 1, .iconst 1, 0, nI 1, []), (27, 1, .iadd, 0, 0, []), (28, 3, .putfield 60, 0, 0, []), (31, 3, .goto (-23), 8, 0, []), (34, 1, .aload_n 0, 0, 0, []), (35, 1, .aload_n 0, 0, 0, []), (36, 3, .getfield 60, 0, 0, []), (39, 3, .putfield 54, 0, 0, []), (42, 1, .aload_n 0, 0, 0, []), (43, 1, .aload_n 0, 0, 0, []), (44, 3, .getfield 60, 0, 0, []), (47, 3, .invokevirtual 63, 0, 0, []), (50, 1, .istore_n 1, 0, 0, []), (51, 1, .iload_n 1, 0, 0, []), (52, 3, .ifCond .ge 11, 63, 0, []), (55, 1, .aload_n 0, 0, 0, []), (56, 1, .iconst 0, 0, nI 0, []), (57, 3, .putfield 67, 0, 0, []), (60, 3, .goto 87, 147, 0, []), (63, 1, .iload_n 1, 0, 0, []), (64, 1, .i2l, 0, 0, []), (65, 3, .ldc2_w 70, 0, 0, []), (68, 3, .ldc2_w 72, 0, 0, []), (71, 3, .invokestatic 43, 0, 0, []), (74, 3, .ifCond .eq 42, 116, 0, []), (77, 1, .aload_n 0, 0, 0, []), (78, 1, .iconst 1, 0, nI 1, []), (79, 3, .putfield 67, 0, 0, []), (82, 1, .aload_n 0, 0, 0, []), (83, 1, .aload_n 0, 0, 0, []), (84, 3, .getfield 60, 0, 0, []), (87, 3, .invokevirtual 63, 0, 0, []), (90, 1, .i2l, 0, 0, []), (91, 3, .ldc2_w 70, 0, 0, []), (94, 3, .ldc2_w 72, 0, 0, []), (97, 3, .invokestatic 43, 0, 0, []), (100, 3, .ifCond .eq 47, 147, 0, []), (103, 1, .aload_n 0, 0, 0, []), (104, 1, .dup, 0, 0, []), (105, 3, .getfield 60, 0, 0, []), (108, 1, .iconst 1, 0, nI 1, []), (109, 1, .iadd, 0, 0, []), (110, 3, .putfield 60, 0, 0, []), (113, 3, .goto (-31), 82, 0, []), (116, 1, .aload_n 0, 0, 0, []), (117, 1, .iconst 2, 0, nI 2, []), (118, 3, .putfield 67, 0, 0, []), (121, 1, .aload_n 0, 0, 0, []), (122, 1, .iload_n 1, 0, 0, []), (123, 2, .bipush 59, 0, nI 59, []), (125, 3, .if_icmp .ne 7, 132, 0, []), (128, 1, .iconst 1, 0, nI 1, []), (129, 3, .goto 4, 133, 0, []), (132, 1, .iconst 0, 0, nI 0, []), (133, 1, .iconst 1, 0, nI 1, []), (134, 3, .invokevirtual 74, 0, 0, []), (137, 1, .aload_n 0, 0, 0, []), (138, 1, .dup, 0, 0, []), (139, 3, .getfield 60, 0, 0, []), (142, 1, .iconst 1, 0, nI 1, []), (143, 1, .iadd, 0, 0, []), (144, 3, .putfield 60, 0, 0, []), (147, 1, .return_, 0, 0, [])]
set_option maxRecDepth 20000 in
theorem kX10_reads : okE mX10_reads.2.1 eX10_reads := by unfold okE; decide +kernel
def eX10_is : List En := [(0, 1, .aload_n 0, 0, 0, []), (1, 3, .getfield 67, 0, 0, []), (4, 1, .iconst 1, 0, nI 1, []), (5, 3, .if_icmp .ne 60, 65, 0, []), (8, 1, .aload_n 0, 0, 0, []), (9, 3, .getfield 60, 0, 0, []), (12, 1, .aload_n 0, 0, 0, []), (13, 3, .getfield 54, 0, 0, []), (16, 1, .isub, 0, 0, []), (17, 1, .iconst 3, 0, nI 3, []), (18, 3, .if_icmp .ne 47, 65, 0, []), (21, 1, .aload_n 0, 0, 0, []), (22, 1, .aload_n 0, 0, 0, []), (23, 3, .getfield 54, 0, 0, []), (26, 3, .invokevirtual 63, 0, 0, []), (29, 1, .iload_n 1, 0, 0, []), (30, 3, .if_icmp .ne 35, 65, 0, []), (33, 1, .aload_n 0, 0, 0, []), (34, 1, .aload_n 0, 0, 0, []), (35, 3, .getfield 54, 0, 0, []), (38, 1, .iconst 1, 0, nI 1, []), (39, 1, .iadd, 0, 0, []), (40, 3, .invokevirtual 63, 0, 0, []), (43, 1, .iload_n 2, 0, 0, []), (44, 3, .if_icmp .ne 21, 65, 0, []), (47, 1, .aload_n 0, 0, 0, []), (48, 1, .aload_n 0, 0, 0, []), (49, 3, .getfield 54, 0, 0, []), (52, 1, .iconst 2, 0, nI 2, []), (53, 1, .iadd, 0, 0, []), (54, 3, .invokevirtual 63, 0, 0, []), (57, 1, .iload_n 3, 0, 0, []), (58, 3, .if_icmp .ne 7, 65, 0, []), (61, 1, .iconst 1, 0, nI 1, []), (62, 3, .goto 4, 66, 0, []), (65, 1, .iconst 0, 0, nI 0, []), (66, 1, .ireturn, 0, 0, [])]
set_option maxRecDepth 20000 in
theorem kX10_is : okE mX10_is.2.1 eX10_is := by unfold okE; decide +kernel
def eX10_areBeads : List En := [(0, 1, .aload_n 0, 0, 0, []), (1, 3, .getfield 60, 0, 0, []), (4, 1, .aload_n 0, 0, 0, []), (5, 3, .getfield 54, 0, 0, []), (8, 1, .isub, 0, 0, []), (9, 1, .istore_n 1, 0, 0, []), (10, 1, .iload_n 1, 0, 0, []), (11, 2, .bipush 16, 0, nI 16, []), (13, 3, .if_icmp .gt 26, 39, 0, []), (16, 1, .aload_n 0, 0, 0, []), (17, 3, .getfield 13, 0, 0, []), (20, 1, .iconst 0, 0, nI 0, []), (21, 1, .iaload, 0, 0, []), (22, 3, .ifCond .eq 13, 35, 0, []), (25, 1, .iload_n 1, 0, 0, []), (26, 1, .aload_n 0, 0, 0, []), (27, 3, .getfield 13, 0, 0, []), (30, 1, .iconst 1, 0, nI 1, []), (31, 1, .iaload, 0, 0, []), (32, 3, .if_icmp .ne 7, 39, 0, []), (35, 1, .iconst 1, 0, nI 1, []), (36, 3, .goto 4, 40, 0, []), (39, 1, .iconst 0, 0, nI 0, []), (40, 1, .istore_n 2, 0, 0, []), (41, 1, .aload_n 0, 0, 0, []), (42, 3, .getfield 54, 0, 0, []), (45, 1, .istore_n 3, 0, 0, []), (46, 1, .iload_n 3, 0, 0, []), (47, 1, .aload_n 0, 0, 0, []), (48, 3, .getfield 60, 0, 0, []), (51, 3, .if_icmp .ge 30, 81, 0, []), (54, 1, .iload_n 2, 0, 0, []), (55, 3, .ifCond .eq 18, 73, 0, []), (58, 1, .aload_n 0, 0, 0, []), (59, 3, .getfield 23, 0, 0, []), (62, 1, .iload_n 3, 0, 0, []), (63, 1, .iaload, 0, 0, []), (64, 2, .bipush 102, 0, nI 102, []), (66, 3, .if_icmp .gt 7, 73, 0, []), (69, 1, .iconst 1, 0, nI 1, []), (70, 3, .goto 4, 74, 0, []), (73, 1, .iconst 0, 0, nI 0, []), (74, 1, .istore_n 2, 0, 0, []), (75, 3, .iinc 3 1, 0, nI 1, []), (78, 3, .goto (-32), 46, 0, []), (81, 1, .iload_n 2, 0, 0, []), (82, 1, .ireturn, 0, 0, [])]
set_option maxRecDepth 20000 in
theorem kX10_areBeads : okE mX10_areBeads.2.1 eX10_areBeads := by unfold okE; decide +kernel
def eX10_readRow : List En := [(0, 1, .aload_n 0, 0, 0, []), (1, 1, .aload_n 0, 0, 0, []), (2, 3, .getfield 13, 0, 0, []), (5, 1, .iconst 0, 0, nI 0, []), (6, 1, .iaload, 0, 0, []), (7, 2, .bipush 12, 0, nI 12, []), (9, 3, .if_icmp .ge 7, 16, 0, []), (12, 1, .iconst 1, 0, nI 1, []), (13, 3, .goto 4, 17, 0, []), (16, 1, .iconst 0, 0, nI 0, []), (17, 1, .iconst 4, 0, nI 4, []), (18, 3, .invokevirtual 74, 0, 0, []), (21, 1, .aload_n 0, 0, 0, []), (22, 3, .invokevirtual 78, 0, 0, []), (25, 1, .aload_n 0, 0, 0, []), (26, 3, .getfield 51, 0, 0, []), (29, 3, .ifCond .ne 21, 50, 0, []), (32, 1, .aload_n 0, 0, 0, []), (33, 1, .aload_n 0, 0, 0, []), (34, 3, .getfield 67, 0, 0, []), (37, 1, .iconst 1, 0, nI 1, []), (38, 3, .if_icmp .ne 7, 45, 0, []), (41, 1, .iconst 1, 0, nI 1, []), (42, 3, .goto 4, 46, 0, []), (45, 1, .iconst 0, 0, nI 0, []), (46, 1, .iconst 2, 0, nI 2, []), (47, 3, .invokevirtual 74, 0, 0, []), (50, 1, .aload_n 0, 0, 0, []), (51, 3, .getfield 51, 0, 0, []), (54, 3, .ifCond .ne 12, 66, 0, []), (57, 1, .aload_n 0, 0, 0, []), (58, 1, .aload_n 0, 0, 0, []), (59, 3, .invokevirtual 81, 0, 0, []), (62, 1, .iconst 3, 0, nI 3, []), (63, 3, .invokevirtual 74, 0, 0, []), (66, 1, .aload_n 0, 0, 0, []), (67, 3, .getfield 51, 0, 0, []), (70, 3, .ifCond .ne 78, 148, 0, []), (73, 1, .aload_n 0, 0, 0, []), (74, 3, .getfield 13, 0, 0, []), (77, 1, .iconst 1, 0, nI 1, []), (78, 1, .aload_n 0, 0, 0, []), (79, 3, .getfield 60, 0, 0, []), (82, 1, .aload_n 0, 0, 0, []), (83, 3, .getfield 54, 0, 0, []), (86, 1, .isub, 0, 0, []), (87, 1, .iastore, 0, 0, []), (88, 1, .iconst 0, 0, nI 0, []), (89, 1, .istore_n 1, 0, 0, []), (90, 1, .iload_n 1, 0, 0, []), (91, 1, .aload_n 0, 0, 0, []), (92, 3, .getfield 13, 0, 0, []), (95, 1, .iconst 1, 0, nI 1, []), (96, 1, .iaload, 0, 0, []), (97, 3, .if_icmp .ge 41, 138, 0, []), (100, 1, .aload_n 0, 0, 0, []), (101, 3, .getfield 13, 0, 0, []), (104, 1, .iconst 4, 0, nI 4, []), (105, 2, .bipush 16, 0, nI 16, []), (107, 1, .aload_n 0, 0, 0, []), (108, 3, .getfield 13, 0, 0, []), (111, 1, .iconst 0, 0, nI 0, []), (112, 1, .iaload, 0, 0, []), (113, 1, .imul, 0, 0, []), (114, 1, .iadd, 0, 0, []), (115, 1, .iload_n 1, 0, 0, []), (116, 1, .iadd, 0, 0, []), (117, 1, .aload_n 0, 0, 0, []), (118, 3, .getfield 23, 0, 0, []), (121, 1, .aload_n 0, 0, 0, []), (122, 3, .getfield 54, 0, 0, []), (125, 1, .iload_n 1, 0, 0, []), (126, 1, .iadd, 0, 0, []), (127, 1, .iaload, 0, 0, []), (128, 2, .bipush 97, 0, nI 97, []), (130, 1, .isub, 0, 0, []), (131, 1, .iastore, 0, 0, []), (132, 3, .iinc 1 1, 0, nI 1, []), (135, 3, .goto (-45), 90, 0, []), (138, 1, .aload_n 0, 0, 0, []), (139, 3, .getfield 13, 0, 0, []), (142, 1, .iconst 0, 0, nI 0, []), (143, 1, .dup2, 0, 0, []), (144, 1, .iaload, 0, 0, []), (145, 1, .iconst 1, 0, nI 1, []), (146, 1, .iadd, 0, 0, []), (147, 1, .iastore, 0, 0, []), (148, 1, .aload_n 0, 0, 0, []), (149, 3, .invokevirtual 78, 0, 0, []), (152, 1, .return_, 0, 0, [])]
set_option maxRecDepth 20000 in
theorem kX10_readRow : okE mX10_readRow.2.1 eX10_readRow := by unfold okE; decide +kernel
def eX10_readLine : List En := [(0, 1, .aload_n 0, 0, 0, []), (1, 2, .bipush 114, 0, nI 114, []), (3, 2, .bipush 111, 0, nI 111, []), (5, 2, .bipush 119, 0, nI 119, []), (7, 3, .invokevirtual 85, 0, 0, []), (10, 1, .istore_n 1, 0, 0, []), (11, 1, .aload_n 0, 0, 0, []), (12, 1, .iload_n 1, 0, 0, []), (13, 3, .ifCond .ne 16, 29, 0, []), (16, 1, .aload_n 0, 0, 0, []), (17, 2, .bipush 102, 0, nI 102, []), (19, 2, .bipush 114, 0, nI 114, []), (21, 2, .bipush 111, 0, nI 111, []), (23, 3, .invokevirtual 85, 0, 0, []), (26, 3, .ifCond .eq 7, 33, 0, []), (29, 1, .iconst 1, 0, nI 1, []), (30, 3, .goto 4, 34, 0, []), (33, 1, .iconst 0, 0, nI 0, []), (34, 1, .iconst 2, 0, nI 2, []), (35, 3, .invokevirtual 74, 0, 0, []), (38, 1, .aload_n 0, 0, 0, []), (39, 3, .getfield 51, 0, 0, []), (42, 3, .ifCond .ne 14, 56, 0, []), (45, 1, .iload_n 1, 0, 0, []), (46, 3, .ifCond .eq 10, 56, 0, []), (49, 1, .aload_n 0, 0, 0, []), (50, 3, .invokevirtual 89, 0, 0, []), (53, 3, .goto 40, 93, 0, []), (56, 1, .aload_n 0, 0, 0, []), (57, 3, .getfield 51, 0, 0, []), (60, 3, .ifCond .ne 33, 93, 0, []), (63, 1, .aload_n 0, 0, 0, []), (64, 1, .aload_n 0, 0, 0, []), (65, 3, .getfield 13, 0, 0, []), (68, 1, .iconst 2, 0, nI 2, []), (69, 1, .iaload, 0, 0, []), (70, 3, .ifCond .ne 7, 77, 0, []), (73, 1, .iconst 1, 0, nI 1, []), (74, 3, .goto 4, 78, 0, []), (77, 1, .iconst 0, 0, nI 0, []), (78, 1, .iconst 4, 0, nI 4, []), (79, 3, .invokevirtual 74, 0, 0, []), (82, 1, .aload_n 0, 0, 0, []), (83, 3, .getfield 13, 0, 0, []), (86, 1, .iconst 2, 0, nI 2, []), (87, 1, .iconst 1, 0, nI 1, []), (88, 1, .iastore, 0, 0, []), (89, 1, .aload_n 0, 0, 0, []), (90, 3, .invokevirtual 78, 0, 0, []), (93, 1, .aload_n 0, 0, 0, []), (94, 3, .getfield 51, 0, 0, []), (97, 3, .ifCond .ne 21, 118, 0, []), (100, 1, .aload_n 0, 0, 0, []), (101, 1, .aload_n 0, 0, 0, []), (102, 3, .getfield 67, 0, 0, []), (105, 1, .iconst 2, 0, nI 2, []), (106, 3, .if_icmp .ne 7, 113, 0, []), (109, 1, .iconst 1, 0, nI 1, []), (110, 3, .goto 4, 114, 0, []), (113, 1, .iconst 0, 0, nI 0, []), (114, 1, .iconst 2, 0, nI 2, []), (115, 3, .invokevirtual 74, 0, 0, []), (118, 1, .aload_n 0, 0, 0, []), (119, 3, .invokevirtual 78, 0, 0, []), (122, 1, .return_, 0, 0, [])]
set_option maxRecDepth 20000 in
theorem kX10_readLine : okE mX10_readLine.2.1 eX10_readLine := by unfold okE; decide +kernel
def eX10_text : List En := [(0, 1, .aload_n 0, 0, 0, []), (1, 1, .iconst 0, 0, nI 0, []), (2, 3, .putfield 51, 0, 0, []), (5, 1, .aload_n 0, 0, 0, []), (6, 1, .iconst 0, 0, nI 0, []), (7, 3, .putfield 60, 0, 0, []), (10, 1, .iconst 0, 0, nI 0, []), (11, 1, .istore_n 1, 0, 0, []), (12, 1, .iload_n 1, 0, 0, []), (13, 3, .sipush 388, 0, nI 388, []), (16, 3, .if_icmp .ge 16, 32, 0, []), (19, 1, .aload_n 0, 0, 0, []), (20, 3, .getfield 13, 0, 0, []), (23, 1, .iload_n 1, 0, 0, []), (24, 1, .iconst 0, 0, nI 0, []), (25, 1, .iastore, 0, 0, []), (26, 3, .iinc 1 1, 0, nI 1, []), (29, 3, .goto (-17), 12, 0, []), (32, 1, .aload_n 0, 0, 0, []), (33, 3, .invokevirtual 78, 0, 0, []), (36, 1, .aload_n 0, 0, 0, []), (37, 3, .getfield 51, 0, 0, []), (40, 3, .ifCond .ne 17, 57, 0, []), (43, 1, .aload_n 0, 0, 0, []), (44, 3, .getfield 67, 0, 0, []), (47, 3, .ifCond .eq 10, 57, 0, []), (50, 1, .aload_n 0, 0, 0, []), (51, 3, .invokevirtual 92, 0, 0, []), (54, 3, .goto (-18), 36, 0, []), (57, 1, .aload_n 0, 0, 0, []), (58, 1, .iconst 0, 0, nI 0, []), (59, 3, .putfield 47, 0, 0, []), (62, 1, .aload_n 0, 0, 0, []), (63, 3, .getfield 51, 0, 0, []), (66, 3, .ifCond .le 11, 77, 0, []), (69, 2, .bipush (-10), 0, -nI 10, []), (71, 1, .aload_n 0, 0, 0, []), (72, 3, .getfield 57, 0, 0, []), (75, 1, .isub, 0, 0, []), (76, 1, .ireturn, 0, 0, []), (77, 1, .iconst 0, 0, nI 0, []), (78, 1, .istore_n 1, 0, 0, []), (79, 1, .iload_n 1, 0, 0, []), (80, 3, .sipush 388, 0, nI 388, []), (83, 3, .if_icmp .ge 21, 104, 0, []), (86, 1, .aload_n 0, 0, 0, []), (87, 3, .getfield 7, 0, 0, []), (90, 1, .iload_n 1, 0, 0, []), (91, 1, .aload_n 0, 0, 0, []), (92, 3, .getfield 13, 0, 0, []), (95, 1, .iload_n 1, 0, 0, []), (96, 1, .iaload, 0, 0, []), (97, 1, .iastore, 0, 0, []), (98, 3, .iinc 1 1, 0, nI 1, []), (101, 3, .goto (-22), 79, 0, []), (104, 1, .aload_n 0, 0, 0, []), (105, 3, .getfield 19, 0, 0, []), (108, 1, .iconst 0, 0, nI 0, []), (109, 1, .iconst 0, 0, nI 0, []), (110, 1, .bastore, 0, 0, []), (111, 1, .aload_n 0, 0, 0, []), (112, 3, .getfield 19, 0, 0, []), (115, 1, .iconst 1, 0, nI 1, []), (116, 1, .iconst 0, 0, nI 0, []), (117, 1, .bastore, 0, 0, []), (118, 1, .aload_n 0, 0, 0, []), (119, 3, .getfield 7, 0, 0, []), (122, 1, .iconst 0, 0, nI 0, []), (123, 1, .iaload, 0, 0, []), (124, 1, .ireturn, 0, 0, [])]
set_option maxRecDepth 20000 in
theorem kX10_text : okE mX10_text.2.1 eX10_text := by unfold okE; decide +kernel
def eX10_fault : List En := [(0, 1, .aload_n 0, 0, 0, []), (1, 3, .getfield 51, 0, 0, []), (4, 1, .ireturn, 0, 0, [])]
set_option maxRecDepth 20000 in
theorem kX10_fault : okE mX10_fault.2.1 eX10_fault := by unfold okE; decide +kernel
def eX10_isRow : List En := [(0, 1, .iload_n 1, 0, 0, []), (1, 1, .i2l, 0, 0, []), (2, 1, .lconst 0, 0, 0, []), (3, 1, .aload_n 0, 0, 0, []), (4, 3, .getfield 7, 0, 0, []), (7, 1, .iconst 0, 0, nI 0, []), (8, 1, .iaload, 0, 0, []), (9, 1, .iconst 1, 0, nI 1, []), (10, 1, .isub, 0, 0, []), (11, 1, .i2l, 0, 0, []), (12, 3, .invokestatic 43, 0, 0, []), (15, 1, .ireturn, 0, 0, [])]
set_option maxRecDepth 20000 in
theorem kX10_isRow : okE mX10_isRow.2.1 eX10_isRow := by unfold okE; decide +kernel
def eX10_isColour : List En := [(0, 1, .iload_n 0, 0, 0, []), (1, 1, .i2l, 0, 0, []), (2, 1, .lconst 0, 0, 0, []), (3, 3, .ldc2_w 95, 0, 0, []), (6, 3, .invokestatic 43, 0, 0, []), (9, 1, .ireturn, 0, 0, [])]
set_option maxRecDepth 20000 in
theorem kX10_isColour : okE mX10_isColour.2.1 eX10_isColour := by unfold okE; decide +kernel
def eX10_beadOf : List En := [(0, 1, .aload_n 0, 0, 0, []), (1, 3, .getfield 7, 0, 0, []), (4, 1, .iconst 4, 0, nI 4, []), (5, 2, .bipush 16, 0, nI 16, []), (7, 1, .iload_n 1, 0, 0, []), (8, 1, .imul, 0, 0, []), (9, 1, .iadd, 0, 0, []), (10, 1, .iload_n 2, 0, 0, []), (11, 1, .iadd, 0, 0, []), (12, 1, .iaload, 0, 0, []), (13, 1, .ireturn, 0, 0, [])]
set_option maxRecDepth 20000 in
theorem kX10_beadOf : okE mX10_beadOf.2.1 eX10_beadOf := by unfold okE; decide +kernel
def eX10_isBack : List En := [(0, 1, .aload_n 0, 0, 0, []), (1, 3, .getfield 7, 0, 0, []), (4, 1, .iconst 2, 0, nI 2, []), (5, 1, .iaload, 0, 0, []), (6, 1, .iconst 1, 0, nI 1, []), (7, 3, .if_icmp .ne 14, 21, 0, []), (10, 1, .iload_n 1, 0, 0, []), (11, 1, .iconst 2, 0, nI 2, []), (12, 1, .irem, 0, 0, []), (13, 1, .iconst 1, 0, nI 1, []), (14, 3, .if_icmp .ne 7, 21, 0, []), (17, 1, .iconst 1, 0, nI 1, []), (18, 3, .goto 4, 22, 0, []), (21, 1, .iconst 0, 0, nI 0, []), (22, 1, .ireturn, 0, 0, [])]
set_option maxRecDepth 20000 in
theorem kX10_isBack : okE mX10_isBack.2.1 eX10_isBack := by unfold okE; decide +kernel
def eX10_lineOf : List En := [(0, 1, .aload_n 0, 0, 0, []), (1, 1, .iload_n 1, 0, 0, []), (2, 1, .aload_n 0, 0, 0, []), (3, 1, .iload_n 1, 0, 0, []), (4, 3, .invokevirtual 97, 0, 0, []), (7, 3, .ifCond .eq 16, 23, 0, []), (10, 1, .aload_n 0, 0, 0, []), (11, 3, .getfield 7, 0, 0, []), (14, 1, .iconst 1, 0, nI 1, []), (15, 1, .iaload, 0, 0, []), (16, 1, .iconst 1, 0, nI 1, []), (17, 1, .isub, 0, 0, []), (18, 1, .iload_n 2, 0, 0, []), (19, 1, .isub, 0, 0, []), (20, 3, .goto 4, 24, 0, []), (23, 1, .iload_n 2, 0, 0, []), (24, 3, .invokevirtual 101, 0, 0, []), (27, 1, .ireturn, 0, 0, [])]
set_option maxRecDepth 20000 in
theorem kX10_lineOf : okE mX10_lineOf.2.1 eX10_lineOf := by unfold okE; decide +kernel
def eX10_isSame : List En := [(0, 1, .iconst 1, 0, nI 1, []), (1, 2, .istore 4, 0, 0, []), (3, 1, .iconst 0, 0, nI 0, []), (4, 2, .istore 5, 0, 0, []), (6, 2, .iload 5, 0, 0, []), (8, 1, .aload_n 0, 0, 0, []), (9, 3, .getfield 7, 0, 0, []), (12, 1, .iconst 1, 0, nI 1, []), (13, 1, .iaload, 0, 0, []), (14, 3, .if_icmp .ge 56, 70, 0, []), (17, 2, .iload 4, 0, 0, []), (19, 3, .ifCond .eq 42, 61, 0, []), (22, 1, .aload_n 0, 0, 0, []), (23, 1, .iload_n 1, 0, 0, []), (24, 2, .iload 5, 0, 0, []), (26, 3, .invokevirtual 105, 0, 0, []), (29, 1, .aload_n 0, 0, 0, []), (30, 1, .iload_n 2, 0, 0, []), (31, 1, .iload_n 3, 0, 0, []), (32, 3, .ifCond .eq 17, 49, 0, []), (35, 1, .aload_n 0, 0, 0, []), (36, 3, .getfield 7, 0, 0, []), (39, 1, .iconst 1, 0, nI 1, []), (40, 1, .iaload, 0, 0, []), (41, 1, .iconst 1, 0, nI 1, []), (42, 1, .isub, 0, 0, []), (43, 2, .iload 5, 0, 0, []), (45, 1, .isub, 0, 0, []), (46, 3, .goto 5, 51, 0, []), (49, 2, .iload 5, 0, 0, []), (51, 3, .invokevirtual 105, 0, 0, []), (54, 3, .if_icmp .ne 7, 61, 0, []), (57, 1, .iconst 1, 0, nI 1, []), (58, 3, .goto 4, 62, 0, []), (61, 1, .iconst 0, 0, nI 0, []), (62, 2, .istore 4, 0, 0, []), (64, 3, .iinc 5 1, 0, nI 1, []), (67, 3, .goto (-61), 6, 0, []), (70, 2, .iload 4, 0, 0, []), (72, 1, .ireturn, 0, 0, [])]
set_option maxRecDepth 20000 in
theorem kX10_isSame : okE mX10_isSame.2.1 eX10_isSame := by unfold okE; decide +kernel
def eX10_likeOf : List En := [(0, 1, .iconst 0, 0, nI 0, []), (1, 2, .istore 4, 0, 0, []), (3, 2, .iload 4, 0, 0, []), (5, 1, .iload_n 2, 0, 0, []), (6, 3, .if_icmp .ge 23, 29, 0, []), (9, 1, .aload_n 0, 0, 0, []), (10, 1, .iload_n 1, 0, 0, []), (11, 2, .iload 4, 0, 0, []), (13, 1, .iload_n 3, 0, 0, []), (14, 3, .invokevirtual 108, 0, 0, []), (17, 3, .ifCond .eq 6, 23, 0, []), (20, 2, .iload 4, 0, 0, []), (22, 1, .ireturn, 0, 0, []), (23, 3, .iinc 4 1, 0, nI 1, []), (26, 3, .goto (-23), 3, 0, []), (29, 2, .bipush (-4), 0, -nI 4, []), (31, 1, .ireturn, 0, 0, [])]
set_option maxRecDepth 20000 in
theorem kX10_likeOf : okE mX10_likeOf.2.1 eX10_likeOf := by unfold okE; decide +kernel
def eX10_runsOf : List En := [(0, 1, .iconst 0, 0, nI 0, []), (1, 1, .istore_n 3, 0, 0, []), (2, 1, .iconst 0, 0, nI 0, []), (3, 2, .istore 4, 0, 0, []), (5, 2, .iload 4, 0, 0, []), (7, 1, .iload_n 2, 0, 0, []), (8, 3, .if_icmp .ge 44, 52, 0, []), (11, 1, .iload_n 3, 0, 0, []), (12, 2, .iload 4, 0, 0, []), (14, 3, .ifCond .eq 22, 36, 0, []), (17, 1, .aload_n 0, 0, 0, []), (18, 1, .iload_n 1, 0, 0, []), (19, 2, .iload 4, 0, 0, []), (21, 3, .invokevirtual 105, 0, 0, []), (24, 1, .aload_n 0, 0, 0, []), (25, 1, .iload_n 1, 0, 0, []), (26, 2, .iload 4, 0, 0, []), (28, 1, .iconst 1, 0, nI 1, []), (29, 1, .isub, 0, 0, []), (30, 3, .invokevirtual 105, 0, 0, []), (33, 3, .if_icmp .eq 7, 40, 0, []), (36, 1, .iconst 1, 0, nI 1, []), (37, 3, .goto 4, 41, 0, []), (40, 1, .iconst 0, 0, nI 0, []), (41, 3, .invokestatic 112, 0, 0, []), (44, 1, .iadd, 0, 0, []), (45, 1, .istore_n 3, 0, 0, []), (46, 3, .iinc 4 1, 0, nI 1, []), (49, 3, .goto (-44), 5, 0, []), (52, 1, .iload_n 3, 0, 0, []), (53, 1, .ireturn, 0, 0, [])]
set_option maxRecDepth 20000 in
theorem kX10_runsOf : okE mX10_runsOf.2.1 eX10_runsOf := by unfold okE; decide +kernel
def eX10_partOf : List En := [(0, 1, .iconst 1, 0, nI 1, []), (1, 1, .istore_n 2, 0, 0, []), (2, 1, .iload_n 2, 0, 0, []), (3, 1, .aload_n 0, 0, 0, []), (4, 3, .getfield 7, 0, 0, []), (7, 1, .iconst 1, 0, nI 1, []), (8, 1, .iaload, 0, 0, []), (9, 3, .if_icmp .ge 81, 90, 0, []), (12, 1, .aload_n 0, 0, 0, []), (13, 3, .getfield 7, 0, 0, []), (16, 1, .iconst 1, 0, nI 1, []), (17, 1, .iaload, 0, 0, []), (18, 1, .iload_n 2, 0, 0, []), (19, 1, .irem, 0, 0, []), (20, 3, .ifCond .ne 7, 27, 0, []), (23, 1, .iconst 1, 0, nI 1, []), (24, 3, .goto 4, 28, 0, []), (27, 1, .iconst 0, 0, nI 0, []), (28, 1, .istore_n 3, 0, 0, []), (29, 1, .iload_n 2, 0, 0, []), (30, 2, .istore 4, 0, 0, []), (32, 2, .iload 4, 0, 0, []), (34, 1, .aload_n 0, 0, 0, []), (35, 3, .getfield 7, 0, 0, []), (38, 1, .iconst 1, 0, nI 1, []), (39, 1, .iaload, 0, 0, []), (40, 3, .if_icmp .ge 38, 78, 0, []), (43, 1, .iload_n 3, 0, 0, []), (44, 3, .ifCond .eq 26, 70, 0, []), (47, 1, .aload_n 0, 0, 0, []), (48, 1, .iload_n 1, 0, 0, []), (49, 2, .iload 4, 0, 0, []), (51, 3, .invokevirtual 105, 0, 0, []), (54, 1, .aload_n 0, 0, 0, []), (55, 1, .iload_n 1, 0, 0, []), (56, 2, .iload 4, 0, 0, []), (58, 1, .iload_n 2, 0, 0, []), (59, 1, .isub, 0, 0, []), (60, 3, .invokevirtual 105, 0, 0, []), (63, 3, .if_icmp .ne 7, 70, 0, []), (66, 1, .iconst 1, 0, nI 1, []), (67, 3, .goto 4, 71, 0, []), (70, 1, .iconst 0, 0, nI 0, []), (71, 1, .istore_n 3, 0, 0, []), (72, 3, .iinc 4 1, 0, nI 1, []), (75, 3, .goto (-43), 32, 0, []), (78, 1, .iload_n 3, 0, 0, []), (79, 3, .ifCond .eq 5, 84, 0, []), (82, 1, .iload_n 2, 0, 0, []), (83, 1, .ireturn, 0, 0, []), (84, 3, .iinc 2 1, 0, nI 1, []), (87, 3, .goto (-85), 2, 0, []), (90, 1, .aload_n 0, 0, 0, []), (91, 3, .getfield 7, 0, 0, []), (94, 1, .iconst 1, 0, nI 1, []), (95, 1, .iaload, 0, 0, []), (96, 1, .ireturn, 0, 0, [])]
set_option maxRecDepth 20000 in
theorem kX10_partOf : okE mX10_partOf.2.1 eX10_partOf := by unfold okE; decide +kernel
def eX10_wordsBy : List En := [(0, 1, .iload_n 2, 0, 0, []), (1, 31, .tableswitch 148 0 3 #[31, 50, 69, 114], 149, 0, [32, 51, 70, 115]), (32, 1, .aload_n 0, 0, 0, []), (33, 1, .iload_n 1, 0, 0, []), (34, 1, .iload_n 1, 0, 0, []), (35, 1, .iconst 0, 0, nI 0, []), (36, 3, .invokevirtual 116, 0, 0, []), (39, 2, .bipush (-4), 0, -nI 4, []), (41, 3, .if_icmp .ne 8, 49, 0, []), (44, 2, .bipush (-4), 0, -nI 4, []), (46, 3, .goto 4, 50, 0, []), (49, 1, .iconst 2, 0, nI 2, []), (50, 1, .ireturn, 0, 0, []), (51, 1, .aload_n 0, 0, 0, []), (52, 1, .iload_n 1, 0, 0, []), (53, 1, .iload_n 1, 0, 0, []), (54, 1, .iconst 1, 0, nI 1, []), (55, 3, .invokevirtual 116, 0, 0, []), (58, 2, .bipush (-4), 0, -nI 4, []), (60, 3, .if_icmp .ne 8, 68, 0, []), (63, 2, .bipush (-4), 0, -nI 4, []), (65, 3, .goto 4, 69, 0, []), (68, 1, .iconst 2, 0, nI 2, []), (69, 1, .ireturn, 0, 0, []), (70, 1, .aload_n 0, 0, 0, []), (71, 3, .getfield 7, 0, 0, []), (74, 1, .iconst 1, 0, nI 1, []), (75, 1, .iaload, 0, 0, []), (76, 1, .iconst 2, 0, nI 2, []), (77, 3, .if_icmp .lt 13, 90, 0, []), (80, 1, .aload_n 0, 0, 0, []), (81, 1, .iload_n 1, 0, 0, []), (82, 1, .iload_n 1, 0, 0, []), (83, 1, .iconst 1, 0, nI 1, []), (84, 3, .invokevirtual 108, 0, 0, []), (87, 3, .ifCond .ne 8, 95, 0, []), (90, 2, .bipush (-4), 0, -nI 4, []), (92, 3, .goto 22, 114, 0, []), (95, 1, .iconst 1, 0, nI 1, []), (96, 1, .iconst 2, 0, nI 2, []), (97, 1, .aload_n 0, 0, 0, []), (98, 1, .iload_n 1, 0, 0, []), (99, 1, .aload_n 0, 0, 0, []), (100, 3, .getfield 7, 0, 0, []), (103, 1, .iconst 1, 0, nI 1, []), (104, 1, .iaload, 0, 0, []), (105, 1, .iconst 1, 0, nI 1, []), (106, 1, .iadd, 0, 0, []), (107, 1, .iconst 2, 0, nI 2, []), (108, 1, .idiv, 0, 0, []), (109, 3, .invokevirtual 120, 0, 0, []), (112, 1, .imul, 0, 0, []), (113, 1, .iadd, 0, 0, []), (114, 1, .ireturn, 0, 0, []), (115, 1, .aload_n 0, 0, 0, []), (116, 1, .iload_n 1, 0, 0, []), (117, 3, .invokevirtual 123, 0, 0, []), (120, 1, .aload_n 0, 0, 0, []), (121, 3, .getfield 7, 0, 0, []), (124, 1, .iconst 1, 0, nI 1, []), (125, 1, .iaload, 0, 0, []), (126, 3, .if_icmp .ne 8, 134, 0, []), (129, 2, .bipush (-4), 0, -nI 4, []), (131, 3, .goto 17, 148, 0, []), (134, 1, .iconst 2, 0, nI 2, []), (135, 1, .iconst 2, 0, nI 2, []), (136, 1, .aload_n 0, 0, 0, []), (137, 1, .iload_n 1, 0, 0, []), (138, 1, .aload_n 0, 0, 0, []), (139, 1, .iload_n 1, 0, 0, []), (140, 3, .invokevirtual 123, 0, 0, []), (143, 3, .invokevirtual 120, 0, 0, []), (146, 1, .imul, 0, 0, []), (147, 1, .iadd, 0, 0, []), (148, 1, .ireturn, 0, 0, []), (149, 1, .iconst 1, 0, nI 1, []), (150, 1, .iconst 2, 0, nI 2, []), (151, 1, .aload_n 0, 0, 0, []), (152, 1, .iload_n 1, 0, 0, []), (153, 1, .aload_n 0, 0, 0, []), (154, 3, .getfield 7, 0, 0, []), (157, 1, .iconst 1, 0, nI 1, []), (158, 1, .iaload, 0, 0, []), (159, 3, .invokevirtual 120, 0, 0, []), (162, 1, .imul, 0, 0, []), (163, 1, .iadd, 0, 0, []), (164, 1, .ireturn, 0, 0, [])]
set_option maxRecDepth 20000 in
theorem kX10_wordsBy : okE mX10_wordsBy.2.1 eX10_wordsBy := by unfold okE; decide +kernel
def eX10_formOf : List En := [(0, 1, .iconst 4, 0, nI 4, []), (1, 1, .istore_n 2, 0, 0, []), (2, 1, .iconst 3, 0, nI 3, []), (3, 1, .istore_n 3, 0, 0, []), (4, 1, .iload_n 3, 0, 0, []), (5, 3, .ifCond .lt 41, 46, 0, []), (8, 1, .aload_n 0, 0, 0, []), (9, 1, .iload_n 1, 0, 0, []), (10, 1, .iload_n 3, 0, 0, []), (11, 3, .invokevirtual 126, 0, 0, []), (14, 2, .istore 4, 0, 0, []), (16, 2, .iload 4, 0, 0, []), (18, 2, .bipush (-4), 0, -nI 4, []), (20, 3, .if_icmp .eq 18, 38, 0, []), (23, 2, .iload 4, 0, 0, []), (25, 1, .aload_n 0, 0, 0, []), (26, 1, .iload_n 1, 0, 0, []), (27, 1, .iload_n 2, 0, 0, []), (28, 3, .invokevirtual 126, 0, 0, []), (31, 3, .if_icmp .gt 7, 38, 0, []), (34, 1, .iload_n 3, 0, 0, []), (35, 3, .goto 4, 39, 0, []), (38, 1, .iload_n 2, 0, 0, []), (39, 1, .istore_n 2, 0, 0, []), (40, 3, .iinc 3 (-1), 0, -nI 1, []), (43, 3, .goto (-39), 4, 0, []), (46, 1, .iload_n 2, 0, 0, []), (47, 1, .ireturn, 0, 0, [])]
set_option maxRecDepth 20000 in
theorem kX10_formOf : okE mX10_formOf.2.1 eX10_formOf := by unfold okE; decide +kernel
def eX10_wordOf : List En := [(0, 1, .aload_n 0, 0, 0, []), (1, 1, .iload_n 1, 0, 0, []), (2, 3, .invokevirtual 129, 0, 0, []), (5, 1, .istore_n 3, 0, 0, []), (6, 1, .iload_n 2, 0, 0, []), (7, 3, .ifCond .ne 5, 12, 0, []), (10, 1, .iload_n 3, 0, 0, []), (11, 1, .ireturn, 0, 0, []), (12, 1, .iload_n 3, 0, 0, []), (13, 1, .iconst 2, 0, nI 2, []), (14, 3, .if_icmp .ge 20, 34, 0, []), (17, 1, .aload_n 0, 0, 0, []), (18, 1, .iload_n 1, 0, 0, []), (19, 1, .iload_n 1, 0, 0, []), (20, 1, .iload_n 3, 0, 0, []), (21, 1, .iconst 1, 0, nI 1, []), (22, 3, .if_icmp .ne 7, 29, 0, []), (25, 1, .iconst 1, 0, nI 1, []), (26, 3, .goto 4, 30, 0, []), (29, 1, .iconst 0, 0, nI 0, []), (30, 3, .invokevirtual 116, 0, 0, []), (33, 1, .ireturn, 0, 0, []), (34, 1, .iload_n 3, 0, 0, []), (35, 1, .iconst 3, 0, nI 3, []), (36, 3, .if_icmp .ne 21, 57, 0, []), (39, 1, .iload_n 2, 0, 0, []), (40, 1, .iconst 1, 0, nI 1, []), (41, 3, .if_icmp .ne 16, 57, 0, []), (44, 1, .aload_n 0, 0, 0, []), (45, 3, .getfield 7, 0, 0, []), (48, 1, .iconst 1, 0, nI 1, []), (49, 1, .iaload, 0, 0, []), (50, 1, .aload_n 0, 0, 0, []), (51, 1, .iload_n 1, 0, 0, []), (52, 3, .invokevirtual 123, 0, 0, []), (55, 1, .idiv, 0, 0, []), (56, 1, .ireturn, 0, 0, []), (57, 1, .iload_n 2, 0, 0, []), (58, 1, .iload_n 3, 0, 0, []), (59, 1, .iconst 3, 0, nI 3, []), (60, 3, .if_icmp .ne 7, 67, 0, []), (63, 1, .iconst 2, 0, nI 2, []), (64, 3, .goto 4, 68, 0, []), (67, 1, .iconst 1, 0, nI 1, []), (68, 1, .isub, 0, 0, []), (69, 2, .istore 4, 0, 0, []), (71, 1, .iload_n 3, 0, 0, []), (72, 1, .iconst 2, 0, nI 2, []), (73, 3, .if_icmp .ne 16, 89, 0, []), (76, 1, .aload_n 0, 0, 0, []), (77, 3, .getfield 7, 0, 0, []), (80, 1, .iconst 1, 0, nI 1, []), (81, 1, .iaload, 0, 0, []), (82, 1, .iconst 1, 0, nI 1, []), (83, 1, .iadd, 0, 0, []), (84, 1, .iconst 2, 0, nI 2, []), (85, 1, .idiv, 0, 0, []), (86, 3, .goto 22, 108, 0, []), (89, 1, .iload_n 3, 0, 0, []), (90, 1, .iconst 3, 0, nI 3, []), (91, 3, .if_icmp .ne 11, 102, 0, []), (94, 1, .aload_n 0, 0, 0, []), (95, 1, .iload_n 1, 0, 0, []), (96, 3, .invokevirtual 123, 0, 0, []), (99, 3, .goto 9, 108, 0, []), (102, 1, .aload_n 0, 0, 0, []), (103, 3, .getfield 7, 0, 0, []), (106, 1, .iconst 1, 0, nI 1, []), (107, 1, .iaload, 0, 0, []), (108, 2, .istore 5, 0, 0, []), (110, 1, .iconst (-1), 0, -nI 1, []), (111, 2, .istore 6, 0, 0, []), (113, 1, .iconst 0, 0, nI 0, []), (114, 2, .istore 7, 0, 0, []), (116, 1, .iconst 0, 0, nI 0, []), (117, 2, .istore 8, 0, 0, []), (119, 1, .iconst 0, 0, nI 0, []), (120, 2, .istore 9, 0, 0, []), (122, 2, .iload 9, 0, 0, []), (124, 2, .iload 5, 0, 0, []), (126, 3, .if_icmp .ge 91, 217, 0, []), (129, 2, .iload 6, 0, 0, []), (131, 2, .iload 9, 0, 0, []), (133, 3, .ifCond .eq 22, 155, 0, []), (136, 1, .aload_n 0, 0, 0, []), (137, 1, .iload_n 1, 0, 0, []), (138, 2, .iload 9, 0, 0, []), (140, 3, .invokevirtual 105, 0, 0, []), (143, 1, .aload_n 0, 0, 0, []), (144, 1, .iload_n 1, 0, 0, []), (145, 2, .iload 9, 0, 0, []), (147, 1, .iconst 1, 0, nI 1, []), (148, 1, .isub, 0, 0, []), (149, 3, .invokevirtual 105, 0, 0, []), (152, 3, .if_icmp .eq 7, 159, 0, []), (155, 1, .iconst 1, 0, nI 1, []), (156, 3, .goto 4, 160, 0, []), (159, 1, .iconst 0, 0, nI 0, []), (160, 3, .invokestatic 112, 0, 0, []), (163, 1, .iadd, 0, 0, []), (164, 2, .istore 6, 0, 0, []), (166, 2, .iload 7, 0, 0, []), (168, 2, .iload 6, 0, 0, []), (170, 2, .iload 4, 0, 0, []), (172, 1, .iconst 2, 0, nI 2, []), (173, 1, .idiv, 0, 0, []), (174, 3, .if_icmp .ne 7, 181, 0, []), (177, 1, .iconst 1, 0, nI 1, []), (178, 3, .goto 4, 182, 0, []), (181, 1, .iconst 0, 0, nI 0, []), (182, 3, .invokestatic 112, 0, 0, []), (185, 1, .iadd, 0, 0, []), (186, 2, .istore 7, 0, 0, []), (188, 2, .iload 6, 0, 0, []), (190, 2, .iload 4, 0, 0, []), (192, 1, .iconst 2, 0, nI 2, []), (193, 1, .idiv, 0, 0, []), (194, 3, .if_icmp .ne 13, 207, 0, []), (197, 1, .aload_n 0, 0, 0, []), (198, 1, .iload_n 1, 0, 0, []), (199, 2, .iload 9, 0, 0, []), (201, 3, .invokevirtual 105, 0, 0, []), (204, 3, .goto 5, 209, 0, []), (207, 2, .iload 8, 0, 0, []), (209, 2, .istore 8, 0, 0, []), (211, 3, .iinc 9 1, 0, nI 1, []), (214, 3, .goto (-92), 122, 0, []), (217, 2, .iload 4, 0, 0, []), (219, 1, .iconst 2, 0, nI 2, []), (220, 1, .irem, 0, 0, []), (221, 3, .ifCond .ne 8, 229, 0, []), (224, 2, .iload 7, 0, 0, []), (226, 3, .goto 5, 231, 0, []), (229, 2, .iload 8, 0, 0, []), (231, 1, .ireturn, 0, 0, [])]
set_option maxRecDepth 20000 in
theorem kX10_wordOf : okE mX10_wordOf.2.1 eX10_wordOf := by unfold okE; decide +kernel
def eX10_allWords : List En := [(0, 1, .iconst 0, 0, nI 0, []), (1, 1, .istore_n 1, 0, 0, []), (2, 1, .iconst 0, 0, nI 0, []), (3, 1, .istore_n 2, 0, 0, []), (4, 1, .iload_n 2, 0, 0, []), (5, 1, .aload_n 0, 0, 0, []), (6, 3, .getfield 7, 0, 0, []), (9, 1, .iconst 0, 0, nI 0, []), (10, 1, .iaload, 0, 0, []), (11, 3, .if_icmp .ge 22, 33, 0, []), (14, 1, .iload_n 1, 0, 0, []), (15, 1, .aload_n 0, 0, 0, []), (16, 1, .iload_n 2, 0, 0, []), (17, 1, .aload_n 0, 0, 0, []), (18, 1, .iload_n 2, 0, 0, []), (19, 3, .invokevirtual 129, 0, 0, []), (22, 3, .invokevirtual 126, 0, 0, []), (25, 1, .iadd, 0, 0, []), (26, 1, .istore_n 1, 0, 0, []), (27, 3, .iinc 2 1, 0, nI 1, []), (30, 3, .goto (-26), 4, 0, []), (33, 1, .iload_n 1, 0, 0, []), (34, 1, .ireturn, 0, 0, [])]
set_option maxRecDepth 20000 in
theorem kX10_allWords : okE mX10_allWords.2.1 eX10_allWords := by unfold okE; decide +kernel
def eX10_unlike : List En := [(0, 1, .iconst 0, 0, nI 0, []), (1, 1, .istore_n 1, 0, 0, []), (2, 1, .iconst 0, 0, nI 0, []), (3, 1, .istore_n 2, 0, 0, []), (4, 1, .iload_n 2, 0, 0, []), (5, 1, .aload_n 0, 0, 0, []), (6, 3, .getfield 7, 0, 0, []), (9, 1, .iconst 0, 0, nI 0, []), (10, 1, .iaload, 0, 0, []), (11, 3, .if_icmp .ge 32, 43, 0, []), (14, 1, .iload_n 1, 0, 0, []), (15, 1, .aload_n 0, 0, 0, []), (16, 1, .iload_n 2, 0, 0, []), (17, 1, .iload_n 2, 0, 0, []), (18, 1, .iconst 0, 0, nI 0, []), (19, 3, .invokevirtual 116, 0, 0, []), (22, 2, .bipush (-4), 0, -nI 4, []), (24, 3, .if_icmp .ne 7, 31, 0, []), (27, 1, .iconst 1, 0, nI 1, []), (28, 3, .goto 4, 32, 0, []), (31, 1, .iconst 0, 0, nI 0, []), (32, 3, .invokestatic 112, 0, 0, []), (35, 1, .iadd, 0, 0, []), (36, 1, .istore_n 1, 0, 0, []), (37, 3, .iinc 2 1, 0, nI 1, []), (40, 3, .goto (-36), 4, 0, []), (43, 1, .iload_n 1, 0, 0, []), (44, 1, .ireturn, 0, 0, [])]
set_option maxRecDepth 20000 in
theorem kX10_unlike : okE mX10_unlike.2.1 eX10_unlike := by unfold okE; decide +kernel
def eX10_allRuns : List En := [(0, 1, .iconst 0, 0, nI 0, []), (1, 1, .istore_n 1, 0, 0, []), (2, 1, .iconst 0, 0, nI 0, []), (3, 1, .istore_n 2, 0, 0, []), (4, 1, .iload_n 2, 0, 0, []), (5, 1, .aload_n 0, 0, 0, []), (6, 3, .getfield 7, 0, 0, []), (9, 1, .iconst 0, 0, nI 0, []), (10, 1, .iaload, 0, 0, []), (11, 3, .if_icmp .ge 23, 34, 0, []), (14, 1, .iload_n 1, 0, 0, []), (15, 1, .aload_n 0, 0, 0, []), (16, 1, .iload_n 2, 0, 0, []), (17, 1, .aload_n 0, 0, 0, []), (18, 3, .getfield 7, 0, 0, []), (21, 1, .iconst 1, 0, nI 1, []), (22, 1, .iaload, 0, 0, []), (23, 3, .invokevirtual 120, 0, 0, []), (26, 1, .iadd, 0, 0, []), (27, 1, .istore_n 1, 0, 0, []), (28, 3, .iinc 2 1, 0, nI 1, []), (31, 3, .goto (-27), 4, 0, []), (34, 1, .iload_n 1, 0, 0, []), (35, 1, .ireturn, 0, 0, [])]
set_option maxRecDepth 20000 in
theorem kX10_allRuns : okE mX10_allRuns.2.1 eX10_allRuns := by unfold okE; decide +kernel
def eX10_width : List En := [(0, 1, .aload_n 0, 0, 0, []), (1, 3, .getfield 7, 0, 0, []), (4, 1, .iconst 0, 0, nI 0, []), (5, 1, .iaload, 0, 0, []), (6, 3, .ifCond .ne 7, 13, 0, []), (9, 1, .iconst 0, 0, nI 0, []), (10, 3, .goto 9, 19, 0, []), (13, 1, .aload_n 0, 0, 0, []), (14, 3, .getfield 7, 0, 0, []), (17, 1, .iconst 1, 0, nI 1, []), (18, 1, .iaload, 0, 0, []), (19, 1, .ireturn, 0, 0, [])]
set_option maxRecDepth 20000 in
theorem kX10_width : okE mX10_width.2.1 eX10_width := by unfold okE; decide +kernel
def eX10_beads : List En := [(0, 1, .aload_n 0, 0, 0, []), (1, 3, .getfield 7, 0, 0, []), (4, 1, .iconst 0, 0, nI 0, []), (5, 1, .iaload, 0, 0, []), (6, 1, .aload_n 0, 0, 0, []), (7, 3, .invokevirtual 132, 0, 0, []), (10, 1, .imul, 0, 0, []), (11, 1, .ireturn, 0, 0, [])]
set_option maxRecDepth 20000 in
theorem kX10_beads : okE mX10_beads.2.1 eX10_beads := by unfold okE; decide +kernel
def eX10_manyOf : List En := [(0, 1, .iconst 0, 0, nI 0, []), (1, 1, .istore_n 3, 0, 0, []), (2, 1, .iconst 0, 0, nI 0, []), (3, 2, .istore 4, 0, 0, []), (5, 2, .iload 4, 0, 0, []), (7, 1, .aload_n 0, 0, 0, []), (8, 3, .getfield 7, 0, 0, []), (11, 1, .iconst 0, 0, nI 0, []), (12, 1, .iaload, 0, 0, []), (13, 3, .if_icmp .ge 64, 77, 0, []), (16, 1, .iconst 0, 0, nI 0, []), (17, 2, .istore 5, 0, 0, []), (19, 2, .iload 5, 0, 0, []), (21, 1, .aload_n 0, 0, 0, []), (22, 3, .getfield 7, 0, 0, []), (25, 1, .iconst 1, 0, nI 1, []), (26, 1, .iaload, 0, 0, []), (27, 3, .if_icmp .ge 44, 71, 0, []), (30, 1, .iload_n 3, 0, 0, []), (31, 1, .iload_n 1, 0, 0, []), (32, 2, .bipush (-4), 0, -nI 4, []), (34, 3, .if_icmp .eq 9, 43, 0, []), (37, 1, .iload_n 1, 0, 0, []), (38, 2, .iload 4, 0, 0, []), (40, 3, .if_icmp .ne 19, 59, 0, []), (43, 1, .aload_n 0, 0, 0, []), (44, 2, .iload 4, 0, 0, []), (46, 2, .iload 5, 0, 0, []), (48, 3, .invokevirtual 101, 0, 0, []), (51, 1, .iload_n 2, 0, 0, []), (52, 3, .if_icmp .ne 7, 59, 0, []), (55, 1, .iconst 1, 0, nI 1, []), (56, 3, .goto 4, 60, 0, []), (59, 1, .iconst 0, 0, nI 0, []), (60, 3, .invokestatic 112, 0, 0, []), (63, 1, .iadd, 0, 0, []), (64, 1, .istore_n 3, 0, 0, []), (65, 3, .iinc 5 1, 0, nI 1, []), (68, 3, .goto (-49), 19, 0, []), (71, 3, .iinc 4 1, 0, nI 1, []), (74, 3, .goto (-69), 5, 0, []), (77, 1, .iload_n 3, 0, 0, []), (78, 1, .ireturn, 0, 0, [])]
set_option maxRecDepth 20000 in
theorem kX10_manyOf : okE mX10_manyOf.2.1 eX10_manyOf := by unfold okE; decide +kernel
def eX10_colours : List En := [(0, 1, .iconst 0, 0, nI 0, []), (1, 1, .istore_n 1, 0, 0, []), (2, 1, .iconst 0, 0, nI 0, []), (3, 1, .istore_n 2, 0, 0, []), (4, 1, .iload_n 2, 0, 0, []), (5, 2, .bipush 6, 0, nI 6, []), (7, 3, .if_icmp .ge 30, 37, 0, []), (10, 1, .iload_n 1, 0, 0, []), (11, 1, .aload_n 0, 0, 0, []), (12, 2, .bipush (-4), 0, -nI 4, []), (14, 1, .iload_n 2, 0, 0, []), (15, 3, .invokevirtual 136, 0, 0, []), (18, 3, .ifCond .le 7, 25, 0, []), (21, 1, .iconst 1, 0, nI 1, []), (22, 3, .goto 4, 26, 0, []), (25, 1, .iconst 0, 0, nI 0, []), (26, 3, .invokestatic 112, 0, 0, []), (29, 1, .iadd, 0, 0, []), (30, 1, .istore_n 1, 0, 0, []), (31, 3, .iinc 2 1, 0, nI 1, []), (34, 3, .goto (-30), 4, 0, []), (37, 1, .iload_n 1, 0, 0, []), (38, 1, .ireturn, 0, 0, [])]
set_option maxRecDepth 20000 in
theorem kX10_colours : okE mX10_colours.2.1 eX10_colours := by unfold okE; decide +kernel
def eX10_rule : List En := [(0, 1, .iload_n 1, 0, 0, []), (1, 55, .tableswitch 111 0 9 #[55, 62, 67, 74, 79, 84, 89, 94, 99, 106], 112, 0, [56, 63, 68, 75, 80, 85, 90, 95, 100, 107]), (56, 1, .aload_n 0, 0, 0, []), (57, 3, .getfield 7, 0, 0, []), (60, 1, .iconst 0, 0, nI 0, []), (61, 1, .iaload, 0, 0, []), (62, 1, .ireturn, 0, 0, []), (63, 1, .aload_n 0, 0, 0, []), (64, 3, .invokevirtual 132, 0, 0, []), (67, 1, .ireturn, 0, 0, []), (68, 1, .aload_n 0, 0, 0, []), (69, 3, .getfield 7, 0, 0, []), (72, 1, .iconst 2, 0, nI 2, []), (73, 1, .iaload, 0, 0, []), (74, 1, .ireturn, 0, 0, []), (75, 1, .aload_n 0, 0, 0, []), (76, 3, .invokevirtual 139, 0, 0, []), (79, 1, .ireturn, 0, 0, []), (80, 1, .aload_n 0, 0, 0, []), (81, 3, .invokevirtual 142, 0, 0, []), (84, 1, .ireturn, 0, 0, []), (85, 1, .aload_n 0, 0, 0, []), (86, 3, .invokevirtual 145, 0, 0, []), (89, 1, .ireturn, 0, 0, []), (90, 1, .aload_n 0, 0, 0, []), (91, 3, .invokevirtual 148, 0, 0, []), (94, 1, .ireturn, 0, 0, []), (95, 1, .aload_n 0, 0, 0, []), (96, 3, .invokevirtual 151, 0, 0, []), (99, 1, .ireturn, 0, 0, []), (100, 1, .aload_n 0, 0, 0, []), (101, 3, .getfield 7, 0, 0, []), (104, 1, .iconst 3, 0, nI 3, []), (105, 1, .iaload, 0, 0, []), (106, 1, .ireturn, 0, 0, []), (107, 1, .aload_n 0, 0, 0, []), (108, 3, .getfield 154, 0, 0, []), (111, 1, .ireturn, 0, 0, []), (112, 1, .iconst (-1), 0, -nI 1, []), (113, 1, .ireturn, 0, 0, [])]
set_option maxRecDepth 20000 in
theorem kX10_rule : okE mX10_rule.2.1 eX10_rule := by unfold okE; decide +kernel
def eX10_bead : List En := [(0, 1, .aload_n 0, 0, 0, []), (1, 1, .iload_n 1, 0, 0, []), (2, 3, .invokevirtual 157, 0, 0, []), (5, 3, .ifCond .eq 30, 35, 0, []), (8, 1, .iload_n 2, 0, 0, []), (9, 1, .i2l, 0, 0, []), (10, 1, .lconst 0, 0, 0, []), (11, 1, .aload_n 0, 0, 0, []), (12, 3, .getfield 7, 0, 0, []), (15, 1, .iconst 1, 0, nI 1, []), (16, 1, .iaload, 0, 0, []), (17, 1, .iconst 1, 0, nI 1, []), (18, 1, .isub, 0, 0, []), (19, 1, .i2l, 0, 0, []), (20, 3, .invokestatic 43, 0, 0, []), (23, 3, .ifCond .eq 12, 35, 0, []), (26, 1, .aload_n 0, 0, 0, []), (27, 1, .iload_n 1, 0, 0, []), (28, 1, .iload_n 2, 0, 0, []), (29, 3, .invokevirtual 101, 0, 0, []), (32, 3, .goto 4, 36, 0, []), (35, 1, .iconst (-1), 0, -nI 1, []), (36, 1, .ireturn, 0, 0, [])]
set_option maxRecDepth 20000 in
theorem kX10_bead : okE mX10_bead.2.1 eX10_bead := by unfold okE; decide +kernel
def eX10_many : List En := [(0, 1, .iload_n 1, 0, 0, []), (1, 2, .bipush (-4), 0, -nI 4, []), (3, 3, .if_icmp .eq 11, 14, 0, []), (6, 1, .aload_n 0, 0, 0, []), (7, 1, .iload_n 1, 0, 0, []), (8, 3, .invokevirtual 157, 0, 0, []), (11, 3, .ifCond .eq 19, 30, 0, []), (14, 1, .iload_n 2, 0, 0, []), (15, 3, .invokestatic 160, 0, 0, []), (18, 3, .ifCond .eq 12, 30, 0, []), (21, 1, .aload_n 0, 0, 0, []), (22, 1, .iload_n 1, 0, 0, []), (23, 1, .iload_n 2, 0, 0, []), (24, 3, .invokevirtual 136, 0, 0, []), (27, 3, .goto 4, 31, 0, []), (30, 1, .iconst (-1), 0, -nI 1, []), (31, 1, .ireturn, 0, 0, [])]
set_option maxRecDepth 20000 in
theorem kX10_many : okE mX10_many.2.1 eX10_many := by unfold okE; decide +kernel
def eX10_likes : List En := [(0, 1, .iconst 0, 0, nI 0, []), (1, 1, .istore_n 2, 0, 0, []), (2, 1, .iconst 0, 0, nI 0, []), (3, 1, .istore_n 3, 0, 0, []), (4, 1, .iload_n 3, 0, 0, []), (5, 1, .aload_n 0, 0, 0, []), (6, 3, .getfield 7, 0, 0, []), (9, 1, .iconst 0, 0, nI 0, []), (10, 1, .iaload, 0, 0, []), (11, 3, .if_icmp .ge 22, 33, 0, []), (14, 1, .iload_n 2, 0, 0, []), (15, 1, .aload_n 0, 0, 0, []), (16, 1, .iload_n 1, 0, 0, []), (17, 1, .iload_n 3, 0, 0, []), (18, 1, .iconst 0, 0, nI 0, []), (19, 3, .invokevirtual 108, 0, 0, []), (22, 3, .invokestatic 112, 0, 0, []), (25, 1, .iadd, 0, 0, []), (26, 1, .istore_n 2, 0, 0, []), (27, 3, .iinc 3 1, 0, nI 1, []), (30, 3, .goto (-26), 4, 0, []), (33, 1, .iload_n 2, 0, 0, []), (34, 1, .ireturn, 0, 0, [])]
set_option maxRecDepth 20000 in
theorem kX10_likes : okE mX10_likes.2.1 eX10_likes := by unfold okE; decide +kernel
def eX10_row : List En := [(0, 1, .aload_n 0, 0, 0, []), (1, 1, .iload_n 1, 0, 0, []), (2, 3, .invokevirtual 157, 0, 0, []), (5, 3, .ifCond .ne 5, 10, 0, []), (8, 1, .iconst (-1), 0, -nI 1, []), (9, 1, .ireturn, 0, 0, []), (10, 1, .iload_n 2, 0, 0, []), (11, 37, .tableswitch 91 0 5 #[37, 43, 54, 66, 79, 85], 102, 0, [48, 54, 65, 77, 90, 96]), (48, 1, .aload_n 0, 0, 0, []), (49, 1, .iload_n 1, 0, 0, []), (50, 3, .invokevirtual 129, 0, 0, []), (53, 1, .ireturn, 0, 0, []), (54, 1, .aload_n 0, 0, 0, []), (55, 1, .iload_n 1, 0, 0, []), (56, 1, .aload_n 0, 0, 0, []), (57, 1, .iload_n 1, 0, 0, []), (58, 3, .invokevirtual 129, 0, 0, []), (61, 3, .invokevirtual 126, 0, 0, []), (64, 1, .ireturn, 0, 0, []), (65, 1, .aload_n 0, 0, 0, []), (66, 1, .iload_n 1, 0, 0, []), (67, 1, .aload_n 0, 0, 0, []), (68, 3, .getfield 7, 0, 0, []), (71, 1, .iconst 1, 0, nI 1, []), (72, 1, .iaload, 0, 0, []), (73, 3, .invokevirtual 120, 0, 0, []), (76, 1, .ireturn, 0, 0, []), (77, 1, .aload_n 0, 0, 0, []), (78, 1, .iload_n 1, 0, 0, []), (79, 1, .aload_n 0, 0, 0, []), (80, 3, .getfield 7, 0, 0, []), (83, 1, .iconst 0, 0, nI 0, []), (84, 1, .iaload, 0, 0, []), (85, 1, .iconst 0, 0, nI 0, []), (86, 3, .invokevirtual 116, 0, 0, []), (89, 1, .ireturn, 0, 0, []), (90, 1, .aload_n 0, 0, 0, []), (91, 1, .iload_n 1, 0, 0, []), (92, 3, .invokevirtual 163, 0, 0, []), (95, 1, .ireturn, 0, 0, []), (96, 1, .aload_n 0, 0, 0, []), (97, 1, .iload_n 1, 0, 0, []), (98, 3, .invokevirtual 123, 0, 0, []), (101, 1, .ireturn, 0, 0, []), (102, 1, .iconst (-1), 0, -nI 1, []), (103, 1, .ireturn, 0, 0, [])]
set_option maxRecDepth 20000 in
theorem kX10_row : okE mX10_row.2.1 eX10_row := by unfold okE; decide +kernel
def eX10_words : List En := [(0, 1, .aload_n 0, 0, 0, []), (1, 1, .iload_n 1, 0, 0, []), (2, 3, .invokevirtual 157, 0, 0, []), (5, 3, .ifCond .eq 24, 29, 0, []), (8, 1, .iload_n 2, 0, 0, []), (9, 1, .i2l, 0, 0, []), (10, 1, .lconst 0, 0, 0, []), (11, 3, .ldc2_w 166, 0, 0, []), (14, 3, .invokestatic 43, 0, 0, []), (17, 3, .ifCond .eq 12, 29, 0, []), (20, 1, .aload_n 0, 0, 0, []), (21, 1, .iload_n 1, 0, 0, []), (22, 1, .iload_n 2, 0, 0, []), (23, 3, .invokevirtual 126, 0, 0, []), (26, 3, .goto 4, 30, 0, []), (29, 1, .iconst (-1), 0, -nI 1, []), (30, 1, .ireturn, 0, 0, [])]
set_option maxRecDepth 20000 in
theorem kX10_words : okE mX10_words.2.1 eX10_words := by unfold okE; decide +kernel
def eX10_word : List En := [(0, 1, .aload_n 0, 0, 0, []), (1, 1, .iload_n 1, 0, 0, []), (2, 3, .invokevirtual 157, 0, 0, []), (5, 3, .ifCond .eq 7, 12, 0, []), (8, 1, .iload_n 2, 0, 0, []), (9, 3, .ifCond .ge 5, 14, 0, []), (12, 1, .iconst (-1), 0, -nI 1, []), (13, 1, .ireturn, 0, 0, []), (14, 1, .iload_n 2, 0, 0, []), (15, 1, .aload_n 0, 0, 0, []), (16, 1, .iload_n 1, 0, 0, []), (17, 1, .aload_n 0, 0, 0, []), (18, 1, .iload_n 1, 0, 0, []), (19, 3, .invokevirtual 129, 0, 0, []), (22, 3, .invokevirtual 126, 0, 0, []), (25, 3, .if_icmp .ge 12, 37, 0, []), (28, 1, .aload_n 0, 0, 0, []), (29, 1, .iload_n 1, 0, 0, []), (30, 1, .iload_n 2, 0, 0, []), (31, 3, .invokevirtual 168, 0, 0, []), (34, 3, .goto 5, 39, 0, []), (37, 2, .bipush (-4), 0, -nI 4, []), (39, 1, .ireturn, 0, 0, [])]
set_option maxRecDepth 20000 in
theorem kX10_word : okE mX10_word.2.1 eX10_word := by unfold okE; decide +kernel
def eX10_tell : List En := [(0, 1, .iload_n 1, 0, 0, []), (1, 1, .i2l, 0, 0, []), (2, 1, .lconst 0, 0, 0, []), (3, 3, .ldc2_w 171, 0, 0, []), (6, 3, .invokestatic 43, 0, 0, []), (9, 3, .ifCond .ne 5, 14, 0, []), (12, 1, .iconst (-1), 0, -nI 1, []), (13, 1, .ireturn, 0, 0, []), (14, 1, .aload_n 0, 0, 0, []), (15, 3, .getfield 154, 0, 0, []), (18, 2, .bipush 40, 0, nI 40, []), (20, 3, .if_icmp .ne 6, 26, 0, []), (23, 2, .bipush (-3), 0, -nI 3, []), (25, 1, .ireturn, 0, 0, []), (26, 1, .aload_n 0, 0, 0, []), (27, 3, .getfield 26, 0, 0, []), (30, 1, .aload_n 0, 0, 0, []), (31, 3, .getfield 154, 0, 0, []), (34, 1, .iload_n 1, 0, 0, []), (35, 1, .iastore, 0, 0, []), (36, 1, .aload_n 0, 0, 0, []), (37, 1, .dup, 0, 0, []), (38, 3, .getfield 154, 0, 0, []), (41, 1, .iconst 1, 0, nI 1, []), (42, 1, .iadd, 0, 0, []), (43, 3, .putfield 154, 0, 0, []), (46, 1, .aload_n 0, 0, 0, []), (47, 3, .getfield 154, 0, 0, []), (50, 1, .ireturn, 0, 0, [])]
set_option maxRecDepth 20000 in
theorem kX10_tell : okE mX10_tell.2.1 eX10_tell := by unfold okE; decide +kernel
def eX10_tear : List En := [(0, 1, .aload_n 0, 0, 0, []), (1, 3, .getfield 154, 0, 0, []), (4, 1, .istore_n 1, 0, 0, []), (5, 1, .aload_n 0, 0, 0, []), (6, 1, .iconst 0, 0, nI 0, []), (7, 3, .putfield 154, 0, 0, []), (10, 1, .iload_n 1, 0, 0, []), (11, 1, .ireturn, 0, 0, [])]
set_option maxRecDepth 20000 in
theorem kX10_tear : okE mX10_tear.2.1 eX10_tear := by unfold okE; decide +kernel
def eX10_readRuns : List En := [(0, 1, .aload_n 0, 0, 0, []), (1, 1, .iconst 0, 0, nI 0, []), (2, 3, .putfield 173, 0, 0, []), (5, 1, .aload_n 0, 0, 0, []), (6, 3, .getfield 154, 0, 0, []), (9, 1, .iload_n 1, 0, 0, []), (10, 3, .if_icmp .le 14, 24, 0, []), (13, 1, .aload_n 0, 0, 0, []), (14, 3, .getfield 154, 0, 0, []), (17, 1, .iload_n 1, 0, 0, []), (18, 1, .isub, 0, 0, []), (19, 1, .iconst 2, 0, nI 2, []), (20, 1, .irem, 0, 0, []), (21, 3, .ifCond .eq 5, 26, 0, []), (24, 1, .iconst 0, 0, nI 0, []), (25, 1, .ireturn, 0, 0, []), (26, 1, .iconst 1, 0, nI 1, []), (27, 1, .istore_n 2, 0, 0, []), (28, 1, .iload_n 1, 0, 0, []), (29, 1, .istore_n 3, 0, 0, []), (30, 1, .iload_n 3, 0, 0, []), (31, 1, .aload_n 0, 0, 0, []), (32, 3, .getfield 154, 0, 0, []), (35, 3, .if_icmp .ge 117, 152, 0, []), (38, 1, .iload_n 2, 0, 0, []), (39, 3, .ifCond .eq 113, 152, 0, []), (42, 1, .aload_n 0, 0, 0, []), (43, 3, .getfield 26, 0, 0, []), (46, 1, .iload_n 3, 0, 0, []), (47, 1, .iaload, 0, 0, []), (48, 1, .i2l, 0, 0, []), (49, 1, .lconst 1, 0, 0, []), (50, 3, .ldc2_w 176, 0, 0, []), (53, 3, .invokestatic 43, 0, 0, []), (56, 3, .ifCond .eq 37, 93, 0, []), (59, 1, .aload_n 0, 0, 0, []), (60, 3, .getfield 26, 0, 0, []), (63, 1, .iload_n 3, 0, 0, []), (64, 1, .iconst 1, 0, nI 1, []), (65, 1, .iadd, 0, 0, []), (66, 1, .iaload, 0, 0, []), (67, 3, .invokestatic 160, 0, 0, []), (70, 3, .ifCond .eq 23, 93, 0, []), (73, 1, .aload_n 0, 0, 0, []), (74, 3, .getfield 173, 0, 0, []), (77, 1, .aload_n 0, 0, 0, []), (78, 3, .getfield 26, 0, 0, []), (81, 1, .iload_n 3, 0, 0, []), (82, 1, .iaload, 0, 0, []), (83, 1, .iadd, 0, 0, []), (84, 2, .bipush 16, 0, nI 16, []), (86, 3, .if_icmp .gt 7, 93, 0, []), (89, 1, .iconst 1, 0, nI 1, []), (90, 3, .goto 4, 94, 0, []), (93, 1, .iconst 0, 0, nI 0, []), (94, 1, .istore_n 2, 0, 0, []), (95, 1, .iconst 0, 0, nI 0, []), (96, 2, .istore 4, 0, 0, []), (98, 2, .iload 4, 0, 0, []), (100, 1, .aload_n 0, 0, 0, []), (101, 3, .getfield 26, 0, 0, []), (104, 1, .iload_n 3, 0, 0, []), (105, 1, .iaload, 0, 0, []), (106, 3, .if_icmp .ge 40, 146, 0, []), (109, 1, .iload_n 2, 0, 0, []), (110, 3, .ifCond .eq 36, 146, 0, []), (113, 1, .aload_n 0, 0, 0, []), (114, 3, .getfield 29, 0, 0, []), (117, 1, .aload_n 0, 0, 0, []), (118, 3, .getfield 173, 0, 0, []), (121, 1, .aload_n 0, 0, 0, []), (122, 3, .getfield 26, 0, 0, []), (125, 1, .iload_n 3, 0, 0, []), (126, 1, .iconst 1, 0, nI 1, []), (127, 1, .iadd, 0, 0, []), (128, 1, .iaload, 0, 0, []), (129, 1, .iastore, 0, 0, []), (130, 1, .aload_n 0, 0, 0, []), (131, 1, .dup, 0, 0, []), (132, 3, .getfield 173, 0, 0, []), (135, 1, .iconst 1, 0, nI 1, []), (136, 1, .iadd, 0, 0, []), (137, 3, .putfield 173, 0, 0, []), (140, 3, .iinc 4 1, 0, nI 1, []), (143, 3, .goto (-45), 98, 0, []), (146, 3, .iinc 3 2, 0, nI 2, []), (149, 3, .goto (-119), 30, 0, []), (152, 1, .iload_n 2, 0, 0, []), (153, 1, .ireturn, 0, 0, [])]
set_option maxRecDepth 20000 in
theorem kX10_readRuns : okE mX10_readRuns.2.1 eX10_readRuns := by unfold okE; decide +kernel
def eX10_readLike : List En := [(0, 1, .aload_n 0, 0, 0, []), (1, 3, .getfield 154, 0, 0, []), (4, 1, .iconst 2, 0, nI 2, []), (5, 3, .if_icmp .ne 16, 21, 0, []), (8, 1, .aload_n 0, 0, 0, []), (9, 1, .aload_n 0, 0, 0, []), (10, 3, .getfield 26, 0, 0, []), (13, 1, .iconst 1, 0, nI 1, []), (14, 1, .iaload, 0, 0, []), (15, 3, .invokevirtual 157, 0, 0, []), (18, 3, .ifCond .ne 5, 23, 0, []), (21, 1, .iconst 0, 0, nI 0, []), (22, 1, .ireturn, 0, 0, []), (23, 1, .aload_n 0, 0, 0, []), (24, 1, .aload_n 0, 0, 0, []), (25, 3, .getfield 7, 0, 0, []), (28, 1, .iconst 1, 0, nI 1, []), (29, 1, .iaload, 0, 0, []), (30, 3, .putfield 173, 0, 0, []), (33, 1, .iconst 0, 0, nI 0, []), (34, 1, .istore_n 2, 0, 0, []), (35, 1, .iload_n 2, 0, 0, []), (36, 1, .aload_n 0, 0, 0, []), (37, 3, .getfield 173, 0, 0, []), (40, 3, .if_icmp .ge 41, 81, 0, []), (43, 1, .aload_n 0, 0, 0, []), (44, 3, .getfield 29, 0, 0, []), (47, 1, .iload_n 2, 0, 0, []), (48, 1, .aload_n 0, 0, 0, []), (49, 1, .aload_n 0, 0, 0, []), (50, 3, .getfield 26, 0, 0, []), (53, 1, .iconst 1, 0, nI 1, []), (54, 1, .iaload, 0, 0, []), (55, 1, .iload_n 1, 0, 0, []), (56, 3, .ifCond .eq 14, 70, 0, []), (59, 1, .aload_n 0, 0, 0, []), (60, 3, .getfield 173, 0, 0, []), (63, 1, .iconst 1, 0, nI 1, []), (64, 1, .isub, 0, 0, []), (65, 1, .iload_n 2, 0, 0, []), (66, 1, .isub, 0, 0, []), (67, 3, .goto 4, 71, 0, []), (70, 1, .iload_n 2, 0, 0, []), (71, 3, .invokevirtual 105, 0, 0, []), (74, 1, .iastore, 0, 0, []), (75, 3, .iinc 2 1, 0, nI 1, []), (78, 3, .goto (-43), 35, 0, []), (81, 1, .iconst 1, 0, nI 1, []), (82, 1, .ireturn, 0, 0, [])]
set_option maxRecDepth 20000 in
theorem kX10_readLike : okE mX10_readLike.2.1 eX10_readLike := by unfold okE; decide +kernel
def eX10_readMirror : List En := [(0, 1, .aload_n 0, 0, 0, []), (1, 3, .invokevirtual 132, 0, 0, []), (4, 1, .istore_n 1, 0, 0, []), (5, 1, .iload_n 1, 0, 0, []), (6, 1, .iconst 2, 0, nI 2, []), (7, 3, .if_icmp .lt 23, 30, 0, []), (10, 1, .aload_n 0, 0, 0, []), (11, 1, .iconst 1, 0, nI 1, []), (12, 3, .invokevirtual 178, 0, 0, []), (15, 3, .ifCond .eq 15, 30, 0, []), (18, 1, .aload_n 0, 0, 0, []), (19, 3, .getfield 173, 0, 0, []), (22, 1, .iload_n 1, 0, 0, []), (23, 1, .iconst 1, 0, nI 1, []), (24, 1, .iadd, 0, 0, []), (25, 1, .iconst 2, 0, nI 2, []), (26, 1, .idiv, 0, 0, []), (27, 3, .if_icmp .eq 5, 32, 0, []), (30, 1, .iconst 0, 0, nI 0, []), (31, 1, .ireturn, 0, 0, []), (32, 1, .aload_n 0, 0, 0, []), (33, 3, .getfield 173, 0, 0, []), (36, 1, .istore_n 2, 0, 0, []), (37, 1, .iload_n 2, 0, 0, []), (38, 1, .iload_n 1, 0, 0, []), (39, 3, .if_icmp .ge 25, 64, 0, []), (42, 1, .aload_n 0, 0, 0, []), (43, 3, .getfield 29, 0, 0, []), (46, 1, .iload_n 2, 0, 0, []), (47, 1, .aload_n 0, 0, 0, []), (48, 3, .getfield 29, 0, 0, []), (51, 1, .iload_n 1, 0, 0, []), (52, 1, .iconst 1, 0, nI 1, []), (53, 1, .isub, 0, 0, []), (54, 1, .iload_n 2, 0, 0, []), (55, 1, .isub, 0, 0, []), (56, 1, .iaload, 0, 0, []), (57, 1, .iastore, 0, 0, []), (58, 3, .iinc 2 1, 0, nI 1, []), (61, 3, .goto (-24), 37, 0, []), (64, 1, .aload_n 0, 0, 0, []), (65, 1, .iload_n 1, 0, 0, []), (66, 3, .putfield 173, 0, 0, []), (69, 1, .iconst 1, 0, nI 1, []), (70, 1, .ireturn, 0, 0, [])]
set_option maxRecDepth 20000 in
theorem kX10_readMirror : okE mX10_readMirror.2.1 eX10_readMirror := by unfold okE; decide +kernel
def eX10_readTimes : List En := [(0, 1, .aload_n 0, 0, 0, []), (1, 3, .getfield 154, 0, 0, []), (4, 1, .iconst 2, 0, nI 2, []), (5, 3, .if_icmp .lt 30, 35, 0, []), (8, 1, .aload_n 0, 0, 0, []), (9, 3, .getfield 26, 0, 0, []), (12, 1, .iconst 1, 0, nI 1, []), (13, 1, .iaload, 0, 0, []), (14, 1, .i2l, 0, 0, []), (15, 3, .ldc2_w 181, 0, 0, []), (18, 3, .ldc2_w 176, 0, 0, []), (21, 3, .invokestatic 43, 0, 0, []), (24, 3, .ifCond .eq 11, 35, 0, []), (27, 1, .aload_n 0, 0, 0, []), (28, 1, .iconst 2, 0, nI 2, []), (29, 3, .invokevirtual 178, 0, 0, []), (32, 3, .ifCond .ne 5, 37, 0, []), (35, 1, .iconst 0, 0, nI 0, []), (36, 1, .ireturn, 0, 0, []), (37, 1, .aload_n 0, 0, 0, []), (38, 3, .getfield 173, 0, 0, []), (41, 1, .istore_n 1, 0, 0, []), (42, 1, .iload_n 1, 0, 0, []), (43, 1, .aload_n 0, 0, 0, []), (44, 3, .getfield 26, 0, 0, []), (47, 1, .iconst 1, 0, nI 1, []), (48, 1, .iaload, 0, 0, []), (49, 1, .imul, 0, 0, []), (50, 1, .istore_n 2, 0, 0, []), (51, 1, .aload_n 0, 0, 0, []), (52, 3, .getfield 7, 0, 0, []), (55, 1, .iconst 0, 0, nI 0, []), (56, 1, .iaload, 0, 0, []), (57, 3, .ifCond .ne 12, 69, 0, []), (60, 1, .iload_n 2, 0, 0, []), (61, 2, .bipush 16, 0, nI 16, []), (63, 3, .if_icmp .le 18, 81, 0, []), (66, 3, .goto 13, 79, 0, []), (69, 1, .iload_n 2, 0, 0, []), (70, 1, .aload_n 0, 0, 0, []), (71, 3, .getfield 7, 0, 0, []), (74, 1, .iconst 1, 0, nI 1, []), (75, 1, .iaload, 0, 0, []), (76, 3, .if_icmp .eq 5, 81, 0, []), (79, 1, .iconst 0, 0, nI 0, []), (80, 1, .ireturn, 0, 0, []), (81, 1, .iload_n 1, 0, 0, []), (82, 1, .istore_n 3, 0, 0, []), (83, 1, .iload_n 3, 0, 0, []), (84, 1, .iload_n 2, 0, 0, []), (85, 3, .if_icmp .ge 23, 108, 0, []), (88, 1, .aload_n 0, 0, 0, []), (89, 3, .getfield 29, 0, 0, []), (92, 1, .iload_n 3, 0, 0, []), (93, 1, .aload_n 0, 0, 0, []), (94, 3, .getfield 29, 0, 0, []), (97, 1, .iload_n 3, 0, 0, []), (98, 1, .iload_n 1, 0, 0, []), (99, 1, .isub, 0, 0, []), (100, 1, .iaload, 0, 0, []), (101, 1, .iastore, 0, 0, []), (102, 3, .iinc 3 1, 0, nI 1, []), (105, 3, .goto (-22), 83, 0, []), (108, 1, .aload_n 0, 0, 0, []), (109, 1, .iload_n 2, 0, 0, []), (110, 3, .putfield 173, 0, 0, []), (113, 1, .iconst 1, 0, nI 1, []), (114, 1, .ireturn, 0, 0, [])]
set_option maxRecDepth 20000 in
theorem kX10_readTimes : okE mX10_readTimes.2.1 eX10_readTimes := by unfold okE; decide +kernel
def eX10_speaks : List En := [(0, 1, .aload_n 0, 0, 0, []), (1, 3, .getfield 154, 0, 0, []), (4, 3, .ifCond .ne 5, 9, 0, []), (7, 1, .iconst 0, 0, nI 0, []), (8, 1, .ireturn, 0, 0, []), (9, 1, .aload_n 0, 0, 0, []), (10, 3, .getfield 26, 0, 0, []), (13, 1, .iconst 0, 0, nI 0, []), (14, 1, .iaload, 0, 0, []), (15, 33, .tableswitch 91 0 4 #[33, 39, 45, 50, 55], 106, 0, [48, 54, 60, 65, 70]), (48, 1, .aload_n 0, 0, 0, []), (49, 1, .iconst 0, 0, nI 0, []), (50, 3, .invokevirtual 183, 0, 0, []), (53, 1, .ireturn, 0, 0, []), (54, 1, .aload_n 0, 0, 0, []), (55, 1, .iconst 1, 0, nI 1, []), (56, 3, .invokevirtual 183, 0, 0, []), (59, 1, .ireturn, 0, 0, []), (60, 1, .aload_n 0, 0, 0, []), (61, 3, .invokevirtual 187, 0, 0, []), (64, 1, .ireturn, 0, 0, []), (65, 1, .aload_n 0, 0, 0, []), (66, 3, .invokevirtual 190, 0, 0, []), (69, 1, .ireturn, 0, 0, []), (70, 1, .aload_n 0, 0, 0, []), (71, 1, .iconst 1, 0, nI 1, []), (72, 3, .invokevirtual 178, 0, 0, []), (75, 3, .ifCond .eq 29, 104, 0, []), (78, 1, .aload_n 0, 0, 0, []), (79, 3, .getfield 7, 0, 0, []), (82, 1, .iconst 0, 0, nI 0, []), (83, 1, .iaload, 0, 0, []), (84, 3, .ifCond .eq 16, 100, 0, []), (87, 1, .aload_n 0, 0, 0, []), (88, 3, .getfield 173, 0, 0, []), (91, 1, .aload_n 0, 0, 0, []), (92, 3, .getfield 7, 0, 0, []), (95, 1, .iconst 1, 0, nI 1, []), (96, 1, .iaload, 0, 0, []), (97, 3, .if_icmp .ne 7, 104, 0, []), (100, 1, .iconst 1, 0, nI 1, []), (101, 3, .goto 4, 105, 0, []), (104, 1, .iconst 0, 0, nI 0, []), (105, 1, .ireturn, 0, 0, []), (106, 1, .iconst 0, 0, nI 0, []), (107, 1, .ireturn, 0, 0, [])]
set_option maxRecDepth 20000 in
theorem kX10_speaks : okE mX10_speaks.2.1 eX10_speaks := by unfold okE; decide +kernel
def eX10_spoken : List En := [(0, 1, .aload_n 0, 0, 0, []), (1, 3, .invokevirtual 193, 0, 0, []), (4, 3, .ifCond .eq 10, 14, 0, []), (7, 1, .aload_n 0, 0, 0, []), (8, 3, .getfield 173, 0, 0, []), (11, 3, .goto 5, 16, 0, []), (14, 2, .bipush (-4), 0, -nI 4, []), (16, 1, .ireturn, 0, 0, [])]
set_option maxRecDepth 20000 in
theorem kX10_spoken : okE mX10_spoken.2.1 eX10_spoken := by unfold okE; decide +kernel
def eX10_said : List En := [(0, 1, .iload_n 1, 0, 0, []), (1, 3, .ifCond .ge 5, 6, 0, []), (4, 1, .iconst (-1), 0, -nI 1, []), (5, 1, .ireturn, 0, 0, []), (6, 1, .aload_n 0, 0, 0, []), (7, 3, .invokevirtual 193, 0, 0, []), (10, 3, .ifCond .eq 20, 30, 0, []), (13, 1, .iload_n 1, 0, 0, []), (14, 1, .aload_n 0, 0, 0, []), (15, 3, .getfield 173, 0, 0, []), (18, 3, .if_icmp .ge 12, 30, 0, []), (21, 1, .aload_n 0, 0, 0, []), (22, 3, .getfield 29, 0, 0, []), (25, 1, .iload_n 1, 0, 0, []), (26, 1, .iaload, 0, 0, []), (27, 3, .goto 5, 32, 0, []), (30, 2, .bipush (-4), 0, -nI 4, []), (32, 1, .ireturn, 0, 0, [])]
set_option maxRecDepth 20000 in
theorem kX10_said : okE mX10_said.2.1 eX10_said := by unfold okE; decide +kernel
def eX10_add : List En := [(0, 1, .aload_n 0, 0, 0, []), (1, 3, .invokevirtual 193, 0, 0, []), (4, 3, .ifCond .ne 6, 10, 0, []), (7, 2, .bipush (-2), 0, -nI 2, []), (9, 1, .ireturn, 0, 0, []), (10, 1, .aload_n 0, 0, 0, []), (11, 3, .getfield 7, 0, 0, []), (14, 1, .iconst 0, 0, nI 0, []), (15, 1, .iaload, 0, 0, []), (16, 2, .bipush 12, 0, nI 12, []), (18, 3, .if_icmp .ne 6, 24, 0, []), (21, 2, .bipush (-3), 0, -nI 3, []), (23, 1, .ireturn, 0, 0, []), (24, 1, .aload_n 0, 0, 0, []), (25, 3, .getfield 7, 0, 0, []), (28, 1, .iconst 0, 0, nI 0, []), (29, 1, .iaload, 0, 0, []), (30, 1, .istore_n 1, 0, 0, []), (31, 1, .aload_n 0, 0, 0, []), (32, 3, .getfield 7, 0, 0, []), (35, 1, .iconst 1, 0, nI 1, []), (36, 1, .aload_n 0, 0, 0, []), (37, 3, .getfield 173, 0, 0, []), (40, 1, .iastore, 0, 0, []), (41, 1, .iconst 0, 0, nI 0, []), (42, 1, .istore_n 2, 0, 0, []), (43, 1, .iload_n 2, 0, 0, []), (44, 1, .aload_n 0, 0, 0, []), (45, 3, .getfield 173, 0, 0, []), (48, 3, .if_icmp .ge 47, 95, 0, []), (51, 1, .aload_n 0, 0, 0, []), (52, 3, .getfield 7, 0, 0, []), (55, 1, .iconst 4, 0, nI 4, []), (56, 2, .bipush 16, 0, nI 16, []), (58, 1, .iload_n 1, 0, 0, []), (59, 1, .imul, 0, 0, []), (60, 1, .iadd, 0, 0, []), (61, 1, .aload_n 0, 0, 0, []), (62, 1, .iload_n 1, 0, 0, []), (63, 3, .invokevirtual 97, 0, 0, []), (66, 3, .ifCond .eq 14, 80, 0, []), (69, 1, .aload_n 0, 0, 0, []), (70, 3, .getfield 173, 0, 0, []), (73, 1, .iconst 1, 0, nI 1, []), (74, 1, .isub, 0, 0, []), (75, 1, .iload_n 2, 0, 0, []), (76, 1, .isub, 0, 0, []), (77, 3, .goto 4, 81, 0, []), (80, 1, .iload_n 2, 0, 0, []), (81, 1, .iadd, 0, 0, []), (82, 1, .aload_n 0, 0, 0, []), (83, 3, .getfield 29, 0, 0, []), (86, 1, .iload_n 2, 0, 0, []), (87, 1, .iaload, 0, 0, []), (88, 1, .iastore, 0, 0, []), (89, 3, .iinc 2 1, 0, nI 1, []), (92, 3, .goto (-49), 43, 0, []), (95, 1, .aload_n 0, 0, 0, []), (96, 3, .getfield 7, 0, 0, []), (99, 1, .iconst 0, 0, nI 0, []), (100, 1, .dup2, 0, 0, []), (101, 1, .iaload, 0, 0, []), (102, 1, .iconst 1, 0, nI 1, []), (103, 1, .iadd, 0, 0, []), (104, 1, .iastore, 0, 0, []), (105, 1, .aload_n 0, 0, 0, []), (106, 1, .iconst 0, 0, nI 0, []), (107, 3, .putfield 154, 0, 0, []), (110, 1, .aload_n 0, 0, 0, []), (111, 3, .getfield 7, 0, 0, []), (114, 1, .iconst 0, 0, nI 0, []), (115, 1, .iaload, 0, 0, []), (116, 1, .ireturn, 0, 0, [])]
set_option maxRecDepth 20000 in
theorem kX10_add : okE mX10_add.2.1 eX10_add := by unfold okE; decide +kernel
def eX10_string : List En := [(0, 1, .iload_n 1, 0, 0, []), (1, 3, .invokestatic 160, 0, 0, []), (4, 3, .ifCond .ne 5, 9, 0, []), (7, 1, .iconst (-1), 0, -nI 1, []), (8, 1, .ireturn, 0, 0, []), (9, 1, .aload_n 0, 0, 0, []), (10, 3, .getfield 7, 0, 0, []), (13, 1, .iconst 3, 0, nI 3, []), (14, 1, .iaload, 0, 0, []), (15, 1, .aload_n 0, 0, 0, []), (16, 3, .invokevirtual 139, 0, 0, []), (19, 3, .if_icmp .ne 6, 25, 0, []), (22, 2, .bipush (-3), 0, -nI 3, []), (24, 1, .ireturn, 0, 0, []), (25, 1, .aload_n 0, 0, 0, []), (26, 3, .getfield 7, 0, 0, []), (29, 3, .sipush 196, 0, nI 196, []), (32, 1, .aload_n 0, 0, 0, []), (33, 3, .getfield 7, 0, 0, []), (36, 1, .iconst 3, 0, nI 3, []), (37, 1, .iaload, 0, 0, []), (38, 1, .iadd, 0, 0, []), (39, 1, .iload_n 1, 0, 0, []), (40, 1, .iastore, 0, 0, []), (41, 1, .aload_n 0, 0, 0, []), (42, 3, .getfield 7, 0, 0, []), (45, 1, .iconst 3, 0, nI 3, []), (46, 1, .dup2, 0, 0, []), (47, 1, .iaload, 0, 0, []), (48, 1, .iconst 1, 0, nI 1, []), (49, 1, .iadd, 0, 0, []), (50, 1, .iastore, 0, 0, []), (51, 1, .aload_n 0, 0, 0, []), (52, 3, .getfield 7, 0, 0, []), (55, 1, .iconst 3, 0, nI 3, []), (56, 1, .iaload, 0, 0, []), (57, 1, .ireturn, 0, 0, [])]
set_option maxRecDepth 20000 in
theorem kX10_string : okE mX10_string.2.1 eX10_string := by unfold okE; decide +kernel
def eX10_off : List En := [(0, 1, .iload_n 1, 0, 0, []), (1, 1, .i2l, 0, 0, []), (2, 1, .lconst 0, 0, 0, []), (3, 1, .aload_n 0, 0, 0, []), (4, 3, .getfield 7, 0, 0, []), (7, 1, .iconst 3, 0, nI 3, []), (8, 1, .iaload, 0, 0, []), (9, 1, .i2l, 0, 0, []), (10, 3, .invokestatic 43, 0, 0, []), (13, 3, .ifCond .ne 5, 18, 0, []), (16, 1, .iconst (-1), 0, -nI 1, []), (17, 1, .ireturn, 0, 0, []), (18, 1, .aload_n 0, 0, 0, []), (19, 3, .getfield 7, 0, 0, []), (22, 1, .iconst 3, 0, nI 3, []), (23, 1, .dup2, 0, 0, []), (24, 1, .iaload, 0, 0, []), (25, 1, .iload_n 1, 0, 0, []), (26, 1, .isub, 0, 0, []), (27, 1, .iastore, 0, 0, []), (28, 1, .aload_n 0, 0, 0, []), (29, 3, .getfield 7, 0, 0, []), (32, 1, .iconst 3, 0, nI 3, []), (33, 1, .iaload, 0, 0, []), (34, 1, .ireturn, 0, 0, [])]
set_option maxRecDepth 20000 in
theorem kX10_off : okE mX10_off.2.1 eX10_off := by unfold okE; decide +kernel
def eX10_planOf : List En := [(0, 1, .aload_n 0, 0, 0, []), (1, 1, .iload_n 1, 0, 0, []), (2, 1, .aload_n 0, 0, 0, []), (3, 3, .getfield 7, 0, 0, []), (6, 1, .iconst 1, 0, nI 1, []), (7, 1, .iaload, 0, 0, []), (8, 1, .idiv, 0, 0, []), (9, 1, .iload_n 1, 0, 0, []), (10, 1, .aload_n 0, 0, 0, []), (11, 3, .getfield 7, 0, 0, []), (14, 1, .iconst 1, 0, nI 1, []), (15, 1, .iaload, 0, 0, []), (16, 1, .irem, 0, 0, []), (17, 3, .invokevirtual 105, 0, 0, []), (20, 1, .ireturn, 0, 0, [])]
set_option maxRecDepth 20000 in
theorem kX10_planOf : okE mX10_planOf.2.1 eX10_planOf := by unfold okE; decide +kernel
def eX10_plan : List En := [(0, 1, .iload_n 1, 0, 0, []), (1, 3, .ifCond .ge 5, 6, 0, []), (4, 1, .iconst (-1), 0, -nI 1, []), (5, 1, .ireturn, 0, 0, []), (6, 1, .iload_n 1, 0, 0, []), (7, 1, .aload_n 0, 0, 0, []), (8, 3, .invokevirtual 139, 0, 0, []), (11, 3, .if_icmp .ge 11, 22, 0, []), (14, 1, .aload_n 0, 0, 0, []), (15, 1, .iload_n 1, 0, 0, []), (16, 3, .invokevirtual 196, 0, 0, []), (19, 3, .goto 5, 24, 0, []), (22, 2, .bipush (-4), 0, -nI 4, []), (24, 1, .ireturn, 0, 0, [])]
set_option maxRecDepth 20000 in
theorem kX10_plan : okE mX10_plan.2.1 eX10_plan := by unfold okE; decide +kernel
def eX10_firstMistake : List En := [(0, 1, .iconst 0, 0, nI 0, []), (1, 1, .istore_n 1, 0, 0, []), (2, 1, .iload_n 1, 0, 0, []), (3, 1, .aload_n 0, 0, 0, []), (4, 3, .getfield 7, 0, 0, []), (7, 1, .iconst 3, 0, nI 3, []), (8, 1, .iaload, 0, 0, []), (9, 3, .if_icmp .ge 29, 38, 0, []), (12, 1, .aload_n 0, 0, 0, []), (13, 3, .getfield 7, 0, 0, []), (16, 3, .sipush 196, 0, nI 196, []), (19, 1, .iload_n 1, 0, 0, []), (20, 1, .iadd, 0, 0, []), (21, 1, .iaload, 0, 0, []), (22, 1, .aload_n 0, 0, 0, []), (23, 1, .iload_n 1, 0, 0, []), (24, 3, .invokevirtual 196, 0, 0, []), (27, 3, .if_icmp .eq 5, 32, 0, []), (30, 1, .iload_n 1, 0, 0, []), (31, 1, .ireturn, 0, 0, []), (32, 3, .iinc 1 1, 0, nI 1, []), (35, 3, .goto (-33), 2, 0, []), (38, 2, .bipush (-4), 0, -nI 4, []), (40, 1, .ireturn, 0, 0, [])]
set_option maxRecDepth 20000 in
theorem kX10_firstMistake : okE mX10_firstMistake.2.1 eX10_firstMistake := by unfold okE; decide +kernel
def eX10_asTold : List En := [(0, 1, .iconst 0, 0, nI 0, []), (1, 1, .istore_n 3, 0, 0, []), (2, 1, .iload_n 2, 0, 0, []), (3, 3, .ifCond .ne 7, 10, 0, []), (6, 1, .iconst 0, 0, nI 0, []), (7, 3, .goto 13, 20, 0, []), (10, 1, .iload_n 2, 0, 0, []), (11, 1, .iconst 1, 0, nI 1, []), (12, 3, .if_icmp .ne 7, 19, 0, []), (15, 1, .iconst 1, 0, nI 1, []), (16, 3, .goto 4, 20, 0, []), (19, 1, .iconst (-1), 0, -nI 1, []), (20, 2, .istore 4, 0, 0, []), (22, 1, .iload_n 2, 0, 0, []), (23, 1, .iconst 1, 0, nI 1, []), (24, 3, .if_icmp .ne 7, 31, 0, []), (27, 1, .iload_n 1, 0, 0, []), (28, 3, .goto 6, 34, 0, []), (31, 1, .iload_n 1, 0, 0, []), (32, 1, .iconst 1, 0, nI 1, []), (33, 1, .iadd, 0, 0, []), (34, 2, .istore 5, 0, 0, []), (36, 2, .iload 5, 0, 0, []), (38, 1, .aload_n 0, 0, 0, []), (39, 3, .getfield 7, 0, 0, []), (42, 1, .iconst 3, 0, nI 3, []), (43, 1, .iaload, 0, 0, []), (44, 3, .if_icmp .ge 71, 115, 0, []), (47, 1, .iload_n 3, 0, 0, []), (48, 2, .iload 5, 0, 0, []), (50, 2, .iload 4, 0, 0, []), (52, 1, .iadd, 0, 0, []), (53, 1, .aload_n 0, 0, 0, []), (54, 3, .invokevirtual 139, 0, 0, []), (57, 3, .if_icmp .ge 46, 103, 0, []), (60, 1, .aload_n 0, 0, 0, []), (61, 3, .getfield 7, 0, 0, []), (64, 3, .sipush 196, 0, nI 196, []), (67, 2, .iload 5, 0, 0, []), (69, 1, .iadd, 0, 0, []), (70, 1, .iaload, 0, 0, []), (71, 1, .aload_n 0, 0, 0, []), (72, 2, .iload 5, 0, 0, []), (74, 2, .iload 4, 0, 0, []), (76, 1, .iadd, 0, 0, []), (77, 1, .aload_n 0, 0, 0, []), (78, 3, .invokevirtual 139, 0, 0, []), (81, 3, .if_icmp .ge 11, 92, 0, []), (84, 2, .iload 5, 0, 0, []), (86, 2, .iload 4, 0, 0, []), (88, 1, .iadd, 0, 0, []), (89, 3, .goto 4, 93, 0, []), (92, 1, .iconst 0, 0, nI 0, []), (93, 3, .invokevirtual 196, 0, 0, []), (96, 3, .if_icmp .ne 7, 103, 0, []), (99, 1, .iconst 1, 0, nI 1, []), (100, 3, .goto 4, 104, 0, []), (103, 1, .iconst 0, 0, nI 0, []), (104, 3, .invokestatic 112, 0, 0, []), (107, 1, .iadd, 0, 0, []), (108, 1, .istore_n 3, 0, 0, []), (109, 3, .iinc 5 1, 0, nI 1, []), (112, 3, .goto (-76), 36, 0, []), (115, 1, .iload_n 3, 0, 0, []), (116, 1, .ireturn, 0, 0, [])]
set_option maxRecDepth 20000 in
theorem kX10_asTold : okE mX10_asTold.2.1 eX10_asTold := by unfold okE; decide +kernel
def eX10_kindOf : List En := [(0, 1, .iconst 0, 0, nI 0, []), (1, 1, .istore_n 2, 0, 0, []), (2, 1, .iconst 1, 0, nI 1, []), (3, 1, .istore_n 3, 0, 0, []), (4, 1, .iload_n 3, 0, 0, []), (5, 1, .iconst 3, 0, nI 3, []), (6, 3, .if_icmp .ge 30, 36, 0, []), (9, 1, .aload_n 0, 0, 0, []), (10, 1, .iload_n 1, 0, 0, []), (11, 1, .iload_n 3, 0, 0, []), (12, 3, .invokevirtual 199, 0, 0, []), (15, 1, .aload_n 0, 0, 0, []), (16, 1, .iload_n 1, 0, 0, []), (17, 1, .iload_n 2, 0, 0, []), (18, 3, .invokevirtual 199, 0, 0, []), (21, 3, .if_icmp .le 7, 28, 0, []), (24, 1, .iload_n 3, 0, 0, []), (25, 3, .goto 4, 29, 0, []), (28, 1, .iload_n 2, 0, 0, []), (29, 1, .istore_n 2, 0, 0, []), (30, 3, .iinc 3 1, 0, nI 1, []), (33, 3, .goto (-29), 4, 0, []), (36, 1, .iload_n 2, 0, 0, []), (37, 1, .ireturn, 0, 0, [])]
set_option maxRecDepth 20000 in
theorem kX10_kindOf : okE mX10_kindOf.2.1 eX10_kindOf := by unfold okE; decide +kernel
def eX10_mistake : List En := [(0, 1, .iload_n 1, 0, 0, []), (1, 1, .i2l, 0, 0, []), (2, 1, .lconst 0, 0, 0, []), (3, 3, .ldc2_w 202, 0, 0, []), (6, 3, .invokestatic 43, 0, 0, []), (9, 3, .ifCond .ne 5, 14, 0, []), (12, 1, .iconst (-1), 0, -nI 1, []), (13, 1, .ireturn, 0, 0, []), (14, 1, .aload_n 0, 0, 0, []), (15, 3, .invokevirtual 204, 0, 0, []), (18, 1, .istore_n 2, 0, 0, []), (19, 1, .iload_n 2, 0, 0, []), (20, 2, .bipush (-4), 0, -nI 4, []), (22, 3, .if_icmp .ne 6, 28, 0, []), (25, 2, .bipush (-4), 0, -nI 4, []), (27, 1, .ireturn, 0, 0, []), (28, 1, .iload_n 1, 0, 0, []), (29, 39, .tableswitch 82 0 5 #[39, 41, 50, 59, 65, 71], 111, 0, [68, 70, 79, 88, 94, 100]), (68, 1, .iload_n 2, 0, 0, []), (69, 1, .ireturn, 0, 0, []), (70, 1, .iload_n 2, 0, 0, []), (71, 1, .aload_n 0, 0, 0, []), (72, 3, .getfield 7, 0, 0, []), (75, 1, .iconst 1, 0, nI 1, []), (76, 1, .iaload, 0, 0, []), (77, 1, .idiv, 0, 0, []), (78, 1, .ireturn, 0, 0, []), (79, 1, .iload_n 2, 0, 0, []), (80, 1, .aload_n 0, 0, 0, []), (81, 3, .getfield 7, 0, 0, []), (84, 1, .iconst 1, 0, nI 1, []), (85, 1, .iaload, 0, 0, []), (86, 1, .irem, 0, 0, []), (87, 1, .ireturn, 0, 0, []), (88, 1, .aload_n 0, 0, 0, []), (89, 1, .iload_n 2, 0, 0, []), (90, 3, .invokevirtual 196, 0, 0, []), (93, 1, .ireturn, 0, 0, []), (94, 1, .aload_n 0, 0, 0, []), (95, 1, .iload_n 2, 0, 0, []), (96, 3, .invokevirtual 207, 0, 0, []), (99, 1, .ireturn, 0, 0, []), (100, 1, .aload_n 0, 0, 0, []), (101, 1, .iload_n 2, 0, 0, []), (102, 1, .aload_n 0, 0, 0, []), (103, 1, .iload_n 2, 0, 0, []), (104, 3, .invokevirtual 207, 0, 0, []), (107, 3, .invokevirtual 199, 0, 0, []), (110, 1, .ireturn, 0, 0, []), (111, 1, .aload_n 0, 0, 0, []), (112, 3, .getfield 7, 0, 0, []), (115, 1, .iconst 3, 0, nI 3, []), (116, 1, .iaload, 0, 0, []), (117, 1, .iload_n 2, 0, 0, []), (118, 1, .isub, 0, 0, []), (119, 1, .ireturn, 0, 0, [])]
set_option maxRecDepth 20000 in
theorem kX10_mistake : okE mX10_mistake.2.1 eX10_mistake := by unfold okE; decide +kernel
def eX10_paint : List En := [(0, 1, .aload_n 0, 0, 0, []), (1, 1, .iload_n 1, 0, 0, []), (2, 3, .invokevirtual 157, 0, 0, []), (5, 3, .ifCond .eq 28, 33, 0, []), (8, 1, .iload_n 2, 0, 0, []), (9, 1, .i2l, 0, 0, []), (10, 1, .lconst 0, 0, 0, []), (11, 1, .aload_n 0, 0, 0, []), (12, 3, .getfield 7, 0, 0, []), (15, 1, .iconst 1, 0, nI 1, []), (16, 1, .iaload, 0, 0, []), (17, 1, .iconst 1, 0, nI 1, []), (18, 1, .isub, 0, 0, []), (19, 1, .i2l, 0, 0, []), (20, 3, .invokestatic 43, 0, 0, []), (23, 3, .ifCond .eq 10, 33, 0, []), (26, 1, .iload_n 3, 0, 0, []), (27, 3, .invokestatic 160, 0, 0, []), (30, 3, .ifCond .ne 5, 35, 0, []), (33, 1, .iconst (-1), 0, -nI 1, []), (34, 1, .ireturn, 0, 0, []), (35, 1, .aload_n 0, 0, 0, []), (36, 1, .iload_n 1, 0, 0, []), (37, 1, .iload_n 2, 0, 0, []), (38, 3, .invokevirtual 101, 0, 0, []), (41, 2, .istore 4, 0, 0, []), (43, 1, .aload_n 0, 0, 0, []), (44, 3, .getfield 7, 0, 0, []), (47, 1, .iconst 4, 0, nI 4, []), (48, 2, .bipush 16, 0, nI 16, []), (50, 1, .iload_n 1, 0, 0, []), (51, 1, .imul, 0, 0, []), (52, 1, .iadd, 0, 0, []), (53, 1, .iload_n 2, 0, 0, []), (54, 1, .iadd, 0, 0, []), (55, 1, .iload_n 3, 0, 0, []), (56, 1, .iastore, 0, 0, []), (57, 1, .aload_n 0, 0, 0, []), (58, 3, .getfield 7, 0, 0, []), (61, 1, .iconst 3, 0, nI 3, []), (62, 1, .iconst 0, 0, nI 0, []), (63, 1, .iastore, 0, 0, []), (64, 2, .iload 4, 0, 0, []), (66, 1, .ireturn, 0, 0, [])]
set_option maxRecDepth 20000 in
theorem kX10_paint : okE mX10_paint.2.1 eX10_paint := by unfold okE; decide +kernel
def eX10_dye : List En := [(0, 1, .iload_n 1, 0, 0, []), (1, 3, .invokestatic 160, 0, 0, []), (4, 3, .ifCond .eq 10, 14, 0, []), (7, 1, .iload_n 2, 0, 0, []), (8, 3, .invokestatic 160, 0, 0, []), (11, 3, .ifCond .ne 5, 16, 0, []), (14, 1, .iconst (-1), 0, -nI 1, []), (15, 1, .ireturn, 0, 0, []), (16, 1, .aload_n 0, 0, 0, []), (17, 2, .bipush (-4), 0, -nI 4, []), (19, 1, .iload_n 1, 0, 0, []), (20, 3, .invokevirtual 136, 0, 0, []), (23, 1, .istore_n 3, 0, 0, []), (24, 1, .iconst 4, 0, nI 4, []), (25, 2, .istore 4, 0, 0, []), (27, 2, .iload 4, 0, 0, []), (29, 1, .iconst 4, 0, nI 4, []), (30, 2, .bipush 16, 0, nI 16, []), (32, 1, .aload_n 0, 0, 0, []), (33, 3, .getfield 7, 0, 0, []), (36, 1, .iconst 0, 0, nI 0, []), (37, 1, .iaload, 0, 0, []), (38, 1, .imul, 0, 0, []), (39, 1, .iadd, 0, 0, []), (40, 3, .if_icmp .ge 38, 78, 0, []), (43, 1, .aload_n 0, 0, 0, []), (44, 3, .getfield 7, 0, 0, []), (47, 2, .iload 4, 0, 0, []), (49, 1, .aload_n 0, 0, 0, []), (50, 3, .getfield 7, 0, 0, []), (53, 2, .iload 4, 0, 0, []), (55, 1, .iaload, 0, 0, []), (56, 1, .iload_n 1, 0, 0, []), (57, 3, .if_icmp .ne 7, 64, 0, []), (60, 1, .iload_n 2, 0, 0, []), (61, 3, .goto 10, 71, 0, []), (64, 1, .aload_n 0, 0, 0, []), (65, 3, .getfield 7, 0, 0, []), (68, 2, .iload 4, 0, 0, []), (70, 1, .iaload, 0, 0, []), (71, 1, .iastore, 0, 0, []), (72, 3, .iinc 4 1, 0, nI 1, []), (75, 3, .goto (-48), 27, 0, []), (78, 1, .aload_n 0, 0, 0, []), (79, 3, .getfield 7, 0, 0, []), (82, 1, .iconst 3, 0, nI 3, []), (83, 1, .iconst 0, 0, nI 0, []), (84, 1, .iastore, 0, 0, []), (85, 1, .iload_n 3, 0, 0, []), (86, 1, .ireturn, 0, 0, [])]
set_option maxRecDepth 20000 in
theorem kX10_dye : okE mX10_dye.2.1 eX10_dye := by unfold okE; decide +kernel
def eX10_copiesRow : List En := [(0, 1, .iconst 0, 0, nI 0, []), (1, 1, .istore_n 3, 0, 0, []), (2, 1, .iload_n 3, 0, 0, []), (3, 2, .bipush 16, 0, nI 16, []), (5, 3, .if_icmp .ge 35, 40, 0, []), (8, 1, .aload_n 0, 0, 0, []), (9, 3, .getfield 7, 0, 0, []), (12, 1, .iconst 4, 0, nI 4, []), (13, 2, .bipush 16, 0, nI 16, []), (15, 1, .iload_n 2, 0, 0, []), (16, 1, .imul, 0, 0, []), (17, 1, .iadd, 0, 0, []), (18, 1, .iload_n 3, 0, 0, []), (19, 1, .iadd, 0, 0, []), (20, 1, .aload_n 0, 0, 0, []), (21, 3, .getfield 7, 0, 0, []), (24, 1, .iconst 4, 0, nI 4, []), (25, 2, .bipush 16, 0, nI 16, []), (27, 1, .iload_n 1, 0, 0, []), (28, 1, .imul, 0, 0, []), (29, 1, .iadd, 0, 0, []), (30, 1, .iload_n 3, 0, 0, []), (31, 1, .iadd, 0, 0, []), (32, 1, .iaload, 0, 0, []), (33, 1, .iastore, 0, 0, []), (34, 3, .iinc 3 1, 0, nI 1, []), (37, 3, .goto (-35), 2, 0, []), (40, 1, .return_, 0, 0, [])]
set_option maxRecDepth 20000 in
theorem kX10_copiesRow : okE mX10_copiesRow.2.1 eX10_copiesRow := by unfold okE; decide +kernel
def eX10_turns : List En := [(0, 1, .iconst 4, 0, nI 4, []), (1, 2, .bipush 16, 0, nI 16, []), (3, 1, .iload_n 1, 0, 0, []), (4, 1, .imul, 0, 0, []), (5, 1, .iadd, 0, 0, []), (6, 1, .istore_n 2, 0, 0, []), (7, 1, .iconst 0, 0, nI 0, []), (8, 1, .istore_n 3, 0, 0, []), (9, 1, .iload_n 3, 0, 0, []), (10, 1, .aload_n 0, 0, 0, []), (11, 3, .getfield 7, 0, 0, []), (14, 1, .iconst 1, 0, nI 1, []), (15, 1, .iaload, 0, 0, []), (16, 1, .iconst 2, 0, nI 2, []), (17, 1, .idiv, 0, 0, []), (18, 3, .if_icmp .ge 63, 81, 0, []), (21, 1, .aload_n 0, 0, 0, []), (22, 3, .getfield 7, 0, 0, []), (25, 1, .iload_n 2, 0, 0, []), (26, 1, .iload_n 3, 0, 0, []), (27, 1, .iadd, 0, 0, []), (28, 1, .iaload, 0, 0, []), (29, 2, .istore 4, 0, 0, []), (31, 1, .aload_n 0, 0, 0, []), (32, 3, .getfield 7, 0, 0, []), (35, 1, .iload_n 2, 0, 0, []), (36, 1, .iload_n 3, 0, 0, []), (37, 1, .iadd, 0, 0, []), (38, 1, .aload_n 0, 0, 0, []), (39, 3, .getfield 7, 0, 0, []), (42, 1, .iload_n 2, 0, 0, []), (43, 1, .aload_n 0, 0, 0, []), (44, 3, .getfield 7, 0, 0, []), (47, 1, .iconst 1, 0, nI 1, []), (48, 1, .iaload, 0, 0, []), (49, 1, .iadd, 0, 0, []), (50, 1, .iconst 1, 0, nI 1, []), (51, 1, .isub, 0, 0, []), (52, 1, .iload_n 3, 0, 0, []), (53, 1, .isub, 0, 0, []), (54, 1, .iaload, 0, 0, []), (55, 1, .iastore, 0, 0, []), (56, 1, .aload_n 0, 0, 0, []), (57, 3, .getfield 7, 0, 0, []), (60, 1, .iload_n 2, 0, 0, []), (61, 1, .aload_n 0, 0, 0, []), (62, 3, .getfield 7, 0, 0, []), (65, 1, .iconst 1, 0, nI 1, []), (66, 1, .iaload, 0, 0, []), (67, 1, .iadd, 0, 0, []), (68, 1, .iconst 1, 0, nI 1, []), (69, 1, .isub, 0, 0, []), (70, 1, .iload_n 3, 0, 0, []), (71, 1, .isub, 0, 0, []), (72, 2, .iload 4, 0, 0, []), (74, 1, .iastore, 0, 0, []), (75, 3, .iinc 3 1, 0, nI 1, []), (78, 3, .goto (-69), 9, 0, []), (81, 1, .return_, 0, 0, [])]
set_option maxRecDepth 20000 in
theorem kX10_turns : okE mX10_turns.2.1 eX10_turns := by unfold okE; decide +kernel
def eX10_goesOn : List En := [(0, 1, .iconst 4, 0, nI 4, []), (1, 2, .bipush 16, 0, nI 16, []), (3, 1, .iload_n 1, 0, 0, []), (4, 1, .imul, 0, 0, []), (5, 1, .iadd, 0, 0, []), (6, 1, .istore_n 2, 0, 0, []), (7, 1, .aload_n 0, 0, 0, []), (8, 3, .getfield 7, 0, 0, []), (11, 1, .iload_n 2, 0, 0, []), (12, 1, .aload_n 0, 0, 0, []), (13, 3, .getfield 7, 0, 0, []), (16, 1, .iconst 1, 0, nI 1, []), (17, 1, .iaload, 0, 0, []), (18, 1, .iadd, 0, 0, []), (19, 1, .iconst 1, 0, nI 1, []), (20, 1, .isub, 0, 0, []), (21, 1, .iaload, 0, 0, []), (22, 1, .istore_n 3, 0, 0, []), (23, 1, .aload_n 0, 0, 0, []), (24, 3, .getfield 7, 0, 0, []), (27, 1, .iconst 1, 0, nI 1, []), (28, 1, .iaload, 0, 0, []), (29, 1, .iconst 1, 0, nI 1, []), (30, 1, .isub, 0, 0, []), (31, 2, .istore 4, 0, 0, []), (33, 2, .iload 4, 0, 0, []), (35, 3, .ifCond .le 29, 64, 0, []), (38, 1, .aload_n 0, 0, 0, []), (39, 3, .getfield 7, 0, 0, []), (42, 1, .iload_n 2, 0, 0, []), (43, 2, .iload 4, 0, 0, []), (45, 1, .iadd, 0, 0, []), (46, 1, .aload_n 0, 0, 0, []), (47, 3, .getfield 7, 0, 0, []), (50, 1, .iload_n 2, 0, 0, []), (51, 2, .iload 4, 0, 0, []), (53, 1, .iadd, 0, 0, []), (54, 1, .iconst 1, 0, nI 1, []), (55, 1, .isub, 0, 0, []), (56, 1, .iaload, 0, 0, []), (57, 1, .iastore, 0, 0, []), (58, 3, .iinc 4 (-1), 0, -nI 1, []), (61, 3, .goto (-28), 33, 0, []), (64, 1, .aload_n 0, 0, 0, []), (65, 3, .getfield 7, 0, 0, []), (68, 1, .iload_n 2, 0, 0, []), (69, 1, .iload_n 3, 0, 0, []), (70, 1, .iastore, 0, 0, []), (71, 1, .return_, 0, 0, [])]
set_option maxRecDepth 20000 in
theorem kX10_goesOn : okE mX10_goesOn.2.1 eX10_goesOn := by unfold okE; decide +kernel
def eX10_change : List En := [(0, 1, .aload_n 0, 0, 0, []), (1, 1, .iload_n 1, 0, 0, []), (2, 3, .invokevirtual 157, 0, 0, []), (5, 3, .ifCond .eq 15, 20, 0, []), (8, 1, .iload_n 2, 0, 0, []), (9, 1, .i2l, 0, 0, []), (10, 1, .lconst 0, 0, 0, []), (11, 3, .ldc2_w 210, 0, 0, []), (14, 3, .invokestatic 43, 0, 0, []), (17, 3, .ifCond .ne 5, 22, 0, []), (20, 1, .iconst (-1), 0, -nI 1, []), (21, 1, .ireturn, 0, 0, []), (22, 1, .iload_n 2, 0, 0, []), (23, 1, .iconst 3, 0, nI 3, []), (24, 3, .if_icmp .ne 17, 41, 0, []), (27, 1, .aload_n 0, 0, 0, []), (28, 3, .getfield 7, 0, 0, []), (31, 1, .iconst 0, 0, nI 0, []), (32, 1, .iaload, 0, 0, []), (33, 2, .bipush 12, 0, nI 12, []), (35, 3, .if_icmp .ne 6, 41, 0, []), (38, 2, .bipush (-3), 0, -nI 3, []), (40, 1, .ireturn, 0, 0, []), (41, 1, .iload_n 2, 0, 0, []), (42, 26, .tableswitch 83 0 2 #[26, 34, 42], 125, 0, [68, 76, 84]), (68, 1, .aload_n 0, 0, 0, []), (69, 1, .iload_n 1, 0, 0, []), (70, 3, .invokevirtual 212, 0, 0, []), (73, 3, .goto 90, 163, 0, []), (76, 1, .aload_n 0, 0, 0, []), (77, 1, .iload_n 1, 0, 0, []), (78, 3, .invokevirtual 216, 0, 0, []), (81, 3, .goto 82, 163, 0, []), (84, 1, .iload_n 1, 0, 0, []), (85, 1, .iconst 1, 0, nI 1, []), (86, 1, .iadd, 0, 0, []), (87, 1, .istore_n 3, 0, 0, []), (88, 1, .iload_n 3, 0, 0, []), (89, 1, .aload_n 0, 0, 0, []), (90, 3, .getfield 7, 0, 0, []), (93, 1, .iconst 0, 0, nI 0, []), (94, 1, .iaload, 0, 0, []), (95, 3, .if_icmp .ge 17, 112, 0, []), (98, 1, .aload_n 0, 0, 0, []), (99, 1, .iload_n 3, 0, 0, []), (100, 1, .iload_n 3, 0, 0, []), (101, 1, .iconst 1, 0, nI 1, []), (102, 1, .isub, 0, 0, []), (103, 3, .invokevirtual 219, 0, 0, []), (106, 3, .iinc 3 1, 0, nI 1, []), (109, 3, .goto (-21), 88, 0, []), (112, 1, .aload_n 0, 0, 0, []), (113, 3, .getfield 7, 0, 0, []), (116, 1, .iconst 0, 0, nI 0, []), (117, 1, .dup2, 0, 0, []), (118, 1, .iaload, 0, 0, []), (119, 1, .iconst 1, 0, nI 1, []), (120, 1, .isub, 0, 0, []), (121, 1, .iastore, 0, 0, []), (122, 3, .goto 41, 163, 0, []), (125, 1, .aload_n 0, 0, 0, []), (126, 3, .getfield 7, 0, 0, []), (129, 1, .iconst 0, 0, nI 0, []), (130, 1, .iaload, 0, 0, []), (131, 1, .iconst 1, 0, nI 1, []), (132, 1, .isub, 0, 0, []), (133, 1, .istore_n 3, 0, 0, []), (134, 1, .iload_n 3, 0, 0, []), (135, 1, .iload_n 1, 0, 0, []), (136, 3, .if_icmp .lt 17, 153, 0, []), (139, 1, .aload_n 0, 0, 0, []), (140, 1, .iload_n 3, 0, 0, []), (141, 1, .iload_n 3, 0, 0, []), (142, 1, .iconst 1, 0, nI 1, []), (143, 1, .iadd, 0, 0, []), (144, 3, .invokevirtual 219, 0, 0, []), (147, 3, .iinc 3 (-1), 0, -nI 1, []), (150, 3, .goto (-16), 134, 0, []), (153, 1, .aload_n 0, 0, 0, []), (154, 3, .getfield 7, 0, 0, []), (157, 1, .iconst 0, 0, nI 0, []), (158, 1, .dup2, 0, 0, []), (159, 1, .iaload, 0, 0, []), (160, 1, .iconst 1, 0, nI 1, []), (161, 1, .iadd, 0, 0, []), (162, 1, .iastore, 0, 0, []), (163, 1, .aload_n 0, 0, 0, []), (164, 3, .getfield 7, 0, 0, []), (167, 1, .iconst 3, 0, nI 3, []), (168, 1, .iconst 0, 0, nI 0, []), (169, 1, .iastore, 0, 0, []), (170, 1, .aload_n 0, 0, 0, []), (171, 3, .getfield 7, 0, 0, []), (174, 1, .iconst 0, 0, nI 0, []), (175, 1, .iaload, 0, 0, []), (176, 1, .ireturn, 0, 0, [])]
set_option maxRecDepth 20000 in
theorem kX10_change : okE mX10_change.2.1 eX10_change := by unfold okE; decide +kernel
def eX10_swap : List En := [(0, 1, .aload_n 0, 0, 0, []), (1, 1, .iload_n 1, 0, 0, []), (2, 3, .invokevirtual 157, 0, 0, []), (5, 3, .ifCond .eq 11, 16, 0, []), (8, 1, .aload_n 0, 0, 0, []), (9, 1, .iload_n 2, 0, 0, []), (10, 3, .invokevirtual 157, 0, 0, []), (13, 3, .ifCond .ne 5, 18, 0, []), (16, 1, .iconst (-1), 0, -nI 1, []), (17, 1, .ireturn, 0, 0, []), (18, 1, .iconst 1, 0, nI 1, []), (19, 1, .istore_n 3, 0, 0, []), (20, 1, .iconst 0, 0, nI 0, []), (21, 2, .istore 4, 0, 0, []), (23, 2, .iload 4, 0, 0, []), (25, 1, .aload_n 0, 0, 0, []), (26, 3, .getfield 7, 0, 0, []), (29, 1, .iconst 1, 0, nI 1, []), (30, 1, .iaload, 0, 0, []), (31, 3, .if_icmp .ge 77, 108, 0, []), (34, 1, .aload_n 0, 0, 0, []), (35, 1, .iload_n 1, 0, 0, []), (36, 2, .iload 4, 0, 0, []), (38, 3, .invokevirtual 101, 0, 0, []), (41, 2, .istore 5, 0, 0, []), (43, 1, .iload_n 3, 0, 0, []), (44, 3, .ifCond .eq 19, 63, 0, []), (47, 2, .iload 5, 0, 0, []), (49, 1, .aload_n 0, 0, 0, []), (50, 1, .iload_n 2, 0, 0, []), (51, 2, .iload 4, 0, 0, []), (53, 3, .invokevirtual 101, 0, 0, []), (56, 3, .if_icmp .ne 7, 63, 0, []), (59, 1, .iconst 1, 0, nI 1, []), (60, 3, .goto 4, 64, 0, []), (63, 1, .iconst 0, 0, nI 0, []), (64, 1, .istore_n 3, 0, 0, []), (65, 1, .aload_n 0, 0, 0, []), (66, 3, .getfield 7, 0, 0, []), (69, 1, .iconst 4, 0, nI 4, []), (70, 2, .bipush 16, 0, nI 16, []), (72, 1, .iload_n 1, 0, 0, []), (73, 1, .imul, 0, 0, []), (74, 1, .iadd, 0, 0, []), (75, 2, .iload 4, 0, 0, []), (77, 1, .iadd, 0, 0, []), (78, 1, .aload_n 0, 0, 0, []), (79, 1, .iload_n 2, 0, 0, []), (80, 2, .iload 4, 0, 0, []), (82, 3, .invokevirtual 101, 0, 0, []), (85, 1, .iastore, 0, 0, []), (86, 1, .aload_n 0, 0, 0, []), (87, 3, .getfield 7, 0, 0, []), (90, 1, .iconst 4, 0, nI 4, []), (91, 2, .bipush 16, 0, nI 16, []), (93, 1, .iload_n 2, 0, 0, []), (94, 1, .imul, 0, 0, []), (95, 1, .iadd, 0, 0, []), (96, 2, .iload 4, 0, 0, []), (98, 1, .iadd, 0, 0, []), (99, 2, .iload 5, 0, 0, []), (101, 1, .iastore, 0, 0, []), (102, 3, .iinc 4 1, 0, nI 1, []), (105, 3, .goto (-82), 23, 0, []), (108, 1, .aload_n 0, 0, 0, []), (109, 3, .getfield 7, 0, 0, []), (112, 1, .iconst 3, 0, nI 3, []), (113, 1, .iconst 0, 0, nI 0, []), (114, 1, .iastore, 0, 0, []), (115, 1, .iload_n 3, 0, 0, []), (116, 3, .invokestatic 112, 0, 0, []), (119, 1, .ireturn, 0, 0, [])]
set_option maxRecDepth 20000 in
theorem kX10_swap : okE mX10_swap.2.1 eX10_swap := by unfold okE; decide +kernel
def eX10_mode : List En := [(0, 1, .iload_n 1, 0, 0, []), (1, 1, .i2l, 0, 0, []), (2, 1, .lconst 0, 0, 0, []), (3, 1, .lconst 1, 0, 0, []), (4, 3, .invokestatic 43, 0, 0, []), (7, 3, .ifCond .ne 5, 12, 0, []), (10, 1, .iconst (-1), 0, -nI 1, []), (11, 1, .ireturn, 0, 0, []), (12, 1, .aload_n 0, 0, 0, []), (13, 3, .getfield 7, 0, 0, []), (16, 1, .iconst 2, 0, nI 2, []), (17, 1, .iaload, 0, 0, []), (18, 1, .istore_n 2, 0, 0, []), (19, 1, .aload_n 0, 0, 0, []), (20, 3, .getfield 7, 0, 0, []), (23, 1, .iconst 2, 0, nI 2, []), (24, 1, .iload_n 1, 0, 0, []), (25, 1, .iastore, 0, 0, []), (26, 1, .aload_n 0, 0, 0, []), (27, 3, .getfield 7, 0, 0, []), (30, 1, .iconst 3, 0, nI 3, []), (31, 1, .iconst 0, 0, nI 0, []), (32, 1, .iastore, 0, 0, []), (33, 1, .iload_n 2, 0, 0, []), (34, 1, .ireturn, 0, 0, [])]
set_option maxRecDepth 20000 in
theorem kX10_mode : okE mX10_mode.2.1 eX10_mode := by unfold okE; decide +kernel
def eX10_gets : List En := [(0, 1, .aload_n 0, 0, 0, []), (1, 1, .aload_n 0, 0, 0, []), (2, 3, .getfield 223, 0, 0, []), (5, 2, .ldc 226, 0, 0, []), (7, 1, .imul, 0, 0, []), (8, 3, .sipush 12345, 0, nI 12345, []), (11, 1, .iadd, 0, 0, []), (12, 3, .putfield 223, 0, 0, []), (15, 1, .aload_n 0, 0, 0, []), (16, 3, .getfield 223, 0, 0, []), (19, 2, .bipush 16, 0, nI 16, []), (21, 1, .ishr, 0, 0, []), (22, 3, .sipush 32767, 0, nI 32767, []), (25, 1, .iand, 0, 0, []), (26, 1, .ireturn, 0, 0, [])]
set_option maxRecDepth 20000 in
theorem kX10_gets : okE mX10_gets.2.1 eX10_gets := by unfold okE; decide +kernel
def eX10_drawsRow : List En := [(0, 1, .iconst 4, 0, nI 4, []), (1, 2, .bipush 16, 0, nI 16, []), (3, 1, .iload_n 1, 0, 0, []), (4, 1, .imul, 0, 0, []), (5, 1, .iadd, 0, 0, []), (6, 2, .istore 4, 0, 0, []), (8, 1, .aload_n 0, 0, 0, []), (9, 3, .invokevirtual 227, 0, 0, []), (12, 1, .iconst 4, 0, nI 4, []), (13, 1, .irem, 0, 0, []), (14, 2, .istore 5, 0, 0, []), (16, 2, .iload 5, 0, 0, []), (18, 3, .ifCond .ne 19, 37, 0, []), (21, 1, .iload_n 1, 0, 0, []), (22, 3, .ifCond .le 15, 37, 0, []), (25, 1, .aload_n 0, 0, 0, []), (26, 1, .aload_n 0, 0, 0, []), (27, 3, .invokevirtual 227, 0, 0, []), (30, 1, .iload_n 1, 0, 0, []), (31, 1, .irem, 0, 0, []), (32, 1, .iload_n 1, 0, 0, []), (33, 3, .invokevirtual 219, 0, 0, []), (36, 1, .return_, 0, 0, []), (37, 2, .iload 5, 0, 0, []), (39, 1, .iconst 1, 0, nI 1, []), (40, 3, .if_icmp .ne 14, 54, 0, []), (43, 1, .aload_n 0, 0, 0, []), (44, 3, .invokevirtual 227, 0, 0, []), (47, 1, .iload_n 2, 0, 0, []), (48, 1, .irem, 0, 0, []), (49, 1, .iconst 1, 0, nI 1, []), (50, 1, .iadd, 0, 0, []), (51, 3, .goto 4, 55, 0, []), (54, 1, .iload_n 2, 0, 0, []), (55, 2, .istore 6, 0, 0, []), (57, 1, .iconst 0, 0, nI 0, []), (58, 2, .istore 7, 0, 0, []), (60, 2, .iload 7, 0, 0, []), (62, 1, .iload_n 2, 0, 0, []), (63, 3, .if_icmp .ge 48, 111, 0, []), (66, 1, .aload_n 0, 0, 0, []), (67, 3, .getfield 7, 0, 0, []), (70, 2, .iload 4, 0, 0, []), (72, 2, .iload 7, 0, 0, []), (74, 1, .iadd, 0, 0, []), (75, 2, .iload 7, 0, 0, []), (77, 2, .iload 6, 0, 0, []), (79, 3, .if_icmp .ge 12, 91, 0, []), (82, 1, .aload_n 0, 0, 0, []), (83, 3, .invokevirtual 227, 0, 0, []), (86, 1, .iload_n 3, 0, 0, []), (87, 1, .irem, 0, 0, []), (88, 3, .goto 16, 104, 0, []), (91, 1, .aload_n 0, 0, 0, []), (92, 3, .getfield 7, 0, 0, []), (95, 2, .iload 4, 0, 0, []), (97, 2, .iload 7, 0, 0, []), (99, 1, .iadd, 0, 0, []), (100, 2, .iload 6, 0, 0, []), (102, 1, .isub, 0, 0, []), (103, 1, .iaload, 0, 0, []), (104, 1, .iastore, 0, 0, []), (105, 3, .iinc 7 1, 0, nI 1, []), (108, 3, .goto (-48), 60, 0, []), (111, 1, .return_, 0, 0, [])]
set_option maxRecDepth 20000 in
theorem kX10_drawsRow : okE mX10_drawsRow.2.1 eX10_drawsRow := by unfold okE; decide +kernel
def eX10_draw : List En := [(0, 1, .iload_n 2, 0, 0, []), (1, 1, .i2l, 0, 0, []), (2, 1, .lconst 1, 0, 0, []), (3, 3, .ldc2_w 230, 0, 0, []), (6, 3, .invokestatic 43, 0, 0, []), (9, 3, .ifCond .eq 28, 37, 0, []), (12, 1, .iload_n 3, 0, 0, []), (13, 1, .i2l, 0, 0, []), (14, 1, .lconst 1, 0, 0, []), (15, 3, .ldc2_w 176, 0, 0, []), (18, 3, .invokestatic 43, 0, 0, []), (21, 3, .ifCond .eq 16, 37, 0, []), (24, 2, .iload 4, 0, 0, []), (26, 1, .i2l, 0, 0, []), (27, 1, .lconst 1, 0, 0, []), (28, 3, .ldc2_w 202, 0, 0, []), (31, 3, .invokestatic 43, 0, 0, []), (34, 3, .ifCond .ne 5, 39, 0, []), (37, 1, .iconst (-1), 0, -nI 1, []), (38, 1, .ireturn, 0, 0, []), (39, 1, .aload_n 0, 0, 0, []), (40, 1, .iload_n 1, 0, 0, []), (41, 3, .putfield 223, 0, 0, []), (44, 1, .aload_n 0, 0, 0, []), (45, 3, .getfield 7, 0, 0, []), (48, 1, .iconst 0, 0, nI 0, []), (49, 1, .iload_n 2, 0, 0, []), (50, 1, .iastore, 0, 0, []), (51, 1, .aload_n 0, 0, 0, []), (52, 3, .getfield 7, 0, 0, []), (55, 1, .iconst 1, 0, nI 1, []), (56, 1, .iload_n 3, 0, 0, []), (57, 1, .iastore, 0, 0, []), (58, 1, .aload_n 0, 0, 0, []), (59, 3, .getfield 7, 0, 0, []), (62, 1, .iconst 3, 0, nI 3, []), (63, 1, .iconst 0, 0, nI 0, []), (64, 1, .iastore, 0, 0, []), (65, 1, .iconst 0, 0, nI 0, []), (66, 2, .istore 5, 0, 0, []), (68, 2, .iload 5, 0, 0, []), (70, 1, .iload_n 2, 0, 0, []), (71, 3, .if_icmp .ge 18, 89, 0, []), (74, 1, .aload_n 0, 0, 0, []), (75, 2, .iload 5, 0, 0, []), (77, 1, .iload_n 3, 0, 0, []), (78, 2, .iload 4, 0, 0, []), (80, 3, .invokevirtual 232, 0, 0, []), (83, 3, .iinc 5 1, 0, nI 1, []), (86, 3, .goto (-18), 68, 0, []), (89, 1, .aload_n 0, 0, 0, []), (90, 3, .invokevirtual 139, 0, 0, []), (93, 1, .ireturn, 0, 0, [])]
set_option maxRecDepth 20000 in
theorem kX10_draw : okE mX10_draw.2.1 eX10_draw := by unfold okE; decide +kernel
def eX10_keep : List En := [(0, 1, .iload_n 1, 0, 0, []), (1, 1, .i2l, 0, 0, []), (2, 1, .lconst 0, 0, 0, []), (3, 1, .lconst 1, 0, 0, []), (4, 3, .invokestatic 43, 0, 0, []), (7, 3, .ifCond .ne 5, 12, 0, []), (10, 1, .iconst (-1), 0, -nI 1, []), (11, 1, .ireturn, 0, 0, []), (12, 1, .aload_n 0, 0, 0, []), (13, 3, .getfield 19, 0, 0, []), (16, 1, .iload_n 1, 0, 0, []), (17, 1, .baload, 0, 0, []), (18, 3, .invokestatic 112, 0, 0, []), (21, 1, .istore_n 2, 0, 0, []), (22, 1, .aload_n 0, 0, 0, []), (23, 3, .getfield 19, 0, 0, []), (26, 1, .iload_n 1, 0, 0, []), (27, 1, .iconst 1, 0, nI 1, []), (28, 1, .bastore, 0, 0, []), (29, 1, .iconst 0, 0, nI 0, []), (30, 1, .istore_n 3, 0, 0, []), (31, 1, .iload_n 3, 0, 0, []), (32, 3, .sipush 388, 0, nI 388, []), (35, 3, .if_icmp .ge 27, 62, 0, []), (38, 1, .aload_n 0, 0, 0, []), (39, 3, .getfield 16, 0, 0, []), (42, 3, .sipush 388, 0, nI 388, []), (45, 1, .iload_n 1, 0, 0, []), (46, 1, .imul, 0, 0, []), (47, 1, .iload_n 3, 0, 0, []), (48, 1, .iadd, 0, 0, []), (49, 1, .aload_n 0, 0, 0, []), (50, 3, .getfield 7, 0, 0, []), (53, 1, .iload_n 3, 0, 0, []), (54, 1, .iaload, 0, 0, []), (55, 1, .iastore, 0, 0, []), (56, 3, .iinc 3 1, 0, nI 1, []), (59, 3, .goto (-28), 31, 0, []), (62, 1, .iload_n 2, 0, 0, []), (63, 1, .ireturn, 0, 0, [])]
set_option maxRecDepth 20000 in
theorem kX10_keep : okE mX10_keep.2.1 eX10_keep := by unfold okE; decide +kernel
def eX10_back : List En := [(0, 1, .iload_n 1, 0, 0, []), (1, 1, .i2l, 0, 0, []), (2, 1, .lconst 0, 0, 0, []), (3, 1, .lconst 1, 0, 0, []), (4, 3, .invokestatic 43, 0, 0, []), (7, 3, .ifCond .ne 5, 12, 0, []), (10, 1, .iconst (-1), 0, -nI 1, []), (11, 1, .ireturn, 0, 0, []), (12, 1, .aload_n 0, 0, 0, []), (13, 3, .getfield 19, 0, 0, []), (16, 1, .iload_n 1, 0, 0, []), (17, 1, .baload, 0, 0, []), (18, 3, .ifCond .ne 6, 24, 0, []), (21, 2, .bipush (-2), 0, -nI 2, []), (23, 1, .ireturn, 0, 0, []), (24, 1, .iconst 0, 0, nI 0, []), (25, 1, .istore_n 2, 0, 0, []), (26, 1, .iload_n 2, 0, 0, []), (27, 3, .sipush 388, 0, nI 388, []), (30, 3, .if_icmp .ge 27, 57, 0, []), (33, 1, .aload_n 0, 0, 0, []), (34, 3, .getfield 7, 0, 0, []), (37, 1, .iload_n 2, 0, 0, []), (38, 1, .aload_n 0, 0, 0, []), (39, 3, .getfield 16, 0, 0, []), (42, 3, .sipush 388, 0, nI 388, []), (45, 1, .iload_n 1, 0, 0, []), (46, 1, .imul, 0, 0, []), (47, 1, .iload_n 2, 0, 0, []), (48, 1, .iadd, 0, 0, []), (49, 1, .iaload, 0, 0, []), (50, 1, .iastore, 0, 0, []), (51, 3, .iinc 2 1, 0, nI 1, []), (54, 3, .goto (-28), 26, 0, []), (57, 1, .aload_n 0, 0, 0, []), (58, 3, .getfield 7, 0, 0, []), (61, 1, .iconst 0, 0, nI 0, []), (62, 1, .iaload, 0, 0, []), (63, 1, .ireturn, 0, 0, [])]
set_option maxRecDepth 20000 in
theorem kX10_back : okE mX10_back.2.1 eX10_back := by unfold okE; decide +kernel
def eX10_isSheet : List En := [(0, 1, .iload_n 0, 0, 0, []), (1, 1, .i2l, 0, 0, []), (2, 1, .lconst 0, 0, 0, []), (3, 3, .ldc2_w 210, 0, 0, []), (6, 3, .invokestatic 43, 0, 0, []), (9, 3, .ifCond .eq 19, 28, 0, []), (12, 1, .iload_n 1, 0, 0, []), (13, 1, .i2l, 0, 0, []), (14, 1, .lconst 0, 0, 0, []), (15, 3, .ldc2_w 181, 0, 0, []), (18, 3, .invokestatic 43, 0, 0, []), (21, 3, .ifCond .eq 7, 28, 0, []), (24, 1, .iconst 1, 0, nI 1, []), (25, 3, .goto 4, 29, 0, []), (28, 1, .iconst 0, 0, nI 0, []), (29, 1, .ireturn, 0, 0, [])]
set_option maxRecDepth 20000 in
theorem kX10_isSheet : okE mX10_isSheet.2.1 eX10_isSheet := by unfold okE; decide +kernel
def eX10_sheet : List En := [(0, 1, .iload_n 1, 0, 0, []), (1, 1, .iload_n 2, 0, 0, []), (2, 3, .invokestatic 236, 0, 0, []), (5, 3, .ifCond .eq 9, 14, 0, []), (8, 1, .iload_n 3, 0, 0, []), (9, 2, .bipush 32, 0, nI 32, []), (11, 3, .if_icmp .le 5, 16, 0, []), (14, 1, .iconst (-1), 0, -nI 1, []), (15, 1, .ireturn, 0, 0, []), (16, 1, .iload_n 3, 0, 0, []), (17, 3, .ifCond .ge 6, 23, 0, []), (20, 2, .bipush (-14), 0, -nI 14, []), (22, 1, .ireturn, 0, 0, []), (23, 1, .aload_n 0, 0, 0, []), (24, 3, .getfield 32, 0, 0, []), (27, 1, .iload_n 1, 0, 0, []), (28, 1, .iload_n 2, 0, 0, []), (29, 1, .iastore, 0, 0, []), (30, 1, .aload_n 0, 0, 0, []), (31, 3, .getfield 35, 0, 0, []), (34, 1, .iload_n 1, 0, 0, []), (35, 1, .iload_n 3, 0, 0, []), (36, 1, .iastore, 0, 0, []), (37, 1, .iconst 0, 0, nI 0, []), (38, 2, .istore 4, 0, 0, []), (40, 2, .iload 4, 0, 0, []), (42, 2, .bipush 32, 0, nI 32, []), (44, 3, .if_icmp .ge 22, 66, 0, []), (47, 1, .aload_n 0, 0, 0, []), (48, 3, .getfield 38, 0, 0, []), (51, 2, .bipush 32, 0, nI 32, []), (53, 1, .iload_n 1, 0, 0, []), (54, 1, .imul, 0, 0, []), (55, 2, .iload 4, 0, 0, []), (57, 1, .iadd, 0, 0, []), (58, 1, .iconst 0, 0, nI 0, []), (59, 1, .iastore, 0, 0, []), (60, 3, .iinc 4 1, 0, nI 1, []), (63, 3, .goto (-23), 40, 0, []), (66, 1, .iconst 1, 0, nI 1, []), (67, 1, .ireturn, 0, 0, [])]
set_option maxRecDepth 20000 in
theorem kX10_sheet : okE mX10_sheet.2.1 eX10_sheet := by unfold okE; decide +kernel
def eX10_lay : List En := [(0, 1, .iload_n 1, 0, 0, []), (1, 1, .iconst 0, 0, nI 0, []), (2, 3, .invokestatic 236, 0, 0, []), (5, 3, .ifCond .ne 5, 10, 0, []), (8, 1, .iconst (-1), 0, -nI 1, []), (9, 1, .ireturn, 0, 0, []), (10, 1, .aload_n 0, 0, 0, []), (11, 3, .getfield 32, 0, 0, []), (14, 1, .iload_n 1, 0, 0, []), (15, 1, .iaload, 0, 0, []), (16, 2, .bipush (-4), 0, -nI 4, []), (18, 3, .if_icmp .ne 6, 24, 0, []), (21, 2, .bipush (-11), 0, -nI 11, []), (23, 1, .ireturn, 0, 0, []), (24, 1, .iload_n 2, 0, 0, []), (25, 1, .i2l, 0, 0, []), (26, 1, .lconst 0, 0, 0, []), (27, 1, .aload_n 0, 0, 0, []), (28, 3, .getfield 35, 0, 0, []), (31, 1, .iload_n 1, 0, 0, []), (32, 1, .iaload, 0, 0, []), (33, 1, .iconst 1, 0, nI 1, []), (34, 1, .isub, 0, 0, []), (35, 1, .i2l, 0, 0, []), (36, 3, .invokestatic 43, 0, 0, []), (39, 3, .ifCond .ne 6, 45, 0, []), (42, 2, .bipush (-13), 0, -nI 13, []), (44, 1, .ireturn, 0, 0, []), (45, 1, .aload_n 0, 0, 0, []), (46, 3, .getfield 38, 0, 0, []), (49, 2, .bipush 32, 0, nI 32, []), (51, 1, .iload_n 1, 0, 0, []), (52, 1, .imul, 0, 0, []), (53, 1, .iload_n 2, 0, 0, []), (54, 1, .iadd, 0, 0, []), (55, 1, .aload_n 0, 0, 0, []), (56, 3, .getfield 32, 0, 0, []), (59, 1, .iload_n 1, 0, 0, []), (60, 1, .iaload, 0, 0, []), (61, 3, .ifCond .ne 8, 69, 0, []), (64, 1, .iload_n 3, 0, 0, []), (65, 1, .i2b, 0, 0, []), (66, 3, .goto 19, 85, 0, []), (69, 1, .aload_n 0, 0, 0, []), (70, 3, .getfield 32, 0, 0, []), (73, 1, .iload_n 1, 0, 0, []), (74, 1, .iaload, 0, 0, []), (75, 1, .iconst 1, 0, nI 1, []), (76, 3, .if_icmp .ne 8, 84, 0, []), (79, 1, .iload_n 3, 0, 0, []), (80, 1, .i2s, 0, 0, []), (81, 3, .goto 4, 85, 0, []), (84, 1, .iload_n 3, 0, 0, []), (85, 1, .iastore, 0, 0, []), (86, 1, .iconst 1, 0, nI 1, []), (87, 1, .ireturn, 0, 0, [])]
set_option maxRecDepth 20000 in
theorem kX10_lay : okE mX10_lay.2.1 eX10_lay := by unfold okE; decide +kernel
def eX10_run : List En := [(0, 1, .iload_n 1, 0, 0, []), (1, 1, .iload_n 2, 0, 0, []), (2, 3, .invokestatic 236, 0, 0, []), (5, 3, .ifCond .eq 16, 21, 0, []), (8, 2, .iload 4, 0, 0, []), (10, 1, .i2l, 0, 0, []), (11, 1, .lconst 0, 0, 0, []), (12, 3, .ldc2_w 240, 0, 0, []), (15, 3, .invokestatic 43, 0, 0, []), (18, 3, .ifCond .ne 5, 23, 0, []), (21, 1, .iconst (-1), 0, -nI 1, []), (22, 1, .ireturn, 0, 0, []), (23, 1, .iconst 0, 0, nI 0, []), (24, 2, .istore 5, 0, 0, []), (26, 1, .iconst 1, 0, nI 1, []), (27, 2, .istore 6, 0, 0, []), (29, 1, .aload_n 0, 0, 0, []), (30, 1, .iconst 0, 0, nI 0, []), (31, 3, .putfield 242, 0, 0, []), (34, 2, .iload 5, 0, 0, []), (36, 2, .iload 4, 0, 0, []), (38, 3, .if_icmp .ge 119, 157, 0, []), (41, 2, .iload 6, 0, 0, []), (43, 3, .ifCond .eq 114, 157, 0, []), (46, 1, .iload_n 3, 0, 0, []), (47, 1, .i2l, 0, 0, []), (48, 2, .iload 5, 0, 0, []), (50, 1, .i2l, 0, 0, []), (51, 1, .ladd, 0, 0, []), (52, 2, .lstore 7, 0, 0, []), (54, 1, .aload_n 0, 0, 0, []), (55, 1, .aload_n 0, 0, 0, []), (56, 3, .getfield 32, 0, 0, []), (59, 1, .iload_n 1, 0, 0, []), (60, 1, .iaload, 0, 0, []), (61, 2, .bipush (-4), 0, -nI 4, []), (63, 3, .if_icmp .ne 7, 70, 0, []), (66, 1, .iconst 1, 0, nI 1, []), (67, 3, .goto 40, 107, 0, []), (70, 1, .aload_n 0, 0, 0, []), (71, 3, .getfield 32, 0, 0, []), (74, 1, .iload_n 1, 0, 0, []), (75, 1, .iaload, 0, 0, []), (76, 1, .iload_n 2, 0, 0, []), (77, 3, .if_icmp .eq 7, 84, 0, []), (80, 1, .iconst 2, 0, nI 2, []), (81, 3, .goto 26, 107, 0, []), (84, 2, .lload 7, 0, 0, []), (86, 1, .lconst 0, 0, 0, []), (87, 1, .aload_n 0, 0, 0, []), (88, 3, .getfield 35, 0, 0, []), (91, 1, .iload_n 1, 0, 0, []), (92, 1, .iaload, 0, 0, []), (93, 1, .iconst 1, 0, nI 1, []), (94, 1, .isub, 0, 0, []), (95, 1, .i2l, 0, 0, []), (96, 3, .invokestatic 43, 0, 0, []), (99, 3, .ifCond .eq 7, 106, 0, []), (102, 1, .iconst 0, 0, nI 0, []), (103, 3, .goto 4, 107, 0, []), (106, 1, .iconst 3, 0, nI 3, []), (107, 3, .putfield 242, 0, 0, []), (110, 1, .aload_n 0, 0, 0, []), (111, 3, .getfield 242, 0, 0, []), (114, 3, .ifCond .ne 27, 141, 0, []), (117, 1, .aload_n 0, 0, 0, []), (118, 1, .aload_n 0, 0, 0, []), (119, 3, .getfield 38, 0, 0, []), (122, 2, .bipush 32, 0, nI 32, []), (124, 1, .iload_n 1, 0, 0, []), (125, 1, .imul, 0, 0, []), (126, 2, .lload 7, 0, 0, []), (128, 1, .l2i, 0, 0, []), (129, 1, .iadd, 0, 0, []), (130, 1, .iaload, 0, 0, []), (131, 3, .invokevirtual 245, 0, 0, []), (134, 3, .ifCond .le 7, 141, 0, []), (137, 1, .iconst 1, 0, nI 1, []), (138, 3, .goto 4, 142, 0, []), (141, 1, .iconst 0, 0, nI 0, []), (142, 2, .istore 6, 0, 0, []), (144, 2, .iload 5, 0, 0, []), (146, 2, .iload 6, 0, 0, []), (148, 3, .invokestatic 112, 0, 0, []), (151, 1, .iadd, 0, 0, []), (152, 2, .istore 5, 0, 0, []), (154, 3, .goto (-120), 34, 0, []), (157, 2, .iload 5, 0, 0, []), (159, 1, .ireturn, 0, 0, [])]
set_option maxRecDepth 20000 in
theorem kX10_run : okE mX10_run.2.1 eX10_run := by unfold okE; decide +kernel
def eX10_torn : List En := [(0, 1, .aload_n 0, 0, 0, []), (1, 3, .getfield 242, 0, 0, []), (4, 1, .ireturn, 0, 0, [])]
set_option maxRecDepth 20000 in
theorem kX10_torn : okE mX10_torn.2.1 eX10_torn := by unfold okE; decide +kernel
def eX10_count : List En := [(0, 1, .iload_n 1, 0, 0, []), (1, 27, .tableswitch 75 0 2 #[27, 47, 52], 76, 0, [28, 48, 53]), (28, 1, .aload_n 0, 0, 0, []), (29, 3, .getfield 19, 0, 0, []), (32, 1, .iconst 0, 0, nI 0, []), (33, 1, .baload, 0, 0, []), (34, 3, .invokestatic 112, 0, 0, []), (37, 1, .aload_n 0, 0, 0, []), (38, 3, .getfield 19, 0, 0, []), (41, 1, .iconst 1, 0, nI 1, []), (42, 1, .baload, 0, 0, []), (43, 3, .invokestatic 112, 0, 0, []), (46, 1, .iadd, 0, 0, []), (47, 1, .ireturn, 0, 0, []), (48, 1, .aload_n 0, 0, 0, []), (49, 3, .getfield 47, 0, 0, []), (52, 1, .ireturn, 0, 0, []), (53, 1, .aload_n 0, 0, 0, []), (54, 3, .getfield 32, 0, 0, []), (57, 1, .iconst 0, 0, nI 0, []), (58, 1, .iaload, 0, 0, []), (59, 2, .bipush (-4), 0, -nI 4, []), (61, 3, .if_icmp .ne 8, 69, 0, []), (64, 2, .bipush (-4), 0, -nI 4, []), (66, 3, .goto 9, 75, 0, []), (69, 1, .aload_n 0, 0, 0, []), (70, 3, .getfield 35, 0, 0, []), (73, 1, .iconst 0, 0, nI 0, []), (74, 1, .iaload, 0, 0, []), (75, 1, .ireturn, 0, 0, []), (76, 1, .iconst (-1), 0, -nI 1, []), (77, 1, .ireturn, 0, 0, [])]
set_option maxRecDepth 20000 in
theorem kX10_count : okE mX10_count.2.1 eX10_count := by unfold okE; decide +kernel
end
section
/-! the JDK's methods that are reached -/
def mJ0_length : ME := (yJ0_length_8abf5, cJ0_length_8abf5, 1, (some .int), 1)
theorem omJ0_length : okV mJ0_length 0 := ⟨⟨tb2 40 rfl rfl, tb1 12 rfl rfl, ⟨by decide, by decide⟩, by decide, by decide⟩, tb2 38 rfl rfl, tb2 39 rfl rfl, by decide +kernel⟩
def mJ0_charAt : ME := (yJ0_charAt_5068e, cJ0_charAt_5068e, 2, (some .char), 4)
theorem omJ0_charAt : okV mJ0_charAt 1 := ⟨⟨tb2 50 rfl rfl, tb1 12 rfl rfl, ⟨by decide, by decide⟩, by decide, by decide⟩, tb2 48 rfl rfl, tb2 49 rfl rfl, by decide +kernel⟩
def mJ0_coder : ME := (yJ0_coder_7d493, cJ0_coder_7d493, 1, (some .byte), 0)
theorem omJ0_coder : okV mJ0_coder 0 := ⟨⟨tb2 44 rfl rfl, tb1 12 rfl rfl, ⟨by decide, by decide⟩, by decide, by decide⟩, tb2 42 rfl rfl, tb2 43 rfl rfl, by decide +kernel⟩
def mJ0_isLatin1 : ME := (yJ0_isLatin1_aae02, cJ0_isLatin1_aae02, 1, (some .boolean), 0)
theorem omJ0_isLatin1 : okV mJ0_isLatin1 0 := ⟨⟨tb2 54 rfl rfl, tb1 12 rfl rfl, ⟨by decide, by decide⟩, by decide, by decide⟩, tb2 52 rfl rfl, tb2 53 rfl rfl, by decide +kernel⟩
def mJ1_charAt : ME := (yJ1_charAt_3b067, cJ1_charAt_3b067, 2, (some .char), 2)
theorem omJ1_charAt : okT mJ1_charAt 2 := ⟨⟨tb2 57 rfl rfl, tb1 13 rfl rfl, ⟨by decide, by decide⟩, by decide, by decide⟩, tb2 56 rfl rfl, by decide +kernel⟩
def mJ0_checkIndex : ME := (yJ0_checkIndex_df160, cJ0_checkIndex_df160, 2, none, 1)
theorem omJ0_checkIndex : okT mJ0_checkIndex 2 := ⟨⟨tb2 60 rfl rfl, tb1 12 rfl rfl, ⟨by decide, by decide⟩, by decide, by decide⟩, tb2 59 rfl rfl, by decide +kernel⟩
def mJ3_checkIndex : ME := (yJ3_checkIndex_8e157, cJ3_checkIndex_8e157, 3, (some .int), 0)
theorem omJ3_checkIndex : okT mJ3_checkIndex 3 := ⟨⟨tb2 65 rfl rfl, tb1 14 rfl rfl, ⟨by decide, by decide⟩, by decide, by decide⟩, tb2 64 rfl rfl, by decide +kernel⟩
theorem lkRX3_98 : Cond.methodLink RX3 98 yJ0_length_8abf5 ∈ wsG := tb2 37 rfl rfl
theorem lkRX3_102 : Cond.methodLink RX3 102 yJ0_charAt_5068e ∈ wsG := tb2 47 rfl rfl
theorem lkRJ0_335 : Cond.methodLink RJ0 335 yJ0_coder_7d493 ∈ wsG := tb2 41 rfl rfl
theorem lkRJ0_492 : Cond.methodLink RJ0 492 yJ0_isLatin1_aae02 ∈ wsG := tb2 51 rfl rfl
theorem lkRJ0_495 : Cond.methodLink RJ0 495 yJ1_charAt_3b067 ∈ wsG := tb2 55 rfl rfl
theorem lkRJ1_9 : Cond.methodLink RJ1 9 yJ0_checkIndex_df160 ∈ wsG := tb2 58 rfl rfl
theorem lkRJ0_1059 : Cond.methodLink RJ0 1059 yJ3_checkIndex_8e157 ∈ wsG := tb2 63 rfl rfl
theorem flRJ0_9 : Cond.fieldLink RJ0 9 "java/lang/String" "value" "[B" ∈ wsG := tb5 153 rfl rfl
theorem flRJ0_15 : Cond.fieldLink RJ0 15 "java/lang/String" "coder" "B" ∈ wsG := tb5 154 rfl rfl
theorem flRJ0_38 : Cond.fieldLink RJ0 38 "java/lang/String" "COMPACT_STRINGS" "Z" ∈ wsG := tb2 45 rfl rfl
theorem flRJ0_1053 : Cond.fieldLink RJ0 1053 "jdk/internal/util/Preconditions" "SIOOBE_FORMATTER" "Ljava/util/function/BiFunction;" ∈ wsG := tb2 61 rfl rfl

/-! String.length, String.charAt of the String constants -/
section ZJ
variable {g : GG} {M : ME} {N : Nat} {Q : Option AV → AH → Prop} {pc : Nat} {lv : List (Option AV)} {st : List AV} {A : AH}
theorem okS.k {ad : Nat → Nat} {i : Nat} (h : okS g ad) (hi : i < 2) : ad (1000 + i) = g.2.2.2.1 i := by
  have h2 := h i (by omega)
  rcases (show i = 0 ∨ i = 1 by omega) with rfl | rfl
  · exact h2
  · exact h2
theorem okS.v {ad : Nat → Nat} {i : Nat} (h : okS g ad) (hi : i < 2) : ad (1002 + i) = g.2.2.2.2 i := by
  rcases (show i = 0 ∨ i = 1 by omega) with rfl | rfl
  · exact h 2 (by omega)
  · exact h 3 (by omega)
theorem Z_callT {me : ME} {idx n i : Nat} {vs rest : List AV} (hd : decode M.2.1 pc = .ok (.invokevirtual idx, 3)) (hlink : Cond.methodLink M.1.cls idx me.1 ∈ wsG) (ho : okV me n) (hlev : me.2.2.2.2 < M.2.2.2.2) (hi2 : i < 2) (hcl : me.1.cls = RJ0) (hn : vs.length = n) (hcat : cats rest ≤ 8)
    (h : Ev g me (vr (1000 + i) :: vs) A (fun r A' => Z g M N Q (pc + 3) lv (r.toList ++ rest) A')) : Z g M N Q pc lv (vs.reverse ++ vr (1000 + i) :: rest) A := by
  intro ad p e s m args below meth c C H locs ls hP hS hN hl
  obtain ⟨⟨o1, o2, o3, o4, o5⟩, o6, o7, o8⟩ := ho
  have hM := h ad H.size (hN ▸ C.2.2.2.2.2.2.2.2.2.1) C.2.2.2.2.2.2.2.2.2.2
  have hE := C.2.2.2.2.2.2.2.2.1.2.2.1
  have e1 := okS.k C.2.2.2.2.2.2.2.2.2.2 hi2
  have hrecv : ∃ cell : Cell, H[ad (1000 + i)]? = some cell ∧ cell.vm.isStatics = false ∧ s.vm.findClass me.1.cls = some cell.cls := by
    rw [e1, hcl]
    exact vk_recv hE hi2 hS
  have hGV : GoodIn wsG (wsV M.1.cls idx me.1.cls me.1 (wsM me)) := by
    intro w hw
    unfold wsV at hw
    rcases List.mem_append.mp hw with hw | hw
    · simp only [List.mem_cons, List.not_mem_nil, or_false] at hw
      rcases hw with rfl | rfl | rfl | rfl
      · exact good_one hlink
      · exact good_one o6
      · exact good_one o7
      · exact good_one o2
    · exact good_M o1 w hw
  have hr := va_runV (p := p) (e := e) (below := below) (meth := meth) (locs := locs) (cells := 0) (slots := 0) (H := H) (R := rmL M.2.2.2.2) (g := F0 m pc ls ((vs.reverse ++ vr (1000 + i) :: rest).map (cv ad))) (As := vs.map (cv ad)) (rest := rest.map (cv ad)) (b := ad (1000 + i)) (nL := M.2.2.1)
    (S := (⟨C.1, C.2.1, C.2.2.2.1, C.2.2.2.2.1, C.2.2.2.2.2.1⟩ : CallFix p m c M.2.1 M.2.2.1 s args wsG M.1.cls)) hM (cwV n C.2.2.2.2.2.1 hGV rfl rfl rfl ⟨rfl, o3.1, o3.2, o8⟩ (rm_ok hlev o4)) ⟨PcE_blind, hrecv, Z_pre (me := me) ad C hP hS hN⟩ rfl (by rw [List.length_map]; exact hn) hl.1 (by simp [List.map_append, List.map_reverse, cv]) (lv_room (by rw [cats_ok]; exact hcat)) hd ⟨Nat.le_refl _, Nat.le_refl _⟩
  exact Z_after (me := me) (vs := vs) ad C hS hN hl hr
theorem good_X {me : ME} {own : String} {idx : Nat} (hlink : Cond.methodLink own idx me.1 ∈ wsG) (ho : okM me) (o6 : Cond.static me.1 ∈ wsG) : GoodIn wsG (va_wsS own idx me.1 (wsM me)) := by
  intro w hw
  unfold va_wsS at hw
  rcases List.mem_append.mp hw with hw | hw
  · simp only [List.mem_cons, List.not_mem_nil, or_false] at hw
    rcases hw with rfl | rfl | rfl
    · exact good_one hlink
    · exact good_one o6
    · exact good_one ho.2.1
  · exact good_M ho.1 w hw
/-- a static method of any class -/
theorem Z_callX {me : ME} {idx n : Nat} {vs rest : List AV} (hd : decode M.2.1 pc = .ok (.invokestatic idx, 3)) (hlink : Cond.methodLink M.1.cls idx me.1 ∈ wsG) (ho : okT me n) (hlev : me.2.2.2.2 < M.2.2.2.2) (hn : vs.length = n) (hcat : cats rest ≤ 8)
    (h : Ev g me vs A (fun r A' => Z g M N Q (pc + 3) lv (r.toList ++ rest) A')) : Z g M N Q pc lv (vs.reverse ++ rest) A := by
  intro ad p e s m args below meth c C H locs ls hP hS hN hl
  have hG := good_X hlink ho.1 ho.2.1
  obtain ⟨⟨o1, o2, o3, o4, o5⟩, o6, o8⟩ := ho
  have hM := h ad H.size (hN ▸ C.2.2.2.2.2.2.2.2.2.1) C.2.2.2.2.2.2.2.2.2.2
  have hr := va_runS (p := p) (e := e) (below := below) (meth := meth) (locs := locs) (cells := 0) (slots := 0) (H := H) (R := rmL M.2.2.2.2) (g := F0 m pc ls ((vs.reverse ++ rest).map (cv ad))) (As := vs.map (cv ad)) (rest := rest.map (cv ad)) (nL := M.2.2.1)
    (S := (⟨C.1, C.2.1, C.2.2.2.1, C.2.2.2.2.1, C.2.2.2.2.2.1⟩ : CallFix p m c M.2.1 M.2.2.1 s args wsG M.1.cls)) hM (va_cwS n C.2.2.2.2.2.1 hG rfl rfl rfl ⟨o3.1, o3.2, o8⟩ (rm_ok hlev o4)) ⟨PcE_blind, Z_pre (me := me) ad C hP hS hN⟩ rfl (by rw [List.length_map]; exact hn) hl.1 (by simp [List.map_append, List.map_reverse]) (lv_room (by rw [cats_ok]; exact hcat)) hd ⟨Nat.le_refl _, Nat.le_refl _⟩
  exact Z_after (me := me) (vs := vs) ad C hS hN hl hr
theorem Z_strval {i : Nat} (hi : i < 2) (hc : M.1.cls = RJ0) (hd : decode M.2.1 pc = .ok (.getfield 9, 3)) (kk : Z g M N Q (pc + 3) lv (vr (1002 + i) :: st) A) : Z g M N Q pc lv (vr (1000 + i) :: st) A := by
  intro ad p e s m args below meth c C H locs ls hP hS hN hl
  have hE := C.2.2.2.2.2.2.2.2.1.2.2.1.1 i hi
  have e1 := okS.k C.2.2.2.2.2.2.2.2.2.2 hi
  have e2 := okS.v C.2.2.2.2.2.2.2.2.2.2 hi
  have k := kk ad p e s m args below meth c C H locs ls hP hS hN hl
  have ho := C.2.2.2.2.1
  rw [hc] at ho
  have hw := C.2.2.2.2.2.1 _ flRJ0_9
  show W _ _ _ _ _ _ _ _ _ _ _ _ _ _ _ (F0 m pc ls (.ref (ad (1000 + i)) :: st.map (cv ad)))
  rw [e1]
  refine vk_getf C.1 C.2.1 hE.2.2.1 hS ho hw (fun x h => h) hd ?_
  rw [← e2]
  exact k
theorem Z_strcod {i : Nat} (hi : i < 2) (hc : M.1.cls = RJ0) (hd : decode M.2.1 pc = .ok (.getfield 15, 3)) (kk : Z g M N Q (pc + 3) lv (vi 0 :: st) A) : Z g M N Q pc lv (vr (1000 + i) :: st) A := by
  intro ad p e s m args below meth c C H locs ls hP hS hN hl
  have hE := C.2.2.2.2.2.2.2.2.1.2.2.1.1 i hi
  have e1 := okS.k C.2.2.2.2.2.2.2.2.2.2 hi
  have k := kk ad p e s m args below meth c C H locs ls hP hS hN hl
  have ho := C.2.2.2.2.1
  rw [hc] at ho
  have hw := C.2.2.2.2.2.1 _ flRJ0_15
  show W _ _ _ _ _ _ _ _ _ _ _ _ _ _ _ (F0 m pc ls (.ref (ad (1000 + i)) :: st.map (cv ad)))
  rw [e1]
  exact vk_getf C.1 C.2.1 hE.2.1 hS ho hw (fun x h => h) hd k
theorem Z_strlen {i : Nat} (hi : i < 2) (hd : decode M.2.1 pc = .ok (.arraylength, 1)) (kk : Z g M N Q (pc + 1) lv (vi (nI 3) :: st) A) : Z g M N Q pc lv (vr (1002 + i) :: st) A := by
  intro ad p e s m args below meth c C H locs ls hP hS hN hl
  have hE := C.2.2.2.2.2.2.2.2.1.2.2.1.1 i hi
  have e2 := okS.v C.2.2.2.2.2.2.2.2.2.2 hi
  have k := kk ad p e s m args below meth c C H locs ls hP hS hN hl
  show W _ _ _ _ _ _ _ _ _ _ _ _ _ _ _ (F0 m pc ls (.ref (ad (1002 + i)) :: st.map (cv ad)))
  rw [e2]
  refine va_tlen C.1 C.2.1 hE.2.2.2 hS (v := nI 3) ?_ hd k
  rcases (show i = 0 ∨ i = 1 by omega) with rfl | rfl <;> rfl
theorem Z_strb {i j : Nat} (hi : i < 2) (hj : j < 3) (hd : decode M.2.1 pc = .ok (.baload, 1)) (kk : Z g M N Q (pc + 1) lv (vi ((([[114, 111, 119], [102, 114, 111]] : List (List Int32)).getD i []).getD j 0) :: st) A) : Z g M N Q pc lv (vi (nI j) :: vr (1002 + i) :: st) A := by
  intro ad p e s m args below meth c C H locs ls hP hS hN hl
  have hE := C.2.2.2.2.2.2.2.2.1.2.2.1.1 i hi
  have e2 := okS.v C.2.2.2.2.2.2.2.2.2.2 hi
  have k := kk ad p e s m args below meth c C H locs ls hP hS hN hl
  show W _ _ _ _ _ _ _ _ _ _ _ _ _ _ _ (F0 m pc ls (.int (nI j) :: .ref (ad (1002 + i)) :: st.map (cv ad)))
  rw [e2]
  have hlen : j < ([3, 3] : List Nat).getD i 0 := by
    rcases (show i = 0 ∨ i = 1 by omega) with rfl | rfl <;> exact hj
  have hb : ([3, 3] : List Nat).getD i 0 < 2 ^ 31 := by
    rcases (show i = 0 ∨ i = 1 by omega) with rfl | rfl <;> decide
  exact va_tb C.1 C.2.1 hE.2.2.2 hS (vp_in_nI hlen hb) (by rw [nI_clamp (by omega)]; rfl) hd k
theorem Z_gcs (hc : M.1.cls = RJ0) (hd : decode M.2.1 pc = .ok (.getstatic 38, 3)) (kk : Z g M N Q (pc + 3) lv (vi 1 :: st) A) : Z g M N Q pc lv st A := by
  intro ad p e s m args below meth c C H locs ls hP hS hN hl
  have hE := C.2.2.2.2.2.2.2.2.1.2.2.2.1
  have k := kk ad p e s m args below meth c C H locs ls hP hS hN hl
  have ho := C.2.2.2.2.1
  rw [hc] at ho
  have hw := C.2.2.2.2.2.1 _ flRJ0_38
  exact va_gets C.1 C.2.1 hE hS ho hw (fun x h => h) hd k
theorem Z_i2c {x y : Int32} (hd : decode M.2.1 pc = .ok (.i2c, 1)) (hv : (x.toUInt32 % 65536).toInt32 = y) (k : Z g M N Q (pc + 1) lv (vi y :: st) A) : Z g M N Q pc lv (vi x :: st) A := by
  intro ad p e s m args below meth c C H locs ls hP hS hN hl
  exact lv_i2c C.1 C.2.1 hd hv (k ad p e s m args below meth c C H locs ls hP hS hN hl)
end ZJ
section ZK
variable {g : GG} {A : AH}
theorem c_coder {i : Nat} (hi : i < 2) {Q : Option AV → AH → Prop} (hQ : Q (some (vi 0)) A) : Ev g mJ0_coder [vr (1000 + i)] A Q := by
  refine Ev_of omJ0_coder.1 (Nat.le_of_ble_eq_true rfl) ?_
  show Z g mJ0_coder A.length Q 0 [some (vr (1000 + i))] [] A
  refine Z_gcs rfl (by decide +kernel) ?_
  refine Z_if (t := 13) (by decide +kernel : decode mJ0_coder.2.1 3 = .ok (.ifCond .eq 10, 3)) (by decide) (fun (h : (1 : Int32) = 0) => absurd h (by decide)) (fun _ => ?_)
  refine Z_aload_n (n := 0) (x := 1000 + i) (by decide +kernel) rfl ?_
  refine Z_strcod hi rfl (by decide +kernel) ?_
  refine Z_goto (t := 14) (by decide +kernel : decode mJ0_coder.2.1 10 = .ok (.goto 4, 3)) (by decide) ?_
  exact Z_ireturn (ty := .byte) (by decide +kernel) rfl rfl hQ
theorem c_isLatin1 {i : Nat} (hi : i < 2) {Q : Option AV → AH → Prop} (hQ : Q (some (vi 1)) A) : Ev g mJ0_isLatin1 [vr (1000 + i)] A Q := by
  refine Ev_of omJ0_isLatin1.1 (Nat.le_of_ble_eq_true rfl) ?_
  show Z g mJ0_isLatin1 A.length Q 0 [some (vr (1000 + i))] [] A
  refine Z_gcs rfl (by decide +kernel) ?_
  refine Z_if (t := 17) (by decide +kernel : decode mJ0_isLatin1.2.1 3 = .ok (.ifCond .eq 14, 3)) (by decide) (fun (h : (1 : Int32) = 0) => absurd h (by decide)) (fun _ => ?_)
  refine Z_aload_n (n := 0) (x := 1000 + i) (by decide +kernel) rfl ?_
  refine Z_strcod hi rfl (by decide +kernel) ?_
  refine Z_if (t := 17) (by decide +kernel : decode mJ0_isLatin1.2.1 10 = .ok (.ifCond .ne 7, 3)) (by decide) (fun (h : ¬ (0 : Int32) = 0) => absurd rfl h) (fun _ => ?_)
  refine Z_iconst (x := 1) (by decide +kernel : decode mJ0_isLatin1.2.1 13 = .ok (.iconst 1, 1)) (by decide) ?_
  refine Z_goto (t := 18) (by decide +kernel : decode mJ0_isLatin1.2.1 14 = .ok (.goto 4, 3)) (by decide) ?_
  exact Z_ireturn (ty := .boolean) (by decide +kernel) rfl (z01 (Or.inr rfl)).1 hQ
theorem c_length {i : Nat} (hi : i < 2) {Q : Option AV → AH → Prop} (hQ : Q (some (vi (nI 3))) A) : Ev g mJ0_length [vr (1000 + i)] A Q := by
  refine Ev_of omJ0_length.1 (Nat.le_of_ble_eq_true rfl) ?_
  show Z g mJ0_length A.length Q 0 [some (vr (1000 + i))] [] A
  refine Z_aload_n (n := 0) (x := 1000 + i) (by decide +kernel) rfl ?_
  refine Z_strval hi rfl (by decide +kernel) ?_
  refine Z_strlen hi (by decide +kernel) ?_
  refine Z_aload_n (n := 0) (x := 1000 + i) (by decide +kernel) rfl ?_
  refine Z_callT (me := mJ0_coder) (idx := 335) (n := 0) (vs := []) (rest := [vi (nI 3)]) (by decide +kernel) lkRJ0_335 omJ0_coder (by decide) hi rfl rfl (Nat.le_of_ble_eq_true rfl) ?_
  refine c_coder hi ?_
  show Z g mJ0_length A.length Q 9 [some (vr (1000 + i))] [vi 0, vi (nI 3)] A
  refine Z_ishr (by decide +kernel) ?_
  rw [show nI 3 >>> ((0 : Int32) &&& 31) = nI 3 by decide +kernel]
  exact Z_ireturn (ty := .int) (by decide +kernel) rfl rfl hQ
def PcR (g : GG) (ad : Nat → Nat) (sz : Nat) (vs : List Value) (A : AH) : Array Value → State → Prop :=
  va_Pc vs (fun U => U.heap.size = sz ∧ va_P g.2.1 vwCl (wm ad g.2.2.1 A) U.heap ∧ va_K g.2.1 vwCl (tyG g.2.2.1) U ∧ Sx g (AA ad A.length sz) U)
theorem PcR_blind {ad : Nat → Nat} {sz : Nat} {vs : List Value} : FrameBlind (PcR g ad sz vs A) := by
  intro a U g' mk h
  obtain ⟨h0, h1, h2, h3, h4⟩ := h
  exact ⟨h0, h1, h2, va_K.moved (u := U) (U := U.calling g' mk a) (Vm.Alike.refl U.vm) h3, h4.same (U := U.calling g' mk a) rfl rfl⟩
theorem Z_preR {M : ME} {N : Nat} {vs : List Value} (ad : Nat → Nat) {p : Program} {s : State} {m : MethodId} {args : Array Value} {meth : Method} {c : Code} (C : Cx g M N ad p s m args meth c) {H : Heap} {locs : List Loc} (hP : va_P g.2.1 vwCl (wm ad g.2.2.1 A) H) (hS : va_S (AA ad N s.heap.size) s.heap H locs) (hN : A.length = N) :
    ∀ U : State, U.heap = H → s.WarmedH U.vm → PcR g ad H.size vs A vs.toArray U := by
  intro U hU hW
  refine ⟨rfl, by rw [hU], by rw [hU]; exact hP, va_K.moved hW.alike C.2.2.2.2.2.2.2.1, ?_⟩
  rw [hN]
  exact C.2.2.2.2.2.2.2.2.1.go hW (AA_up hS.1) (fun q h1 h2 => by rw [hU]; exact hS.2.1 q h1 h2)
/-- Preconditions.checkIndex, within -/
theorem c_pre {k n : Int32} {v : Value} (hv : v = .null ∨ ∃ t : Nat, v = .ref t) (h0 : ¬ k < 0) (h1 : k < n) {Q : Option AV → AH → Prop} (hQ : Q (some (vi k)) A) (ad : Nat → Nat) (sz : Nat) (hi : inj ad A.length) (hs : okS g ad) :
    Met g.1 mJ3_checkIndex.1 (wsM mJ3_checkIndex) (rmL 0) (PcR g ad sz [.int k, .int n, v] A) (QcE g ad A.length Q) 0 0 (AA ad A.length sz) := by
  have hz : Z g mJ3_checkIndex A.length Q 0 [some (vi k), some (vi n), none] [] A := by
    refine Z_iload_n (n := 0) (x := k) (by decide +kernel) rfl ?_
    refine Z_if (t := 9) (by decide +kernel : decode mJ3_checkIndex.2.1 1 = .ok (.ifCond .lt 8, 3)) (by decide) (fun (h : k < 0) => absurd h h0) (fun _ => ?_)
    refine Z_iload_n (n := 0) (x := k) (by decide +kernel) rfl ?_
    refine Z_iload_n (n := 1) (x := n) (by decide +kernel) rfl ?_
    refine Z_icmp (t := 16) (by decide +kernel : decode mJ3_checkIndex.2.1 6 = .ok (.if_icmp .lt 10, 3)) (by decide) (fun _ => ?_) (fun (h : ¬ k < n) => absurd h1 h)
    refine Z_iload_n (n := 0) (x := k) (by decide +kernel) rfl ?_
    exact Z_ireturn (ty := .int) (by decide +kernel) rfl rfl hQ
  refine Met.ofW (cc := mJ3_checkIndex.2.1) (maxL := 3) (ret := some .int) (by decide) rfl ?_
  intro p e s m args below meth c s₁ B hml hv'
  obtain ⟨rfl, hsz, hP, hK, hX⟩ := hv'
  subst hsz
  have hts := atoms_spec (ws := wsM mJ3_checkIndex) B.pre
  have hcat : v.category = 1 := by
    rcases hv with rfl | ⟨t, rfl⟩ <;> rfl
  have hl := lv_entry [.int k, .int n, v] (n := 3) (by rcases hv with rfl | ⟨t, rfl⟩ <;> exact Nat.le_of_ble_eq_true rfl)
  rw [lg_entry_eq]
  generalize (lg_sl [.int k, .int n, v] ++ List.replicate (3 - (lg_sl [.int k, .int n, v]).length) Slot.unset).toArray = ls at hl ⊢
  refine hz ad p e s m _ below meth c ⟨B.exec, B.bytes, B.returns, hml, findClass_of_methodNamed B.named, fun w hw => hts w (List.mem_cons_of_mem _ hw), B.notSynchronized, hK, hX, hi, hs⟩ s.heap [] ls hP va_S.rf rfl ⟨hl.1, hl.2.1, fun j w hj => ?_⟩
  match j, hj with
  | 0, hj =>
    have : vi k = w := Option.some.inj (Option.some.inj hj)
    subst this
    exact hl.2.2 (0, .int k) (by simp [lv_args])
  | 1, hj =>
    have : vi n = w := Option.some.inj (Option.some.inj hj)
    subst this
    exact hl.2.2 (1, .int n) (by simp [lv_args, Value.category])
  | 2, hj => cases hj
  | j + 3, hj => simp at hj
theorem Z_afterR {M : ME} {N : Nat} {Q : Option AV → AH → Prop} {pc : Nat} {lv : List (Option AV)} {rest : List AV} {st0 : List Value} (ad : Nat → Nat) {p : Program} {e : Env} {s : State} {m : MethodId} {args : Array Value} {below : List Frame} {meth : Method} {c : Code} (C : Cx g M N ad p s m args meth c) {H : Heap} {locs : List Loc} {ls : Array Slot} (hS : va_S (AA ad N s.heap.size) s.heap H locs) (hN : A.length = N) (hl : LV ad ls M.2.2.1 lv) {a : Array Value}
    (hr : va_Run p g.1 e (rmL M.2.2.2.2) s m args below meth c H locs 0 0 0 0 (F0 m pc ls st0) (rest.map (cv ad)) (QcE g ad A.length (fun r A' => Z g M N Q (pc + 3) lv (r.toList ++ rest) A') a) (AA ad A.length H.size)) :
    W p g.1 e (rmL M.2.2.2.2) s m args below meth c H locs 0 0 (MQ below (QcE g ad N Q) args s 0 0 (AA ad N s.heap.size)) (F0 m pc ls st0) := by
  intro T hT X
  obtain ⟨v, st₀, t, T', L, h0, X', hL, e1, e2, ⟨⟨r, A', hv, hz, hlen, hP1⟩, hF⟩, stp⟩ := hr T hT X
  have hv : v = r.map (cv ad) := Outcome.returned.inj hv
  subst hv
  rw [hN] at hL hlen hF
  obtain ⟨hF1, hF2⟩ := hF
  rw [h0] at hF1 hF2
  have hS' : va_S (AA ad N s.heap.size) s.heap T'.heap (locs ++ L) := by
    refine ⟨Nat.le_trans hS.1 (by rw [e1]; exact hF1), fun q h1 h2 => ?_, fun q hq => ?_⟩
    · rw [e1, hF2 q (Nat.lt_of_lt_of_le h1 hS.1) (fun z => h2 (AA_up hS.1 q z))]
      exact hS.2.1 q h1 h2
    · rcases List.mem_append.mp hq with h | h
      · exact hS.2.2 q h
      · exact AA_up hS.1 _ (hL q h)
  obtain ⟨t2, a1, b1⟩ := hz ad p e s m args below meth c C T'.heap (locs ++ L) ls (by rw [e1]; exact hP1) hS' hlen hl T' rfl X'
  refine ⟨t2, stp t2 ?_, b1⟩
  have e9 : (r.toList ++ rest).map (cv ad) = (r.map (cv ad)).toList ++ rest.map (cv ad) := by
    cases r <;> simp
  rw [e9] at a1
  exact a1
theorem c_checkIndex {k n : Int32} (h0 : ¬ k < 0) (h1 : k < n) {Q : Option AV → AH → Prop} (hQ : Q none A) : Ev g mJ0_checkIndex [vi k, vi n] A Q := by
  refine Ev_of omJ0_checkIndex.1 (Nat.le_of_ble_eq_true rfl) ?_
  show Z g mJ0_checkIndex A.length Q 0 [some (vi k), some (vi n)] [] A
  refine Z_iload_n (n := 0) (x := k) (by decide +kernel) rfl ?_
  refine Z_iload_n (n := 1) (x := n) (by decide +kernel) rfl ?_
  have hz : Z g mJ0_checkIndex A.length Q 8 [some (vi k), some (vi n)] [vi k] A := by
    refine Z_pop (by decide +kernel) rfl ?_
    exact Z_return (by decide +kernel) rfl hQ
  intro ad p e s m args below meth c C H locs ls hP hS hN hl
  have hG := good_X (own := RJ0) lkRJ0_1059 omJ3_checkIndex.1 omJ3_checkIndex.2.1
  have key : ∀ v : Value, (v = .null ∨ ∃ t : Nat, v = .ref t) → va_Z RJ3 "SIOOBE_FORMATTER" "Ljava/util/function/BiFunction;" v (AA ad A.length s.heap.size) s s.heap → W p g.1 e (rmL mJ0_checkIndex.2.2.2.2) s m args below meth c H locs 0 0 (MQ below (QcE g ad A.length Q) args s 0 0 (AA ad A.length s.heap.size)) (F0 m 2 ls ([vi n, vi k].map (cv ad))) := by
    intro v hv hZ
    refine va_gets C.1 C.2.1 hZ hS C.2.2.2.2.1 (C.2.2.2.2.2.1 _ flRJ0_1053) (fun x h => h) (by decide +kernel : decode mJ0_checkIndex.2.1 2 = .ok (.getstatic 1053, 3)) ?_
    have hr := va_runS (p := p) (e := e) (below := below) (meth := meth) (locs := locs) (cells := 0) (slots := 0) (H := H) (R := rmL mJ0_checkIndex.2.2.2.2) (g := F0 m 5 ls [v, .int n, .int k]) (As := [.int k, .int n, v]) (rest := []) (nL := mJ0_checkIndex.2.2.1)
      (S := (⟨C.1, C.2.1, C.2.2.2.1, C.2.2.2.2.1, C.2.2.2.2.2.1⟩ : CallFix p m c mJ0_checkIndex.2.1 mJ0_checkIndex.2.2.1 s args wsG mJ0_checkIndex.1.cls)) (c_pre (g := g) (A := A) (n := n) (Q := fun r A' => Z g mJ0_checkIndex A.length Q (5 + 3) [some (vi k), some (vi n)] (r.toList ++ []) A') hv h0 h1 hz ad H.size C.2.2.2.2.2.2.2.2.2.1 C.2.2.2.2.2.2.2.2.2.2) (va_cwS 3 C.2.2.2.2.2.1 hG rfl rfl rfl ⟨by decide, by decide, by decide +kernel⟩ (rm_ok (by decide) (by decide))) ⟨PcR_blind, Z_preR (M := mJ0_checkIndex) ad C hP hS hN⟩ rfl rfl hl.1 rfl (lv_room (Nat.le_of_ble_eq_true rfl)) (show decode mJ0_checkIndex.2.1 5 = .ok (.invokestatic 1059, 3) by decide +kernel) ⟨Nat.le_refl _, Nat.le_refl _⟩
    exact Z_afterR (M := mJ0_checkIndex) (rest := []) ad C hS hN hl hr
  rcases C.2.2.2.2.2.2.2.2.1.2.2.2.2 with hZ | ⟨t, hZ⟩
  · exact key .null (Or.inl rfl) hZ
  · exact key (.ref t) (Or.inr ⟨t, rfl⟩) hZ
/-- the letter j of name i -/
def nmC (i k : Nat) : Int32 := ([[114, 111, 119], [102, 114, 111]].getD i []).getD k 0
theorem nmC_c {i j : Nat} (hi : i < 2) (hj : j < 3) : ((nmC i j &&& 255).toUInt32 % 65536).toInt32 = nmC i j ∧ narrow .char (.int (nmC i j)) = .int (nmC i j) := by
  rcases (show i = 0 ∨ i = 1 by omega) with rfl | rfl <;> rcases (show j = 0 ∨ j = 1 ∨ j = 2 by omega) with rfl | rfl | rfl <;> exact ⟨by decide +kernel, by rfl⟩
theorem c_charAt1 {i j : Nat} (hi : i < 2) (hj : j < 3) {Q : Option AV → AH → Prop} (hQ : Q (some (vi (nmC i j))) A) : Ev g mJ1_charAt [vr (1002 + i), vi (nI j)] A Q := by
  refine Ev_of omJ1_charAt.1 (Nat.le_of_ble_eq_true rfl) ?_
  show Z g mJ1_charAt A.length Q 0 [some (vr (1002 + i)), some (vi (nI j))] [] A
  refine Z_iload_n (n := 1) (x := nI j) (by decide +kernel) rfl ?_
  refine Z_aload_n (n := 0) (x := 1002 + i) (by decide +kernel) rfl ?_
  refine Z_strlen hi (by decide +kernel) ?_
  refine Z_callX (me := mJ0_checkIndex) (idx := 9) (n := 2) (vs := [vi (nI j), vi (nI 3)]) (rest := []) (by decide +kernel) lkRJ1_9 omJ0_checkIndex (by decide) rfl (Nat.le_of_ble_eq_true rfl) ?_
  refine c_checkIndex (nI_pos (by omega)) (nI_lt hj (by omega)) ?_
  show Z g mJ1_charAt A.length Q 6 [some (vr (1002 + i)), some (vi (nI j))] [] A
  refine Z_aload_n (n := 0) (x := 1002 + i) (by decide +kernel) rfl ?_
  refine Z_iload_n (n := 1) (x := nI j) (by decide +kernel) rfl ?_
  refine Z_strb hi hj (by decide +kernel) ?_
  refine Z_sipush (x := 255) (by decide +kernel : decode mJ1_charAt.2.1 9 = .ok (.sipush 255, 3)) (by decide) ?_
  refine Z_iand (by decide +kernel) ?_
  refine Z_i2c (by decide +kernel) (nmC_c hi hj).1 ?_
  exact Z_ireturn (ty := .char) (by decide +kernel) rfl (nmC_c hi hj).2 hQ
theorem c_charAt {i j : Nat} (hi : i < 2) (hj : j < 3) {Q : Option AV → AH → Prop} (hQ : Q (some (vi (nmC i j))) A) : Ev g mJ0_charAt [vr (1000 + i), vi (nI j)] A Q := by
  refine Ev_of omJ0_charAt.1 (Nat.le_of_ble_eq_true rfl) ?_
  show Z g mJ0_charAt A.length Q 0 [some (vr (1000 + i)), some (vi (nI j))] [] A
  refine Z_aload_n (n := 0) (x := 1000 + i) (by decide +kernel) rfl ?_
  refine Z_callT (me := mJ0_isLatin1) (idx := 492) (n := 0) (vs := []) (rest := []) (by decide +kernel) lkRJ0_492 omJ0_isLatin1 (by decide) hi rfl rfl (Nat.le_of_ble_eq_true rfl) ?_
  refine c_isLatin1 hi ?_
  show Z g mJ0_charAt A.length Q 4 [some (vr (1000 + i)), some (vi (nI j))] [vi 1] A
  refine Z_if (t := 16) (by decide +kernel : decode mJ0_charAt.2.1 4 = .ok (.ifCond .eq 12, 3)) (by decide) (fun (h : (1 : Int32) = 0) => absurd h (by decide)) (fun _ => ?_)
  refine Z_aload_n (n := 0) (x := 1000 + i) (by decide +kernel) rfl ?_
  refine Z_strval hi rfl (by decide +kernel) ?_
  refine Z_iload_n (n := 1) (x := nI j) (by decide +kernel) rfl ?_
  refine Z_callX (me := mJ1_charAt) (idx := 495) (n := 2) (vs := [vr (1002 + i), vi (nI j)]) (rest := []) (by decide +kernel) lkRJ0_495 omJ1_charAt (by decide) rfl (Nat.le_of_ble_eq_true rfl) ?_
  refine c_charAt1 hi hj ?_
  show Z g mJ0_charAt A.length Q 15 [some (vr (1000 + i)), some (vi (nI j))] [vi (nmC i j)] A
  exact Z_ireturn (ty := .char) (by decide +kernel) rfl (nmC_c hi hj).2 hQ
end ZK
end
section
/-! contracts that are determined -/
def Dt (g : GG) (me : ME) (vs : List AV) (A : AH) (r : Option AV) (A' : AH) : Prop := Ev g me vs A (fun r' B => r' = r ∧ B = A')
theorem Dt.use {g : GG} {me : ME} {vs : List AV} {A A' : AH} {r : Option AV} {Q : Option AV → AH → Prop} (h : Dt g me vs A r A') (k : Q r A') : Ev g me vs A Q := Ev.mono h (fun r' B _ e => by rw [e.1, e.2]; exact k)
theorem Dt.fr {g : GG} {me : ME} {vs : List AV} {A A' B : AH} {r : Option AV} {Q : Option AV → AH → Prop} (is : List Nat) (h : Dt g me vs A r A') (hnd : va_nd is = true) (hbd : is.length ≤ 1000) (hB : is.map (fun i => B[i]?) = A.map (fun c => some (renC is c))) (k : Q (r.map (renV is)) (put is is A' B)) : Ev g me (vs.map (renV is)) B Q :=
  Ev.fr is h hnd hbd hB (fun r' C _ e => by rw [e.1, e.2]; exact k)
/-! sums, all, the first -/
def sm (f : Nat → Nat) : Nat → Nat → Nat
  | _, 0 => 0
  | c, n + 1 => f c + sm f (c + 1) n
def al (p : Nat → Bool) : Nat → Nat → Bool
  | _, 0 => true
  | c, n + 1 => p c && al p (c + 1) n
def fs1 (p : Nat → Bool) : Nat → Nat → Option Nat
  | _, 0 => none
  | c, n + 1 => if p c then some c else fs1 p (c + 1) n
def fl (b : Bool) : Nat := if b then 1 else 0
theorem sm_le {f : Nat → Nat} {k : Nat} : ∀ (n c : Nat), (∀ i, c ≤ i → i < c + n → f i ≤ k) → sm f c n ≤ k * n := by
  intro n
  induction n with
  | zero => intro c _; simp [sm]
  | succ n ih =>
    intro c h
    have h1 := h c (Nat.le_refl _) (by omega)
    have h2 := ih (c + 1) (fun i a b => h i (by omega) (by omega))
    simp only [sm, Nat.mul_succ]
    omega
theorem nI_a1 (a : Nat) : nI (a + 1) = nI a + nI 1 := (nI_add a 1).symm
theorem fl_le (b : Bool) : fl b ≤ 1 := by cases b <;> decide
/-! the picture -/
def plc (W m r i : Nat) : Nat := if m = 1 ∧ r % 2 = 1 then W - 1 - i else i
theorem plc_lt {W m r i : Nat} (h : i < W) : plc W m r i < W := by unfold plc; split <;> omega
/-- NONE, or a number -/
def oI (o : Option Nat) : Int32 := match o with
  | none => -nI 4
  | some k => nI k
def pW (R W m : Nat) (b : Nat → Int32) : AH := [ob 2 [vr 1, vi (nI R), vi (nI W), vi (nI m)], ar 0 192 b]
section PIC
variable {g : GG} {R W m : Nat} {b : Nat → Int32}
theorem c_size (hR : R ≤ 12) (hW : W ≤ 16) : Dt g mX2_size [vr 0] (pW R W m b) (some (vi (nI (R * W)))) (pW R W m b) := by
  refine Ev_of omX2_size.1 (Nat.le_of_ble_eq_true rfl) ?_
  refine Z_go kX2_size okX2 [] 30 ?_
  refine ⟨?_, rfl⟩
  rw [pk_mul]
def hasRow (R : Nat) (r : Int32) : Bool := decide (¬ r < 0 ∧ r < nI R)
theorem c_hasRow (r : Int32) : Dt g mX2_hasRow [vr 0, vi r] (pW R W m b) (some (vi (nI (fl (hasRow R r))))) (pW R W m b) := by
  refine Ev_of omX2_hasRow.1 (Nat.le_of_ble_eq_true rfl) ?_
  refine Z_go kX2_hasRow okX2 [] 30 ?_
  refine ⟨fun (h : r < 0) => ?_, fun (h : ¬ r < 0) => ⟨fun (h2 : nI R ≤ r) => ?_, fun (h2 : ¬ nI R ≤ r) => ?_⟩⟩
  · refine ⟨Or.inl rfl, ?_, rfl⟩
    simp [hasRow, h, fl]
  · refine ⟨Or.inl rfl, ?_, rfl⟩
    have : ¬ r < nI R := Int32.not_lt.mpr h2
    simp [hasRow, this, fl]
  · refine ⟨Or.inr rfl, ?_, rfl⟩
    have : r < nI R := Int32.not_le.mp h2
    simp [hasRow, this, h, fl]
/-- the beads from the left, in rows -/
def Hd (b : Nat → Int32) (D : Nat → Nat → Int32) (R W : Nat) : Prop := ∀ r c, r < R → c < W → b (r * 16 + c) = D r c
def lnD (D : Nat → Nat → Int32) (W m r i : Nat) : Int32 := D r (plc W m r i)
variable {D : Nat → Nat → Int32}
theorem c_colourAt {r c : Nat} (hb : Hd b D R W) (hR : R ≤ 12) (hW : W ≤ 16) (hr : r < R) (hc : c < W) : Dt g mX2_colourAt [vr 0, vi (nI r), vi (nI c)] (pW R W m b) (some (vi (D r c))) (pW R W m b) := by
  refine Ev_of omX2_colourAt.1 (Nat.le_of_ble_eq_true rfl) ?_
  refine Z_go kX2_colourAt okX2 [] 80 ?_
  have e : nI r * nI 16 + nI c = nI (r * 16 + c) := by rw [pk_mul, nI_add]
  refine ⟨by rw [e]; exact vp_in_nI (by omega) (by omega), ?_, rfl⟩
  rw [e, nI_clamp (by omega), hb r c hr hc]
theorem c_put {r c : Nat} (x : Int32) (hr : r < 12) (hc : c < 16) : Dt g mX2_put [vr 0, vi (nI r), vi (nI c), vi x] (pW R W m b) none (pW R W m (upd b (r * 16 + c) x)) := by
  refine Ev_of omX2_put.1 (Nat.le_of_ble_eq_true rfl) ?_
  refine Z_go kX2_put okX2 [] 30 ?_
  have e : nI r * nI 16 + nI c = nI (r * 16 + c) := by rw [pk_mul, nI_add]
  refine ⟨by rw [e]; exact vp_in_nI (by omega) (by omega), rfl, ?_⟩
  rw [e, nI_clamp (by omega)]
  rfl
theorem c_placeOf {r i : Nat} (hr : r < 12) (hW : W ≤ 16) (hi : i < W) (hm : m ≤ 1) : Dt g mX2_placeOf [vr 0, vi (nI r), vi (nI i)] (pW R W m b) (some (vi (nI (plc W m r i)))) (pW R W m b) := by
  refine Ev_of omX2_placeOf.1 (Nat.le_of_ble_eq_true rfl) ?_
  refine Z_go kX2_placeOf okX2 [] 30 ?_
  have e2 : nI r - nI r / nI 2 * nI 2 = nI (r % 2) := pk_rem (by omega) (by omega) (by omega)
  refine ⟨fun (h : ¬ nI m = nI 1) => ?_, fun (h : ¬ ¬ nI m = nI 1) => ⟨by decide, fun (h2 : ¬ nI r - nI r / nI 2 * nI 2 = nI 1) => ?_, fun (h2 : ¬ ¬ nI r - nI r / nI 2 * nI 2 = nI 1) => ?_⟩⟩
  · refine ⟨?_, rfl⟩
    rw [nI_eq (by omega) (by omega)] at h
    simp [plc, h]
  · refine ⟨?_, rfl⟩
    rw [e2, nI_eq (by omega) (by omega)] at h2
    simp [plc, h2]
  · refine ⟨?_, rfl⟩
    rw [e2, nI_eq (by omega) (by omega)] at h2
    rw [nI_eq (by omega) (by omega)] at h
    rw [pk_sub (by omega), pk_sub (by omega)]
    have h3 : m = 1 := by omega
    have h4 : r % 2 = 1 := by omega
    simp [plc, h3, h4]
theorem c_readAt {r i : Nat} (hb : Hd b D R W) (hR : R ≤ 12) (hW : W ≤ 16) (hr : r < R) (hi : i < W) (hm : m ≤ 1) : Dt g mX2_readAt [vr 0, vi (nI r), vi (nI i)] (pW R W m b) (some (vi (lnD D W m r i))) (pW R W m b) := by
  refine Ev_of omX2_readAt.1 (Nat.le_of_ble_eq_true rfl) ?_
  refine Z_go kX2_readAt okX2 [] 80 ?_
  refine ⟨rfl, (c_placeOf (by omega) hW hi hm).use ?_⟩
  have hp := plc_lt (m := m) (r := r) hi
  have e : nI r * nI 16 + nI (plc W m r i) = nI (r * 16 + plc W m r i) := by rw [pk_mul, nI_add]
  refine ⟨by rw [e]; exact vp_in_nI (by omega) (by omega), ?_, rfl⟩
  rw [e, nI_clamp (by omega), hb r _ hr hp]
  rfl
def manyR (D : Nat → Nat → Int32) (W r : Nat) (x : Int32) : Nat := sm (fun c => fl (decide (D r c = x))) 0 W
theorem manyR_le {W r : Nat} {x : Int32} : manyR D W r x ≤ W := by
  have := sm_le (f := fun c => fl (decide (D r c = x))) (k := 1) W 0 (fun i _ _ => fl_le _)
  unfold manyR; omega
theorem manyIn_loop {r : Nat} {x : Int32} {Q : Option AV → AH → Prop} (hb : Hd b D R W) (hR : R ≤ 12) (hr : r < R) (hW : W ≤ 16) : ∀ (n c s : Nat), c + n = W → Q (some (vi (nI (s + sm (fun c => fl (decide (D r c = x))) c n)))) (pW R W m b) →
    Z g mX2_manyIn 2 Q 5 [some (vr 0), some (vi (nI r)), some (vi x), some (vi (nI s)), some (vi (nI c))] [] (pW R W m b) := by
  intro n
  induction n with
  | zero =>
    intro c s h1 hQ
    refine Z_go kX2_manyIn okX2 [5] 80 ?_
    refine ⟨fun (h : nI W ≤ nI c) => hQ, fun (h : ¬ nI W ≤ nI c) => ?_⟩
    exact absurd (nI_le (by omega) (by omega)) h
  | succ n ih =>
    intro c s h1 hQ
    refine Z_go kX2_manyIn okX2 [5] 80 ?_
    refine ⟨fun (h : nI W ≤ nI c) => ?_, fun (h : ¬ nI W ≤ nI c) => ?_⟩
    · rw [nI_leI (by omega) (by omega)] at h; omega
    · refine ⟨rfl, (c_colourAt hb hR hW hr (by omega)).use ?_⟩
      refine ⟨fun (h3 : ¬ D r c = x) => ?_, fun (h3 : ¬ ¬ D r c = x) => ?_⟩
      · have k := ih (c + 1) s (by omega) (by simpa [sm, fl, h3] using hQ)
        rw [nI_a1 c] at k
        exact k
      · have h3 := Classical.not_not.mp h3
        have k := ih (c + 1) (s + 1) (by omega) (by simpa [sm, fl, h3, Nat.add_assoc] using hQ)
        rw [nI_a1 c, nI_a1 s] at k
        exact k
theorem c_manyIn {r : Nat} (x : Int32) (hb : Hd b D R W) (hR : R ≤ 12) (hr : r < R) (hW : W ≤ 16) : Dt g mX2_manyIn [vr 0, vi (nI r), vi x] (pW R W m b) (some (vi (nI (manyR D W r x)))) (pW R W m b) := by
  refine Ev_of omX2_manyIn.1 (Nat.le_of_ble_eq_true rfl) ?_
  refine Z_go kX2_manyIn okX2 [5] 80 ?_
  refine manyIn_loop hb hR hr hW W 0 0 (by omega) ⟨?_, rfl⟩
  rw [Nat.zero_add]
  rfl
def manyA (D : Nat → Nat → Int32) (R W : Nat) (x : Int32) : Nat := sm (fun r => manyR D W r x) 0 R
theorem manyInAll_loop {x : Int32} {Q : Option AV → AH → Prop} (hb : Hd b D R W) (hR : R ≤ 12) (hW : W ≤ 16) : ∀ (n c s : Nat), c + n = R → Q (some (vi (nI (s + sm (fun r => manyR D W r x) c n)))) (pW R W m b) →
    Z g mX2_manyInAll 2 Q 4 [some (vr 0), some (vi x), some (vi (nI s)), some (vi (nI c))] [] (pW R W m b) := by
  intro n
  induction n with
  | zero =>
    intro c s h1 hQ
    refine Z_go kX2_manyInAll okX2 [4] 80 ?_
    refine ⟨fun (h : nI R ≤ nI c) => hQ, fun (h : ¬ nI R ≤ nI c) => ?_⟩
    exact absurd (nI_le (by omega) (by omega)) h
  | succ n ih =>
    intro c s h1 hQ
    refine Z_go kX2_manyInAll okX2 [4] 80 ?_
    refine ⟨fun (h : nI R ≤ nI c) => ?_, fun (h : ¬ nI R ≤ nI c) => ?_⟩
    · rw [nI_leI (by omega) (by omega)] at h; omega
    · refine ⟨rfl, (c_manyIn x hb hR (by omega) hW).use ?_⟩
      have k := ih (c + 1) (s + manyR D W c x) (by omega) (by simpa [sm, Nat.add_assoc] using hQ)
      rw [nI_a1 c, ← nI_add s] at k
      exact k
theorem c_manyInAll (x : Int32) (hb : Hd b D R W) (hR : R ≤ 12) (hW : W ≤ 16) : Dt g mX2_manyInAll [vr 0, vi x] (pW R W m b) (some (vi (nI (manyA D R W x)))) (pW R W m b) := by
  refine Ev_of omX2_manyInAll.1 (Nat.le_of_ble_eq_true rfl) ?_
  refine Z_go kX2_manyInAll okX2 [4] 80 ?_
  refine manyInAll_loop hb hR hW R 0 0 (by omega) ⟨?_, rfl⟩
  rw [Nat.zero_add]
  rfl
theorem c_hasBead (r c : Int32) : Dt g mX2_hasBead [vr 0, vi r, vi c] (pW R W m b) (some (vi (nI (fl (hasRow R r && hasRow W c))))) (pW R W m b) := by
  refine Ev_of omX2_hasBead.1 (Nat.le_of_ble_eq_true rfl) ?_
  refine Z_go kX2_hasBead okX2 [] 80 ?_
  refine ⟨rfl, (c_hasRow r).use ?_⟩
  cases hh : hasRow R r with
  | false =>
    refine ⟨fun _ => ?_, fun h => ?_⟩
    · exact ⟨Or.inl rfl, rfl, rfl⟩
    · exact absurd (show nI (fl false) = 0 from rfl) h
  | true =>
    refine ⟨fun h => ?_, fun _ => ⟨fun (h : c < 0) => ?_, fun (h : ¬ c < 0) => ⟨fun (h2 : nI W ≤ c) => ?_, fun (h2 : ¬ nI W ≤ c) => ?_⟩⟩⟩
    · exact absurd (show nI 1 = 0 from h) (by decide)
    · refine ⟨Or.inl rfl, ?_, rfl⟩
      simp [hasRow, h, fl]
    · refine ⟨Or.inl rfl, ?_, rfl⟩
      have : ¬ c < nI W := Int32.not_lt.mpr h2
      simp [hasRow, this, fl]
    · refine ⟨Or.inr rfl, ?_, rfl⟩
      have : c < nI W := Int32.not_le.mp h2
      simp [hasRow, this, h, fl]
theorem sameBeads_loop {r s : Nat} {Q : Option AV → AH → Prop} (hb : Hd b D R W) (hR : R ≤ 12) (hW : W ≤ 16) (hr : r < R) (hs : s < R) : ∀ (n c : Nat), c + n = W → Q (some (vi (nI (fl (al (fun c => decide (D r c = D s c)) c n))))) (pW R W m b) →
    Z g mX2_sameBeads 2 Q 2 [some (vr 0), some (vi (nI r)), some (vi (nI s)), some (vi (nI c))] [] (pW R W m b) := by
  intro n
  induction n with
  | zero =>
    intro c h1 hQ
    refine Z_go kX2_sameBeads okX2 [2] 80 ?_
    refine ⟨fun (h : nI W ≤ nI c) => ⟨Or.inr rfl, hQ⟩, fun (h : ¬ nI W ≤ nI c) => ?_⟩
    exact absurd (nI_le (by omega) (by omega)) h
  | succ n ih =>
    intro c h1 hQ
    refine Z_go kX2_sameBeads okX2 [2] 80 ?_
    refine ⟨fun (h : nI W ≤ nI c) => ?_, fun (h : ¬ nI W ≤ nI c) => ?_⟩
    · rw [nI_leI (by omega) (by omega)] at h; omega
    · refine ⟨rfl, (c_colourAt hb hR hW hr (by omega)).use ?_⟩
      refine ⟨rfl, (c_colourAt hb hR hW hs (by omega)).use ?_⟩
      refine ⟨fun (h3 : D r c = D s c) => ?_, fun (h3 : ¬ D r c = D s c) => ⟨Or.inl rfl, ?_⟩⟩
      · have k := ih (c + 1) (by omega) (by simpa [al, h3] using hQ)
        rw [nI_a1 c] at k
        exact k
      · simpa [al, h3, fl] using hQ
theorem c_sameBeads {r s : Nat} (hb : Hd b D R W) (hR : R ≤ 12) (hW : W ≤ 16) (hr : r < R) (hs : s < R) : Dt g mX2_sameBeads [vr 0, vi (nI r), vi (nI s)] (pW R W m b) (some (vi (nI (fl (al (fun c => decide (D r c = D s c)) 0 W))))) (pW R W m b) := by
  refine Ev_of omX2_sameBeads.1 (Nat.le_of_ble_eq_true rfl) ?_
  refine Z_go kX2_sameBeads okX2 [2] 80 ?_
  exact sameBeads_loop hb hR hW hr hs W 0 (by omega) ⟨rfl, rfl⟩
/-- the lines of r and s are the same (s from its end, if t) -/
def smp (L : Nat → Nat → Int32) (W r s : Nat) (t : Bool) (i : Nat) : Bool := decide (L r i = L s (if t then W - 1 - i else i))
def sameL (L : Nat → Nat → Int32) (W r s : Nat) (t : Bool) : Bool := al (smp L W r s t) 0 W
theorem sameLine_loop {r s : Nat} {t : Bool} {Q : Option AV → AH → Prop} (hb : Hd b D R W) (hR : R ≤ 12) (hW : W ≤ 16) (hm : m ≤ 1) (hr : r < R) (hs : s < R) : ∀ (n c : Nat), c + n = W → Q (some (vi (nI (fl (al (smp (lnD D W m) W r s t) c n))))) (pW R W m b) →
    Z g mX2_sameLine 2 Q 3 [some (vr 0), some (vi (nI r)), some (vi (nI s)), some (vi (nI (fl t))), some (vi (nI c))] [] (pW R W m b) := by
  intro n
  induction n with
  | zero =>
    intro c h1 hQ
    refine Z_go kX2_sameLine okX2 [3] 80 ?_
    refine ⟨fun (h : nI W ≤ nI c) => ⟨Or.inr rfl, hQ⟩, fun (h : ¬ nI W ≤ nI c) => ?_⟩
    exact absurd (nI_le (by omega) (by omega)) h
  | succ n ih =>
    intro c h1 hQ
    refine Z_go kX2_sameLine okX2 [3] 80 ?_
    refine ⟨fun (h : nI W ≤ nI c) => ?_, fun (h : ¬ nI W ≤ nI c) => ?_⟩
    · rw [nI_leI (by omega) (by omega)] at h; omega
    · refine ⟨rfl, (c_readAt hb hR hW hr (by omega) hm).use ?_⟩
      cases t with
      | false =>
        refine ⟨fun _ => ?_, fun h => absurd rfl h⟩
        refine ⟨rfl, (c_readAt hb hR hW hs (by omega) hm).use ?_⟩
        refine ⟨fun (h3 : lnD D W m r c = lnD D W m s c) => ?_, fun (h3 : ¬ lnD D W m r c = lnD D W m s c) => ⟨Or.inl rfl, ?_⟩⟩
        · have k := ih (c + 1) (by omega) (by simpa [al, smp, h3] using hQ)
          rw [nI_a1 c] at k
          exact k
        · simpa [al, smp, h3, fl] using hQ
      | true =>
        refine ⟨fun h => absurd (show nI 1 = 0 from h) (by decide), fun _ => ?_⟩
        have e : nI W - nI 1 - nI c = nI (W - 1 - c) := by rw [pk_sub (by omega), pk_sub (by omega)]
        have hc := c_readAt (g := g) (i := W - 1 - c) hb hR hW hs (by omega) hm
        rw [← e] at hc
        refine ⟨rfl, hc.use ?_⟩
        refine ⟨fun (h3 : lnD D W m r c = lnD D W m s (W - 1 - c)) => ?_, fun (h3 : ¬ lnD D W m r c = lnD D W m s (W - 1 - c)) => ⟨Or.inl rfl, ?_⟩⟩
        · have k := ih (c + 1) (by omega) (by simpa [al, smp, h3] using hQ)
          rw [nI_a1 c] at k
          exact k
        · simpa [al, smp, h3, fl] using hQ
theorem c_sameLine {r s : Nat} {t : Bool} (hb : Hd b D R W) (hR : R ≤ 12) (hW : W ≤ 16) (hm : m ≤ 1) (hr : r < R) (hs : s < R) : Dt g mX2_sameLine [vr 0, vi (nI r), vi (nI s), vi (nI (fl t))] (pW R W m b) (some (vi (nI (fl (sameL (lnD D W m) W r s t))))) (pW R W m b) := by
  refine Ev_of omX2_sameLine.1 (Nat.le_of_ble_eq_true rfl) ?_
  refine Z_go kX2_sameLine okX2 [3] 80 ?_
  exact sameLine_loop hb hR hW hm hr hs W 0 (by omega) ⟨rfl, rfl⟩
/-- the first row of n whose line is that of r -/
def likeL (L : Nat → Nat → Int32) (W r n : Nat) (t : Bool) : Option Nat := fs1 (fun s => sameL L W r s t) 0 n
theorem fs1_some {p : Nat → Bool} : ∀ (n c k : Nat), fs1 p c n = some k → c ≤ k ∧ k < c + n ∧ p k = true := by
  intro n
  induction n with
  | zero => intro c k h; cases h
  | succ n ih =>
    intro c k h
    simp only [fs1] at h
    split at h
    · cases h; exact ⟨Nat.le_refl _, by omega, by assumption⟩
    · have := ih _ _ h; exact ⟨by omega, by omega, this.2.2⟩
theorem likeAhead_loop {r : Nat} {t : Bool} {Q : Option AV → AH → Prop} (hb : Hd b D R W) (hR : R ≤ 12) (hW : W ≤ 16) (hm : m ≤ 1) (hr : r < R) : ∀ (n c : Nat), c + n = r → Q (some (vi (oI (fs1 (fun s => sameL (lnD D W m) W r s t) c n)))) (pW R W m b) →
    Z g mX2_likeAhead 2 Q 2 [some (vr 0), some (vi (nI r)), some (vi (nI (fl t))), some (vi (nI c))] [] (pW R W m b) := by
  intro n
  induction n with
  | zero =>
    intro c h1 hQ
    refine Z_go kX2_likeAhead okX2 [2] 80 ?_
    refine ⟨fun (h : nI r ≤ nI c) => hQ, fun (h : ¬ nI r ≤ nI c) => ?_⟩
    exact absurd (nI_le (by omega) (by omega)) h
  | succ n ih =>
    intro c h1 hQ
    refine Z_go kX2_likeAhead okX2 [2] 80 ?_
    refine ⟨fun (h : nI r ≤ nI c) => ?_, fun (h : ¬ nI r ≤ nI c) => ?_⟩
    · rw [nI_leI (by omega) (by omega)] at h; omega
    · refine ⟨rfl, (c_sameLine hb hR hW hm hr (by omega)).use ?_⟩
      cases h3 : sameL (lnD D W m) W r c t with
      | false =>
        refine ⟨fun _ => ?_, fun h => absurd rfl h⟩
        have k := ih (c + 1) (by omega) (by simpa [fs1, h3] using hQ)
        rw [nI_a1 c] at k
        exact k
      | true =>
        refine ⟨fun h => absurd (show nI 1 = 0 from h) (by decide), fun _ => ?_⟩
        show Q (some (vi (nI c))) (pW R W m b)
        simpa [fs1, h3, oI] using hQ
theorem c_likeAhead {r : Nat} {t : Bool} (hb : Hd b D R W) (hR : R ≤ 12) (hW : W ≤ 16) (hm : m ≤ 1) (hr : r < R) : Dt g mX2_likeAhead [vr 0, vi (nI r), vi (nI (fl t))] (pW R W m b) (some (vi (oI (likeL (lnD D W m) W r r t)))) (pW R W m b) := by
  refine Ev_of omX2_likeAhead.1 (Nat.le_of_ble_eq_true rfl) ?_
  refine Z_go kX2_likeAhead okX2 [2] 80 ?_
  exact likeAhead_loop hb hR hW hm hr r 0 (by omega) ⟨rfl, rfl⟩
theorem oI_none {o : Option Nat} (h : ∀ k, o = some k → k < 2 ^ 31) : oI o = -nI 4 ↔ o = none := by
  cases o with
  | none => simp [oI]
  | some k =>
    have hk := h k rfl
    simp only [oI, reduceCtorEq, iff_false]
    intro e
    have e2 := congrArg Int32.toInt e
    rw [nI_toInt hk] at e2
    have : (-nI 4).toInt = -4 := by decide +kernel
    omega
theorem likeL_lt {L : Nat → Nat → Int32} {W r n k : Nat} {t : Bool} (h : likeL L W r n t = some k) : k < n := by
  have := fs1_some _ _ _ h; omega
/-- the first row whose line is that of r, itself at last -/
def firstL (L : Nat → Nat → Int32) (W r : Nat) : Nat := (likeL L W r r false).getD r
theorem c_firstLike {r : Nat} (hb : Hd b D R W) (hR : R ≤ 12) (hW : W ≤ 16) (hm : m ≤ 1) (hr : r < R) : Dt g mX2_firstLike [vr 0, vi (nI r)] (pW R W m b) (some (vi (nI (firstL (lnD D W m) W r)))) (pW R W m b) := by
  refine Ev_of omX2_firstLike.1 (Nat.le_of_ble_eq_true rfl) ?_
  refine Z_go kX2_firstLike okX2 [] 80 ?_
  refine ⟨rfl, (c_likeAhead (t := false) hb hR hW hm hr).use ?_⟩
  have hn := oI_none (o := likeL (lnD D W m) W r r false) (fun k h => by have := likeL_lt h; omega)
  refine ⟨fun (h : ¬ oI (likeL (lnD D W m) W r r false) = -nI 4) => ?_, fun (h : ¬ ¬ oI (likeL (lnD D W m) W r r false) = -nI 4) => ?_⟩
  · refine ⟨?_, rfl⟩
    rw [hn] at h
    unfold firstL
    cases hl : likeL (lnD D W m) W r r false with
    | none => exact absurd hl h
    | some k => rfl
  · refine ⟨?_, rfl⟩
    rw [hn] at h
    have h := Classical.not_not.mp h
    unfold firstL
    rw [h]
    rfl
/-- how many rows have the line of r -/
def likesL (L : Nat → Nat → Int32) (W r R : Nat) : Nat := sm (fun s => fl (sameL L W r s false)) 0 R
theorem manyLike_loop {r : Nat} {Q : Option AV → AH → Prop} (hb : Hd b D R W) (hR : R ≤ 12) (hW : W ≤ 16) (hm : m ≤ 1) (hr : r < R) : ∀ (n c s : Nat), c + n = R → Q (some (vi (nI (s + sm (fun s => fl (sameL (lnD D W m) W r s false)) c n)))) (pW R W m b) →
    Z g mX2_manyLike 2 Q 4 [some (vr 0), some (vi (nI r)), some (vi (nI s)), some (vi (nI c))] [] (pW R W m b) := by
  intro n
  induction n with
  | zero =>
    intro c s h1 hQ
    refine Z_go kX2_manyLike okX2 [4] 80 ?_
    refine ⟨fun (h : nI R ≤ nI c) => hQ, fun (h : ¬ nI R ≤ nI c) => ?_⟩
    exact absurd (nI_le (by omega) (by omega)) h
  | succ n ih =>
    intro c s h1 hQ
    refine Z_go kX2_manyLike okX2 [4] 80 ?_
    refine ⟨fun (h : nI R ≤ nI c) => ?_, fun (h : ¬ nI R ≤ nI c) => ?_⟩
    · rw [nI_leI (by omega) (by omega)] at h; omega
    · refine ⟨rfl, (c_sameLine (t := false) hb hR hW hm hr (by omega)).use ?_⟩
      cases h3 : sameL (lnD D W m) W r c false with
      | false =>
        refine ⟨fun _ => ?_, fun h => absurd rfl h⟩
        have k := ih (c + 1) s (by omega) (by simpa [sm, h3, fl] using hQ)
        rw [nI_a1 c] at k
        exact k
      | true =>
        refine ⟨fun h => absurd (show nI 1 = 0 from h) (by decide), fun _ => ?_⟩
        have k := ih (c + 1) (s + 1) (by omega) (by simpa [sm, h3, fl, Nat.add_assoc] using hQ)
        rw [nI_a1 c, nI_a1 s] at k
        exact k
theorem c_manyLike {r : Nat} (hb : Hd b D R W) (hR : R ≤ 12) (hW : W ≤ 16) (hm : m ≤ 1) (hr : r < R) : Dt g mX2_manyLike [vr 0, vi (nI r)] (pW R W m b) (some (vi (nI (likesL (lnD D W m) W r R)))) (pW R W m b) := by
  refine Ev_of omX2_manyLike.1 (Nat.le_of_ble_eq_true rfl) ?_
  refine Z_go kX2_manyLike okX2 [4] 80 ?_
  refine manyLike_loop hb hR hW hm hr R 0 0 (by omega) ⟨?_, rfl⟩
  rw [Nat.zero_add]
  rfl
/-- lines of which there is no like one ahead -/
def unlikeL (L : Nat → Nat → Int32) (W R : Nat) : Nat := sm (fun r => fl (likeL L W r r false).isNone) 0 R
theorem linesUnlike_loop {Q : Option AV → AH → Prop} (hb : Hd b D R W) (hR : R ≤ 12) (hW : W ≤ 16) (hm : m ≤ 1) : ∀ (n c s : Nat), c + n = R → Q (some (vi (nI (s + sm (fun r => fl (likeL (lnD D W m) W r r false).isNone) c n)))) (pW R W m b) →
    Z g mX2_linesUnlike 2 Q 4 [some (vr 0), some (vi (nI s)), some (vi (nI c))] [] (pW R W m b) := by
  intro n
  induction n with
  | zero =>
    intro c s h1 hQ
    refine Z_go kX2_linesUnlike okX2 [4] 80 ?_
    refine ⟨fun (h : nI R ≤ nI c) => hQ, fun (h : ¬ nI R ≤ nI c) => ?_⟩
    exact absurd (nI_le (by omega) (by omega)) h
  | succ n ih =>
    intro c s h1 hQ
    refine Z_go kX2_linesUnlike okX2 [4] 80 ?_
    refine ⟨fun (h : nI R ≤ nI c) => ?_, fun (h : ¬ nI R ≤ nI c) => ?_⟩
    · rw [nI_leI (by omega) (by omega)] at h; omega
    · refine ⟨rfl, (c_likeAhead (t := false) hb hR hW hm (by omega)).use ?_⟩
      have hn := oI_none (o := likeL (lnD D W m) W c c false) (fun k h => by have := likeL_lt h; omega)
      refine ⟨fun (h : ¬ oI (likeL (lnD D W m) W c c false) = -nI 4) => ?_, fun (h : ¬ ¬ oI (likeL (lnD D W m) W c c false) = -nI 4) => ?_⟩
      · rw [hn] at h
        have h3 : (likeL (lnD D W m) W c c false).isNone = false := by
          cases hl : likeL (lnD D W m) W c c false with
          | none => exact absurd hl h
          | some k => rfl
        have k := ih (c + 1) s (by omega) (by simpa [sm, h3, fl] using hQ)
        rw [nI_a1 c] at k
        exact k
      · rw [hn] at h
        have h := Classical.not_not.mp h
        have k := ih (c + 1) (s + 1) (by omega) (by simpa [sm, h, fl, Nat.add_assoc] using hQ)
        rw [nI_a1 c, nI_a1 s] at k
        exact k
theorem c_linesUnlike (hb : Hd b D R W) (hR : R ≤ 12) (hW : W ≤ 16) (hm : m ≤ 1) : Dt g mX2_linesUnlike [vr 0] (pW R W m b) (some (vi (nI (unlikeL (lnD D W m) W R)))) (pW R W m b) := by
  refine Ev_of omX2_linesUnlike.1 (Nat.le_of_ble_eq_true rfl) ?_
  refine Z_go kX2_linesUnlike okX2 [4] 80 ?_
  refine linesUnlike_loop hb hR hW hm R 0 0 (by omega) ⟨?_, rfl⟩
  rw [Nat.zero_add]
  rfl
/-- a run begins at i -/
def rb (l : Nat → Int32) (i : Nat) : Bool := decide (i = 0) || decide (¬ l i = l (i - 1))
def runsL (l : Nat → Int32) (n : Nat) : Nat := sm (fun i => fl (rb l i)) 0 n
theorem runsOf_loop {r : Nat} {Q : Option AV → AH → Prop} (hb : Hd b D R W) (hR : R ≤ 12) (hW : W ≤ 16) (hm : m ≤ 1) (hr : r < R) : ∀ (n c s : Nat), c + n = W → Q (some (vi (nI (s + sm (fun i => fl (rb (lnD D W m r) i)) c n)))) (pW R W m b) →
    Z g mX2_runsOf 2 Q 4 [some (vr 0), some (vi (nI r)), some (vi (nI s)), some (vi (nI c))] [] (pW R W m b) := by
  intro n
  induction n with
  | zero =>
    intro c s h1 hQ
    refine Z_go kX2_runsOf okX2 [4] 80 ?_
    refine ⟨fun (h : nI W ≤ nI c) => hQ, fun (h : ¬ nI W ≤ nI c) => ?_⟩
    exact absurd (nI_le (by omega) (by omega)) h
  | succ n ih =>
    intro c s h1 hQ
    refine Z_go kX2_runsOf okX2 [4] 80 ?_
    refine ⟨fun (h : nI W ≤ nI c) => ?_, fun (h : ¬ nI W ≤ nI c) => ?_⟩
    · rw [nI_leI (by omega) (by omega)] at h; omega
    · refine ⟨fun (h0 : nI c = nI 0) => ?_, fun (h0 : ¬ nI c = nI 0) => ?_⟩
      · rw [nI_eq (by omega) (by omega)] at h0
        have k := ih (c + 1) (s + 1) (by omega) (by simpa [sm, rb, h0, fl, Nat.add_assoc] using hQ)
        rw [nI_a1 c, nI_a1 s] at k
        exact k
      · rw [nI_eq (by omega) (by omega)] at h0
        refine ⟨rfl, (c_readAt hb hR hW hr (by omega) hm).use ?_⟩
        have hc := c_readAt (g := g) (i := c - 1) hb hR hW hr (by omega) hm
        rw [← pk_sub (by omega)] at hc
        refine ⟨rfl, hc.use ?_⟩
        refine ⟨fun (h3 : lnD D W m r c = lnD D W m r (c - 1)) => ?_, fun (h3 : ¬ lnD D W m r c = lnD D W m r (c - 1)) => ?_⟩
        · have k := ih (c + 1) s (by omega) (by simpa [sm, rb, h0, h3, fl] using hQ)
          rw [nI_a1 c] at k
          exact k
        · have k := ih (c + 1) (s + 1) (by omega) (by simpa [sm, rb, h0, h3, fl, Nat.add_assoc] using hQ)
          rw [nI_a1 c, nI_a1 s] at k
          exact k
theorem c_runsOf {r : Nat} (hb : Hd b D R W) (hR : R ≤ 12) (hW : W ≤ 16) (hm : m ≤ 1) (hr : r < R) : Dt g mX2_runsOf [vr 0, vi (nI r)] (pW R W m b) (some (vi (nI (runsL (lnD D W m r) W)))) (pW R W m b) := by
  refine Ev_of omX2_runsOf.1 (Nat.le_of_ble_eq_true rfl) ?_
  refine Z_go kX2_runsOf okX2 [4] 80 ?_
  refine runsOf_loop hb hR hW hm hr W 0 0 (by omega) ⟨?_, rfl⟩
  rw [Nat.zero_add]
  rfl
def runsA (L : Nat → Nat → Int32) (W R : Nat) : Nat := sm (fun r => runsL (L r) W) 0 R
theorem runsInAll_loop {Q : Option AV → AH → Prop} (hb : Hd b D R W) (hR : R ≤ 12) (hW : W ≤ 16) (hm : m ≤ 1) : ∀ (n c s : Nat), c + n = R → Q (some (vi (nI (s + sm (fun r => runsL (lnD D W m r) W) c n)))) (pW R W m b) →
    Z g mX2_runsInAll 2 Q 4 [some (vr 0), some (vi (nI s)), some (vi (nI c))] [] (pW R W m b) := by
  intro n
  induction n with
  | zero =>
    intro c s h1 hQ
    refine Z_go kX2_runsInAll okX2 [4] 80 ?_
    refine ⟨fun (h : nI R ≤ nI c) => hQ, fun (h : ¬ nI R ≤ nI c) => ?_⟩
    exact absurd (nI_le (by omega) (by omega)) h
  | succ n ih =>
    intro c s h1 hQ
    refine Z_go kX2_runsInAll okX2 [4] 80 ?_
    refine ⟨fun (h : nI R ≤ nI c) => ?_, fun (h : ¬ nI R ≤ nI c) => ?_⟩
    · rw [nI_leI (by omega) (by omega)] at h; omega
    · refine ⟨rfl, (c_runsOf hb hR hW hm (by omega)).use ?_⟩
      have k := ih (c + 1) (s + runsL (lnD D W m c) W) (by omega) (by simpa [sm, Nat.add_assoc] using hQ)
      rw [nI_a1 c, ← nI_add s] at k
      exact k
theorem c_runsInAll (hb : Hd b D R W) (hR : R ≤ 12) (hW : W ≤ 16) (hm : m ≤ 1) : Dt g mX2_runsInAll [vr 0] (pW R W m b) (some (vi (nI (runsA (lnD D W m) W R)))) (pW R W m b) := by
  refine Ev_of omX2_runsInAll.1 (Nat.le_of_ble_eq_true rfl) ?_
  refine Z_go kX2_runsInAll okX2 [4] 80 ?_
  refine runsInAll_loop hb hR hW hm R 0 0 (by omega) ⟨?_, rfl⟩
  rw [Nat.zero_add]
  rfl
end PIC
end
section
section PIC
variable {g : GG} {R W m : Nat} {b : Nat → Int32} {D : Nat → Nat → Int32}
def agL (l : Nat → Int32) (p i : Nat) : Bool := decide (l i = l (i - p))
theorem comesAgain_loop {r p : Nat} {Q : Option AV → AH → Prop} (hb : Hd b D R W) (hR : R ≤ 12) (hW : W ≤ 16) (hm : m ≤ 1) (hr : r < R) : ∀ (n c : Nat), c + n = W → p ≤ c → Q (some (vi (nI (fl (al (agL (lnD D W m r) p) c n))))) (pW R W m b) →
    Z g mX2_comesAgain 2 Q 2 [some (vr 0), some (vi (nI r)), some (vi (nI p)), some (vi (nI c))] [] (pW R W m b) := by
  intro n
  induction n with
  | zero =>
    intro c h1 h2 hQ
    refine Z_go kX2_comesAgain okX2 [2] 80 ?_
    refine ⟨fun (h : nI W ≤ nI c) => ⟨Or.inr rfl, hQ⟩, fun (h : ¬ nI W ≤ nI c) => ?_⟩
    exact absurd (nI_le (by omega) (by omega)) h
  | succ n ih =>
    intro c h1 h2 hQ
    refine Z_go kX2_comesAgain okX2 [2] 80 ?_
    refine ⟨fun (h : nI W ≤ nI c) => ?_, fun (h : ¬ nI W ≤ nI c) => ?_⟩
    · rw [nI_leI (by omega) (by omega)] at h; omega
    · refine ⟨rfl, (c_readAt hb hR hW hr (by omega) hm).use ?_⟩
      have hc := c_readAt (g := g) (i := c - p) hb hR hW hr (by omega) hm
      rw [← pk_sub (by omega)] at hc
      refine ⟨rfl, hc.use ?_⟩
      refine ⟨fun (h3 : lnD D W m r c = lnD D W m r (c - p)) => ?_, fun (h3 : ¬ lnD D W m r c = lnD D W m r (c - p)) => ⟨Or.inl rfl, ?_⟩⟩
      · have k := ih (c + 1) (by omega) (by omega) (by simpa [al, agL, h3] using hQ)
        rw [nI_a1 c] at k
        exact k
      · simpa [al, agL, h3, fl] using hQ
theorem c_comesAgain {r p : Nat} (hb : Hd b D R W) (hR : R ≤ 12) (hW : W ≤ 16) (hm : m ≤ 1) (hr : r < R) (hp : p ≤ W) : Dt g mX2_comesAgain [vr 0, vi (nI r), vi (nI p)] (pW R W m b) (some (vi (nI (fl (al (agL (lnD D W m r) p) p (W - p)))))) (pW R W m b) := by
  refine Ev_of omX2_comesAgain.1 (Nat.le_of_ble_eq_true rfl) ?_
  refine Z_go kX2_comesAgain okX2 [2] 80 ?_
  exact comesAgain_loop hb hR hW hm hr (W - p) p (by omega) (by omega) ⟨rfl, rfl⟩
def ptp (l : Nat → Int32) (W p : Nat) : Bool := decide (W % p = 0) && al (agL l p) p (W - p)
/-- the shortest part -/
def partL (l : Nat → Int32) (W : Nat) : Nat := (fs1 (ptp l W) 1 (W - 1)).getD W
theorem partOf_loop {r : Nat} {Q : Option AV → AH → Prop} (hb : Hd b D R W) (hR : R ≤ 12) (hW : W ≤ 16) (hm : m ≤ 1) (hr : r < R) : ∀ (n c : Nat), c + n = W → 1 ≤ c → Q (some (vi (nI ((fs1 (ptp (lnD D W m r) W) c n).getD W)))) (pW R W m b) →
    Z g mX2_partOf 2 Q 2 [some (vr 0), some (vi (nI r)), some (vi (nI c))] [] (pW R W m b) := by
  intro n
  induction n with
  | zero =>
    intro c h1 h2 hQ
    refine Z_go kX2_partOf okX2 [2] 80 ?_
    refine ⟨fun (h : nI W ≤ nI c) => hQ, fun (h : ¬ nI W ≤ nI c) => ?_⟩
    exact absurd (nI_le (by omega) (by omega)) h
  | succ n ih =>
    intro c h1 h2 hQ
    refine Z_go kX2_partOf okX2 [2] 80 ?_
    refine ⟨fun (h : nI W ≤ nI c) => ?_, fun (h : ¬ nI W ≤ nI c) => ?_⟩
    · rw [nI_leI (by omega) (by omega)] at h; omega
    · have e : nI W - nI W / nI c * nI c = nI (W % c) := pk_rem (by omega) (by omega) (by omega)
      have hlt : W % c < c := Nat.mod_lt _ (by omega)
      refine ⟨nI_ne0 (by omega) (by omega), fun (h3 : ¬ nI W - nI W / nI c * nI c = nI 0) => ?_, fun (h3 : ¬ ¬ nI W - nI W / nI c * nI c = nI 0) => ?_⟩
      · rw [e, nI_eq (by omega) (by omega)] at h3
        have k := ih (c + 1) (by omega) (by omega) (by simpa [fs1, ptp, h3] using hQ)
        rw [nI_a1 c] at k
        exact k
      · rw [e, nI_eq (by omega) (by omega)] at h3
        have h3 := Classical.not_not.mp h3
        refine ⟨rfl, (c_comesAgain hb hR hW hm hr (by omega)).use ?_⟩
        cases h4 : al (agL (lnD D W m r) c) c (W - c) with
        | false =>
          refine ⟨fun _ => ?_, fun h => absurd rfl h⟩
          have k := ih (c + 1) (by omega) (by omega) (by simpa [fs1, ptp, h3, h4] using hQ)
          rw [nI_a1 c] at k
          exact k
        | true =>
          refine ⟨fun h => absurd (show nI 1 = 0 from h) (by decide), fun _ => ?_⟩
          show Q (some (vi (nI c))) (pW R W m b)
          simpa [fs1, ptp, h3, h4] using hQ
theorem c_partOf {r : Nat} (hb : Hd b D R W) (hR : R ≤ 12) (hW : W ≤ 16) (hm : m ≤ 1) (hr : r < R) (hW1 : 1 ≤ W) : Dt g mX2_partOf [vr 0, vi (nI r)] (pW R W m b) (some (vi (nI (partL (lnD D W m r) W)))) (pW R W m b) := by
  refine Ev_of omX2_partOf.1 (Nat.le_of_ble_eq_true rfl) ?_
  refine Z_go kX2_partOf okX2 [2] 80 ?_
  exact partOf_loop hb hR hW hm hr (W - 1) 1 (by omega) (by omega) ⟨rfl, rfl⟩
theorem c_rowOfPlan {j : Nat} (hW : W ≤ 16) (hW1 : 1 ≤ W) (hj : j < 2 ^ 31) : Dt g mX2_rowOfPlan [vr 0, vi (nI j)] (pW R W m b) (some (vi (nI (j / W)))) (pW R W m b) := by
  refine Ev_of omX2_rowOfPlan.1 (Nat.le_of_ble_eq_true rfl) ?_
  refine Z_go kX2_rowOfPlan okX2 [] 80 ?_
  refine ⟨fun _ => ⟨nI_ne0 (by omega) (by omega), ?_, rfl⟩, fun (h : ¬ ¬ nI W = 0) => absurd (nI_ne0 (by omega) (by omega)) h⟩
  rw [pk_div hj (by omega) (by omega)]
theorem c_placeOfPlan {j : Nat} (hW : W ≤ 16) (hW1 : 1 ≤ W) (hj : j < 2 ^ 31) : Dt g mX2_placeOfPlan [vr 0, vi (nI j)] (pW R W m b) (some (vi (nI (j % W)))) (pW R W m b) := by
  refine Ev_of omX2_placeOfPlan.1 (Nat.le_of_ble_eq_true rfl) ?_
  refine Z_go kX2_placeOfPlan okX2 [] 80 ?_
  refine ⟨fun _ => ⟨nI_ne0 (by omega) (by omega), ?_, rfl⟩, fun (h : ¬ ¬ nI W = 0) => absurd (nI_ne0 (by omega) (by omega)) h⟩
  rw [pk_rem hj (by omega) (by omega)]
theorem RW_le {R W : Nat} (hR : R ≤ 12) (hW : W ≤ 16) : R * W ≤ 192 := Nat.le_trans (Nat.mul_le_mul hR hW) (by decide)
theorem dm_lt {R W j : Nat} (hj : j < R * W) : 1 ≤ W ∧ j / W < R ∧ j % W < W := by
  have hW : 0 < W := by
    rcases Nat.eq_zero_or_pos W with h | h
    · subst h; simp at hj
    · exact h
  exact ⟨hW, Nat.div_lt_of_lt_mul (by rw [Nat.mul_comm]; exact hj), Nat.mod_lt _ hW⟩
/-- PLAN j -/
def planL (L : Nat → Nat → Int32) (W j : Nat) : Int32 := L (j / W) (j % W)
theorem c_planAt {j : Nat} (hb : Hd b D R W) (hR : R ≤ 12) (hW : W ≤ 16) (hm : m ≤ 1) (hj : j < R * W) : Dt g mX2_planAt [vr 0, vi (nI j)] (pW R W m b) (some (vi (planL (lnD D W m) W j))) (pW R W m b) := by
  have hRW := RW_le hR hW
  obtain ⟨h1, h2, h3⟩ := dm_lt hj
  refine Ev_of omX2_planAt.1 (Nat.le_of_ble_eq_true rfl) ?_
  refine Z_go kX2_planAt okX2 [] 80 ?_
  refine ⟨fun (h : nI j < 0) => absurd h (nI_pos (by omega)), fun _ => ⟨rfl, (c_size hR hW).use ?_⟩⟩
  refine ⟨fun _ => ?_, fun (h : ¬ nI j < nI (R * W)) => absurd (nI_lt hj (by omega)) h⟩
  refine ⟨rfl, (c_rowOfPlan hW h1 (by omega)).use ?_⟩
  refine ⟨rfl, (c_placeOfPlan hW h1 (by omega)).use ?_⟩
  refine ⟨rfl, (c_readAt hb hR hW h2 h3 hm).use ?_⟩
  exact ⟨rfl, rfl⟩
theorem c_planAt_out {i : Int32} (hR : R ≤ 12) (hW : W ≤ 16) (hi : i < 0 ∨ nI (R * W) ≤ i) : Dt g mX2_planAt [vr 0, vi i] (pW R W m b) (some (vi (-nI 4))) (pW R W m b) := by
  have hRW := RW_le hR hW
  refine Ev_of omX2_planAt.1 (Nat.le_of_ble_eq_true rfl) ?_
  refine Z_go kX2_planAt okX2 [] 80 ?_
  refine ⟨fun (h : i < 0) => ⟨rfl, rfl⟩, fun (h0 : ¬ i < 0) => ⟨rfl, (c_size hR hW).use ?_⟩⟩
  refine ⟨fun (h : i < nI (R * W)) => ?_, fun _ => ⟨rfl, rfl⟩⟩
  rcases hi with hi | hi
  · exact absurd hi h0
  · exact absurd h (Int32.not_lt.mpr hi)
/-! the picture is written -/
theorem c_colourB {r c : Nat} (hr : r < 12) (hc : c < 16) : Dt g mX2_colourAt [vr 0, vi (nI r), vi (nI c)] (pW R W m b) (some (vi (b (r * 16 + c)))) (pW R W m b) := by
  refine Ev_of omX2_colourAt.1 (Nat.le_of_ble_eq_true rfl) ?_
  refine Z_go kX2_colourAt okX2 [] 80 ?_
  have e : nI r * nI 16 + nI c = nI (r * 16 + c) := by rw [pk_mul, nI_add]
  refine ⟨by rw [e]; exact vp_in_nI (by omega) (by omega), ?_, rfl⟩
  rw [e, nI_clamp (by omega)]
theorem c_clear : Dt g mX2_clear [vr 0] (pW R W m b) none (pW 0 0 0 b) := by
  refine Ev_of omX2_clear.1 (Nat.le_of_ble_eq_true rfl) ?_
  refine Z_go kX2_clear okX2 [] 80 ?_
  exact ⟨rfl, rfl⟩
theorem c_takeRow {w : Nat} : Dt g mX2_takeRow [vr 0, vi (nI w)] (pW R W m b) none (pW (R + 1) w m b) := by
  refine Ev_of omX2_takeRow.1 (Nat.le_of_ble_eq_true rfl) ?_
  refine Z_go kX2_takeRow okX2 [] 80 ?_
  refine ⟨rfl, ?_⟩
  unfold pW
  rw [nI_a1 R]
  rfl
theorem c_copyRow {f t : Nat} (hf : f < 12) (ht : t < 12) : Dt g mX2_copyRow [vr 0, vi (nI f), vi (nI t)] (pW R W m b) none (pW R W m (va_cpy b b (f * 16) (t * 16) 16)) := by
  refine Ev_of omX2_copyRow.1 (Nat.le_of_ble_eq_true rfl) ?_
  refine Z_go kX2_copyRow okX2 [] 80 ?_
  have e1 : nI f * nI 16 = nI (f * 16) := pk_mul f 16
  have e2 : nI t * nI 16 = nI (t * 16) := pk_mul t 16
  refine ⟨by rw [e1]; exact nI_pos (by omega), by rw [e2]; exact nI_pos (by omega), by decide, ?_, ?_, rfl, ?_⟩
  · rw [e1, nI_clamp (by omega), nI_clamp (by omega)]; omega
  · rw [e2, nI_clamp (by omega), nI_clamp (by omega)]; omega
  · rw [e1, e2, nI_clamp (by omega), nI_clamp (by omega), nI_clamp (by omega)]; rfl
/-- two pictures -/
theorem c_become {R' W' m' : Nat} {b' : Nat → Int32} : Dt g mX2_become [vr 0, vr 2] (pW R W m b ++ [ob 2 [vr 3, vi (nI R'), vi (nI W'), vi (nI m')], ar 0 192 b']) none (pW R' W' m' (va_cpy b' b 0 0 192) ++ [ob 2 [vr 3, vi (nI R'), vi (nI W'), vi (nI m')], ar 0 192 b']) := by
  refine Ev_of omX2_become.1 (Nat.le_of_ble_eq_true rfl) ?_
  refine Z_go kX2_become okX2 [] 80 ?_
  refine ⟨by decide, by decide, by decide, by decide, by decide, rfl, ?_⟩
  rfl
theorem updS {f : Nat → Int32} {k : Nat} {x : Int32} : upd f k x k = x := by simp [upd]
theorem updN {f : Nat → Int32} {k j : Nat} {x : Int32} (h : j ≠ k) : upd f k x j = f j := by simp [upd, h]
/-- a row turned round, k steps of it -/
def tnI (b : Nat → Int32) (r W : Nat) : Nat → Nat → Int32
  | 0 => b
  | k + 1 => upd (upd (tnI b r W k) (r * 16 + k) (tnI b r W k (r * 16 + (W - 1 - k)))) (r * 16 + (W - 1 - k)) (tnI b r W k (r * 16 + k))
theorem tnI_at {r : Nat} (hW : W ≤ 16) : ∀ k, k ≤ W / 2 → ∀ s c, c < W → tnI b r W k (s * 16 + c) = if s = r ∧ (c < k ∨ W - 1 - c < k) then b (r * 16 + (W - 1 - c)) else b (s * 16 + c) := by
  intro k
  induction k with
  | zero => intro _ s c hc; simp [tnI]
  | succ k ih =>
    intro hk s c hc
    simp only [tnI]
    have e1 := ih (by omega) r k (by omega)
    have e2 := ih (by omega) r (W - 1 - k) (by omega)
    have e3 := ih (by omega) s c hc
    rw [if_neg (by omega)] at e1 e2
    by_cases h1 : s * 16 + c = r * 16 + (W - 1 - k)
    · have h2 : s = r := by omega
      have h3 : c = W - 1 - k := by omega
      rw [h1, updS, e1, if_pos (by omega)]
      congr 2; omega
    · rw [updN h1]
      by_cases h4 : s * 16 + c = r * 16 + k
      · have h2 : s = r := by omega
        have h3 : c = k := by omega
        rw [h4, updS, e2, if_pos (by omega), h3]
      · rw [updN h4, e3]
        by_cases h5 : s = r ∧ (c < k ∨ W - 1 - c < k)
        · rw [if_pos h5, if_pos (by omega)]
        · rw [if_neg h5, if_neg (by omega)]
theorem turn_loop {r : Nat} {Q : Option AV → AH → Prop} (hr : r < 12) (hW : W ≤ 16) : ∀ (n c : Nat) (v : Option AV), c + n = W / 2 → Q none (pW R W m (tnI b r W (W / 2))) →
    Z g mX2_turn 2 Q 2 [some (vr 0), some (vi (nI r)), some (vi (nI c)), v] [] (pW R W m (tnI b r W c)) := by
  intro n
  induction n with
  | zero =>
    intro c v h1 hQ
    have e : nI W / nI 2 = nI (W / 2) := pk_div (by omega) (by omega) (by omega)
    refine Z_go kX2_turn okX2 [2] 80 ?_
    refine ⟨by decide, fun (h : nI W / nI 2 ≤ nI c) => ?_, fun (h : ¬ nI W / nI 2 ≤ nI c) => ?_⟩
    · have : c = W / 2 := by omega
      rw [this]; exact hQ
    · rw [e] at h; exact absurd (nI_le (by omega) (by omega)) h
  | succ n ih =>
    intro c v h1 hQ
    have e : nI W / nI 2 = nI (W / 2) := pk_div (by omega) (by omega) (by omega)
    refine Z_go kX2_turn okX2 [2] 80 ?_
    refine ⟨by decide, fun (h : nI W / nI 2 ≤ nI c) => ?_, fun (h : ¬ nI W / nI 2 ≤ nI c) => ?_⟩
    · rw [e, nI_leI (by omega) (by omega)] at h; omega
    · refine ⟨rfl, (c_colourB hr (by omega)).use ?_⟩
      have e2 : nI W - nI 1 - nI c = nI (W - 1 - c) := by rw [pk_sub (by omega), pk_sub (by omega)]
      have hc := c_colourB (g := g) (R := R) (W := W) (m := m) (b := tnI b r W c) (r := r) (c := W - 1 - c) hr (by omega)
      rw [← e2] at hc
      refine ⟨rfl, hc.use ?_⟩
      refine ⟨rfl, (c_put _ hr (by omega)).use ?_⟩
      have hp := c_put (g := g) (R := R) (W := W) (m := m) (b := upd (tnI b r W c) (r * 16 + c) (tnI b r W c (r * 16 + (W - 1 - c)))) (r := r) (c := W - 1 - c) (tnI b r W c (r * 16 + c)) hr (by omega)
      rw [← e2] at hp
      refine ⟨rfl, hp.use ?_⟩
      have k := ih (c + 1) (some (vi (tnI b r W c (r * 16 + c)))) (by omega) hQ
      rw [nI_a1 c] at k
      exact k
/-- D with row r turned round -/
def turnD (D : Nat → Nat → Int32) (W r : Nat) : Nat → Nat → Int32 := fun s c => if s = r then D r (W - 1 - c) else D s c
theorem c_turn {r : Nat} (hb : Hd b D R W) (hR : R ≤ 12) (hW : W ≤ 16) (hr : r < R) : ∃ b', Dt g mX2_turn [vr 0, vi (nI r)] (pW R W m b) none (pW R W m b') ∧ Hd b' (turnD D W r) R W := by
  refine ⟨tnI b r W (W / 2), ?_, ?_⟩
  · refine Ev_of omX2_turn.1 (Nat.le_of_ble_eq_true rfl) ?_
    refine Z_go kX2_turn okX2 [2] 80 ?_
    exact turn_loop (by omega) hW (W / 2) 0 none (by omega) ⟨rfl, rfl⟩
  · intro s c hs hc
    rw [tnI_at hW _ (Nat.le_refl _) s c hc]
    unfold turnD
    by_cases h : s = r
    · subst h
      by_cases h2 : c < W / 2 ∨ W - 1 - c < W / 2
      · rw [if_pos ⟨rfl, h2⟩, if_pos rfl, hb s _ hs (by omega)]
      · rw [if_neg (fun q => h2 q.2), if_pos rfl, hb s c hs hc]
        congr 1; omega
    · rw [if_neg (fun q => h q.1), if_neg h, hb s c hs hc]
/-- a row moved on, k steps of it -/
def mvI (b : Nat → Int32) (r W : Nat) : Nat → Nat → Int32
  | 0 => b
  | k + 1 => upd (mvI b r W k) (r * 16 + (W - 1 - k)) (mvI b r W k (r * 16 + (W - 1 - k - 1)))
theorem mvI_at {r : Nat} (hW : W ≤ 16) : ∀ k, k + 1 ≤ W → ∀ s c, c < W → mvI b r W k (s * 16 + c) = if s = r ∧ W - 1 - k < c then b (r * 16 + (c - 1)) else b (s * 16 + c) := by
  intro k
  induction k with
  | zero => intro _ s c hc; rw [if_neg (by omega)]; rfl
  | succ k ih =>
    intro hk s c hc
    simp only [mvI]
    have e2 := ih (by omega) r (W - 1 - k - 1) (by omega)
    have e3 := ih (by omega) s c hc
    rw [if_neg (by omega)] at e2
    by_cases h1 : s * 16 + c = r * 16 + (W - 1 - k)
    · have h2 : s = r := by omega
      have h3 : c = W - 1 - k := by omega
      rw [h1, updS, e2, if_pos (by omega), h3]
    · rw [updN h1, e3]
      by_cases h5 : s = r ∧ W - 1 - k < c
      · rw [if_pos h5, if_pos (by omega)]
      · rw [if_neg h5, if_neg (by omega)]
theorem moveOn_loop {r : Nat} {x : Int32} {Q : Option AV → AH → Prop} (hr : r < 12) (hW : W ≤ 16) (hW1 : 1 ≤ W) : ∀ (n k : Nat), k + n + 1 = W → Q none (pW R W m (upd (mvI b r W (W - 1)) (r * 16 + 0) x)) →
    Z g mX2_moveOn 2 Q 19 [some (vr 0), some (vi (nI r)), some (vi x), some (vi (nI (W - 1 - k)))] [] (pW R W m (mvI b r W k)) := by
  intro n
  induction n with
  | zero =>
    intro k h1 hQ
    have hk : k = W - 1 := by omega
    subst hk
    refine Z_go kX2_moveOn okX2 [19] 80 ?_
    refine ⟨fun _ => ?_, fun (h : ¬ nI (W - 1 - (W - 1)) ≤ 0) => ?_⟩
    · refine ⟨rfl, (c_put (c := 0) x hr (by omega)).use ?_⟩
      exact hQ
    · exact absurd (by rw [Nat.sub_self]; decide) h
  | succ n ih =>
    intro k h1 hQ
    refine Z_go kX2_moveOn okX2 [19] 80 ?_
    refine ⟨fun (h : nI (W - 1 - k) ≤ 0) => absurd h (nI_nle (by omega) (by omega)), fun _ => ?_⟩
    have hc := c_colourB (g := g) (R := R) (W := W) (m := m) (b := mvI b r W k) (r := r) (c := W - 1 - k - 1) hr (by omega)
    have e : nI (W - 1 - k) - nI 1 = nI (W - 1 - k - 1) := pk_sub (by omega)
    rw [← e] at hc
    refine ⟨rfl, hc.use ?_⟩
    refine ⟨rfl, (c_put _ hr (by omega)).use ?_⟩
    have k2 := ih (k + 1) (by omega) hQ
    have e2 : nI (W - 1 - k) + -nI 1 = nI (W - 1 - (k + 1)) := by rw [show W - 1 - (k + 1) = W - 1 - k - 1 by omega, ← e, Int32.sub_eq_add_neg]
    rw [← e2] at k2
    exact k2
/-- D with row r moved on by one -/
def moveD (D : Nat → Nat → Int32) (W r : Nat) : Nat → Nat → Int32 := fun s c => if s = r then (if c = 0 then D r (W - 1) else D r (c - 1)) else D s c
theorem c_moveOn {r : Nat} (hb : Hd b D R W) (hR : R ≤ 12) (hW : W ≤ 16) (hr : r < R) (hW1 : 1 ≤ W) : ∃ b', Dt g mX2_moveOn [vr 0, vi (nI r)] (pW R W m b) none (pW R W m b') ∧ Hd b' (moveD D W r) R W := by
  refine ⟨upd (mvI b r W (W - 1)) (r * 16 + 0) (b (r * 16 + (W - 1))), ?_, ?_⟩
  · refine Ev_of omX2_moveOn.1 (Nat.le_of_ble_eq_true rfl) ?_
    refine Z_go kX2_moveOn okX2 [19] 80 ?_
    have hc := c_colourB (g := g) (R := R) (W := W) (m := m) (b := b) (r := r) (c := W - 1) (by omega) (by omega)
    have e : nI W - nI 1 = nI (W - 1) := pk_sub (by omega)
    rw [← e] at hc
    refine ⟨rfl, hc.use ?_⟩
    have k := moveOn_loop (g := g) (R := R) (m := m) (b := b) (x := b (r * 16 + (W - 1))) (r := r) (Q := fun r' B => r' = none ∧ B = pW R W m (upd (mvI b r W (W - 1)) (r * 16 + 0) (b (r * 16 + (W - 1))))) (by omega) hW hW1 (W - 1) 0 (by omega) ⟨rfl, rfl⟩
    rw [Nat.sub_zero, ← e] at k
    exact k
  · intro s c hs hc
    unfold moveD
    by_cases h0 : s * 16 + c = r * 16 + 0
    · have h2 : s = r := by omega
      have h3 : c = 0 := by omega
      rw [h0, updS, if_pos h2, if_pos h3, hb r _ hr (by omega)]
    · rw [updN h0, mvI_at hW _ (by omega) s c hc]
      by_cases h : s = r
      · have h3 : c ≠ 0 := fun q => h0 (by omega)
        rw [if_pos (by omega), if_pos h, if_neg h3, hb r _ hr (by omega)]
      · rw [if_neg (fun q => h q.1), if_neg h, hb s c hs hc]
theorem cpy_at {f h : Nat → Int32} {s d r c : Nat} (hc : c < 16) : va_cpy f h (s * 16) (d * 16) 16 (r * 16 + c) = if r = d then f (s * 16 + c) else h (r * 16 + c) := by
  unfold va_cpy
  by_cases h1 : r = d
  · subst h1
    rw [if_pos (by omega), if_pos rfl]
    congr 1; omega
  · rw [if_neg (by omega), if_neg h1]
/-- rows behind r come one ahead, k of them -/
def dpI (b : Nat → Int32) (r : Nat) : Nat → Nat → Int32
  | 0 => b
  | k + 1 => va_cpy (dpI b r k) (dpI b r k) ((r + k + 1) * 16) ((r + k) * 16) 16
theorem dpI_at {r : Nat} : ∀ k s c, c < 16 → dpI b r k (s * 16 + c) = if r ≤ s ∧ s < r + k then b ((s + 1) * 16 + c) else b (s * 16 + c) := by
  intro k
  induction k with
  | zero => intro s c hc; rw [if_neg (by omega)]; rfl
  | succ k ih =>
    intro s c hc
    simp only [dpI]
    rw [cpy_at hc, ih _ c hc, ih _ c hc]
    by_cases h : s = r + k
    · rw [if_pos h, if_neg (by omega), if_pos (by omega), h]
    · rw [if_neg h]
      by_cases h2 : r ≤ s ∧ s < r + k
      · rw [if_pos h2, if_pos (by omega)]
      · rw [if_neg h2, if_neg (by omega)]
def dropD (D : Nat → Nat → Int32) (r : Nat) : Nat → Nat → Int32 := fun s c => if s < r then D s c else D (s + 1) c
theorem drop_loop {r : Nat} {Q : Option AV → AH → Prop} (hR : R ≤ 12) (hr : r < R) (hQ : Q none (pW (R - 1) (if R - 1 = 0 then 0 else W) m (dpI b r (R - 1 - r)))) : ∀ (n k : Nat), r + k + n + 1 = R →
    Z g mX2_drop 2 Q 2 [some (vr 0), some (vi (nI r)), some (vi (nI (r + k)))] [] (pW R W m (dpI b r k)) := by
  intro n
  induction n with
  | zero =>
    intro k h1
    have hk : k = R - 1 - r := by omega
    subst hk
    have e : nI (r + (R - 1 - r)) + nI 1 = nI R := by rw [nI_add, show r + (R - 1 - r) + 1 = R by omega]
    have e3 : nI R - nI 1 = nI (R - 1) := pk_sub (by omega)
    refine Z_go kX2_drop okX2 [2] 80 ?_
    refine ⟨fun _ => ?_, fun (h : ¬ nI R ≤ nI (r + (R - 1 - r)) + nI 1) => ?_⟩
    · refine ⟨fun (h : ¬ nI R - nI 1 = nI 0) => ?_, fun (h : ¬ ¬ nI R - nI 1 = nI 0) => ?_⟩
      · rw [e3, nI_eq (by omega) (by omega)] at h
        rw [if_neg h] at hQ
        unfold pW at hQ
        rw [← e3] at hQ
        exact hQ
      · rw [e3, nI_eq (by omega) (by omega)] at h
        rw [if_pos (Classical.not_not.mp h)] at hQ
        unfold pW at hQ
        rw [← e3] at hQ
        exact hQ
    · rw [e] at h; exact absurd (nI_le (Nat.le_refl _) (by omega)) h
  | succ n ih =>
    intro k h1
    have e : nI (r + k) + nI 1 = nI (r + k + 1) := nI_add _ _
    refine Z_go kX2_drop okX2 [2] 80 ?_
    refine ⟨fun (h : nI R ≤ nI (r + k) + nI 1) => ?_, fun _ => ?_⟩
    · rw [e, nI_leI (by omega) (by omega)] at h; omega
    · have hc := c_copyRow (g := g) (R := R) (W := W) (m := m) (b := dpI b r k) (f := r + k + 1) (t := r + k) (by omega) (by omega)
      rw [← e] at hc
      refine ⟨rfl, hc.use ?_⟩
      have k2 := ih (k + 1) (by omega)
      rw [← Nat.add_assoc, ← e] at k2
      exact k2
theorem c_drop {r : Nat} (hb : Hd b D R W) (hR : R ≤ 12) (hW : W ≤ 16) (hr : r < R) : ∃ b', Dt g mX2_drop [vr 0, vi (nI r)] (pW R W m b) none (pW (R - 1) (if R - 1 = 0 then 0 else W) m b') ∧ Hd b' (dropD D r) (R - 1) W := by
  refine ⟨dpI b r (R - 1 - r), ?_, ?_⟩
  · refine Ev_of omX2_drop.1 (Nat.le_of_ble_eq_true rfl) ?_
    refine Z_go kX2_drop okX2 [2] 80 ?_
    exact drop_loop hR hr ⟨rfl, rfl⟩ (R - 1 - r) 0 (by omega)
  · intro s c hs hc
    rw [dpI_at _ _ _ (by omega)]
    unfold dropD
    by_cases h : s < r
    · rw [if_neg (by omega), if_pos h, hb _ _ (by omega) hc]
    · rw [if_pos (by omega), if_neg h, hb _ _ (by omega) hc]
/-- rows behind r go one back, k of them from the last -/
def rpI (b : Nat → Int32) (R : Nat) : Nat → Nat → Int32
  | 0 => b
  | k + 1 => va_cpy (rpI b R k) (rpI b R k) ((R - k - 1) * 16) ((R - k) * 16) 16
theorem rpI_at : ∀ k s c, k ≤ R → c < 16 → rpI b R k (s * 16 + c) = if R - k < s ∧ s ≤ R then b ((s - 1) * 16 + c) else b (s * 16 + c) := by
  intro k
  induction k with
  | zero => intro s c _ hc; rw [if_neg (by omega)]; rfl
  | succ k ih =>
    intro s c hk hc
    simp only [rpI]
    rw [cpy_at hc, ih _ c (by omega) hc, ih _ c (by omega) hc]
    by_cases h : s = R - k
    · rw [if_pos h, if_neg (by omega), if_pos (by omega), h]
    · rw [if_neg h]
      by_cases h2 : R - k < s ∧ s ≤ R
      · rw [if_pos h2, if_pos (by omega)]
      · rw [if_neg h2, if_neg (by omega)]
def repD (D : Nat → Nat → Int32) (r : Nat) : Nat → Nat → Int32 := fun s c => if s ≤ r then D s c else D (s - 1) c
theorem repeat_loop {r : Nat} {Q : Option AV → AH → Prop} (hR : R < 12) (hr : r < R) (hQ : Q none (pW (R + 1) W m (rpI b R (R - r)))) : ∀ (n k : Nat), r + k + n = R →
    Z g mX2_repeat 2 Q 5 [some (vr 0), some (vi (nI r)), some (vi (nI (R - k)))] [] (pW R W m (rpI b R k)) := by
  intro n
  induction n with
  | zero =>
    intro k h1
    have hk : k = R - r := by omega
    subst hk
    refine Z_go kX2_repeat okX2 [5] 80 ?_
    refine ⟨fun _ => ?_, fun (h : ¬ nI (R - (R - r)) ≤ nI r) => ?_⟩
    · unfold pW at hQ
      rw [nI_a1 R] at hQ
      exact hQ
    · exact absurd (nI_le (by omega) (by omega)) h
  | succ n ih =>
    intro k h1
    refine Z_go kX2_repeat okX2 [5] 80 ?_
    refine ⟨fun (h : nI (R - k) ≤ nI r) => ?_, fun _ => ?_⟩
    · rw [nI_leI (by omega) (by omega)] at h; omega
    · have e : nI (R - k) - nI 1 = nI (R - k - 1) := pk_sub (by omega)
      have hc := c_copyRow (g := g) (R := R) (W := W) (m := m) (b := rpI b R k) (f := R - k - 1) (t := R - k) (by omega) (by omega)
      rw [← e] at hc
      refine ⟨rfl, hc.use ?_⟩
      have k2 := ih (k + 1) (by omega)
      have e2 : nI (R - k) + -nI 1 = nI (R - (k + 1)) := by rw [show R - (k + 1) = R - k - 1 by omega, ← e, Int32.sub_eq_add_neg]
      rw [← e2] at k2
      exact k2
theorem c_repeat {r : Nat} (hb : Hd b D R W) (hR : R < 12) (hW : W ≤ 16) (hr : r < R) : ∃ b', Dt g mX2_repeat [vr 0, vi (nI r)] (pW R W m b) none (pW (R + 1) W m b') ∧ Hd b' (repD D r) (R + 1) W := by
  refine ⟨rpI b R (R - r), ?_, ?_⟩
  · refine Ev_of omX2_repeat.1 (Nat.le_of_ble_eq_true rfl) ?_
    refine Z_go kX2_repeat okX2 [5] 80 ?_
    have := repeat_loop (g := g) (W := W) (m := m) (b := b) (Q := fun r' B => r' = none ∧ B = pW (R + 1) W m (rpI b R (R - r))) hR hr ⟨rfl, rfl⟩ (R - r) 0 (by omega)
    exact this
  · intro s c hs hc
    rw [rpI_at _ _ _ (by omega) (by omega)]
    unfold repD
    by_cases h : s ≤ r
    · rw [if_neg (by omega), if_pos h, hb _ _ (by omega) hc]
    · rw [if_pos (by omega), if_neg h, hb _ _ (by omega) hc]
/-- two rows change places, k beads of them -/
def exI (b : Nat → Int32) (r s : Nat) : Nat → Nat → Int32
  | 0 => b
  | k + 1 => upd (upd (exI b r s k) (r * 16 + k) (exI b r s k (s * 16 + k))) (s * 16 + k) (exI b r s k (r * 16 + k))
theorem exI_at {r s : Nat} : ∀ k, k ≤ 16 → ∀ q c, c < 16 → exI b r s k (q * 16 + c) = if c < k then (if q = s then b (r * 16 + c) else if q = r then b (s * 16 + c) else b (q * 16 + c)) else b (q * 16 + c) := by
  intro k
  induction k with
  | zero => intro _ q c hc; rw [if_neg (by omega)]; rfl
  | succ k ih =>
    intro hk q c hc
    simp only [exI]
    have e1 := ih (by omega) r k (by omega)
    have e2 := ih (by omega) s k (by omega)
    have e3 := ih (by omega) q c hc
    rw [if_neg (by omega)] at e1 e2
    by_cases h1 : q * 16 + c = s * 16 + k
    · have h2 : q = s := by omega
      have h3 : c = k := by omega
      rw [h1, updS, e1, if_pos (by omega), if_pos h2, h3]
    · rw [updN h1]
      by_cases h4 : q * 16 + c = r * 16 + k
      · have h2 : q = r := by omega
        have h3 : c = k := by omega
        rw [h4, updS, e2, if_pos (by omega), if_neg (by omega), if_pos h2, h3]
      · rw [updN h4, e3]
        by_cases h5 : c < k
        · rw [if_pos h5, if_pos (show c < k + 1 by omega)]
        · rw [if_neg h5]
          by_cases h6 : c < k + 1
          · have h7 : c = k := by omega
            rw [if_pos h6, if_neg (by omega), if_neg (by omega)]
          · rw [if_neg h6]
def swapD (D : Nat → Nat → Int32) (r s : Nat) : Nat → Nat → Int32 := fun q c => if q = s then D r c else if q = r then D s c else D q c
theorem exchange_loop {r s : Nat} {Q : Option AV → AH → Prop} (hr : r < 12) (hs : s < 12) (hW : W ≤ 16) (hQ : Q none (pW R W m (exI b r s W))) : ∀ (n c : Nat) (v : Option AV), c + n = W →
    Z g mX2_exchange 2 Q 2 [some (vr 0), some (vi (nI r)), some (vi (nI s)), some (vi (nI c)), v] [] (pW R W m (exI b r s c)) := by
  intro n
  induction n with
  | zero =>
    intro c v h1
    refine Z_go kX2_exchange okX2 [2] 80 ?_
    refine ⟨fun _ => ?_, fun (h : ¬ nI W ≤ nI c) => ?_⟩
    · have : c = W := by omega
      rw [this]; exact hQ
    · exact absurd (nI_le (by omega) (by omega)) h
  | succ n ih =>
    intro c v h1
    refine Z_go kX2_exchange okX2 [2] 80 ?_
    refine ⟨fun (h : nI W ≤ nI c) => ?_, fun _ => ?_⟩
    · rw [nI_leI (by omega) (by omega)] at h; omega
    · refine ⟨rfl, (c_colourB hr (by omega)).use ?_⟩
      refine ⟨rfl, (c_colourB hs (by omega)).use ?_⟩
      refine ⟨rfl, (c_put _ hr (by omega)).use ?_⟩
      refine ⟨rfl, (c_put _ hs (by omega)).use ?_⟩
      have k := ih (c + 1) (some (vi (exI b r s c (r * 16 + c)))) (by omega)
      rw [nI_a1 c] at k
      exact k
theorem c_exchange {r s : Nat} (hb : Hd b D R W) (hR : R ≤ 12) (hW : W ≤ 16) (hr : r < R) (hs : s < R) : ∃ b', Dt g mX2_exchange [vr 0, vi (nI r), vi (nI s)] (pW R W m b) none (pW R W m b') ∧ Hd b' (swapD D r s) R W := by
  refine ⟨exI b r s W, ?_, ?_⟩
  · refine Ev_of omX2_exchange.1 (Nat.le_of_ble_eq_true rfl) ?_
    refine Z_go kX2_exchange okX2 [2] 80 ?_
    exact exchange_loop (by omega) (by omega) hW ⟨rfl, rfl⟩ W 0 none (by omega)
  · intro q c hq hc
    rw [exI_at _ hW _ _ (by omega), if_pos hc]
    unfold swapD
    by_cases h1 : q = s
    · rw [if_pos h1, if_pos h1, hb _ _ hr hc]
    · rw [if_neg h1, if_neg h1]
      by_cases h2 : q = r
      · rw [if_pos h2, if_pos h2, hb _ _ hs hc]
      · rw [if_neg h2, if_neg h2, hb _ _ hq hc]
/-- a colour becomes another one: k beads of row t -/
def dyI (b : Nat → Int32) (t : Nat) (x y : Int32) : Nat → Nat → Int32
  | 0 => b
  | k + 1 => if dyI b t x y k (t * 16 + k) = x then upd (dyI b t x y k) (t * 16 + k) y else dyI b t x y k
def dyO (b : Nat → Int32) (W : Nat) (x y : Int32) : Nat → Nat → Int32
  | 0 => b
  | t + 1 => dyI (dyO b W x y t) t x y W
theorem dyI_at {t : Nat} {x y : Int32} : ∀ k, k ≤ 16 → ∀ q c, c < 16 → dyI b t x y k (q * 16 + c) = if q = t ∧ c < k ∧ b (q * 16 + c) = x then y else b (q * 16 + c) := by
  intro k
  induction k with
  | zero => intro _ q c hc; rw [if_neg (by omega)]; rfl
  | succ k ih =>
    intro hk q c hc
    simp only [dyI]
    have e1 := ih (by omega) t k (by omega)
    rw [if_neg (by omega)] at e1
    have e3 := ih (by omega) q c hc
    by_cases h : dyI b t x y k (t * 16 + k) = x
    · rw [if_pos h]
      by_cases h1 : q * 16 + c = t * 16 + k
      · have h2 : q = t := by omega
        have h3 : c = k := by omega
        rw [h1, updS, if_pos ⟨h2, by omega, by rw [← e1]; exact h⟩]
      · rw [updN h1, e3]
        by_cases h5 : q = t ∧ c < k ∧ b (q * 16 + c) = x
        · rw [if_pos h5, if_pos ⟨h5.1, by omega, h5.2.2⟩]
        · rw [if_neg h5, if_neg (fun z => h5 ⟨z.1, by omega, z.2.2⟩)]
    · rw [if_neg h, e3]
      by_cases h5 : q = t ∧ c < k ∧ b (q * 16 + c) = x
      · rw [if_pos h5, if_pos ⟨h5.1, by omega, h5.2.2⟩]
      · rw [if_neg h5, if_neg (fun z => h5 ⟨z.1, by
          rcases Nat.lt_or_ge c k with q1 | q1
          · exact q1
          · have h6 : c = k := by omega
            exact absurd (by rw [e1, ← h6, ← z.1]; exact z.2.2) h, z.2.2⟩)]
theorem dyO_at {x y : Int32} (hW : W ≤ 16) : ∀ t q c, c < 16 → dyO b W x y t (q * 16 + c) = if q < t ∧ c < W ∧ b (q * 16 + c) = x then y else b (q * 16 + c) := by
  intro t
  induction t with
  | zero => intro q c hc; rw [if_neg (by omega)]; rfl
  | succ t ih =>
    intro q c hc
    simp only [dyO]
    rw [dyI_at _ hW _ _ hc, ih q c hc]
    by_cases h1 : q = t
    · subst h1
      simp only [Nat.lt_irrefl, false_and, if_false, true_and]
      by_cases h2 : c < W ∧ b (q * 16 + c) = x
      · rw [if_pos h2, if_pos ⟨by omega, h2⟩]
      · rw [if_neg h2, if_neg (fun z => h2 z.2)]
    · by_cases h2 : q < t ∧ c < W ∧ b (q * 16 + c) = x
      · rw [if_pos h2, if_neg (fun z => h1 z.1), if_pos ⟨by omega, h2.2⟩]
      · rw [if_neg h2, if_neg (fun z => h1 z.1), if_neg (fun z => h2 ⟨by omega, z.2⟩)]
def dyeD (D : Nat → Nat → Int32) (x y : Int32) : Nat → Nat → Int32 := fun r c => if D r c = x then y else D r c
theorem dyeIn_loop {t : Nat} {x y : Int32} {Q : Option AV → AH → Prop} (ht : t < 12) (hW : W ≤ 16) (hQ : Z g mX2_dyeAll 2 Q 47 [some (vr 0), some (vi x), some (vi y), some (vi (nI t)), some (vi (nI W))] [] (pW R W m (dyI b t x y W))) : ∀ (n c : Nat), c + n = W →
    Z g mX2_dyeAll 2 Q 13 [some (vr 0), some (vi x), some (vi y), some (vi (nI t)), some (vi (nI c))] [] (pW R W m (dyI b t x y c)) := by
  intro n
  induction n with
  | zero =>
    intro c h1
    refine Z_go kX2_dyeAll okX2 [13, 47] 80 ?_
    refine ⟨fun _ => ?_, fun (h : ¬ nI W ≤ nI c) => ?_⟩
    · have : c = W := by omega
      rw [this]; exact hQ
    · exact absurd (nI_le (by omega) (by omega)) h
  | succ n ih =>
    intro c h1
    refine Z_go kX2_dyeAll okX2 [13, 47] 80 ?_
    refine ⟨fun (h : nI W ≤ nI c) => ?_, fun _ => ?_⟩
    · rw [nI_leI (by omega) (by omega)] at h; omega
    · refine ⟨rfl, (c_colourB ht (by omega)).use ?_⟩
      refine ⟨fun (h3 : ¬ dyI b t x y c (t * 16 + c) = x) => ?_, fun (h3 : ¬ ¬ dyI b t x y c (t * 16 + c) = x) => ?_⟩
      · have k := ih (c + 1) (by omega)
        simp only [dyI, if_neg h3] at k
        rw [nI_a1 c] at k
        exact k
      · refine ⟨rfl, (c_put _ ht (by omega)).use ?_⟩
        have k := ih (c + 1) (by omega)
        simp only [dyI, if_pos (Classical.not_not.mp h3)] at k
        rw [nI_a1 c] at k
        exact k
theorem dye_loop {x y : Int32} {Q : Option AV → AH → Prop} (hR : R ≤ 12) (hW : W ≤ 16) (hQ : Q none (pW R W m (dyO b W x y R))) : ∀ (n t : Nat) (v : Option AV), t + n = R →
    Z g mX2_dyeAll 2 Q 2 [some (vr 0), some (vi x), some (vi y), some (vi (nI t)), v] [] (pW R W m (dyO b W x y t)) := by
  intro n
  induction n with
  | zero =>
    intro t v h1
    refine Z_go kX2_dyeAll okX2 [2, 13] 80 ?_
    refine ⟨fun _ => ?_, fun (h : ¬ nI R ≤ nI t) => ?_⟩
    · have : t = R := by omega
      rw [this]; exact hQ
    · exact absurd (nI_le (by omega) (by omega)) h
  | succ n ih =>
    intro t v h1
    refine Z_go kX2_dyeAll okX2 [2, 13] 80 ?_
    refine ⟨fun (h : nI R ≤ nI t) => ?_, fun _ => ?_⟩
    · rw [nI_leI (by omega) (by omega)] at h; omega
    · refine dyeIn_loop (by omega) hW ?_ W 0 (by omega)
      refine Z_go kX2_dyeAll okX2 [2] 80 ?_
      have k := ih (t + 1) (some (vi (nI W))) (by omega)
      rw [nI_a1 t] at k
      exact k
theorem c_dyeAll (x y : Int32) (hb : Hd b D R W) (hR : R ≤ 12) (hW : W ≤ 16) : ∃ b', Dt g mX2_dyeAll [vr 0, vi x, vi y] (pW R W m b) none (pW R W m b') ∧ Hd b' (dyeD D x y) R W := by
  refine ⟨dyO b W x y R, ?_, ?_⟩
  · refine Ev_of omX2_dyeAll.1 (Nat.le_of_ble_eq_true rfl) ?_
    refine Z_go kX2_dyeAll okX2 [2] 80 ?_
    exact dye_loop hR hW ⟨rfl, rfl⟩ R 0 none (by omega)
  · intro r c hr hc
    rw [dyO_at hW _ _ _ (by omega), hb r c hr hc]
    unfold dyeD
    by_cases h : D r c = x
    · rw [if_pos ⟨hr, hc, h⟩, if_pos h]
    · rw [if_neg (fun z => h z.2.2), if_neg h]
/-- a line becomes a row: k beads of it -/
def tkI (b : Nat → Int32) (r w m : Nat) (l : Nat → Int32) : Nat → Nat → Int32
  | 0 => b
  | k + 1 => upd (tkI b r w m l k) (r * 16 + plc w m r k) (l k)
theorem tkI_at {r w m : Nat} {l : Nat → Int32} (hw : w ≤ 16) : ∀ k, k ≤ w → (∀ i, i < k → tkI b r w m l k (r * 16 + plc w m r i) = l i) ∧ (∀ q c, c < 16 → q ≠ r → tkI b r w m l k (q * 16 + c) = b (q * 16 + c)) := by
  intro k
  induction k with
  | zero => intro _; exact ⟨fun i h => by omega, fun q c _ _ => rfl⟩
  | succ k ih =>
    intro hk
    obtain ⟨h1, h2⟩ := ih (by omega)
    refine ⟨fun i hi => ?_, fun q c hc hq => ?_⟩
    · simp only [tkI]
      by_cases e : i = k
      · rw [e, updS]
      · have hp : plc w m r i ≠ plc w m r k := by unfold plc; split <;> omega
        rw [updN (by omega), h1 i (by omega)]
    · simp only [tkI]
      have hp := plc_lt (m := m) (r := r) (show k < w by omega)
      rw [updN (by omega), h2 q c hc hq]
def tkW (R W m : Nat) (b l : Nat → Int32) : AH := [ob 2 [vr 1, vi (nI R), vi (nI W), vi (nI m)], ar 0 192 b, ar 0 16 l]
theorem takeLine_loop {r w : Nat} {l : Nat → Int32} {Q : Option AV → AH → Prop} (hr : r < 12) (hw : w ≤ 16) (hm : m ≤ 1) {n0 : Int32} (hQ : Q none (tkW (r + 1) w m (tkI b r w m l w) l)) : ∀ (n c : Nat), c + n = w →
    Z g mX2_takeLine 3 Q 7 [some (vr 0), some (vr 2), some (vi n0), some (vi (nI c))] [] (tkW (r + 1) w m (tkI b r w m l c) l) := by
  intro n
  induction n with
  | zero =>
    intro c h1
    refine Z_go kX2_takeLine okX2 [7] 80 ?_
    refine ⟨fun _ => ?_, fun (h : ¬ nI w ≤ nI c) => ?_⟩
    · have : c = w := by omega
      rw [this]; exact hQ
    · exact absurd (nI_le (by omega) (by omega)) h
  | succ n ih =>
    intro c h1
    have e : nI (r + 1) - nI 1 = nI r := nI_pred r
    refine Z_go kX2_takeLine okX2 [7] 80 ?_
    refine ⟨fun (h : nI w ≤ nI c) => ?_, fun _ => ?_⟩
    · rw [nI_leI (by omega) (by omega)] at h; omega
    · have hc := c_placeOf (g := g) (R := r + 1) (W := w) (m := m) (b := tkI b r w m l c) (r := r) (i := c) hr hw (by omega) hm
      rw [← e] at hc
      refine ⟨rfl, hc.fr [0, 1] rfl (by decide) rfl ?_⟩
      refine ⟨vp_in_nI (by omega) (by omega), ?_⟩
      have hp := c_put (g := g) (R := r + 1) (W := w) (m := m) (b := tkI b r w m l c) (r := r) (c := plc w m r c) (l c) hr (by have := plc_lt (m := m) (r := r) (show c < w by omega); omega)
      rw [← e] at hp
      rw [nI_clamp (by omega)]
      refine ⟨rfl, hp.fr [0, 1] rfl (by decide) rfl ?_⟩
      have k := ih (c + 1) (by omega)
      rw [nI_a1 c] at k
      exact k
/-- D with a row more, whose line is l -/
def addD (D : Nat → Nat → Int32) (R w m : Nat) (l : Nat → Int32) : Nat → Nat → Int32 := fun q c => if q = R then l (plc w m R c) else D q c
theorem c_takeLine {w : Nat} {l : Nat → Int32} (hb : Hd b D R w) (hR : R < 12) (hw : w ≤ 16) (hm : m ≤ 1) : ∃ b', Dt g mX2_takeLine [vr 0, vr 2, vi (nI w)] (tkW R W m b l) none (tkW (R + 1) w m b' l) ∧ Hd b' (addD D R w m l) (R + 1) w := by
  refine ⟨tkI b R w m l w, ?_, ?_⟩
  · refine Ev_of omX2_takeLine.1 (Nat.le_of_ble_eq_true rfl) ?_
    refine Z_go kX2_takeLine okX2 [7] 80 ?_
    refine ⟨rfl, (c_takeRow (w := w)).fr [0, 1] rfl (by decide) rfl ?_⟩
    exact takeLine_loop hR hw hm ⟨rfl, rfl⟩ w 0 (by omega)
  · intro q c hq hc
    obtain ⟨h1, h2⟩ := tkI_at (b := b) (r := R) (m := m) (l := l) hw w (Nat.le_refl _)
    unfold addD
    by_cases h : q = R
    · subst h
      rw [if_pos rfl]
      have hp := plc_lt (m := m) (r := q) hc
      have e : plc w m q (plc w m q c) = c := by unfold plc; split <;> omega
      have := h1 (plc w m q c) hp
      rw [e] at this
      exact this
    · rw [if_neg h, h2 q c (by omega) h, hb q c (by omega) hc]
end PIC
end
section
section SML
variable {g : GG} {R W m : Nat} {b t : Nat → Int32} {D : Nat → Nat → Int32} {tn : Nat}
/-! Chance -/
def nxS (s : Int32) : Int32 := s * 1103515245 + nI 12345
def gotN (x : Int32) : Nat := x.toBitVec.toNat / 65536 % 32768
theorem gotN_lt (x : Int32) : gotN x < 32768 := Nat.mod_lt _ (by decide)
theorem got_u (x : Int32) : (x.toUInt32 >>> ((nI 16).toUInt32 &&& Int32.toUInt32 31)).toInt32 &&& nI 32767 = nI (gotN x) := by
  rw [pk_and _ 15 (by decide +kernel), pk_ushr x (nI 16) 16 (by decide +kernel)]
  rfl
theorem c_below {s : Int32} {n : Nat} (hn : n < 2 ^ 31) (h1 : 1 ≤ n) : Dt g mX0_below [vr 0, vi (nI n)] [ob 0 [vi s]] (some (vi (nI (gotN (nxS s) % n)))) [ob 0 [vi (nxS s)]] := by
  refine Ev_of omX0_below.1 (Nat.le_of_ble_eq_true rfl) ?_
  refine Z_go kX0_below okX0 [] 80 ?_
  have hg := gotN_lt (nxS s)
  refine ⟨fun _ => ⟨nI_ne0 (by omega) hn, ?_, rfl⟩, fun (h : ¬ nI 1 ≤ nI n) => absurd (nI_le h1 hn) h⟩
  have e := got_u (nxS s)
  have e2 := pk_rem (a := gotN (nxS s)) (d := n) (by omega) (by omega) hn
  rw [← e] at e2
  rw [← e2]
  rfl
/-! Sheet -/
def shW (ln : Int32) (n : Nat) (c : Nat → Int32) : AH := [ob 4 [vr 1, vi (nI n), vi ln], ar 0 32 c]
def zI (c : Nat → Int32) (k : Nat) : Nat → Int32 := fun j => if j < k then 0 else c j
theorem zI_up {c : Nat → Int32} {k : Nat} : upd (zI c k) k 0 = zI c (k + 1) := by
  funext j
  unfold upd zI
  by_cases h : j = k
  · subst h; rw [if_pos rfl, if_pos (by omega)]
  · rw [if_neg h]
    by_cases h2 : j < k
    · rw [if_pos h2, if_pos (by omega)]
    · rw [if_neg h2, if_neg (by omega)]
theorem renew_loop {ln : Int32} {n0 n1 : Int32} {l1 : Int32} {n : Nat} {c : Nat → Int32} {Q : Option AV → AH → Prop} (hQ : Q none (shW ln n (zI c 32))) : ∀ (q k : Nat), k + q = 32 →
    Z g mX4_renew 2 Q 12 [some (vr 0), some (vi l1), some (vi n1), some (vi (nI k))] [] (shW ln n (zI c k)) := by
  intro q
  induction q with
  | zero =>
    intro k h1
    refine Z_go kX4_renew okX4 [12] 80 ?_
    refine ⟨fun _ => ?_, fun (h : ¬ nI 32 ≤ nI k) => ?_⟩
    · have : k = 32 := by omega
      rw [this]; exact hQ
    · exact absurd (nI_le (by omega) (by omega)) h
  | succ q ih =>
    intro k h1
    refine Z_go kX4_renew okX4 [12] 80 ?_
    refine ⟨fun (h : nI 32 ≤ nI k) => ?_, fun _ => ?_⟩
    · rw [nI_leI (by omega) (by omega)] at h; omega
    · refine ⟨vp_in_nI (by omega) (by omega), ?_⟩
      have k2 := ih (k + 1) (by omega)
      rw [nI_a1 k, ← zI_up] at k2
      rw [nI_clamp (by omega)]
      exact k2
theorem c_renew {ln l0 : Int32} {n n0 : Nat} {c : Nat → Int32} : Dt g mX4_renew [vr 0, vi ln, vi (nI n)] (shW l0 n0 c) none (shW ln n (zI c 32)) := by
  refine Ev_of omX4_renew.1 (Nat.le_of_ble_eq_true rfl) ?_
  refine Z_go kX4_renew okX4 [12] 80 ?_
  have k := renew_loop (g := g) (n0 := 0) (n1 := nI n) (l1 := ln) (ln := ln) (n := n) (c := c) (Q := fun r' B => r' = none ∧ B = shW ln n (zI c 32)) ⟨rfl, rfl⟩ 32 0 (by omega)
  have e : zI c 0 = c := by funext j; simp [zI]
  rw [e] at k
  exact k
/-- what the machine finds -/
def fltS (ln : Int32) (n : Nat) (asked i : Int32) : Nat := if ln = -nI 4 then 1 else if ¬ ln = asked then 2 else if i < 0 ∨ nI n ≤ i then 3 else 0
theorem c_faultAt {ln asked i : Int32} {n : Nat} {c : Nat → Int32} : Dt g mX4_faultAt [vr 0, vi asked, vi i] (shW ln n c) (some (vi (nI (fltS ln n asked i)))) (shW ln n c) := by
  refine Ev_of omX4_faultAt.1 (Nat.le_of_ble_eq_true rfl) ?_
  refine Z_go kX4_faultAt okX4 [] 80 ?_
  refine ⟨fun (h : ¬ ln = -nI 4) => ⟨fun (h2 : ln = asked) => ⟨fun (h3 : i < 0) => ⟨?_, rfl⟩, fun (h3 : ¬ i < 0) => ⟨fun (h4 : i < nI n) => ⟨?_, rfl⟩, fun (h4 : ¬ i < nI n) => ⟨?_, rfl⟩⟩⟩, fun (h2 : ¬ ln = asked) => ⟨?_, rfl⟩⟩, fun (h : ¬ ¬ ln = -nI 4) => ⟨?_, rfl⟩⟩
  · unfold fltS; rw [if_neg h, if_neg (by simp [h2]), if_pos (Or.inl h3)]
  · unfold fltS; rw [if_neg h, if_neg (by simp [h2]), if_neg (fun q => q.elim h3 (fun q => Int32.not_le.mpr h4 q))]
  · unfold fltS; rw [if_neg h, if_neg (by simp [h2]), if_pos (Or.inr (Int32.not_lt.mp h4))]
  · unfold fltS; rw [if_neg h, if_pos h2]
  · unfold fltS; rw [if_pos (Classical.not_not.mp h)]
/-- a number as a cell of a lane keeps it -/
def celV (ln v : Int32) : Int32 := if ln = nI 0 then v.toInt8.toInt32 else if ln = nI 1 then v.toInt16.toInt32 else v
theorem c_sput {ln v : Int32} {n k : Nat} {c : Nat → Int32} (hk : k < 32) : Dt g mX4_put [vr 0, vi (nI k), vi v] (shW ln n c) none (shW ln n (upd c k (celV ln v))) := by
  refine Ev_of omX4_put.1 (Nat.le_of_ble_eq_true rfl) ?_
  refine Z_go kX4_put okX4 [] 80 ?_
  refine ⟨fun (h : ¬ ln = nI 0) => ⟨fun (h2 : ¬ ln = nI 1) => ⟨vp_in_nI hk (by omega), rfl, ?_⟩, fun (h2 : ¬ ¬ ln = nI 1) => ⟨vp_in_nI hk (by omega), rfl, ?_⟩⟩, fun (h : ¬ ¬ ln = nI 0) => ⟨vp_in_nI hk (by omega), rfl, ?_⟩⟩
  · rw [nI_clamp (by omega)]; unfold celV; rw [if_neg h, if_neg h2]; rfl
  · rw [nI_clamp (by omega)]; unfold celV; rw [if_neg h, if_pos (Classical.not_not.mp h2)]; rfl
  · rw [nI_clamp (by omega)]; unfold celV; rw [if_pos (Classical.not_not.mp h)]; rfl
/-! Tape -/
def tpW (n : Nat) (tp : Nat → Int32) : AH := [ob 7 [vr 1, vi (nI n)], ar 0 300 tp]
theorem c_ttake_full {n : Nat} {tp : Nat → Int32} {x : Int32} (hn : n = 300) : Dt g mX7_take [vr 0, vi x] (tpW n tp) (some (vi (nI 0))) (tpW n tp) := by
  subst hn
  refine Ev_of omX7_take.1 (Nat.le_of_ble_eq_true rfl) ?_
  refine Z_go kX7_take okX7 [] 80 ?_
  refine ⟨fun (h : nI 300 < nI 300) => ?_, fun _ => ⟨Or.inl rfl, rfl, rfl⟩⟩
  exact absurd h (by decide +kernel)
theorem c_ttake {n : Nat} {tp : Nat → Int32} {x : Int32} (hn : n < 300) : Dt g mX7_take [vr 0, vi x] (tpW n tp) (some (vi (nI 1))) (tpW (n + 1) (upd tp n x)) := by
  refine Ev_of omX7_take.1 (Nat.le_of_ble_eq_true rfl) ?_
  refine Z_go kX7_take okX7 [] 80 ?_
  refine ⟨fun _ => ⟨vp_in_nI hn (by omega), Or.inr rfl, rfl, ?_⟩, fun (h : ¬ nI n < nI 300) => absurd (nI_lt hn (by omega)) h⟩
  rw [nI_clamp (by omega)]
  unfold tpW
  rw [nI_a1 n]
  rfl
def lett (x : Int32) : Bool := decide (nI 97 ≤ x) && decide (x ≤ nI 122)
theorem c_isLetter {n k : Nat} {tp : Nat → Int32} (hn : n ≤ 300) (hk : k ≤ 300) : Dt g mX7_isLetter [vr 0, vi (nI k)] (tpW n tp) (some (vi (nI (fl (decide (k < n) && lett (tp k)))))) (tpW n tp) := by
  refine Ev_of omX7_isLetter.1 (Nat.le_of_ble_eq_true rfl) ?_
  refine Z_go kX7_isLetter okX7 [] 80 ?_
  refine ⟨fun (h : nI n ≤ nI k) => ?_, fun (h : ¬ nI n ≤ nI k) => ?_⟩
  · rw [nI_leI (by omega) (by omega)] at h
    refine ⟨Or.inl rfl, ?_, rfl⟩
    have : ¬ k < n := by omega
    simp [this, fl]
  · rw [nI_leI (by omega) (by omega)] at h
    have hkn : k < n := by omega
    refine ⟨vp_in_nI (by omega) (by omega), ?_⟩
    rw [nI_clamp (by omega)]
    refine ⟨fun (h2 : tp k < nI 97) => ⟨Or.inl rfl, ?_, rfl⟩, fun (h2 : ¬ tp k < nI 97) => ⟨vp_in_nI (by omega) (by omega), ?_⟩⟩
    · have : ¬ nI 97 ≤ tp k := Int32.not_le.mpr h2
      simp [lett, this, fl]
    · rw [nI_clamp (by omega)]
      refine ⟨fun (h3 : nI 122 < tp k) => ⟨Or.inl rfl, ?_, rfl⟩, fun (h3 : ¬ nI 122 < tp k) => ⟨Or.inr rfl, ?_, rfl⟩⟩
      · have : ¬ tp k ≤ nI 122 := Int32.not_le.mpr h3
        simp [lett, this, fl]
      · have a1 : nI 97 ≤ tp k := Int32.not_lt.mp h2
        have a2 : tp k ≤ nI 122 := Int32.not_lt.mp h3
        simp [lett, a1, a2, hkn, fl]
/-! Strand -/
def stW (tn : Nat) (t : Nat → Int32) : AH := [ob 6 [vr 1, vi (nI tn)], ar 0 192 t]
theorem c_stake {x : Int32} (hn : tn < 192) : Dt g mX6_take [vr 0, vi x] (stW tn t) none (stW (tn + 1) (upd t tn x)) := by
  refine Ev_of omX6_take.1 (Nat.le_of_ble_eq_true rfl) ?_
  refine Z_go kX6_take okX6 [] 80 ?_
  refine ⟨fun (h : nI 192 ≤ nI tn) => ?_, fun _ => ⟨vp_in_nI hn (by omega), rfl, ?_⟩⟩
  · rw [nI_leI (by omega) (by omega)] at h; omega
  · rw [nI_clamp (by omega)]
    unfold stW
    rw [nI_a1 tn]
    rfl
theorem c_sbecome {tn' : Nat} {t' : Nat → Int32} : Dt g mX6_become [vr 0, vr 2] (stW tn t ++ [ob 6 [vr 3, vi (nI tn')], ar 0 192 t']) none (stW tn' (va_cpy t' t 0 0 192) ++ [ob 6 [vr 3, vi (nI tn')], ar 0 192 t']) := by
  refine Ev_of omX6_become.1 (Nat.le_of_ble_eq_true rfl) ?_
  refine Z_go kX6_become okX6 [] 80 ?_
  refine ⟨by decide, by decide, by decide, by decide, by decide, rfl, ?_⟩
  rfl
def spW (tn : Nat) (t : Nat → Int32) (R W m : Nat) (b : Nat → Int32) : AH := [ob 6 [vr 1, vi (nI tn)], ar 0 192 t, ob 2 [vr 3, vi (nI R), vi (nI W), vi (nI m)], ar 0 192 b]
/-- where the mistake began -/
def wrgP (t : Nat → Int32) (L : Nat → Nat → Int32) (W i : Nat) : Bool := !decide (t i = planL L W i)
def misL (t : Nat → Int32) (tn : Nat) (L : Nat → Nat → Int32) (W : Nat) : Option Nat := fs1 (wrgP t L W) 0 tn
theorem firstWrong_loop {Q : Option AV → AH → Prop} (hb : Hd b D R W) (hR : R ≤ 12) (hW : W ≤ 16) (hm : m ≤ 1) (ht : tn ≤ R * W) : ∀ (n c : Nat), c + n = tn → Q (some (vi (oI (fs1 (wrgP t (lnD D W m) W) c n)))) (spW tn t R W m b) →
    Z g mX6_firstWrong 4 Q 2 [some (vr 0), some (vr 2), some (vi (nI c))] [] (spW tn t R W m b) := by
  have hRW := RW_le hR hW
  intro n
  induction n with
  | zero =>
    intro c h1 hQ
    refine Z_go kX6_firstWrong okX6 [2] 80 ?_
    refine ⟨fun _ => hQ, fun (h : ¬ nI tn ≤ nI c) => ?_⟩
    exact absurd (nI_le (by omega) (by omega)) h
  | succ n ih =>
    intro c h1 hQ
    refine Z_go kX6_firstWrong okX6 [2] 80 ?_
    refine ⟨fun (h : nI tn ≤ nI c) => ?_, fun _ => ?_⟩
    · rw [nI_leI (by omega) (by omega)] at h; omega
    · refine ⟨vp_in_nI (by omega) (by omega), ?_⟩
      rw [nI_clamp (by omega)]
      refine ⟨rfl, (c_planAt (j := c) hb hR hW hm (by omega)).fr [2, 3] rfl (by decide) rfl ?_⟩
      refine ⟨fun (h3 : t c = planL (lnD D W m) W c) => ?_, fun (h3 : ¬ t c = planL (lnD D W m) W c) => ?_⟩
      · have k := ih (c + 1) (by omega) (by simpa [fs1, wrgP, h3] using hQ)
        rw [nI_a1 c] at k
        exact k
      · show Q (some (vi (nI c))) (spW tn t R W m b)
        simpa [fs1, wrgP, h3, oI] using hQ
theorem c_firstWrong (hb : Hd b D R W) (hR : R ≤ 12) (hW : W ≤ 16) (hm : m ≤ 1) (ht : tn ≤ R * W) : Dt g mX6_firstWrong [vr 0, vr 2] (spW tn t R W m b) (some (vi (oI (misL t tn (lnD D W m) W)))) (spW tn t R W m b) := by
  refine Ev_of omX6_firstWrong.1 (Nat.le_of_ble_eq_true rfl) ?_
  refine Z_go kX6_firstWrong okX6 [2] 80 ?_
  exact firstWrong_loop hb hR hW hm ht tn 0 (by omega) ⟨rfl, rfl⟩
/-- the bead j is as it is told by a kind -/
def tldP (t : Nat → Int32) (L : Nat → Nat → Int32) (W N k j : Nat) : Bool := match k with
  | 0 => decide (t j = planL L W j)
  | 1 => decide (j + 1 < N) && decide (t j = planL L W (j + 1))
  | _ => decide (t j = planL L W (j - 1))
def tldS (k at' : Nat) : Nat := if k = 1 then at' else at' + 1
def tldL (t : Nat → Int32) (tn : Nat) (L : Nat → Nat → Int32) (W N at' k : Nat) : Nat := sm (fun j => fl (tldP t L W N k j)) (tldS k at') (tn - tldS k at')
theorem asTold_loop {a k sh : Int32} {q : Nat → Bool} {Q : Option AV → AH → Prop} (hR : R ≤ 12) (hW : W ≤ 16) (ht : tn ≤ R * W) : ∀ (n c s : Nat), c + n = tn → (∀ j, c ≤ j → j < tn → ∃ x, Dt g mX2_planAt [vr 0, vi (nI j + sh)] (pW R W m b) (some (vi x)) (pW R W m b) ∧ (t j = x ↔ q j = true)) →
    Q (some (vi (nI (s + sm (fun j => fl (q j)) c n)))) (spW tn t R W m b) →
    Z g mX6_asTold 4 Q 38 [some (vr 0), some (vr 2), some (vi a), some (vi k), some (vi sh), some (vi (nI s)), some (vi (nI c))] [] (spW tn t R W m b) := by
  have hRW := RW_le hR hW
  intro n
  induction n with
  | zero =>
    intro c s h1 hp hQ
    refine Z_go kX6_asTold okX6 [38] 80 ?_
    refine ⟨fun _ => hQ, fun (h : ¬ nI tn ≤ nI c) => ?_⟩
    exact absurd (nI_le (by omega) (by omega)) h
  | succ n ih =>
    intro c s h1 hp hQ
    refine Z_go kX6_asTold okX6 [38] 80 ?_
    refine ⟨fun (h : nI tn ≤ nI c) => ?_, fun _ => ?_⟩
    · rw [nI_leI (by omega) (by omega)] at h; omega
    · refine ⟨vp_in_nI (by omega) (by omega), ?_⟩
      rw [nI_clamp (by omega)]
      obtain ⟨x, hx1, hx2⟩ := hp c (Nat.le_refl _) (by omega)
      refine ⟨rfl, hx1.fr [2, 3] rfl (by decide) rfl ?_⟩
      refine ⟨fun (h3 : ¬ t c = x) => ?_, fun (h3 : ¬ ¬ t c = x) => ?_⟩
      · have hq : q c = false := by cases hq : q c with
          | false => rfl
          | true => exact absurd (hx2.mpr hq) h3
        have k := ih (c + 1) s (by omega) (fun j a1 a2 => hp j (by omega) a2) (by simpa [sm, hq, fl] using hQ)
        rw [nI_a1 c] at k
        exact k
      · have hq : q c = true := hx2.mp (Classical.not_not.mp h3)
        have k := ih (c + 1) (s + 1) (by omega) (fun j a1 a2 => hp j (by omega) a2) (by simpa [sm, hq, fl, Nat.add_assoc] using hQ)
        rw [nI_a1 c, nI_a1 s] at k
        exact k
theorem c_asTold {a k : Nat} (hb : Hd b D R W) (hR : R ≤ 12) (hW : W ≤ 16) (hm : m ≤ 1) (ht : tn ≤ R * W) (hk : k ≤ 2) (ha : a < tn) (hc : ∀ j, j < tn → ¬ t j = -nI 4) : Dt g mX6_asTold [vr 0, vr 2, vi (nI a), vi (nI k)] (spW tn t R W m b) (some (vi (nI (tldL t tn (lnD D W m) W (R * W) a k)))) (spW tn t R W m b) := by
  have hRW := RW_le hR hW
  have h0 : k = 0 ∨ k = 1 ∨ k = 2 := by omega
  rcases h0 with rfl | rfl | rfl
  · refine Ev_of omX6_asTold.1 (Nat.le_of_ble_eq_true rfl) ?_
    refine Z_go kX6_asTold okX6 [38] 80 ?_
    refine ⟨fun _ => ⟨fun _ => ⟨fun _ => ?_, fun h => absurd (by decide : ¬ nI 0 = nI 1) h⟩, fun h => absurd (by decide : ¬ nI 0 = nI 2) h⟩, fun h => absurd (by decide : ¬ nI 0 = nI 1) h⟩
    have k := asTold_loop (g := g) (m := m) (b := b) (t := t) (a := nI a) (k := nI 0) (sh := nI 0) (q := tldP t (lnD D W m) W (R * W) 0) (Q := fun r' B => r' = some (vi (nI (tldL t tn (lnD D W m) W (R * W) a 0))) ∧ B = spW tn t R W m b) hR hW ht (tn - (a + 1)) (a + 1) 0 (by omega) (fun j a1 a2 => ⟨planL (lnD D W m) W j, by rw [nI_add]; exact c_planAt hb hR hW hm (by omega), by simp [tldP]⟩) ⟨by rw [Nat.zero_add]; rfl, rfl⟩
    rw [nI_a1 a] at k
    exact k
  · refine Ev_of omX6_asTold.1 (Nat.le_of_ble_eq_true rfl) ?_
    refine Z_go kX6_asTold okX6 [38] 80 ?_
    refine ⟨fun h => absurd rfl h, fun _ => ⟨fun h => absurd rfl h, fun _ => ?_⟩⟩
    refine asTold_loop (sh := nI 1) (q := tldP t (lnD D W m) W (R * W) 1) hR hW ht (tn - a) a 0 (by omega) (fun j a1 a2 => ?_) ⟨by rw [Nat.zero_add]; rfl, rfl⟩
    rw [nI_add]
    rcases Nat.lt_or_ge (j + 1) (R * W) with q1 | q1
    · exact ⟨planL (lnD D W m) W (j + 1), c_planAt hb hR hW hm q1, by simp [tldP, q1]⟩
    · refine ⟨-nI 4, c_planAt_out hR hW (Or.inr (nI_le q1 (by omega))), ?_⟩
      have : ¬ j + 1 < R * W := by omega
      simp [tldP, this, hc j a2]
  · refine Ev_of omX6_asTold.1 (Nat.le_of_ble_eq_true rfl) ?_
    refine Z_go kX6_asTold okX6 [38] 80 ?_
    refine ⟨fun _ => ⟨fun h => absurd rfl h, fun _ => ⟨fun _ => ?_, fun h => absurd (by decide : ¬ nI 2 = nI 1) h⟩⟩, fun h => absurd (by decide : ¬ nI 2 = nI 1) h⟩
    have k := asTold_loop (g := g) (m := m) (b := b) (t := t) (a := nI a) (k := nI 2) (sh := -nI 1) (q := tldP t (lnD D W m) W (R * W) 2) (Q := fun r' B => r' = some (vi (nI (tldL t tn (lnD D W m) W (R * W) a 2))) ∧ B = spW tn t R W m b) hR hW ht (tn - (a + 1)) (a + 1) 0 (by omega) (fun j a1 a2 => ⟨planL (lnD D W m) W (j - 1), by rw [← Int32.sub_eq_add_neg, pk_sub (by omega)]; exact c_planAt hb hR hW hm (by omega), by simp [tldP]⟩) ⟨by rw [Nat.zero_add]; rfl, rfl⟩
    rw [nI_a1 a] at k
    exact k
def kndL (f : Nat → Nat) : Nat := if f (if f 0 < f 1 then 1 else 0) < f 2 then 2 else if f 0 < f 1 then 1 else 0
theorem tldL_le {L : Nat → Nat → Int32} {N a k : Nat} : tldL t tn L W N a k ≤ tn := by
  have := sm_le (f := fun j => fl (tldP t L W N k j)) (k := 1) (tn - tldS k a) (tldS k a) (fun i _ _ => fl_le _)
  unfold tldL; omega
theorem c_kindOf {a : Nat} (hb : Hd b D R W) (hR : R ≤ 12) (hW : W ≤ 16) (hm : m ≤ 1) (ht : tn ≤ R * W) (ha : a < tn) (hc : ∀ j, j < tn → ¬ t j = -nI 4) : Dt g mX6_kindOf [vr 0, vr 2, vi (nI a)] (spW tn t R W m b) (some (vi (nI (kndL (tldL t tn (lnD D W m) W (R * W) a))))) (spW tn t R W m b) := by
  have hRW := RW_le hR hW
  have q0 := tldL_le (t := t) (tn := tn) (W := W) (L := lnD D W m) (N := R * W) (a := a) (k := 0)
  have q1 := tldL_le (t := t) (tn := tn) (W := W) (L := lnD D W m) (N := R * W) (a := a) (k := 1)
  have q2 := tldL_le (t := t) (tn := tn) (W := W) (L := lnD D W m) (N := R * W) (a := a) (k := 2)
  have step2 : ∀ best : Nat, best ≤ 1 → (nI best = nI best) → Z g mX6_kindOf 4 (fun r' B => r' = some (vi (nI (if tldL t tn (lnD D W m) W (R * W) a best < tldL t tn (lnD D W m) W (R * W) a 2 then 2 else best))) ∧ B = spW tn t R W m b) 5 [some (vr 0), some (vr 2), some (vi (nI a)), some (vi (nI best)), some (vi (nI 2))] [] (spW tn t R W m b) := by
    intro best hb1 _
    have qb := tldL_le (t := t) (tn := tn) (W := W) (L := lnD D W m) (N := R * W) (a := a) (k := best)
    refine Z_go kX6_kindOf okX6 [] 80 ?_
    refine ⟨fun h => absurd (show nI 3 ≤ nI 2 from h) (by decide), fun _ => ?_⟩
    refine ⟨rfl, (c_asTold (k := 2) hb hR hW hm ht (by omega) ha hc).use ?_⟩
    refine ⟨rfl, (c_asTold (k := best) hb hR hW hm ht (by omega) ha hc).use ?_⟩
    refine ⟨fun (h : nI (tldL t tn (lnD D W m) W (R * W) a 2) ≤ nI (tldL t tn (lnD D W m) W (R * W) a best)) => ⟨fun _ => ⟨?_, rfl⟩, fun h => absurd (by decide +kernel : nI 3 ≤ nI 2 + nI 1) h⟩, fun (h : ¬ nI (tldL t tn (lnD D W m) W (R * W) a 2) ≤ nI (tldL t tn (lnD D W m) W (R * W) a best)) => ⟨fun _ => ⟨?_, rfl⟩, fun h => absurd (by decide +kernel : nI 3 ≤ nI 2 + nI 1) h⟩⟩
    · rw [nI_leI (by omega) (by omega)] at h
      rw [if_neg (by omega)]
    · rw [nI_leI (by omega) (by omega)] at h
      rw [if_pos (by omega)]
  refine Ev_of omX6_kindOf.1 (Nat.le_of_ble_eq_true rfl) ?_
  refine Z_go kX6_kindOf okX6 [5] 80 ?_
  refine Z_go kX6_kindOf okX6 [5] 80 ?_
  refine ⟨fun h => absurd (show nI 3 ≤ nI 1 from h) (by decide), fun _ => ?_⟩
  refine ⟨rfl, (c_asTold (k := 1) hb hR hW hm ht (by omega) ha hc).use ?_⟩
  refine ⟨rfl, (c_asTold (k := 0) hb hR hW hm ht (by omega) ha hc).use ?_⟩
  have e2 : nI 1 + nI 1 = nI 2 := by decide +kernel
  refine ⟨fun (h : nI (tldL t tn (lnD D W m) W (R * W) a 1) ≤ nI (tldL t tn (lnD D W m) W (R * W) a 0)) => ?_, fun (h : ¬ nI (tldL t tn (lnD D W m) W (R * W) a 1) ≤ nI (tldL t tn (lnD D W m) W (R * W) a 0)) => ?_⟩
  · rw [nI_leI (by omega) (by omega)] at h
    have k := step2 0 (by omega) rfl
    rw [← e2] at k
    unfold kndL
    rw [if_neg (show ¬ tldL t tn (lnD D W m) W (R * W) a 0 < tldL t tn (lnD D W m) W (R * W) a 1 by omega)]
    exact k
  · rw [nI_leI (by omega) (by omega)] at h
    have k := step2 1 (by omega) rfl
    rw [← e2] at k
    unfold kndL
    rw [if_pos (show tldL t tn (lnD D W m) W (R * W) a 0 < tldL t tn (lnD D W m) W (R * W) a 1 by omega)]
    exact k
end SML
end
section
section TEL
variable {g : GG} {R W m : Nat} {b : Nat → Int32} {D : Nat → Nat → Int32}
def ttW (ln : Nat) (tl : Nat → Int32) : AH := [ob 8 [vr 1, vi (nI ln)], ar 0 40 tl] 
def teW (x : Nat × (Nat → Int32)) (R W m : Nat) (b : Nat → Int32) : AH := [ob 8 [vr 1, vi (nI x.1)], ar 0 40 x.2, ob 2 [vr 3, vi (nI R), vi (nI W), vi (nI m)], ar 0 192 b]
theorem c_tput {ln : Nat} {tl : Nat → Int32} (v : Int32) (h : ln < 40) : Dt g mX8_put [vr 0, vi v] (ttW ln tl) none (ttW (ln + 1) (upd tl ln v)) := by
  refine Ev_of omX8_put.1 (Nat.le_of_ble_eq_true rfl) ?_
  refine Z_go kX8_put okX8 [] 80 ?_
  refine ⟨fun (h2 : nI 40 ≤ nI ln) => ?_, fun _ => ⟨vp_in_nI h (by omega), rfl, ?_⟩⟩
  · rw [nI_leI (by omega) (by omega)] at h2; omega
  · rw [nI_clamp (by omega)]
    unfold ttW
    rw [nI_a1 ln]
    rfl
theorem c_tputE {ln : Nat} {tl : Nat → Int32} (v : Int32) (h : ln < 40) {Q : Option AV → AH → Prop} (k : Q none (teW (ln + 1, upd tl ln v) R W m b)) : Ev g mX8_put [vr 0, vi v] (teW (ln, tl) R W m b) Q :=
  (c_tput v h).fr [0, 1] rfl (by decide) rfl k
/-- the runs of the first n beads of l: how many are alike, the told words, when i beads have been read -/
def trI (l : Nat → Int32) (n : Nat) (x : Nat × (Nat → Int32)) : Nat → Nat × (Nat × (Nat → Int32))
  | 0 => (0, x)
  | i + 1 => if i + 1 = n ∨ ¬ l (i + 1) = l i then (0, ((trI l n x i).2.1 + 1 + 1, upd (upd (trI l n x i).2.2 (trI l n x i).2.1 (nI ((trI l n x i).1 + 1))) ((trI l n x i).2.1 + 1) (l i))) else ((trI l n x i).1 + 1, (trI l n x i).2)
theorem trI_s1 {l : Nat → Int32} {n i : Nat} {x : Nat × (Nat → Int32)} (h : i + 1 = n ∨ ¬ l (i + 1) = l i) : trI l n x (i + 1) = (0, ((trI l n x i).2.1 + 1 + 1, upd (upd (trI l n x i).2.2 (trI l n x i).2.1 (nI ((trI l n x i).1 + 1))) ((trI l n x i).2.1 + 1) (l i))) := by
  simp only [trI]; rw [if_pos h]
theorem trI_s2 {l : Nat → Int32} {n i : Nat} {x : Nat × (Nat → Int32)} (h : ¬ (i + 1 = n ∨ ¬ l (i + 1) = l i)) : trI l n x (i + 1) = ((trI l n x i).1 + 1, (trI l n x i).2) := by
  simp only [trI]; rw [if_neg h]
theorem trI_le {l : Nat → Int32} {n : Nat} {x : Nat × (Nat → Int32)} : ∀ i, (trI l n x i).2.1 ≤ x.1 + 2 * i := by
  intro i
  induction i with
  | zero => simp [trI]
  | succ i ih =>
    simp only [trI]
    split
    · show (trI l n x i).2.1 + 1 + 1 ≤ _; omega
    · show (trI l n x i).2.1 ≤ _; omega
theorem tellRuns_loop {r n : Nat} {x : Nat × (Nat → Int32)} {Q : Option AV → AH → Prop} (hb : Hd b D R W) (hR : R ≤ 12) (hW : W ≤ 16) (hm : m ≤ 1) (hr : r < R) (hn : n ≤ W) (hx : x.1 ≤ 2) (hQ : Q (some (vi (nI (trI (lnD D W m r) n x n).2.1))) (teW (trI (lnD D W m r) n x n).2 R W m b)) : ∀ (q i : Nat) (v : Option AV), i + q = n →
    Z g mX8_tellRuns 4 Q 6 [some (vr 0), some (vr 2), some (vi (nI r)), some (vi (nI n)), some (vi (nI (trI (lnD D W m r) n x i).1)), some (vi (nI i)), v] [] (teW (trI (lnD D W m r) n x i).2 R W m b) := by
  intro q
  induction q with
  | zero =>
    intro i v h1
    refine Z_go kX8_tellRuns okX8 [6] 80 ?_
    refine ⟨fun _ => ?_, fun (h : ¬ nI n ≤ nI i) => ?_⟩
    · have : i = n := by omega
      rw [this]; exact hQ
    · exact absurd (nI_le (by omega) (by omega)) h
  | succ q ih =>
    intro i v h1
    have hle := trI_le (l := lnD D W m r) (n := n) (x := x) i
    have ih2 := ih (i + 1) (some (vi (lnD D W m r i))) (by omega)
    have e1 : nI i + nI 1 = nI (i + 1) := nI_add i 1
    have fin : (i + 1 = n ∨ ¬ lnD D W m r (i + 1) = lnD D W m r i) → Z g mX8_tellRuns 4 Q 46 [some (vr 0), some (vr 2), some (vi (nI r)), some (vi (nI n)), some (vi (nI (trI (lnD D W m r) n x i).1 + nI 1)), some (vi (nI i)), some (vi (lnD D W m r i))] [] (teW (trI (lnD D W m r) n x i).2 R W m b) := by
      intro hc
      refine Z_go kX8_tellRuns okX8 [6] 80 ?_
      refine ⟨rfl, c_tputE _ (show (trI (lnD D W m r) n x i).2.1 < 40 by omega) ?_⟩
      refine ⟨rfl, c_tputE _ (show (trI (lnD D W m r) n x i).2.1 + 1 < 40 by omega) ?_⟩
      simp only [trI, if_pos hc] at ih2
      rw [nI_a1 i, nI_a1 (trI (lnD D W m r) n x i).1] at ih2
      exact ih2
    refine Z_go kX8_tellRuns okX8 [6, 46] 80 ?_
    refine ⟨fun (h : nI n ≤ nI i) => ?_, fun _ => ?_⟩
    · rw [nI_leI (by omega) (by omega)] at h; omega
    · refine ⟨rfl, (c_readAt (i := i) hb hR hW hr (by omega) hm).fr [2, 3] rfl (by decide) rfl ?_⟩
      refine ⟨fun (h2 : nI i + nI 1 = nI n) => ?_, fun (h2 : ¬ nI i + nI 1 = nI n) => ?_⟩
      · rw [e1, nI_eq (by omega) (by omega)] at h2
        exact fin (Or.inl h2)
      · rw [e1, nI_eq (by omega) (by omega)] at h2
        have hc := c_readAt (g := g) (i := i + 1) hb hR hW hr (by omega) hm
        rw [← e1] at hc
        refine ⟨rfl, hc.fr [2, 3] rfl (by decide) rfl ?_⟩
        refine ⟨fun (h3 : lnD D W m r (i + 1) = lnD D W m r i) => ?_, fun (h3 : ¬ lnD D W m r (i + 1) = lnD D W m r i) => fin (Or.inr h3)⟩
        simp only [trI, if_neg (show ¬ (i + 1 = n ∨ ¬ lnD D W m r (i + 1) = lnD D W m r i) from fun z => z.elim h2 (fun z => z h3))] at ih2
        rw [nI_a1 i, nI_a1 (trI (lnD D W m r) n x i).1] at ih2
        exact ih2
theorem c_tellRuns {r n : Nat} {x : Nat × (Nat → Int32)} (hb : Hd b D R W) (hR : R ≤ 12) (hW : W ≤ 16) (hm : m ≤ 1) (hr : r < R) (hn : n ≤ W) (hx : x.1 ≤ 2) : Dt g mX8_tellRuns [vr 0, vr 2, vi (nI r), vi (nI n)] (teW x R W m b) (some (vi (nI (trI (lnD D W m r) n x n).2.1))) (teW (trI (lnD D W m r) n x n).2 R W m b) := by
  refine Ev_of omX8_tellRuns.1 (Nat.le_of_ble_eq_true rfl) ?_
  refine Z_go kX8_tellRuns okX8 [6] 80 ?_
  exact tellRuns_loop hb hR hW hm hr hn hx ⟨rfl, rfl⟩ n 0 none (by omega)
/-- what tellBy answers and tells -/
def tlk (k : Option Nat) (x : Nat × (Nat → Int32)) : Option Nat × (Nat × (Nat → Int32)) := match k with
  | none => (none, x)
  | some j => (some (x.1 + 1), (x.1 + 1, upd x.2 x.1 (nI j)))
theorem c_tellLike {k : Option Nat} {x : Nat × (Nat → Int32)} (hx : x.1 < 40) (hk : ∀ j, k = some j → j < 2 ^ 31) : Dt g mX8_tellLike [vr 0, vi (oI k)] (teW x R W m b) (some (vi (oI (tlk k x).1))) (teW (tlk k x).2 R W m b) := by
  have hn := oI_none hk
  refine Ev_of omX8_tellLike.1 (Nat.le_of_ble_eq_true rfl) ?_
  refine Z_go kX8_tellLike okX8 [] 80 ?_
  refine ⟨fun (h : ¬ oI k = -nI 4) => ?_, fun (h : ¬ ¬ oI k = -nI 4) => ?_⟩
  · rw [hn] at h
    cases hk2 : k with
    | none => exact absurd hk2 h
    | some j =>
      refine ⟨rfl, c_tputE _ hx ?_⟩
      exact ⟨rfl, rfl⟩
  · rw [hn] at h
    have h := Classical.not_not.mp h
    subst h
    exact ⟨rfl, rfl⟩
def tmr (L : Nat → Nat → Int32) (W r : Nat) (x : Nat × (Nat → Int32)) : Option Nat × (Nat × (Nat → Int32)) := if W < 2 ∨ sameL L W r r true = false then (none, x) else (some (trI (L r) ((W + 1) / 2) x ((W + 1) / 2)).2.1, (trI (L r) ((W + 1) / 2) x ((W + 1) / 2)).2)
theorem c_tellMirror {r : Nat} {x : Nat × (Nat → Int32)} (hb : Hd b D R W) (hR : R ≤ 12) (hW : W ≤ 16) (hm : m ≤ 1) (hr : r < R) (hx : x.1 ≤ 2) : Dt g mX8_tellMirror [vr 0, vr 2, vi (nI r)] (teW x R W m b) (some (vi (oI (tmr (lnD D W m) W r x).1))) (teW (tmr (lnD D W m) W r x).2 R W m b) := by
  have e : (nI W + nI 1) / nI 2 = nI ((W + 1) / 2) := by rw [nI_add, pk_div (by omega) (by omega) (by omega)]
  refine Ev_of omX8_tellMirror.1 (Nat.le_of_ble_eq_true rfl) ?_
  refine Z_go kX8_tellMirror okX8 [] 80 ?_
  refine ⟨fun (h : nI W < nI 2) => ?_, fun (h : ¬ nI W < nI 2) => ?_⟩
  · rw [nI_ltI (by omega) (by omega)] at h
    unfold tmr
    rw [if_pos (Or.inl h)]
    exact ⟨rfl, rfl⟩
  · rw [nI_ltI (by omega) (by omega)] at h
    refine ⟨rfl, (c_sameLine (t := true) hb hR hW hm hr hr).fr [2, 3] rfl (by decide) rfl ?_⟩
    cases h3 : sameL (lnD D W m) W r r true with
    | false =>
      refine ⟨fun z => absurd rfl z, fun _ => ?_⟩
      unfold tmr
      rw [if_pos (Or.inr h3)]
      exact ⟨rfl, rfl⟩
    | true =>
      refine ⟨fun _ => ?_, fun (z : ¬ ¬ nI 1 = 0) => absurd (by decide) z⟩
      refine ⟨by decide, ?_⟩
      have hc := c_tellRuns (g := g) (n := (W + 1) / 2) (x := x) hb hR hW hm hr (by omega) hx
      rw [← e] at hc
      refine ⟨rfl, hc.use ?_⟩
      unfold tmr
      rw [if_neg (by rw [h3]; simp; omega)]
      exact ⟨rfl, rfl⟩
def ttm (l : Nat → Int32) (W p : Nat) (x : Nat × (Nat → Int32)) : Option Nat × (Nat × (Nat → Int32)) := if p < 1 ∨ W ≤ p then (none, x) else (some (trI l p (x.1 + 1, upd x.2 x.1 (nI (W / p))) p).2.1, (trI l p (x.1 + 1, upd x.2 x.1 (nI (W / p))) p).2)
theorem c_tellTimes {r p : Nat} {x : Nat × (Nat → Int32)} (hb : Hd b D R W) (hR : R ≤ 12) (hW : W ≤ 16) (hm : m ≤ 1) (hr : r < R) (hx : x.1 ≤ 1) (hp : p ≤ 16) : Dt g mX8_tellTimes [vr 0, vr 2, vi (nI r), vi (nI p)] (teW x R W m b) (some (vi (oI (ttm (lnD D W m r) W p x).1))) (teW (ttm (lnD D W m r) W p x).2 R W m b) := by
  refine Ev_of omX8_tellTimes.1 (Nat.le_of_ble_eq_true rfl) ?_
  refine Z_go kX8_tellTimes okX8 [] 80 ?_
  refine ⟨fun (h : nI p < nI 1) => ?_, fun (h : ¬ nI p < nI 1) => ⟨fun (h2 : nI p < nI W) => ?_, fun (h2 : ¬ nI p < nI W) => ?_⟩⟩
  · rw [nI_ltI (by omega) (by omega)] at h
    unfold ttm
    rw [if_pos (Or.inl h)]
    exact ⟨rfl, rfl⟩
  · rw [nI_ltI (by omega) (by omega)] at h h2
    have e : nI W / nI p = nI (W / p) := pk_div (by omega) (by omega) (by omega)
    refine ⟨nI_ne0 (by omega) (by omega), rfl, c_tputE _ (by omega) ?_⟩
    rw [e]
    refine ⟨rfl, (c_tellRuns (n := p) (x := (x.1 + 1, upd x.2 x.1 (nI (W / p)))) hb hR hW hm hr (by omega) (by show x.1 + 1 ≤ 2; omega)).use ?_⟩
    unfold ttm
    rw [if_neg (by omega)]
    exact ⟨rfl, rfl⟩
  · rw [nI_ltI (by omega) (by omega)] at h2
    unfold ttm
    rw [if_pos (Or.inr (by omega))]
    exact ⟨rfl, rfl⟩
/-- what tellBy answers and tells -/
def tbS (L : Nat → Nat → Int32) (W r f : Nat) (tl : Nat → Int32) : Option Nat × (Nat × (Nat → Int32)) := match f with
  | 0 => tlk (likeL L W r r false) (1, upd tl 0 (nI 0))
  | 1 => tlk (likeL L W r r true) (1, upd tl 0 (nI 1))
  | 2 => tmr L W r (1, upd tl 0 (nI 2))
  | 3 => ttm (L r) W (partL (L r) W) (1, upd tl 0 (nI 3))
  | k + 4 => (some (trI (L r) W (1, upd tl 0 (nI (k + 4))) W).2.1, (trI (L r) W (1, upd tl 0 (nI (k + 4))) W).2)
theorem partL_le {l : Nat → Int32} (hW : 1 ≤ W) : 1 ≤ partL l W ∧ partL l W ≤ W := by
  unfold partL
  cases h : fs1 (ptp l W) 1 (W - 1) with
  | none => exact ⟨hW, Nat.le_refl _⟩
  | some p => have := fs1_some _ _ _ h; exact ⟨this.1, by show p ≤ W; omega⟩
theorem c_tellBy {r f : Nat} {x : Nat × (Nat → Int32)} (hb : Hd b D R W) (hR : R ≤ 12) (hW : W ≤ 16) (hW1 : 1 ≤ W) (hm : m ≤ 1) (hr : r < R) (hf : f ≤ 4) : Dt g mX8_tellBy [vr 0, vr 2, vi (nI r), vi (nI f)] (teW x R W m b) (some (vi (oI (tbS (lnD D W m) W r f x.2).1))) (teW (tbS (lnD D W m) W r f x.2).2 R W m b) := by
  have h0 : f = 0 ∨ f = 1 ∨ f = 2 ∨ f = 3 ∨ f = 4 := by omega
  have hk : ∀ t j, likeL (lnD D W m) W r r t = some j → j < 2 ^ 31 := fun t j h => by have := likeL_lt h; omega
  refine Ev_of omX8_tellBy.1 (Nat.le_of_ble_eq_true rfl) ?_
  refine Z_go kX8_tellBy okX8 [] 80 ?_
  refine ⟨rfl, c_tputE (ln := 0) _ (by omega) ?_⟩
  rcases h0 with rfl | rfl | rfl | rfl | rfl
  · refine ⟨fun _ => ?_, fun z => absurd rfl z⟩
    refine ⟨rfl, (c_likeAhead (t := false) hb hR hW hm hr).fr [2, 3] rfl (by decide) rfl ?_⟩
    refine ⟨rfl, (c_tellLike (x := (1, upd x.2 0 (nI 0))) (Nat.le_of_ble_eq_true rfl) (hk false)).use ?_⟩
    exact ⟨rfl, rfl⟩
  · refine ⟨fun z => absurd z (by decide), fun _ => ⟨fun _ => ?_, fun z => absurd rfl z⟩⟩
    refine ⟨rfl, (c_likeAhead (t := true) hb hR hW hm hr).fr [2, 3] rfl (by decide) rfl ?_⟩
    refine ⟨rfl, (c_tellLike (x := (1, upd x.2 0 (nI 1))) (Nat.le_of_ble_eq_true rfl) (hk true)).use ?_⟩
    exact ⟨rfl, rfl⟩
  · refine ⟨fun z => absurd z (by decide), fun _ => ⟨fun z => absurd z (by decide), fun _ => ⟨fun _ => ?_, fun z => absurd rfl z⟩⟩⟩
    refine ⟨rfl, (c_tellMirror (x := (1, upd x.2 0 (nI 2))) hb hR hW hm hr (Nat.le_of_ble_eq_true rfl)).use ?_⟩
    exact ⟨rfl, rfl⟩
  · refine ⟨fun z => absurd z (by decide), fun _ => ⟨fun z => absurd z (by decide), fun _ => ⟨fun z => absurd z (by decide), fun _ => ⟨fun _ => ?_, fun z => absurd rfl z⟩⟩⟩⟩
    refine ⟨rfl, (c_partOf hb hR hW hm hr hW1).fr [2, 3] rfl (by decide) rfl ?_⟩
    have hp := partL_le (l := lnD D W m r) hW1
    refine ⟨rfl, (c_tellTimes (x := (1, upd x.2 0 (nI 3))) (p := partL (lnD D W m r) W) hb hR hW hm hr (Nat.le_of_ble_eq_true rfl) (by omega)).use ?_⟩
    exact ⟨rfl, rfl⟩
  · refine ⟨fun z => absurd z (by decide), fun _ => ⟨fun z => absurd z (by decide), fun _ => ⟨fun z => absurd z (by decide), fun _ => ⟨fun z => absurd z (by decide), fun _ => ?_⟩⟩⟩⟩
    refine ⟨rfl, (c_tellRuns (n := W) (x := (1, upd x.2 0 (nI 4))) hb hR hW hm hr (Nat.le_refl _) (Nat.le_of_ble_eq_true rfl)).use ?_⟩
    exact ⟨rfl, rfl⟩
/-- how many words by a form -/
def wrdN (L : Nat → Nat → Int32) (W r f : Nat) : Option Nat := match f with
  | 0 => if (likeL L W r r false).isNone then none else some 2
  | 1 => if (likeL L W r r true).isNone then none else some 2
  | 2 => if W < 2 ∨ sameL L W r r true = false then none else some (1 + 2 * runsL (L r) ((W + 1) / 2))
  | 3 => if partL (L r) W = W then none else some (2 + 2 * runsL (L r) (partL (L r) W))
  | _ => some (1 + 2 * runsL (L r) W)
theorem sm_end {f : Nat → Nat} : ∀ (n c : Nat), sm f c (n + 1) = sm f c n + f (c + n) := by
  intro n
  induction n with
  | zero => intro c; simp [sm]
  | succ n ih =>
    intro c
    have := ih (c + 1)
    rw [show sm f c (n + 1 + 1) = f c + sm f (c + 1) (n + 1) from rfl, this, show sm f c (n + 1) = f c + sm f (c + 1) n from rfl]
    rw [show c + 1 + n = c + (n + 1) by omega]
    omega
theorem runsL_s {l : Nat → Int32} {i : Nat} : runsL l (i + 1) = runsL l i + fl (rb l i) := by
  unfold runsL; rw [sm_end, Nat.zero_add]
/-- the words told so far, and the runs begun so far -/
theorem trI_len {l : Nat → Int32} {n : Nat} {x : Nat × (Nat → Int32)} : ∀ i, i ≤ n → (i < n → (((trI l n x i).1 = 0) ↔ rb l i = true)) ∧ (i = n → (trI l n x i).1 = 0 ∨ n = 0) ∧ (trI l n x i).2.1 + (if (trI l n x i).1 = 0 then 0 else 2) = x.1 + 2 * runsL l i := by
  intro i
  induction i with
  | zero => intro _; exact ⟨fun _ => ⟨fun _ => by simp [rb], fun _ => rfl⟩, fun h => Or.inr h.symm, by simp [trI, runsL, sm]⟩
  | succ i ih =>
    intro hi
    obtain ⟨h1, h2, h3⟩ := ih (by omega)
    have h1 := h1 (by omega)
    rw [runsL_s]
    by_cases hc : i + 1 = n ∨ ¬ l (i + 1) = l i
    · rw [trI_s1 hc]
      refine ⟨fun hlt => ?_, fun _ => Or.inl rfl, ?_⟩
      · have : ¬ l (i + 1) = l i := hc.resolve_left (by omega)
        simp [rb, this]
      · show (trI l n x i).2.1 + 1 + 1 + (if (0 : Nat) = 0 then 0 else 2) = _
        by_cases h4 : (trI l n x i).1 = 0
        · rw [if_pos h4] at h3
          rw [h1.mp h4, if_pos rfl]
          simp only [fl, if_pos]
          omega
        · rw [if_neg h4] at h3
          have : rb l i = false := by cases h5 : rb l i with
            | false => rfl
            | true => exact absurd (h1.mpr h5) h4
          rw [this, if_pos rfl]
          simp only [fl, Bool.false_eq_true, if_false]
          omega
    · rw [trI_s2 hc]
      have hc1 : ¬ i + 1 = n := fun z => hc (Or.inl z)
      have hc2 : l (i + 1) = l i := Classical.byContradiction (fun z => hc (Or.inr z))
      refine ⟨fun hlt => ?_, fun z => absurd z hc1, ?_⟩
      · show (trI l n x i).1 + 1 = 0 ↔ _
        simp [rb, hc2]
      · show (trI l n x i).2.1 + (if (trI l n x i).1 + 1 = 0 then 0 else 2) = _
        rw [if_neg (by omega)]
        by_cases h4 : (trI l n x i).1 = 0
        · rw [if_pos h4] at h3
          rw [h1.mp h4]
          simp only [fl, if_pos]
          omega
        · rw [if_neg h4] at h3
          have : rb l i = false := by cases h5 : rb l i with
            | false => rfl
            | true => exact absurd (h1.mpr h5) h4
          rw [this]
          simp only [fl, Bool.false_eq_true, if_false]
          omega
theorem trI_n {l : Nat → Int32} {n : Nat} {x : Nat × (Nat → Int32)} : (trI l n x n).2.1 = x.1 + 2 * runsL l n := by
  obtain ⟨-, h2, h3⟩ := trI_len (l := l) (n := n) (x := x) n (Nat.le_refl _)
  have : (trI l n x n).1 = 0 := by
    rcases h2 rfl with h | h
    · exact h
    · subst h; rfl
  rw [if_pos this] at h3
  exact h3
theorem tbS_n {L : Nat → Nat → Int32} {r f : Nat} {tl : Nat → Int32} (hW1 : 1 ≤ W) : (tbS L W r f tl).1 = wrdN L W r f := by
  match f with
  | 0 => unfold tbS wrdN; cases likeL L W r r false <;> simp [tlk]
  | 1 => unfold tbS wrdN; cases likeL L W r r true <;> simp [tlk]
  | 2 =>
    unfold tbS wrdN tmr
    by_cases h : W < 2 ∨ sameL L W r r true = false
    · simp only [if_pos h]
    · simp only [if_neg h, trI_n]
  | 3 =>
    have hp := partL_le (l := L r) hW1
    unfold tbS wrdN ttm
    by_cases h : partL (L r) W = W
    · simp only [if_pos h]; rw [if_pos (by omega)]
    · simp only [if_neg h]; rw [if_neg (by omega)]; simp only [trI_n]
  | k + 4 => unfold tbS wrdN; simp only [trI_n]
/-- one form against the best so far -/
def bst (w : Nat → Option Nat) (best f : Nat) : Nat := if (w f).isSome ∧ (w f).getD 0 ≤ (w best).getD 0 then f else best
def frmL (L : Nat → Nat → Int32) (W r : Nat) : Nat := bst (wrdN L W r) (bst (wrdN L W r) (bst (wrdN L W r) (bst (wrdN L W r) 4 3) 2) 1) 0
theorem runsL_le {l : Nat → Int32} {n : Nat} : runsL l n ≤ n := by
  have := sm_le (f := fun i => fl (rb l i)) (k := 1) n 0 (fun i _ _ => fl_le _)
  unfold runsL; omega
theorem wrdN_le {L : Nat → Nat → Int32} {r f k : Nat} (hW : W ≤ 16) (hW1 : 1 ≤ W) (h : wrdN L W r f = some k) : k ≤ 34 := by
  have hp := partL_le (l := L r) hW1
  have h1 := runsL_le (l := L r) (n := (W + 1) / 2)
  have h2 := runsL_le (l := L r) (n := partL (L r) W)
  have h3 := runsL_le (l := L r) (n := W)
  match f with
  | 0 => simp only [wrdN] at h; split at h <;> simp at h; omega
  | 1 => simp only [wrdN] at h; split at h <;> simp at h; omega
  | 2 => simp only [wrdN] at h; split at h <;> simp at h; omega
  | 3 => simp only [wrdN] at h; split at h <;> simp at h; omega
  | k + 4 => simp only [wrdN] at h; simp at h; omega
theorem bst_le {w : Nat → Option Nat} {a f : Nat} (ha : a ≤ 4) (hf : f ≤ 4) : bst w a f ≤ 4 := by unfold bst; split <;> omega
theorem bst_some {w : Nat → Option Nat} {a f : Nat} (ha : (w a).isSome) : (w (bst w a f)).isSome := by
  unfold bst; split
  · rename_i h; exact h.1
  · exact ha
theorem tellBest_step {r f best : Nat} {x : Nat × (Nat → Int32)} {v : Option AV} {Q : Option AV → AH → Prop} (hb : Hd b D R W) (hR : R ≤ 12) (hW : W ≤ 16) (hW1 : 1 ≤ W) (hm : m ≤ 1) (hr : r < R) (hf : f ≤ 3) (hbest : best ≤ 4) (hsome : (wrdN (lnD D W m) W r best).isSome)
    (k : ∀ v', Z g mX8_tellBest 4 Q 14 [some (vr 0), some (vr 2), some (vi (nI r)), some (vi (nI (bst (wrdN (lnD D W m) W r) best f))), some (vi (nI ((wrdN (lnD D W m) W r (bst (wrdN (lnD D W m) W r) best f)).getD 0))), some (vi (nI f + -nI 1)), v'] [] (teW (tbS (lnD D W m) W r f x.2).2 R W m b)) :
    Z g mX8_tellBest 4 Q 14 [some (vr 0), some (vr 2), some (vi (nI r)), some (vi (nI best)), some (vi (nI ((wrdN (lnD D W m) W r best).getD 0))), some (vi (nI f)), v] [] (teW x R W m b) := by
  have hle : ∀ q j, wrdN (lnD D W m) W r q = some j → j ≤ 34 := fun q j h => wrdN_le hW hW1 h
  have hn := oI_none (o := wrdN (lnD D W m) W r f) (fun j h => by have := hle f j h; omega)
  obtain ⟨jb, hjb⟩ := Option.isSome_iff_exists.mp hsome
  have hjb34 := hle _ _ hjb
  have k := k (some (vi (oI (wrdN (lnD D W m) W r f))))
  refine Z_go kX8_tellBest okX8 [14] 80 ?_
  refine ⟨fun (h : nI f < 0) => absurd h (nI_pos (by omega)), fun _ => ?_⟩
  refine ⟨rfl, (c_tellBy hb hR hW hW1 hm hr (by omega)).use ?_⟩
  rw [tbS_n hW1]
  refine ⟨fun (h : oI (wrdN (lnD D W m) W r f) = -nI 4) => ?_, fun (h : ¬ oI (wrdN (lnD D W m) W r f) = -nI 4) => ?_⟩
  · rw [hn] at h
    have e : bst (wrdN (lnD D W m) W r) best f = best := by unfold bst; rw [if_neg (by simp [h])]
    rw [e] at k
    exact k
  · rw [hn] at h
    obtain ⟨j, hj⟩ := Option.ne_none_iff_exists'.mp h
    have hj34 := hle _ _ hj
    rw [hj] at k ⊢
    rw [hjb]
    refine ⟨fun (h2 : nI jb < nI j) => ?_, fun (h2 : ¬ nI jb < nI j) => ?_⟩
    · rw [nI_ltI (by omega) (by omega)] at h2
      have e : bst (wrdN (lnD D W m) W r) best f = best := by unfold bst; rw [if_neg (by rw [hj, hjb]; simp; omega)]
      rw [e, hjb] at k
      exact k
    · rw [nI_ltI (by omega) (by omega)] at h2
      have e : bst (wrdN (lnD D W m) W r) best f = f := by unfold bst; rw [if_pos (by rw [hj, hjb]; simp; omega)]
      rw [e, hj] at k
      exact k
theorem c_tellBest {r : Nat} {x : Nat × (Nat → Int32)} (hb : Hd b D R W) (hR : R ≤ 12) (hW : W ≤ 16) (hW1 : 1 ≤ W) (hm : m ≤ 1) (hr : r < R) : ∃ tl, Dt g mX8_tellBest [vr 0, vr 2, vi (nI r)] (teW x R W m b) (some (vi (oI (wrdN (lnD D W m) W r (frmL (lnD D W m) W r))))) (teW (tbS (lnD D W m) W r (frmL (lnD D W m) W r) tl).2 R W m b) := by
  generalize hL : lnD D W m = L
  refine ⟨(tbS L W r 0 (tbS L W r 1 (tbS L W r 2 (tbS L W r 3 (tbS L W r 4 x.2).2.2).2.2).2.2).2.2).2.2, ?_⟩
  subst hL
  have s4 : (wrdN (lnD D W m) W r 4).isSome := rfl
  have e1 : nI 3 + -nI 1 = nI 2 := by decide +kernel
  have e2 : nI 2 + -nI 1 = nI 1 := by decide +kernel
  have e3 : nI 1 + -nI 1 = nI 0 := by decide +kernel
  have l3 : bst (wrdN (lnD D W m) W r) 4 3 ≤ 4 := bst_le (by omega) (by omega)
  have l2 := bst_le (w := wrdN (lnD D W m) W r) (f := 2) l3 (by omega)
  have l1 := bst_le (w := wrdN (lnD D W m) W r) (f := 1) l2 (by omega)
  have l0 := bst_le (w := wrdN (lnD D W m) W r) (f := 0) l1 (by omega)
  have t3 := bst_some (f := 3) s4
  have t2 := bst_some (f := 2) t3
  have t1 := bst_some (f := 1) t2
  refine Ev_of omX8_tellBest.1 (Nat.le_of_ble_eq_true rfl) ?_
  refine Z_go kX8_tellBest okX8 [14] 80 ?_
  refine ⟨rfl, (c_tellBy (f := 4) hb hR hW hW1 hm hr (by omega)).use ?_⟩
  rw [tbS_n hW1]
  refine tellBest_step (x := (tbS (lnD D W m) W r 4 x.2).2) (f := 3) (best := 4) hb hR hW hW1 hm hr (by omega) (by omega) s4 (fun v3 => ?_)
  rw [e1]
  refine tellBest_step (f := 2) hb hR hW hW1 hm hr (by omega) l3 t3 (fun v2 => ?_)
  rw [e2]
  refine tellBest_step (f := 1) hb hR hW hW1 hm hr (by omega) l2 t2 (fun v1 => ?_)
  rw [e3]
  refine tellBest_step (f := 0) hb hR hW hW1 hm hr (by omega) l1 t1 (fun v0 => ?_)
  refine Z_go kX8_tellBest okX8 [] 80 ?_
  refine ⟨fun _ => ?_, fun h => absurd (show nI 0 + -nI 1 < 0 by decide +kernel) h⟩
  refine ⟨rfl, (c_tellBy hb hR hW hW1 hm hr l0).use ?_⟩
  rw [tbS_n hW1]
  exact ⟨rfl, rfl⟩
end TEL
end
section
section SLP
variable {g : GG} {R W m : Nat} {b : Nat → Int32} {D : Nat → Nat → Int32}
def isCol (x : Int32) : Bool := decide (¬ x < 0 ∧ x < nI 6)
theorem c_isColour {A : AH} (x : Int32) : Dt g mX9_isColour [vi x] A (some (vi (nI (fl (isCol x))))) A := by
  refine Ev_of omX9_isColour.1 (Nat.le_of_ble_eq_true rfl) ?_
  refine Z_go kX9_isColour okX9 [] 80 ?_
  refine ⟨fun (h : x < 0) => ⟨Or.inl rfl, ?_, rfl⟩, fun (h : ¬ x < 0) => ⟨fun (h2 : nI 6 ≤ x) => ⟨Or.inl rfl, ?_, rfl⟩, fun (h2 : ¬ nI 6 ≤ x) => ⟨Or.inr rfl, ?_, rfl⟩⟩⟩
  · simp [isCol, h, fl]
  · have : ¬ x < nI 6 := Int32.not_lt.mpr h2
    simp [isCol, this, fl]
  · have : x < nI 6 := Int32.not_le.mp h2
    simp [isCol, this, h, fl]
theorem isCol_n {k : Nat} (h : k < 2 ^ 31) : isCol (nI k) = decide (k ≤ 5) := by
  unfold isCol
  rw [decide_eq_decide]
  rw [nI_ltI h (by omega)]
  constructor
  · rintro ⟨-, h2⟩; omega
  · intro h2; exact ⟨nI_pos h, by omega⟩
def slW (n : Nat) (sl ln : Nat → Int32) : AH := [ob 5 [vr 1, vi (nI n), vr 2], ar 0 16 ln, ar 0 40 sl]
def slP (n : Nat) (sl ln : Nat → Int32) (R W m : Nat) (b : Nat → Int32) : AH := [ob 5 [vr 1, vi (nI n), vr 2], ar 0 16 ln, ar 0 40 sl, ob 2 [vr 4, vi (nI R), vi (nI W), vi (nI m)], ar 0 192 b]
/-- the words on the slip as numbers -/
def Wd (sl : Nat → Int32) (w : Nat → Nat) (n : Nat) : Prop := ∀ i, i < n → sl i = nI (w i) ∧ w i ≤ 99
theorem c_sltake_full {n : Nat} {sl ln : Nat → Int32} {x : Int32} (hn : n = 40) : Dt g mX5_take [vr 0, vi x] (slW n sl ln) (some (vi (nI 0))) (slW n sl ln) := by
  subst hn
  refine Ev_of omX5_take.1 (Nat.le_of_ble_eq_true rfl) ?_
  refine Z_go kX5_take okX5 [] 80 ?_
  refine ⟨fun (h : nI 40 < nI 40) => absurd h (by decide +kernel), fun _ => ⟨Or.inl rfl, rfl, rfl⟩⟩
theorem c_sltake {n : Nat} {sl ln : Nat → Int32} {x : Int32} (hn : n < 40) : Dt g mX5_take [vr 0, vi x] (slW n sl ln) (some (vi (nI 1))) (slW (n + 1) (upd sl n x) ln) := by
  refine Ev_of omX5_take.1 (Nat.le_of_ble_eq_true rfl) ?_
  refine Z_go kX5_take okX5 [] 80 ?_
  refine ⟨fun _ => ⟨vp_in_nI hn (by omega), Or.inr rfl, rfl, ?_⟩, fun (h : ¬ nI n < nI 40) => absurd (nI_lt hn (by omega)) h⟩
  rw [nI_clamp (by omega)]
  unfold slW
  rw [nI_a1 n]
  rfl
def fit (R W be : Nat) : Bool := if R = 0 then decide (1 ≤ be ∧ be ≤ 16) else decide (be = W)
def fitO (R W : Nat) (o : Option Nat) : Option Nat := match o with
  | none => none
  | some be => if fit R W be then some be else none
theorem c_fitting {o : Option Nat} (hR : R ≤ 12) (hW : W ≤ 16) (ho : ∀ be, o = some be → be ≤ 256) {A : AH} (hA : A = pW R W m b) : Dt g mX5_fitting [vr 0, vi (oI o)] A (some (vi (oI (fitO R W o)))) A := by
  subst hA
  have h4 : (-nI 4 : Int32) < nI 1 := by decide +kernel
  have neg : ∀ W : Nat, W ≤ 16 → ¬ (-nI 4 : Int32) = nI W := by
    intro W hW e
    have e2 := congrArg Int32.toInt e
    rw [nI_toInt (by omega)] at e2
    have : (-nI 4).toInt = -4 := by decide +kernel
    omega
  refine Ev_of omX5_fitting.1 (Nat.le_of_ble_eq_true rfl) ?_
  refine Z_go kX5_fitting okX5 [] 80 ?_
  cases o with
  | none =>
    refine ⟨fun (h : ¬ nI R = 0) => ⟨fun _ => ⟨fun _ => ⟨rfl, rfl⟩, fun z => absurd rfl z⟩, fun (h : ¬ ¬ -nI 4 = nI W) => absurd (neg W hW) h⟩, fun _ => ⟨fun _ => ⟨fun _ => ⟨rfl, rfl⟩, fun z => absurd rfl z⟩, fun (h : ¬ -nI 4 < nI 1) => absurd h4 h⟩⟩
  | some be =>
    have hbe := ho be rfl
    refine ⟨fun (h : ¬ nI R = nI 0) => ⟨fun (h2 : ¬ nI be = nI W) => ⟨fun _ => ?_, fun z => absurd rfl z⟩, fun (h2 : ¬ ¬ nI be = nI W) => ⟨fun (z : nI 1 = 0) => absurd z (by decide), fun _ => ?_⟩⟩, fun (h : ¬ ¬ nI R = nI 0) => ⟨fun (h2 : nI be < nI 1) => ⟨fun _ => ?_, fun z => absurd rfl z⟩, fun (h2 : ¬ nI be < nI 1) => ⟨fun (h3 : nI 16 < nI be) => ⟨fun _ => ?_, fun z => absurd rfl z⟩, fun (h3 : ¬ nI 16 < nI be) => ⟨fun (z : nI 1 = 0) => absurd z (by decide), fun _ => ?_⟩⟩⟩⟩
    · rw [nI_eq (by omega) (by omega)] at h h2
      refine ⟨?_, rfl⟩
      simp [fitO, fit, h, h2, oI]
    · rw [nI_eq (by omega) (by omega)] at h h2
      refine ⟨?_, rfl⟩
      simp [fitO, fit, h, Classical.not_not.mp h2, oI]
    · rw [nI_eq (by omega) (by omega)] at h
      rw [nI_ltI (by omega) (by omega)] at h2
      refine ⟨?_, rfl⟩
      have : ¬ 1 ≤ be := by omega
      simp [fitO, fit, Classical.not_not.mp h, this, oI]
    · rw [nI_eq (by omega) (by omega)] at h
      rw [nI_ltI (by omega) (by omega)] at h2 h3
      refine ⟨?_, rfl⟩
      have : ¬ be ≤ 16 := by omega
      simp [fitO, fit, Classical.not_not.mp h, this, oI]
    · rw [nI_eq (by omega) (by omega)] at h
      rw [nI_ltI (by omega) (by omega)] at h2 h3
      refine ⟨?_, rfl⟩
      have a1 : 1 ≤ be := by omega
      have a2 : be ≤ 16 := by omega
      simp [fitO, fit, Classical.not_not.mp h, a1, a2, oI]
/-- q beads of a colour behind be -/
def filB (ln : Nat → Int32) (be q : Nat) (c : Int32) : Nat → Int32 := fun j => if be ≤ j ∧ j < be + q then c else ln j
theorem filB_0 {ln : Nat → Int32} {be : Nat} {c : Int32} : filB ln be 0 c = ln := by
  funext j; unfold filB; rw [if_neg (by omega)]
theorem filB_s {ln : Nat → Int32} {be q : Nat} {c : Int32} : upd (filB ln be q c) (be + q) c = filB ln be (q + 1) c := by
  funext j
  unfold upd filB
  by_cases h : j = be + q
  · rw [if_pos h, if_pos (by omega)]
  · rw [if_neg h]
    by_cases h2 : be ≤ j ∧ j < be + q
    · rw [if_pos h2, if_pos (by omega)]
    · rw [if_neg h2, if_neg (by omega)]
/-- runs from word i on, k of them -/
def rdR (w : Nat → Nat) : Nat → Nat → Nat → (Nat → Int32) → Option Nat × (Nat → Int32)
  | 0, _, be, ln => (some be, ln)
  | k + 1, i, be, ln => if 1 ≤ w i ∧ be + w i ≤ 16 ∧ w (i + 1) ≤ 5 then rdR w k (i + 2) (be + w i) (filB ln be (w i) (nI (w (i + 1)))) else (none, ln)
theorem rdR_le {w : Nat → Nat} : ∀ (k i be : Nat) (ln : Nat → Int32) (e : Nat), be ≤ 16 → (rdR w k i be ln).1 = some e → be + k ≤ e ∧ e ≤ 16 := by
  intro k
  induction k with
  | zero => intro i be ln e h1 h2; simp [rdR] at h2; omega
  | succ k ih =>
    intro i be ln e h1 h2
    simp only [rdR] at h2
    split at h2
    · rename_i h3; have := ih _ _ _ _ h3.2.1 h2; omega
    · cases h2
def srS (w : Nat → Nat) (n fr : Nat) (ln : Nat → Int32) : Option Nat × (Nat → Int32) := if n ≤ fr ∨ ¬ (n - fr) % 2 = 0 then (none, ln) else rdR w ((n - fr) / 2) fr 0 ln
theorem srS_le {w : Nat → Nat} {n fr e : Nat} {ln : Nat → Int32} (h : (srS w n fr ln).1 = some e) : 1 ≤ e ∧ e ≤ 16 := by
  unfold srS at h
  split at h
  · cases h
  · rename_i h2; have := rdR_le _ _ _ _ _ (by omega) h; omega
theorem speakIn_loop {sl ln : Nat → Int32} {n fr i be q : Nat} {c : Int32} {Q : Option AV → AH → Prop} (hi : i + 1 < 40) (hbe : be + q ≤ 16) (hc : sl (i + 1) = c)
    (hQ : ∀ v, Z g mX5_speakRuns 3 Q 109 [some (vr 0), some (vi (nI fr)), some (vi (nI be)), some (vi (nI i)), some (vi (nI q)), v] [] (slW n sl (filB ln be q c))) : ∀ (z j : Nat), j + z = q →
    Z g mX5_speakRuns 3 Q 79 [some (vr 0), some (vi (nI fr)), some (vi (nI be)), some (vi (nI i)), some (vi (nI q)), some (vi (nI j))] [] (slW n sl (filB ln be j c)) := by
  intro z
  induction z with
  | zero =>
    intro j h1
    refine Z_go kX5_speakRuns okX5 [79, 109] 80 ?_
    refine ⟨fun _ => ?_, fun (h : ¬ nI q ≤ nI j) => ?_⟩
    · have : j = q := by omega
      rw [this]; exact hQ _
    · exact absurd (nI_le (by omega) (by omega)) h
  | succ z ih =>
    intro j h1
    have e1 : nI i + nI 1 = nI (i + 1) := nI_add _ _
    have e2 : nI be + nI j = nI (be + j) := nI_add _ _
    refine Z_go kX5_speakRuns okX5 [79, 109] 80 ?_
    refine ⟨fun (h : nI q ≤ nI j) => ?_, fun _ => ?_⟩
    · rw [nI_leI (by omega) (by omega)] at h; omega
    · refine ⟨by rw [e1]; exact vp_in_nI (by omega) (by omega), by rw [e2]; exact vp_in_nI (by omega) (by omega), ?_⟩
      rw [e1, e2, nI_clamp (by omega), nI_clamp (by omega), hc]
      have k := ih (j + 1) (by omega)
      rw [nI_a1 j, ← filB_s] at k
      exact k
theorem speakRuns_loop {sl : Nat → Int32} {w : Nat → Nat} {n fr : Nat} {Q : Option AV → AH → Prop} (hw : Wd sl w n) (hn : n ≤ 40) : ∀ (k i be : Nat) (ln : Nat → Int32) (v4 v5 : Option AV), i + 2 * k = n → be ≤ 16 → Q (some (vi (oI (rdR w k i be ln).1))) (slW n sl (rdR w k i be ln).2) →
    Z g mX5_speakRuns 3 Q 26 [some (vr 0), some (vi (nI fr)), some (vi (nI be)), some (vi (nI i)), v4, v5] [] (slW n sl ln) := by
  intro k
  induction k with
  | zero =>
    intro i be ln v4 v5 h1 h2 hQ
    have e1 : nI i + nI 1 = nI (i + 1) := nI_add _ _
    refine Z_go kX5_speakRuns okX5 [26] 80 ?_
    refine ⟨fun _ => hQ, fun (h : ¬ nI n ≤ nI i + nI 1) => ?_⟩
    rw [e1] at h; exact absurd (nI_le (by omega) (by omega)) h
  | succ k ih =>
    intro i be ln v4 v5 h1 h2 hQ
    have e1 : nI i + nI 1 = nI (i + 1) := nI_add _ _
    obtain ⟨s1, s2⟩ := hw i (by omega)
    obtain ⟨s3, s4⟩ := hw (i + 1) (by omega)
    have e2 : nI be + nI (w i) = nI (be + w i) := nI_add _ _
    refine Z_go kX5_speakRuns okX5 [26, 76] 80 ?_
    refine ⟨fun (h : nI n ≤ nI i + nI 1) => ?_, fun _ => ?_⟩
    · rw [e1, nI_leI (by omega) (by omega)] at h; omega
    · refine ⟨vp_in_nI (by omega) (by omega), ?_⟩
      rw [nI_clamp (by omega), s1]
      refine ⟨fun (h3 : nI (w i) < nI 1) => ?_, fun (h3 : ¬ nI (w i) < nI 1) => ⟨fun (h4 : nI 16 < nI be + nI (w i)) => ?_, fun (h4 : ¬ nI 16 < nI be + nI (w i)) => ?_⟩⟩
      · rw [nI_ltI (by omega) (by omega)] at h3
        simp only [rdR, if_neg (show ¬ (1 ≤ w i ∧ be + w i ≤ 16 ∧ w (i + 1) ≤ 5) by omega)] at hQ
        exact hQ
      · rw [e2, nI_ltI (by omega) (by omega)] at h4
        simp only [rdR, if_neg (show ¬ (1 ≤ w i ∧ be + w i ≤ 16 ∧ w (i + 1) ≤ 5) by omega)] at hQ
        exact hQ
      · rw [nI_ltI (by omega) (by omega)] at h3
        rw [e2, nI_ltI (by omega) (by omega)] at h4
        refine ⟨by rw [e1]; exact vp_in_nI (by omega) (by omega), ?_⟩
        rw [e1, nI_clamp (by omega), s3]
        refine (c_isColour (nI (w (i + 1)))).use ?_
        rw [isCol_n (by omega)]
        by_cases h5 : w (i + 1) ≤ 5
        · rw [decide_eq_true h5]
          refine ⟨fun _ => ?_, fun (z : ¬ ¬ nI 1 = 0) => absurd (by decide) z⟩
          simp only [rdR, if_pos (show 1 ≤ w i ∧ be + w i ≤ 16 ∧ w (i + 1) ≤ 5 by omega)] at hQ
          refine Z_go kX5_speakRuns okX5 [79] 80 ?_
          have k2 := speakIn_loop (g := g) (fr := fr) (Q := Q) (sl := sl) (ln := ln) (n := n) (i := i) (be := be) (q := w i) (c := nI (w (i + 1))) (by omega) (by omega) s3 (fun v => by
            refine Z_go kX5_speakRuns okX5 [26] 80 ?_
            have k3 := ih (i + 2) (be + w i) (filB ln be (w i) (nI (w (i + 1)))) (some (vi (nI (w i)))) v (by omega) (by omega) hQ
            rw [← nI_add be, ← nI_add i 2] at k3
            exact k3) (w i) 0 (by omega)
          rw [filB_0] at k2
          exact k2
        · rw [decide_eq_false h5]
          refine ⟨fun z => absurd rfl z, fun _ => ?_⟩
          simp only [rdR, if_neg (show ¬ (1 ≤ w i ∧ be + w i ≤ 16 ∧ w (i + 1) ≤ 5) by omega)] at hQ
          exact hQ
theorem c_speakRuns {sl ln : Nat → Int32} {w : Nat → Nat} {n fr : Nat} (hw : Wd sl w n) (hn : n ≤ 40) (hf : fr ≤ 2) : Dt g mX5_speakRuns [vr 0, vi (nI fr)] (slW n sl ln) (some (vi (oI (srS w n fr ln).1))) (slW n sl (srS w n fr ln).2) := by
  refine Ev_of omX5_speakRuns.1 (Nat.le_of_ble_eq_true rfl) ?_
  refine Z_go kX5_speakRuns okX5 [26] 80 ?_
  refine ⟨fun (h : nI n ≤ nI fr) => ?_, fun (h : ¬ nI n ≤ nI fr) => ?_⟩
  · rw [nI_leI (by omega) (by omega)] at h
    unfold srS
    rw [if_pos (Or.inl h)]
    exact ⟨rfl, rfl⟩
  · rw [nI_leI (by omega) (by omega)] at h
    have e0 : nI n - nI fr = nI (n - fr) := pk_sub (by omega)
    have e : (nI n - nI fr) - (nI n - nI fr) / nI 2 * nI 2 = nI ((n - fr) % 2) := by rw [e0]; exact pk_rem (by omega) (by omega) (by omega)
    refine ⟨by decide, fun (h2 : (nI n - nI fr) - (nI n - nI fr) / nI 2 * nI 2 = nI 0) => ?_, fun (h2 : ¬ (nI n - nI fr) - (nI n - nI fr) / nI 2 * nI 2 = nI 0) => ?_⟩
    · rw [e, nI_eq (by omega) (by omega)] at h2
      have es : srS w n fr ln = rdR w ((n - fr) / 2) fr 0 ln := by unfold srS; rw [if_neg (by omega)]
      rw [es]
      exact speakRuns_loop hw hn ((n - fr) / 2) fr 0 ln none none (by omega) (by omega) ⟨rfl, rfl⟩
    · rw [e, nI_eq (by omega) (by omega)] at h2
      unfold srS
      rw [if_pos (Or.inr h2)]
      exact ⟨rfl, rfl⟩
/-- the line of a row, or that from its end -/
def lkI (L : Nat → Nat → Int32) (W k : Nat) (t : Bool) (ln : Nat → Int32) (c : Nat) : Nat → Int32 := fun j => if j < c then L k (if t then W - 1 - j else j) else ln j
theorem lkI_s {L : Nat → Nat → Int32} {k c : Nat} {t : Bool} {ln : Nat → Int32} : upd (lkI L W k t ln c) c (L k (if t then W - 1 - c else c)) = lkI L W k t ln (c + 1) := by
  funext j
  unfold upd lkI
  by_cases h : j = c
  · subst h; rw [if_pos rfl, if_pos (show j < j + 1 by omega)]
  · rw [if_neg h]
    by_cases h2 : j < c
    · rw [if_pos h2, if_pos (show j < c + 1 by omega)]
    · rw [if_neg h2, if_neg (by omega)]
def slkS (L : Nat → Nat → Int32) (R W n k : Nat) (t : Bool) (ln : Nat → Int32) : Option Nat × (Nat → Int32) := if ¬ n = 2 ∨ ¬ k < R then (none, ln) else (some W, lkI L W k t ln W)
theorem speakLike_loop {sl ln : Nat → Int32} {n k : Nat} {t : Bool} {Q : Option AV → AH → Prop} (hb : Hd b D R W) (hR : R ≤ 12) (hW : W ≤ 16) (hm : m ≤ 1) (hk : k < R) (hQ : Q (some (vi (nI W))) (slP n sl (lkI (lnD D W m) W k t ln W) R W m b)) : ∀ (z c : Nat), c + z = W →
    Z g mX5_speakLike 5 Q 29 [some (vr 0), some (vr 3), some (vi (nI (fl t))), some (vi (nI k)), some (vi (nI c))] [] (slP n sl (lkI (lnD D W m) W k t ln c) R W m b) := by
  intro z
  induction z with
  | zero =>
    intro c h1
    refine Z_go kX5_speakLike okX5 [29] 80 ?_
    refine ⟨fun _ => ?_, fun (h : ¬ nI W ≤ nI c) => ?_⟩
    · have : c = W := by omega
      rw [this]; exact hQ
    · exact absurd (nI_le (by omega) (by omega)) h
  | succ z ih =>
    intro c h1
    have k2 := ih (c + 1) (by omega)
    rw [nI_a1 c, ← lkI_s] at k2
    refine Z_go kX5_speakLike okX5 [29] 80 ?_
    refine ⟨fun (h : nI W ≤ nI c) => ?_, fun _ => ?_⟩
    · rw [nI_leI (by omega) (by omega)] at h; omega
    · cases t with
      | false =>
        refine ⟨fun _ => ?_, fun h => absurd rfl h⟩
        refine ⟨rfl, (c_readAt (i := c) hb hR hW hk (by omega) hm).fr [3, 4] rfl (by decide) rfl ?_⟩
        refine ⟨vp_in_nI (by omega) (by omega), ?_⟩
        rw [nI_clamp (by omega)]
        exact k2
      | true =>
        refine ⟨fun h => absurd (show nI 1 = 0 from h) (by decide), fun _ => ?_⟩
        have e : nI W - nI 1 - nI c = nI (W - 1 - c) := by rw [pk_sub (by omega), pk_sub (by omega)]
        have hc := c_readAt (g := g) (i := W - 1 - c) hb hR hW hk (by omega) hm
        rw [← e] at hc
        refine ⟨rfl, hc.fr [3, 4] rfl (by decide) rfl ?_⟩
        refine ⟨vp_in_nI (by omega) (by omega), ?_⟩
        rw [nI_clamp (by omega)]
        exact k2
theorem hasRow_n {k : Nat} (hR : R ≤ 12) (hk : k < 2 ^ 31) : hasRow R (nI k) = decide (k < R) := by
  unfold hasRow
  rw [decide_eq_decide, nI_ltI hk (by omega)]
  exact ⟨fun h => h.2, fun h => ⟨nI_pos hk, h⟩⟩
theorem c_speakLike {sl ln : Nat → Int32} {w : Nat → Nat} {n : Nat} {t : Bool} (hb : Hd b D R W) (hR : R ≤ 12) (hW : W ≤ 16) (hm : m ≤ 1) (hw : Wd sl w n) (hn2 : 2 ≤ n) (hn : n ≤ 40) : Dt g mX5_speakLike [vr 0, vr 3, vi (nI (fl t))] (slP n sl ln R W m b) (some (vi (oI (slkS (lnD D W m) R W n (w 1) t ln).1))) (slP n sl (slkS (lnD D W m) R W n (w 1) t ln).2 R W m b) := by
  obtain ⟨s1, s2⟩ := hw 1 (by omega)
  refine Ev_of omX5_speakLike.1 (Nat.le_of_ble_eq_true rfl) ?_
  refine Z_go kX5_speakLike okX5 [29] 80 ?_
  refine ⟨vp_in_nI (by omega) (by omega), ?_⟩
  rw [show (nI 1).toNatClampNeg = 1 from rfl, s1]
  refine ⟨fun (h : ¬ nI n = nI 2) => ?_, fun (h : ¬ ¬ nI n = nI 2) => ?_⟩
  · rw [nI_eq (by omega) (by omega)] at h
    unfold slkS
    rw [if_pos (Or.inl h)]
    exact ⟨rfl, rfl⟩
  · rw [nI_eq (by omega) (by omega)] at h
    refine ⟨rfl, (c_hasRow (nI (w 1))).fr [3, 4] rfl (by decide) rfl ?_⟩
    rw [hasRow_n hR (by omega)]
    by_cases h2 : w 1 < R
    · rw [decide_eq_true h2]
      refine ⟨fun _ => ?_, fun (z : ¬ ¬ nI 1 = 0) => absurd (by decide) z⟩
      have es : slkS (lnD D W m) R W n (w 1) t ln = (some W, lkI (lnD D W m) W (w 1) t ln W) := by unfold slkS; rw [if_neg (by omega)]
      rw [es]
      have k := speakLike_loop (g := g) (sl := sl) (ln := ln) (n := n) (t := t) (Q := fun r' B => r' = some (vi (oI (some W))) ∧ B = slP n sl (lkI (lnD D W m) W (w 1) t ln W) R W m b) hb hR hW hm h2 ⟨rfl, rfl⟩ W 0 (by omega)
      have e0 : lkI (lnD D W m) W (w 1) t ln 0 = ln := by funext j; simp [lkI]
      rw [e0] at k
      exact k
    · rw [decide_eq_false h2]
      refine ⟨fun z => absurd rfl z, fun _ => ?_⟩
      unfold slkS
      rw [if_pos (Or.inr h2)]
      exact ⟨rfl, rfl⟩
/-- from the middle on, mirrored, up to c -/
def mrI (W : Nat) (ln : Nat → Int32) (c : Nat) : Nat → Int32 := fun j => if (W + 1) / 2 ≤ j ∧ j < c then ln (W - 1 - j) else ln j
theorem mrI_s {ln : Nat → Int32} {c : Nat} (h0 : (W + 1) / 2 ≤ c) (h1 : c < W) : upd (mrI W ln c) c (mrI W ln c (W - 1 - c)) = mrI W ln (c + 1) := by
  have e : mrI W ln c (W - 1 - c) = ln (W - 1 - c) := by unfold mrI; rw [if_neg (by omega)]
  rw [e]
  funext j
  unfold upd mrI
  by_cases h : j = c
  · subst h; rw [if_pos rfl, if_pos (show (W + 1) / 2 ≤ j ∧ j < j + 1 by omega)]
  · rw [if_neg h]
    by_cases h2 : (W + 1) / 2 ≤ j ∧ j < c
    · rw [if_pos h2, if_pos (show (W + 1) / 2 ≤ j ∧ j < c + 1 by omega)]
    · rw [if_neg h2, if_neg (show ¬ ((W + 1) / 2 ≤ j ∧ j < c + 1) by omega)]
def smS (W : Nat) (w : Nat → Nat) (n : Nat) (ln : Nat → Int32) : Option Nat × (Nat → Int32) := if W < 2 then (none, ln) else if (srS w n 1 ln).1 = some ((W + 1) / 2) then (some W, mrI W (srS w n 1 ln).2 W) else (none, (srS w n 1 ln).2)
theorem oI_inj {o : Option Nat} {k : Nat} (ho : ∀ j, o = some j → j < 2 ^ 31) (hk : k < 2 ^ 31) : oI o = nI k ↔ o = some k := by
  cases o with
  | none =>
    simp only [oI, reduceCtorEq, iff_false]
    intro e
    have e2 := congrArg Int32.toInt e
    rw [nI_toInt hk] at e2
    have : (-nI 4).toInt = -4 := by decide +kernel
    omega
  | some j => simp only [oI, Option.some.injEq]; exact nI_eq (ho j rfl) hk
theorem speakMirror_loop {sl ln : Nat → Int32} {n : Nat} {h2 : Int32} {Q : Option AV → AH → Prop} (hW : W ≤ 16) (hQ : Q (some (vi (nI W))) (slP n sl (mrI W ln W) R W m b)) : ∀ (z c : Nat), c + z = W → (W + 1) / 2 ≤ c →
    Z g mX5_speakMirror 5 Q 31 [some (vr 0), some (vr 3), some (vi h2), some (vi (nI c))] [] (slP n sl (mrI W ln c) R W m b) := by
  intro z
  induction z with
  | zero =>
    intro c h1 h3
    refine Z_go kX5_speakMirror okX5 [31] 80 ?_
    refine ⟨fun _ => ?_, fun (h : ¬ nI W ≤ nI c) => ?_⟩
    · have : c = W := by omega
      rw [this]; exact hQ
    · exact absurd (nI_le (by omega) (by omega)) h
  | succ z ih =>
    intro c h1 h3
    have k2 := ih (c + 1) (by omega) (by omega)
    rw [nI_a1 c, ← mrI_s h3 (by omega)] at k2
    have e : nI W - nI 1 - nI c = nI (W - 1 - c) := by rw [pk_sub (by omega), pk_sub (by omega)]
    refine Z_go kX5_speakMirror okX5 [31] 80 ?_
    refine ⟨fun (h : nI W ≤ nI c) => ?_, fun _ => ?_⟩
    · rw [nI_leI (by omega) (by omega)] at h; omega
    · refine ⟨by rw [e]; exact vp_in_nI (by omega) (by omega), vp_in_nI (by omega) (by omega), ?_⟩
      rw [e, nI_clamp (by omega), nI_clamp (by omega)]
      exact k2
theorem c_speakMirror {sl ln : Nat → Int32} {w : Nat → Nat} {n : Nat} (hW : W ≤ 16) (hw : Wd sl w n) (hn : n ≤ 40) : Dt g mX5_speakMirror [vr 0, vr 3] (slP n sl ln R W m b) (some (vi (oI (smS W w n ln).1))) (slP n sl (smS W w n ln).2 R W m b) := by
  have e : (nI W + nI 1) / nI 2 = nI ((W + 1) / 2) := by rw [nI_add, pk_div (by omega) (by omega) (by omega)]
  have ho : ∀ j, (srS w n 1 ln).1 = some j → j < 2 ^ 31 := fun j h => by have := srS_le h; omega
  refine Ev_of omX5_speakMirror.1 (Nat.le_of_ble_eq_true rfl) ?_
  refine Z_go kX5_speakMirror okX5 [31] 80 ?_
  refine ⟨by decide, fun (h : nI W < nI 2) => ?_, fun (h : ¬ nI W < nI 2) => ?_⟩
  · rw [nI_ltI (by omega) (by omega)] at h
    unfold smS
    rw [if_pos h]
    exact ⟨rfl, rfl⟩
  · rw [nI_ltI (by omega) (by omega)] at h
    refine ⟨rfl, (c_speakRuns (fr := 1) hw hn (by omega)).fr [0, 1, 2] rfl (by decide) rfl ?_⟩
    refine ⟨fun (h2 : oI (srS w n 1 ln).1 = (nI W + nI 1) / nI 2) => ?_, fun (h2 : ¬ oI (srS w n 1 ln).1 = (nI W + nI 1) / nI 2) => ?_⟩
    · rw [e, oI_inj ho (by omega)] at h2
      have es : smS W w n ln = (some W, mrI W (srS w n 1 ln).2 W) := by unfold smS; rw [if_neg h, if_pos h2]
      rw [es]
      have k := speakMirror_loop (g := g) (R := R) (m := m) (b := b) (sl := sl) (ln := (srS w n 1 ln).2) (n := n) (h2 := (nI W + nI 1) / nI 2) (Q := fun r' B => r' = some (vi (oI (some W))) ∧ B = slP n sl (mrI W (srS w n 1 ln).2 W) R W m b) hW ⟨rfl, rfl⟩ (W - (W + 1) / 2) ((W + 1) / 2) (by omega) (by omega)
      have e0 : mrI W (srS w n 1 ln).2 ((W + 1) / 2) = (srS w n 1 ln).2 := by funext j; unfold mrI; rw [if_neg (by omega)]
      rw [e0, ← e] at k
      exact k
    · rw [e, oI_inj ho (by omega)] at h2
      have es : smS W w n ln = (none, (srS w n 1 ln).2) := by unfold smS; rw [if_neg h, if_neg h2]
      rw [es]
      exact ⟨rfl, rfl⟩
/-- a part again and again, up to c -/
def tmI (p : Nat) (ln : Nat → Int32) (c : Nat) : Nat → Int32 := fun j => if p ≤ j ∧ j < c then ln (j % p) else ln j
theorem tmI_s {p c : Nat} {ln : Nat → Int32} (h0 : 1 ≤ p) (h1 : p ≤ c) : upd (tmI p ln c) c (tmI p ln c (c - p)) = tmI p ln (c + 1) := by
  have e : tmI p ln c (c - p) = ln (c % p) := by
    unfold tmI
    by_cases h : p ≤ c - p
    · rw [if_pos (by omega), Nat.mod_eq_sub_mod h1]
    · rw [if_neg (by omega), Nat.mod_eq_sub_mod h1, Nat.mod_eq_of_lt (by omega)]
  rw [e]
  funext j
  unfold upd
  by_cases h : j = c
  · subst h; rw [if_pos rfl]; unfold tmI; rw [if_pos (show p ≤ j ∧ j < j + 1 by omega)]
  · rw [if_neg h]
    unfold tmI
    by_cases h2 : p ≤ j ∧ j < c
    · rw [if_pos h2, if_pos (show p ≤ j ∧ j < c + 1 by omega)]
    · rw [if_neg h2, if_neg (show ¬ (p ≤ j ∧ j < c + 1) by omega)]
def stmS (R W t : Nat) (w : Nat → Nat) (n : Nat) (ln : Nat → Int32) : Option Nat × (Nat → Int32) := if t < 2 ∨ 16 < t then (none, (srS w n 2 ln).2) else match (srS w n 2 ln).1 with
  | none => (none, (srS w n 2 ln).2)
  | some p => if fit R W (t * p) then (some (t * p), tmI p (srS w n 2 ln).2 (t * p)) else (none, (srS w n 2 ln).2)
theorem speakTimes_loop {sl ln : Nat → Int32} {n p e : Nat} {t : Int32} {Q : Option AV → AH → Prop} (hp : 1 ≤ p) (he : e ≤ 16) (hQ : Q (some (vi (nI e))) (slP n sl (tmI p ln e) R W m b)) : ∀ (z c : Nat), c + z = e → p ≤ c →
    Z g mX5_speakTimes 5 Q 45 [some (vr 0), some (vr 3), some (vi t), some (vi (nI p)), some (vi (nI e)), some (vi (nI c))] [] (slP n sl (tmI p ln c) R W m b) := by
  intro z
  induction z with
  | zero =>
    intro c h1 h3
    refine Z_go kX5_speakTimes okX5 [45] 80 ?_
    refine ⟨fun _ => ?_, fun (h : ¬ nI e ≤ nI c) => ?_⟩
    · have : c = e := by omega
      rw [this]; exact hQ
    · exact absurd (nI_le (by omega) (by omega)) h
  | succ z ih =>
    intro c h1 h3
    have k2 := ih (c + 1) (by omega) (by omega)
    rw [nI_a1 c, ← tmI_s hp h3] at k2
    have e2 : nI c - nI p = nI (c - p) := pk_sub h3
    refine Z_go kX5_speakTimes okX5 [45] 80 ?_
    refine ⟨fun (h : nI e ≤ nI c) => ?_, fun _ => ?_⟩
    · rw [nI_leI (by omega) (by omega)] at h; omega
    · refine ⟨by rw [e2]; exact vp_in_nI (by omega) (by omega), vp_in_nI (by omega) (by omega), ?_⟩
      rw [e2, nI_clamp (by omega), nI_clamp (by omega)]
      exact k2
theorem fit_le {be : Nat} (hW : W ≤ 16) (h : fit R W be = true) : be ≤ 16 := by
  unfold fit at h
  split at h
  · have := of_decide_eq_true h; omega
  · have := of_decide_eq_true h; omega
theorem c_speakTimes {sl ln : Nat → Int32} {w : Nat → Nat} {n : Nat} (hR : R ≤ 12) (hW : W ≤ 16) (hw : Wd sl w n) (hn2 : 2 ≤ n) (hn : n ≤ 40) : Dt g mX5_speakTimes [vr 0, vr 3] (slP n sl ln R W m b) (some (vi (oI (stmS R W (w 1) w n ln).1))) (slP n sl (stmS R W (w 1) w n ln).2 R W m b) := by
  obtain ⟨s1, s2⟩ := hw 1 (by omega)
  have ho : ∀ j, (srS w n 2 ln).1 = some j → j < 2 ^ 31 := fun j h => by have := srS_le h; omega
  have hn0 := oI_none ho
  refine Ev_of omX5_speakTimes.1 (Nat.le_of_ble_eq_true rfl) ?_
  refine Z_go kX5_speakTimes okX5 [45] 80 ?_
  refine ⟨vp_in_nI (by omega) (by omega), ?_⟩
  rw [show (nI 1).toNatClampNeg = 1 from rfl, s1]
  refine ⟨rfl, (c_speakRuns (fr := 2) hw hn (by omega)).fr [0, 1, 2] rfl (by decide) rfl ?_⟩
  refine ⟨fun (h : nI (w 1) < nI 2) => ?_, fun (h : ¬ nI (w 1) < nI 2) => ⟨fun (h2 : nI 16 < nI (w 1)) => ?_, fun (h2 : ¬ nI 16 < nI (w 1)) => ⟨fun (h3 : ¬ oI (srS w n 2 ln).1 = -nI 4) => ?_, fun (h3 : ¬ ¬ oI (srS w n 2 ln).1 = -nI 4) => ?_⟩⟩⟩
  · rw [nI_ltI (by omega) (by omega)] at h
    unfold stmS
    rw [if_pos (Or.inl h)]
    exact ⟨rfl, rfl⟩
  · rw [nI_ltI (by omega) (by omega)] at h2
    unfold stmS
    rw [if_pos (Or.inr h2)]
    exact ⟨rfl, rfl⟩
  · rw [nI_ltI (by omega) (by omega)] at h h2
    rw [hn0] at h3
    obtain ⟨p, hp⟩ := Option.ne_none_iff_exists'.mp h3
    obtain ⟨p1, p2⟩ := srS_le hp
    have hmul : w 1 * p ≤ 256 := Nat.le_trans (Nat.mul_le_mul (show w 1 ≤ 16 by omega) p2) (by decide)
    have hpm : p ≤ w 1 * p := by have := Nat.mul_le_mul (show 1 ≤ w 1 by omega) (Nat.le_refl p); omega
    have em : nI (w 1) * nI p = nI (w 1 * p) := pk_mul _ _
    rw [hp]
    have hf := c_fitting (g := g) (R := R) (W := W) (m := m) (b := b) (o := some (w 1 * p)) hR hW (fun be h => by cases h; exact hmul) rfl
    have hf2 : Dt g mX5_fitting [vr 0, vi (nI (w 1) * nI p)] (pW R W m b) (some (vi (oI (fitO R W (some (w 1 * p)))))) (pW R W m b) := by rw [em]; exact hf
    refine hf2.fr [3, 4] rfl (by decide) rfl ?_
    have es : stmS R W (w 1) w n ln = if fit R W (w 1 * p) then (some (w 1 * p), tmI p (srS w n 2 ln).2 (w 1 * p)) else (none, (srS w n 2 ln).2) := by unfold stmS; rw [if_neg (by omega), hp]
    rw [es]
    simp only [fitO]
    by_cases hfit : fit R W (w 1 * p) = true
    · rw [if_pos hfit, if_pos hfit]
      have k := speakTimes_loop (g := g) (R := R) (W := W) (m := m) (b := b) (sl := sl) (ln := (srS w n 2 ln).2) (n := n) (t := nI (w 1)) (Q := fun r' B => r' = some (vi (oI (some (w 1 * p)))) ∧ B = slP n sl (tmI p (srS w n 2 ln).2 (w 1 * p)) R W m b) p1 (fit_le hW hfit) ⟨rfl, rfl⟩ (w 1 * p - p) p (by omega) (Nat.le_refl _)
      have e0 : tmI p (srS w n 2 ln).2 p = (srS w n 2 ln).2 := by funext j; unfold tmI; rw [if_neg (by omega)]
      rw [e0] at k
      exact k
    · rw [if_neg hfit, if_neg hfit]
      refine Z_go kX5_speakTimes okX5 [] 80 ?_
      refine ⟨fun _ => ⟨rfl, rfl⟩, fun (z : ¬ -nI 4 ≤ nI p) => ?_⟩
      refine absurd ?_ z
      rw [Int32.le_iff_toInt_le, nI_toInt (by omega)]
      have : (-nI 4).toInt = -4 := by decide +kernel
      omega
  · rw [hn0] at h3
    have h3 := Classical.not_not.mp h3
    have es : stmS R W (w 1) w n ln = (none, (srS w n 2 ln).2) := by
      unfold stmS
      split
      · rfl
      · rw [h3]
    rw [es]
    exact ⟨rfl, rfl⟩
/-- what is spoken: how many beads, and the line -/
def spkS (L : Nat → Nat → Int32) (R W : Nat) (w : Nat → Nat) (n : Nat) (ln : Nat → Int32) : Option Nat × (Nat → Int32) := if n < 2 then (none, ln) else match w 0 with
  | 0 => slkS L R W n (w 1) false ln
  | 1 => slkS L R W n (w 1) true ln
  | 2 => smS W w n ln
  | 3 => stmS R W (w 1) w n ln
  | 4 => (fitO R W (srS w n 1 ln).1, (srS w n 1 ln).2)
  | _ => (none, ln)
theorem c_speak {sl ln : Nat → Int32} {w : Nat → Nat} {n : Nat} (hb : Hd b D R W) (hR : R ≤ 12) (hW : W ≤ 16) (hm : m ≤ 1) (hw : Wd sl w n) (hn : n ≤ 40) : Dt g mX5_speak [vr 0, vr 3] (slP n sl ln R W m b) (some (vi (oI (spkS (lnD D W m) R W w n ln).1))) (slP n sl (spkS (lnD D W m) R W w n ln).2 R W m b) := by
  refine Ev_of omX5_speak.1 (Nat.le_of_ble_eq_true rfl) ?_
  refine Z_go kX5_speak okX5 [] 80 ?_
  refine ⟨fun (h : nI 2 ≤ nI n) => ?_, fun (h : ¬ nI 2 ≤ nI n) => ?_⟩
  · rw [nI_leI (by omega) (by omega)] at h
    obtain ⟨s1, s2⟩ := hw 0 (by omega)
    have ho : ∀ be, (srS w n 1 ln).1 = some be → be ≤ 256 := fun j h => by have := srS_le h; omega
    refine ⟨vp_in_nI (by omega) (by omega), ?_⟩
    rw [show (nI 0).toNatClampNeg = 0 from rfl, s1]
    have ne : ∀ k, w 0 ≠ k → k ≤ 4 → ¬ nI (w 0) = nI k := fun k h1 h2 => by rw [nI_eq (by omega) (by omega)]; exact h1
    have eq : ∀ k, k ≤ 4 → nI (w 0) = nI k → w 0 = k := fun k h1 h2 => by rwa [nI_eq (by omega) (by omega)] at h2
    refine ⟨fun h0 => ?_, fun h0 => ⟨fun h1 => ?_, fun h1 => ⟨fun h2 => ?_, fun h2 => ⟨fun h3 => ?_, fun h3 => ⟨fun h4 => ?_, fun h4 => ?_⟩⟩⟩⟩⟩
    · have es : spkS (lnD D W m) R W w n ln = slkS (lnD D W m) R W n (w 1) false ln := by unfold spkS; rw [if_neg (by omega), eq 0 (by omega) h0] <;> rfl
      rw [es]
      refine ⟨rfl, (c_speakLike (t := false) hb hR hW hm hw h hn).use ?_⟩
      exact ⟨rfl, rfl⟩
    · have es : spkS (lnD D W m) R W w n ln = slkS (lnD D W m) R W n (w 1) true ln := by unfold spkS; rw [if_neg (by omega), eq 1 (by omega) h1] <;> rfl
      rw [es]
      refine ⟨rfl, (c_speakLike (t := true) hb hR hW hm hw h hn).use ?_⟩
      exact ⟨rfl, rfl⟩
    · have es : spkS (lnD D W m) R W w n ln = smS W w n ln := by unfold spkS; rw [if_neg (by omega), eq 2 (by omega) h2] <;> rfl
      rw [es]
      refine ⟨rfl, (c_speakMirror hW hw hn).use ?_⟩
      exact ⟨rfl, rfl⟩
    · have es : spkS (lnD D W m) R W w n ln = stmS R W (w 1) w n ln := by unfold spkS; rw [if_neg (by omega), eq 3 (by omega) h3] <;> rfl
      rw [es]
      refine ⟨rfl, (c_speakTimes hR hW hw h hn).use ?_⟩
      exact ⟨rfl, rfl⟩
    · have es : spkS (lnD D W m) R W w n ln = (fitO R W (srS w n 1 ln).1, (srS w n 1 ln).2) := by unfold spkS; rw [if_neg (by omega), eq 4 (by omega) h4] <;> rfl
      rw [es]
      refine ⟨rfl, (c_speakRuns (fr := 1) hw hn (by omega)).fr [0, 1, 2] rfl (by decide) rfl ?_⟩
      refine (c_fitting (R := R) (W := W) (m := m) (b := b) hR hW ho rfl).fr [3, 4] rfl (by decide) rfl ?_
      exact ⟨rfl, rfl⟩
    · have es : spkS (lnD D W m) R W w n ln = (none, ln) := by
        have q0 : w 0 ≠ 0 := fun z => h0 (by rw [z] <;> rfl)
        have q1 : w 0 ≠ 1 := fun z => h1 (by rw [z] <;> rfl)
        have q2 : w 0 ≠ 2 := fun z => h2 (by rw [z] <;> rfl)
        have q3 : w 0 ≠ 3 := fun z => h3 (by rw [z] <;> rfl)
        have q4 : w 0 ≠ 4 := fun z => h4 (by rw [z] <;> rfl)
        unfold spkS
        rw [if_neg (by omega)]
        match hh : w 0 with
        | 0 => exact absurd hh q0
        | 1 => exact absurd hh q1
        | 2 => exact absurd hh q2
        | 3 => exact absurd hh q3
        | 4 => exact absurd hh q4
        | k + 5 => rfl
      rw [es]
      exact ⟨rfl, rfl⟩
  · rw [nI_leI (by omega) (by omega)] at h
    have es : spkS (lnD D W m) R W w n ln = (none, ln) := by unfold spkS; rw [if_pos (by omega)]
    rw [es]
    exact ⟨rfl, rfl⟩
end SLP
end
section
section RDR
variable {g : GG} {R W m n : Nat} {b tp : Nat → Int32} {D : Nat → Nat → Int32} {st nx tk : Nat} {fro : Bool}
def rdW (st nx tk : Nat) (fro : Bool) (R W m : Nat) (b : Nat → Int32) (n : Nat) (tp : Nat → Int32) : AH :=
  [ob 3 [vr 1, vi (nI st), vi (nI nx), vi (nI tk), vi (nI (fl fro))], ob 2 [vr 2, vi (nI R), vi (nI W), vi (nI m)], ar 0 192 b, ob 7 [vr 4, vi (nI n)], ar 0 300 tp]
/-- blanks, letters passed over -/
def skp (tp : Nat → Int32) : Nat → Nat → Nat
  | 0, p => p
  | k + 1, p => if tp p = nI 32 then skp tp k (p + 1) else p
def ltr (tp : Nat → Int32) : Nat → Nat → Nat
  | 0, p => p
  | k + 1, p => if lett (tp p) then ltr tp k (p + 1) else p
theorem skp_le : ∀ (k p : Nat), p ≤ skp tp k p ∧ skp tp k p ≤ p + k := by
  intro k
  induction k with
  | zero => intro p; simp [skp]
  | succ k ih =>
    intro p
    simp only [skp]
    split
    · have := ih (p + 1); omega
    · omega
theorem ltr_le : ∀ (k p : Nat), p ≤ ltr tp k p ∧ ltr tp k p ≤ p + k := by
  intro k
  induction k with
  | zero => intro p; simp [ltr]
  | succ k ih =>
    intro p
    simp only [ltr]
    split
    · have := ih (p + 1); omega
    · omega
theorem ltr_in : ∀ (k p i : Nat), p ≤ i → i < ltr tp k p → lett (tp i) = true := by
  intro k
  induction k with
  | zero => intro p i h1 h2; simp only [ltr] at h2; omega
  | succ k ih =>
    intro p i h1 h2
    simp only [ltr] at h2
    split at h2
    · rename_i h
      by_cases e : i = p
      · rw [e]; exact h
      · exact ih (p + 1) i (by omega) h2
    · omega
/-- a token from p on, with no blanks ahead: where it begins, where the next may, its sort -/
def tk1 (tp : Nat → Int32) (n p : Nat) : Nat × Nat × Nat := if n ≤ p then (p, p, 3) else if lett (tp p) then (p, ltr tp (n - p) p, 1) else (p, p + 1, if tp p = nI 59 then 2 else 0)
def tok (tp : Nat → Int32) (n nx : Nat) : Nat × Nat × Nat := tk1 tp n (skp tp (n - nx) nx)
theorem tok_le (h : nx ≤ n) : nx ≤ (tok tp n nx).1 ∧ (tok tp n nx).1 ≤ (tok tp n nx).2.1 ∧ (tok tp n nx).2.1 ≤ n ∧ (tok tp n nx).2.2 ≤ 3 := by
  have h1 := skp_le (tp := tp) (n - nx) nx
  unfold tok tk1
  generalize skp tp (n - nx) nx = p at h1 ⊢
  have h2 := ltr_le (tp := tp) (n - p) p
  split
  · exact ⟨by show nx ≤ p; omega, by show p ≤ p; omega, by show p ≤ n; omega, by show 3 ≤ 3; omega⟩
  · split
    · exact ⟨by show nx ≤ p; omega, by show p ≤ ltr tp (n - p) p; omega, by show ltr tp (n - p) p ≤ n; omega, by show 1 ≤ 3; omega⟩
    · refine ⟨by show nx ≤ p; omega, by show p ≤ p + 1; omega, by show p + 1 ≤ n; omega, ?_⟩
      show (if tp p = nI 59 then 2 else 0) ≤ 3
      split <;> omega
theorem tok_lt (h : nx ≤ n) (h3 : (tok tp n nx).2.2 ≠ 3) : (tok tp n nx).1 < (tok tp n nx).2.1 := by
  have h1 := skp_le (tp := tp) (n - nx) nx
  unfold tok tk1 at h3 ⊢
  generalize skp tp (n - nx) nx = p at h1 h3 ⊢
  split
  · rename_i h4; rw [if_pos h4] at h3; exact absurd rfl h3
  · rename_i h4
    split
    · rename_i h5
      show p < ltr tp (n - p) p
      obtain ⟨q, hq⟩ : ∃ q, n - p = q + 1 := ⟨n - p - 1, by omega⟩
      rw [hq]
      simp only [ltr]
      rw [if_pos h5]
      have := ltr_le (tp := tp) q (p + 1)
      omega
    · show p < p + 1; omega
theorem tok_in (h3 : (tok tp n nx).2.2 = 1) (i : Nat) (h1 : (tok tp n nx).1 ≤ i) (h2 : i < (tok tp n nx).2.1) : lett (tp i) = true := by
  unfold tok tk1 at h1 h2 h3
  generalize skp tp (n - nx) nx = p at h1 h2 h3
  split at h1
  · rename_i h4; rw [if_pos h4] at h3; cases h3
  · rename_i h4
    rw [if_neg h4] at h2 h3
    split at h1
    · rename_i h5
      rw [if_pos h5] at h2
      exact ltr_in _ _ _ h1 h2
    · rename_i h5
      rw [if_neg h5] at h3
      have h3 : (if tp p = nI 59 then 2 else 0) = 1 := h3
      split at h3 <;> cases h3
theorem readBl_loop {Q : Option AV → AH → Prop} (hn : n ≤ 300) : ∀ (k nx : Nat), nx + k = n → Z g mX3_readToken 5 Q 38 [some (vr 0), some (vr 3)] [] (rdW st (skp tp k nx) tk fro R W m b n tp) →
    Z g mX3_readToken 5 Q 0 [some (vr 0), some (vr 3)] [] (rdW st nx tk fro R W m b n tp) := by
  intro k
  induction k with
  | zero =>
    intro nx h1 hQ
    refine Z_go kX3_readToken okX3 [0, 38] 80 ?_
    refine ⟨fun _ => hQ, fun (h : ¬ nI n ≤ nI nx) => ?_⟩
    exact absurd (nI_le (by omega) (by omega)) h
  | succ k ih =>
    intro nx h1 hQ
    simp only [skp] at hQ
    refine Z_go kX3_readToken okX3 [0, 38] 80 ?_
    refine ⟨fun (h : nI n ≤ nI nx) => ?_, fun _ => ?_⟩
    · rw [nI_leI (by omega) (by omega)] at h; omega
    · refine ⟨vp_in_nI (by omega) (by omega), ?_⟩
      rw [nI_clamp (by omega)]
      refine ⟨fun (h2 : ¬ tp nx = nI 32) => ?_, fun (h2 : ¬ ¬ tp nx = nI 32) => ?_⟩
      · rw [if_neg h2] at hQ
        exact hQ
      · rw [if_pos (Classical.not_not.mp h2)] at hQ
        have k2 := ih (nx + 1) (by omega) hQ
        unfold rdW at k2
        rw [nI_a1 nx] at k2
        exact k2
theorem readLt_loop {Q : Option AV → AH → Prop} (hn : n ≤ 300) : ∀ (k nx : Nat), nx + k = n → Q none (rdW st (ltr tp k nx) 1 fro R W m b n tp) →
    Z g mX3_readToken 5 Q 81 [some (vr 0), some (vr 3)] [] (rdW st nx 1 fro R W m b n tp) := by
  intro k
  induction k with
  | zero =>
    intro nx h1 hQ
    refine Z_go kX3_readToken okX3 [81] 80 ?_
    refine ⟨rfl, (c_isLetter (k := nx) hn (by omega)).fr [3, 4] rfl (by decide) rfl ?_⟩
    have : ¬ nx < n := by omega
    rw [decide_eq_false this]
    refine ⟨fun _ => hQ, fun z => absurd rfl z⟩
  | succ k ih =>
    intro nx h1 hQ
    simp only [ltr] at hQ
    refine Z_go kX3_readToken okX3 [81] 80 ?_
    refine ⟨rfl, (c_isLetter (k := nx) hn (by omega)).fr [3, 4] rfl (by decide) rfl ?_⟩
    have : nx < n := by omega
    rw [decide_eq_true this]
    cases hl : lett (tp nx) with
    | false =>
      rw [hl] at hQ
      exact ⟨fun _ => hQ, fun z => absurd rfl z⟩
    | true =>
      rw [hl] at hQ
      refine ⟨fun (z : nI 1 = 0) => absurd z (by decide), fun _ => ?_⟩
      have k2 := ih (nx + 1) (by omega) hQ
      unfold rdW at k2
      rw [nI_a1 nx] at k2
      exact k2
theorem c_readToken (hn : n ≤ 300) (hnx : nx ≤ n) : Dt g mX3_readToken [vr 0, vr 3] (rdW st nx tk fro R W m b n tp) none (rdW (tok tp n nx).1 (tok tp n nx).2.1 (tok tp n nx).2.2 fro R W m b n tp) := by
  have hs := skp_le (tp := tp) (n - nx) nx
  refine Ev_of omX3_readToken.1 (Nat.le_of_ble_eq_true rfl) ?_
  refine readBl_loop hn (n - nx) nx (by omega) ?_
  unfold tok tk1
  generalize skp tp (n - nx) nx = p at hs ⊢
  refine Z_go kX3_readToken okX3 [81] 80 ?_
  refine ⟨fun (h : nI p < nI n) => ?_, fun (h : ¬ nI p < nI n) => ?_⟩
  · rw [nI_ltI (by omega) (by omega)] at h
    rw [if_neg (by omega)]
    refine ⟨rfl, (c_isLetter (k := p) hn (by omega)).fr [3, 4] rfl (by decide) rfl ?_⟩
    rw [decide_eq_true h]
    cases hl : lett (tp p) with
    | true =>
      refine ⟨fun (z : nI 1 = 0) => absurd z (by decide), fun _ => ?_⟩
      exact readLt_loop hn (n - p) p (by omega) ⟨rfl, rfl⟩
    | false =>
      refine ⟨fun _ => ?_, fun z => absurd rfl z⟩
      refine ⟨vp_in_nI (by omega) (by omega), ?_⟩
      rw [nI_clamp (by omega)]
      refine ⟨fun (h2 : ¬ tp p = nI 59) => ⟨rfl, ?_⟩, fun (h2 : ¬ ¬ tp p = nI 59) => ⟨rfl, ?_⟩⟩
      · simp only [Bool.false_eq_true, if_false]
        rw [if_neg h2]
        unfold rdW
        rw [nI_a1 p]
        rfl
      · simp only [Bool.false_eq_true, if_false]
        rw [if_pos (Classical.not_not.mp h2)]
        unfold rdW
        rw [nI_a1 p]
        rfl
  · rw [nI_ltI (by omega) (by omega)] at h
    rw [if_pos (by omega)]
    exact ⟨rfl, rfl⟩
def unf (tk : Nat) : Nat := if tk = 0 then 1 else 2
theorem c_unfit (ht : tk ≤ 3) : Dt g mX3_unfit [vr 0] (rdW st nx tk fro R W m b n tp) (some (vi (nI (unf tk)))) (rdW st nx tk fro R W m b n tp) := by
  refine Ev_of omX3_unfit.1 (Nat.le_of_ble_eq_true rfl) ?_
  refine Z_go kX3_unfit okX3 [] 80 ?_
  refine ⟨fun (h : ¬ nI tk = nI 0) => ⟨?_, rfl⟩, fun (h : ¬ ¬ nI tk = nI 0) => ⟨?_, rfl⟩⟩
  · rw [nI_eq (by omega) (by omega)] at h; unfold unf; rw [if_neg h]
  · rw [nI_eq (by omega) (by omega)] at h; unfold unf; rw [if_pos (Classical.not_not.mp h)]
def sgF (tk : Nat) : Nat := if tk = 2 then 0 else unf tk
theorem c_readSign (hn : n ≤ 300) (hnx : nx ≤ n) : Dt g mX3_readSign [vr 0, vr 3] (rdW st nx tk fro R W m b n tp) (some (vi (nI (sgF (tok tp n nx).2.2)))) (rdW (tok tp n nx).1 (tok tp n nx).2.1 (tok tp n nx).2.2 fro R W m b n tp) := by
  have ht := tok_le (tp := tp) hnx
  refine Ev_of omX3_readSign.1 (Nat.le_of_ble_eq_true rfl) ?_
  refine Z_go kX3_readSign okX3 [] 80 ?_
  refine ⟨rfl, (c_readToken hn hnx).use ?_⟩
  refine ⟨fun (h : ¬ nI (tok tp n nx).2.2 = nI 2) => ?_, fun (h : ¬ ¬ nI (tok tp n nx).2.2 = nI 2) => ?_⟩
  · rw [nI_eq (by omega) (by omega)] at h
    refine ⟨rfl, (c_unfit ht.2.2.2).use ?_⟩
    refine ⟨?_, rfl⟩
    unfold sgF; rw [if_neg h]
  · rw [nI_eq (by omega) (by omega)] at h
    refine ⟨?_, rfl⟩
    unfold sgF; rw [if_pos (Classical.not_not.mp h)]
/-- the name from st to nx can be beads of a row -/
def bdP (tp : Nat → Int32) (i : Nat) : Bool := decide (tp i ≤ nI 102)
def isBd (tp : Nat → Int32) (R W st nx : Nat) : Bool := decide (nx - st ≤ 16) && (decide (R = 0) || decide (nx - st = W)) && al (bdP tp) st (nx - st)
theorem lett_n {x : Int32} (h : lett x = true) : ∃ j, 97 ≤ j ∧ j ≤ 122 ∧ x = nI j := by
  unfold lett at h
  rw [Bool.and_eq_true] at h
  have h1 := of_decide_eq_true h.1
  have h2 := of_decide_eq_true h.2
  have h0 : ¬ x < 0 := by
    intro h0
    exact Int32.not_lt.mpr h1 (Int32.lt_trans h0 (by decide +kernel))
  obtain ⟨j, hj, rfl⟩ := nI_of h0
  rw [nI_leI (by omega) (by omega)] at h1 h2
  exact ⟨j, h1, h2, rfl⟩
theorem lett_col {x : Int32} (h : lett x = true) : isCol (x - nI 97) = decide (x ≤ nI 102) := by
  obtain ⟨j, h1, h2, rfl⟩ := lett_n h
  rw [pk_sub h1, isCol_n (by omega), decide_eq_decide, nI_leI (by omega) (by omega)]
  omega
theorem isBeads_loop {x : Int32} {Q : Option AV → AH → Prop} (hn : n ≤ 300) (hnx : nx ≤ n) : ∀ (k i : Nat), i + k = nx → (∀ j, i ≤ j → j < nx → lett (tp j) = true) → Q (some (vi (nI (fl (al (bdP tp) i k))))) (rdW st nx tk fro R W m b n tp) →
    Z g mX3_isBeads 5 Q 44 [some (vr 0), some (vr 3), some (vi x), some (vi (nI i))] [] (rdW st nx tk fro R W m b n tp) := by
  intro k
  induction k with
  | zero =>
    intro i h1 hl hQ
    refine Z_go kX3_isBeads okX3 [44] 80 ?_
    refine ⟨fun _ => ⟨Or.inr rfl, hQ⟩, fun (h : ¬ nI nx ≤ nI i) => ?_⟩
    exact absurd (nI_le (by omega) (by omega)) h
  | succ k ih =>
    intro i h1 hl hQ
    refine Z_go kX3_isBeads okX3 [44] 80 ?_
    refine ⟨fun (h : nI nx ≤ nI i) => ?_, fun _ => ?_⟩
    · rw [nI_leI (by omega) (by omega)] at h; omega
    · refine ⟨vp_in_nI (by omega) (by omega), ?_⟩
      rw [nI_clamp (by omega)]
      refine (c_isColour (tp i - nI 97)).use ?_
      rw [lett_col (hl i (Nat.le_refl _) (by omega))]
      cases h3 : decide (tp i ≤ nI 102) with
      | true =>
        refine ⟨fun _ => ?_, fun (z : ¬ ¬ nI 1 = 0) => absurd (by decide) z⟩
        have k2 := ih (i + 1) (by omega) (fun j a1 a2 => hl j (by omega) a2) (by simpa [al, bdP, h3] using hQ)
        rw [nI_a1 i] at k2
        exact k2
      | false =>
        refine ⟨fun z => absurd rfl z, fun _ => ⟨Or.inl rfl, ?_⟩⟩
        simpa [al, bdP, h3, fl] using hQ
theorem c_isBeads (hn : n ≤ 300) (hnx : nx ≤ n) (hst : st ≤ nx) (hR : R ≤ 12) (hW : W ≤ 16) (hl : ∀ j, st ≤ j → j < nx → lett (tp j) = true) : Dt g mX3_isBeads [vr 0, vr 3] (rdW st nx tk fro R W m b n tp) (some (vi (nI (fl (isBd tp R W st nx))))) (rdW st nx tk fro R W m b n tp) := by
  have e : nI nx - nI st = nI (nx - st) := pk_sub hst
  have fin : nx - st ≤ 16 → (R = 0 ∨ nx - st = W) → Z g mX3_isBeads (rdW st nx tk fro R W m b n tp).length (fun r' B => r' = some (vi (nI (fl (isBd tp R W st nx)))) ∧ B = rdW st nx tk fro R W m b n tp) 39 [some (vr 0), some (vr 3), some (vi (nI nx - nI st)), none] [] (rdW st nx tk fro R W m b n tp) := by
    intro h1 h2
    refine Z_go kX3_isBeads okX3 [44] 80 ?_
    refine isBeads_loop hn hnx (nx - st) st (by omega) hl ⟨?_, rfl⟩
    have h3 : (decide (R = 0) || decide (nx - st = W)) = true := by rcases h2 with h2 | h2 <;> simp [h2]
    unfold isBd
    rw [decide_eq_true h1, h3]
    rfl
  refine Ev_of omX3_isBeads.1 (Nat.le_of_ble_eq_true rfl) ?_
  refine Z_go kX3_isBeads okX3 [39] 80 ?_
  refine ⟨fun (h : nI 16 < nI nx - nI st) => ?_, fun (h : ¬ nI 16 < nI nx - nI st) => ⟨fun (h2 : nI R ≤ nI 0) => ?_, fun (h2 : ¬ nI R ≤ nI 0) => ⟨fun (h3 : nI nx - nI st = nI W) => ?_, fun (h3 : ¬ nI nx - nI st = nI W) => ?_⟩⟩⟩
  · rw [e, nI_ltI (by omega) (by omega)] at h
    refine ⟨Or.inl rfl, ?_, rfl⟩
    have : ¬ nx - st ≤ 16 := by omega
    unfold isBd; rw [decide_eq_false this]; rfl
  · rw [e, nI_ltI (by omega) (by omega)] at h
    rw [nI_leI (by omega) (by omega)] at h2
    exact fin (by omega) (Or.inl (by omega))
  · rw [e, nI_ltI (by omega) (by omega)] at h
    rw [e, nI_eq (by omega) (by omega)] at h3
    exact fin (by omega) (Or.inr h3)
  · rw [e, nI_ltI (by omega) (by omega)] at h
    rw [nI_leI (by omega) (by omega)] at h2
    rw [e, nI_eq (by omega) (by omega)] at h3
    refine ⟨Or.inl rfl, ?_, rfl⟩
    have h4 : ¬ R = 0 := by omega
    unfold isBd; rw [decide_eq_false h3, decide_eq_false h4]; simp [fl]
/-- letters become beads of row r, k of them -/
def rwI (b : Nat → Int32) (r : Nat) (tp : Nat → Int32) (st : Nat) : Nat → Nat → Int32
  | 0 => b
  | k + 1 => upd (rwI b r tp st k) (r * 16 + k) (tp (st + k) - nI 97)
theorem rwI_at {r st : Nat} : ∀ k, k ≤ 16 → ∀ q c, c < 16 → rwI b r tp st k (q * 16 + c) = if q = r ∧ c < k then tp (st + c) - nI 97 else b (q * 16 + c) := by
  intro k
  induction k with
  | zero => intro _ q c hc; rw [if_neg (by omega)]; rfl
  | succ k ih =>
    intro hk q c hc
    simp only [rwI]
    by_cases h1 : q * 16 + c = r * 16 + k
    · have h2 : q = r := by omega
      have h3 : c = k := by omega
      rw [h1, updS, if_pos ⟨h2, by omega⟩, h3]
    · rw [updN h1, ih (by omega) q c hc]
      by_cases h5 : q = r ∧ c < k
      · rw [if_pos h5, if_pos ⟨h5.1, by omega⟩]
      · rw [if_neg h5, if_neg (by omega)]
theorem readRow_loop {w r : Nat} {Q : Option AV → AH → Prop} (hn : n ≤ 300) (hr : r < 12) (hw : w ≤ 16) (hst : st + w ≤ n) (hQ : Z g mX3_readRow 5 Q 108 [some (vr 0), some (vr 3), some (vi (nI w))] [] (rdW st nx tk fro (r + 1) w m (rwI b r tp st w) n tp)) : ∀ (k c : Nat), c + k = w →
    Z g mX3_readRow 5 Q 60 [some (vr 0), some (vr 3), some (vi (nI c))] [] (rdW st nx tk fro (r + 1) w m (rwI b r tp st c) n tp) := by
  intro k
  induction k with
  | zero =>
    intro c h1
    refine Z_go kX3_readRow okX3 [60, 108] 80 ?_
    refine ⟨fun _ => ?_, fun (h : ¬ nI w ≤ nI c) => ?_⟩
    · have : c = w := by omega
      rw [this]; exact hQ
    · exact absurd (nI_le (by omega) (by omega)) h
  | succ k ih =>
    intro c h1
    have e : nI (r + 1) - nI 1 = nI r := nI_pred r
    have e2 : nI st + nI c = nI (st + c) := nI_add _ _
    refine Z_go kX3_readRow okX3 [60, 108] 80 ?_
    refine ⟨fun (h : nI w ≤ nI c) => ?_, fun _ => ?_⟩
    · rw [nI_leI (by omega) (by omega)] at h; omega
    · refine ⟨by rw [e2]; exact vp_in_nI (by omega) (by omega), ?_⟩
      rw [e2, nI_clamp (by omega)]
      have hp := c_put (g := g) (R := r + 1) (W := w) (m := m) (b := rwI b r tp st c) (r := r) (c := c) (tp (st + c) - nI 97) hr (by omega)
      rw [← e] at hp
      refine ⟨rfl, hp.fr [1, 2] rfl (by decide) rfl ?_⟩
      have k2 := ih (c + 1) (by omega)
      rw [nI_a1 c] at k2
      exact k2
/-- the letters of the names row and fro: nmC (12j) -/
def isNm (tp : Nat → Int32) (i st nx : Nat) : Bool := decide (nx - st = 3) && al (fun k => decide (tp (st + k) = nmC i k)) 0 3
theorem isName_loop {i : Nat} {Q : Option AV → AH → Prop} (hi : i < 2) (hn : n ≤ 300) (hnx : nx ≤ n) (h3 : st + 3 = nx) : ∀ (k c : Nat), c + k = 3 → Q (some (vi (nI (fl (al (fun k => decide (tp (st + k) = nmC i k)) c k))))) (rdW st nx tk fro R W m b n tp) →
    Z g mX3_isName 5 Q 20 [some (vr 0), some (vr 3), some (vr (1000 + i)), some (vi (nI c))] [] (rdW st nx tk fro R W m b n tp) := by
  intro k
  induction k with
  | zero =>
    intro c h1 hQ
    refine Z_go kX3_isName okX3 [22] 80 ?_
    refine Z_callT (me := mJ0_length) (idx := 98) (n := 0) (vs := []) (rest := [vi (nI c)]) (by decide +kernel) lkRX3_98 omJ0_length (by decide) hi rfl rfl (Nat.le_of_ble_eq_true rfl) ?_
    refine c_length hi ?_
    refine Z_go kX3_isName okX3 [20] 80 ?_
    refine ⟨fun _ => ⟨Or.inr rfl, hQ⟩, fun (h : ¬ nI 3 ≤ nI c) => absurd (nI_le (by omega) (by omega)) h⟩
  | succ k ih =>
    intro c h1 hQ
    have e2 : nI st + nI c = nI (st + c) := nI_add _ _
    refine Z_go kX3_isName okX3 [22] 80 ?_
    refine Z_callT (me := mJ0_length) (idx := 98) (n := 0) (vs := []) (rest := [vi (nI c)]) (by decide +kernel) lkRX3_98 omJ0_length (by decide) hi rfl rfl (Nat.le_of_ble_eq_true rfl) ?_
    refine c_length hi ?_
    refine Z_go kX3_isName okX3 [20, 41] 80 ?_
    refine ⟨fun (h : nI 3 ≤ nI c) => ?_, fun _ => ?_⟩
    · rw [nI_leI (by omega) (by omega)] at h; omega
    · refine ⟨by rw [e2]; exact vp_in_nI (by omega) (by omega), ?_⟩
      rw [e2, nI_clamp (by omega)]
      refine Z_callT (me := mJ0_charAt) (idx := 102) (n := 1) (vs := [vi (nI c)]) (rest := [vi (tp (st + c))]) (by decide +kernel) lkRX3_102 omJ0_charAt (by decide) hi rfl rfl (Nat.le_of_ble_eq_true rfl) ?_
      refine c_charAt hi (by omega) ?_
      refine Z_go kX3_isName okX3 [20] 80 ?_
      refine ⟨fun (h : tp (st + c) = nmC i c) => ?_, fun (h : ¬ tp (st + c) = nmC i c) => ⟨Or.inl rfl, ?_⟩⟩
      · have k2 := ih (c + 1) (by omega) (by simpa [al, h] using hQ)
        rw [nI_a1 c] at k2
        exact k2
      · simpa [al, h, fl] using hQ
theorem c_isName {i : Nat} (hi : i < 2) (hn : n ≤ 300) (hnx : nx ≤ n) (hst : st ≤ nx) : Dt g mX3_isName [vr 0, vr 3, vr (1000 + i)] (rdW st nx tk fro R W m b n tp) (some (vi (nI (fl (isNm tp i st nx))))) (rdW st nx tk fro R W m b n tp) := by
  have e : nI nx - nI st = nI (nx - st) := pk_sub hst
  refine Ev_of omX3_isName.1 (Nat.le_of_ble_eq_true rfl) ?_
  refine Z_go kX3_isName okX3 [10] 80 ?_
  refine Z_callT (me := mJ0_length) (idx := 98) (n := 0) (vs := []) (rest := [vi (nI nx - nI st)]) (by decide +kernel) lkRX3_98 omJ0_length (by decide) hi rfl rfl (Nat.le_of_ble_eq_true rfl) ?_
  refine c_length hi ?_
  refine Z_go kX3_isName okX3 [20] 80 ?_
  refine ⟨fun (h : nI nx - nI st = nI 3) => ?_, fun (h : ¬ nI nx - nI st = nI 3) => ?_⟩
  · rw [e, nI_eq (by omega) (by omega)] at h
    refine isName_loop hi hn hnx (by omega) 3 0 rfl ⟨?_, rfl⟩
    unfold isNm
    rw [decide_eq_true h]
    rfl
  · rw [e, nI_eq (by omega) (by omega)] at h
    refine ⟨Or.inl rfl, ?_, rfl⟩
    unfold isNm
    rw [decide_eq_false h]
    rfl
def rowD (D : Nat → Nat → Int32) (R : Nat) (tp : Nat → Int32) (st : Nat) : Nat → Nat → Int32 := fun q c => if q = R then tp (st + c) - nI 97 else D q c
/-- where a token began, where the next may, the picture told so far: rows, beads, whether to and fro, beads from the left -/
abbrev RX : Type := Nat × Nat × Nat × Nat × Bool × (Nat → Nat → Int32)
/-- a row, behind its name -/
def rwS (tp : Nat → Int32) (n st nx R W : Nat) (fro : Bool) (D : Nat → Nat → Int32) : Nat × RX :=
  if 12 ≤ R then (4, st, nx, R, W, fro, D)
  else if ¬ (tok tp n nx).2.2 = 1 then (unf (tok tp n nx).2.2, (tok tp n nx).1, (tok tp n nx).2.1, R, W, fro, D)
  else if isBd tp R W (tok tp n nx).1 (tok tp n nx).2.1 = false then (3, (tok tp n nx).1, (tok tp n nx).2.1, R, W, fro, D)
  else (sgF (tok tp n (tok tp n nx).2.1).2.2, (tok tp n (tok tp n nx).2.1).1, (tok tp n (tok tp n nx).2.1).2.1, R + 1, (tok tp n nx).2.1 - (tok tp n nx).1, fro, rowD D R tp (tok tp n nx).1)
def frS (tp : Nat → Int32) (n st nx R W : Nat) (fro : Bool) (D : Nat → Nat → Int32) : Nat × RX :=
  if fro then (4, st, nx, R, W, fro, D) else (sgF (tok tp n nx).2.2, (tok tp n nx).1, (tok tp n nx).2.1, R, W, true, D)
/-- a line, whose first token is there -/
def lnS (tp : Nat → Int32) (n st nx tk R W : Nat) (fro : Bool) (D : Nat → Nat → Int32) : Nat × RX :=
  if ¬ tk = 1 then (unf tk, st, nx, R, W, fro, D)
  else if isNm tp 0 st nx then rwS tp n st nx R W fro D
  else if isNm tp 1 st nx then frS tp n st nx R W fro D
  else (2, st, nx, R, W, fro, D)
def rdX (x : RX) (tk : Nat) (b : Nat → Int32) (n : Nat) (tp : Nat → Int32) : AH := rdW x.1 x.2.1 tk x.2.2.2.2.1 x.2.2.1 x.2.2.2.1 (fl x.2.2.2.2.1) b n tp
def okX (x : RX) (b : Nat → Int32) (n : Nat) : Prop := Hd b x.2.2.2.2.2 x.2.2.1 x.2.2.2.1 ∧ x.2.2.1 ≤ 12 ∧ x.2.2.2.1 ≤ 16 ∧ x.2.1 ≤ n ∧ (x.2.2.1 = 0 → x.2.2.2.1 = 0) ∧ (x.2.2.1 ≠ 0 → 1 ≤ x.2.2.2.1)
theorem c_readRow (hb : Hd b D R W) (hR : R ≤ 12) (hW : W ≤ 16) (hRW : R = 0 → W = 0) (hRW1 : R ≠ 0 → 1 ≤ W) (hn : n ≤ 300) (hnx : nx ≤ n) : ∃ tk' b', Dt g mX3_readRow [vr 0, vr 3] (rdW st nx tk fro R W (fl fro) b n tp) (some (vi (nI (rwS tp n st nx R W fro D).1))) (rdX (rwS tp n st nx R W fro D).2 tk' b' n tp) ∧ okX (rwS tp n st nx R W fro D).2 b' n := by
  obtain ⟨t1, t2, t3, t4⟩ := tok_le (tp := tp) hnx
  have tl := tok_lt (tp := tp) hnx
  have ti := tok_in (tp := tp) (n := n) (nx := nx)
  unfold rwS
  by_cases h0 : 12 ≤ R
  · rw [if_pos h0]
    refine ⟨tk, b, ?_, hb, hR, hW, hnx, hRW, hRW1⟩
    refine Ev_of omX3_readRow.1 (Nat.le_of_ble_eq_true rfl) ?_
    refine Z_go kX3_readRow okX3 [60, 108] 80 ?_
    refine ⟨fun (h : nI R < nI 12) => ?_, fun _ => ⟨rfl, rfl⟩⟩
    rw [nI_ltI (by omega) (by omega)] at h; omega
  rw [if_neg h0]
  generalize htk : tok tp n nx = t at *
  obtain ⟨s2, x2, k2⟩ := t
  dsimp only at t1 t2 t3 t4 tl ti ⊢
  have hrt : Dt g mX3_readToken [vr 0, vr 3] (rdW st nx tk fro R W (fl fro) b n tp) none (rdW s2 x2 k2 fro R W (fl fro) b n tp) := by
    have := c_readToken (g := g) (st := st) (tk := tk) (fro := fro) (R := R) (W := W) (m := fl fro) (b := b) (tp := tp) hn hnx
    rw [htk] at this
    exact this
  by_cases h1 : ¬ k2 = 1
  · rw [if_pos h1]
    refine ⟨k2, b, ?_, hb, hR, hW, t3, hRW, hRW1⟩
    refine Ev_of omX3_readRow.1 (Nat.le_of_ble_eq_true rfl) ?_
    refine Z_go kX3_readRow okX3 [60, 108] 80 ?_
    refine ⟨fun _ => ?_, fun (h : ¬ nI R < nI 12) => absurd (nI_lt (by omega) (by omega)) h⟩
    refine ⟨rfl, hrt.use ?_⟩
    refine ⟨fun (h : nI k2 = nI 1) => ?_, fun _ => ⟨rfl, (c_unfit t4).use ⟨rfl, rfl⟩⟩⟩
    rw [nI_eq (by omega) (by omega)] at h
    exact absurd h h1
  rw [if_neg h1]
  have h1 := Classical.not_not.mp h1
  subst h1
  have hib : Dt g mX3_isBeads [vr 0, vr 3] (rdW s2 x2 1 fro R W (fl fro) b n tp) (some (vi (nI (fl (isBd tp R W s2 x2))))) (rdW s2 x2 1 fro R W (fl fro) b n tp) := c_isBeads hn t3 t2 hR hW (fun j a1 a2 => ti rfl j a1 a2)
  cases h2 : isBd tp R W s2 x2 with
  | false =>
    rw [if_pos rfl]
    refine ⟨1, b, ?_, hb, hR, hW, t3, hRW, hRW1⟩
    refine Ev_of omX3_readRow.1 (Nat.le_of_ble_eq_true rfl) ?_
    refine Z_go kX3_readRow okX3 [60, 108] 80 ?_
    refine ⟨fun _ => ?_, fun (h : ¬ nI R < nI 12) => absurd (nI_lt (by omega) (by omega)) h⟩
    refine ⟨rfl, hrt.use ?_⟩
    refine ⟨fun _ => ?_, fun z => absurd rfl z⟩
    refine ⟨rfl, hib.use ?_⟩
    rw [h2]
    exact ⟨fun z => absurd rfl z, fun _ => ⟨rfl, rfl⟩⟩
  | true =>
    rw [if_neg (by simp)]
    have h3 := h2
    unfold isBd at h3
    simp only [Bool.and_eq_true, Bool.or_eq_true, decide_eq_true_eq] at h3
    obtain ⟨⟨h3, h4⟩, h5⟩ := h3
    have tl := tl (by decide)
    obtain ⟨u1, u2, u3, u4⟩ := tok_le (tp := tp) t3
    refine ⟨(tok tp n x2).2.2, rwI b R tp s2 (x2 - s2), ?_, ?_, by show R + 1 ≤ 12; omega, h3, u3, fun h => absurd (show R + 1 = 0 from h) (by omega), fun _ => by show 1 ≤ x2 - s2; omega⟩
    · refine Ev_of omX3_readRow.1 (Nat.le_of_ble_eq_true rfl) ?_
      refine Z_go kX3_readRow okX3 [60, 108] 80 ?_
      refine ⟨fun _ => ?_, fun (h : ¬ nI R < nI 12) => absurd (nI_lt (by omega) (by omega)) h⟩
      refine ⟨rfl, hrt.use ?_⟩
      refine ⟨fun _ => ?_, fun z => absurd rfl z⟩
      refine ⟨rfl, hib.use ?_⟩
      rw [h2]
      refine ⟨fun _ => ?_, fun (z : ¬ ¬ nI 1 = 0) => absurd (by decide) z⟩
      have e : nI x2 - nI s2 = nI (x2 - s2) := pk_sub t2
      have hc := c_takeRow (g := g) (R := R) (W := W) (m := fl fro) (b := b) (w := x2 - s2)
      rw [← e] at hc
      refine ⟨rfl, hc.fr [1, 2] rfl (by decide) rfl ?_⟩
      refine readRow_loop hn (by omega) h3 (by omega) ?_ (x2 - s2) 0 (by omega)
      refine Z_go kX3_readRow okX3 [] 80 ?_
      refine ⟨rfl, (c_readSign hn t3).use ?_⟩
      exact ⟨rfl, rfl⟩
    · intro q c hq hc
      have hc : c < x2 - s2 := hc
      have hq : q < R + 1 := hq
      show rwI b R tp s2 (x2 - s2) (q * 16 + c) = rowD D R tp s2 q c
      rw [rwI_at _ h3 _ _ (by omega)]
      unfold rowD
      by_cases h : q = R
      · rw [if_pos ⟨h, hc⟩, if_pos h]
      · rw [if_neg (fun z => h z.1), if_neg h]
        have : W = x2 - s2 := by
          rcases h4 with h4 | h4
          · omega
          · exact h4.symm
        exact hb q c (by omega) (by omega)
theorem c_readFro (hb : Hd b D R W) (hR : R ≤ 12) (hW : W ≤ 16) (hRW : R = 0 → W = 0) (hRW1 : R ≠ 0 → 1 ≤ W) (hn : n ≤ 300) (hnx : nx ≤ n) : ∃ tk' b', Dt g mX3_readFro [vr 0, vr 3] (rdW st nx tk fro R W (fl fro) b n tp) (some (vi (nI (frS tp n st nx R W fro D).1))) (rdX (frS tp n st nx R W fro D).2 tk' b' n tp) ∧ okX (frS tp n st nx R W fro D).2 b' n := by
  obtain ⟨u1, u2, u3, u4⟩ := tok_le (tp := tp) hnx
  cases fro with
  | true =>
    refine ⟨tk, b, ?_, hb, hR, hW, hnx, hRW, hRW1⟩
    refine Ev_of omX3_readFro.1 (Nat.le_of_ble_eq_true rfl) ?_
    refine Z_go kX3_readFro okX3 [] 80 ?_
    exact ⟨fun (z : nI 1 = 0) => absurd z (by decide), fun _ => ⟨rfl, rfl⟩⟩
  | false =>
    refine ⟨(tok tp n nx).2.2, b, ?_, hb, hR, hW, u3, hRW, hRW1⟩
    refine Ev_of omX3_readFro.1 (Nat.le_of_ble_eq_true rfl) ?_
    refine Z_go kX3_readFro okX3 [] 80 ?_
    refine ⟨fun _ => ?_, fun z => absurd rfl z⟩
    refine ⟨Or.inr rfl, rfl, (c_readSign (g := g) (st := st) (tk := tk) (fro := true) (R := R) (W := W) (m := 1) (b := b) (tp := tp) hn hnx).use ?_⟩
    exact ⟨rfl, rfl⟩
theorem c_readLine (hb : Hd b D R W) (hR : R ≤ 12) (hW : W ≤ 16) (hRW : R = 0 → W = 0) (hRW1 : R ≠ 0 → 1 ≤ W) (hn : n ≤ 300) (hnx : nx ≤ n) (hst : st ≤ nx) (htk : tk ≤ 3) : ∃ tk' b', Dt g mX3_readLine [vr 0, vr 3] (rdW st nx tk fro R W (fl fro) b n tp) (some (vi (nI (lnS tp n st nx tk R W fro D).1))) (rdX (lnS tp n st nx tk R W fro D).2 tk' b' n tp) ∧ okX (lnS tp n st nx tk R W fro D).2 b' n := by
  unfold lnS
  by_cases h1 : ¬ tk = 1
  · rw [if_pos h1]
    refine ⟨tk, b, ?_, hb, hR, hW, hnx, hRW, hRW1⟩
    refine Ev_of omX3_readLine.1 (Nat.le_of_ble_eq_true rfl) ?_
    refine Z_go kX3_readLine okX3 [] 80 ?_
    refine ⟨fun (h : nI tk = nI 1) => ?_, fun _ => ⟨rfl, (c_unfit htk).use ⟨rfl, rfl⟩⟩⟩
    rw [nI_eq (by omega) (by omega)] at h
    exact absurd h h1
  rw [if_neg h1]
  have h1 := Classical.not_not.mp h1
  subst h1
  cases h2 : isNm tp 0 st nx with
  | true =>
    rw [if_pos rfl]
    obtain ⟨tk', b', hd, ho⟩ := c_readRow (g := g) (tp := tp) (st := st) (tk := 1) (fro := fro) hb hR hW hRW hRW1 hn hnx
    refine ⟨tk', b', ?_, ho⟩
    refine Ev_of omX3_readLine.1 (Nat.le_of_ble_eq_true rfl) ?_
    refine Z_go kX3_readLine okX3 [] 80 ?_
    refine ⟨fun _ => ?_, fun z => absurd rfl z⟩
    refine ⟨rfl, (c_isName (i := 0) (by omega) hn hnx hst).use ?_⟩
    rw [h2]
    refine ⟨fun (z : nI 1 = 0) => absurd z (by decide), fun _ => ?_⟩
    exact ⟨rfl, hd.use ⟨rfl, rfl⟩⟩
  | false =>
    rw [if_neg (by simp)]
    cases h3 : isNm tp 1 st nx with
    | true =>
      rw [if_pos rfl]
      obtain ⟨tk', b', hd, ho⟩ := c_readFro (g := g) (tp := tp) (st := st) (tk := 1) (fro := fro) hb hR hW hRW hRW1 hn hnx
      refine ⟨tk', b', ?_, ho⟩
      refine Ev_of omX3_readLine.1 (Nat.le_of_ble_eq_true rfl) ?_
      refine Z_go kX3_readLine okX3 [] 80 ?_
      refine ⟨fun _ => ?_, fun z => absurd rfl z⟩
      refine ⟨rfl, (c_isName (i := 0) (by omega) hn hnx hst).use ?_⟩
      rw [h2]
      refine ⟨fun _ => ?_, fun z => absurd rfl z⟩
      refine ⟨rfl, (c_isName (i := 1) (by omega) hn hnx hst).use ?_⟩
      rw [h3]
      refine ⟨fun (z : nI 1 = 0) => absurd z (by decide), fun _ => ?_⟩
      exact ⟨rfl, hd.use ⟨rfl, rfl⟩⟩
    | false =>
      rw [if_neg (by simp)]
      refine ⟨1, b, ?_, hb, hR, hW, hnx, hRW, hRW1⟩
      refine Ev_of omX3_readLine.1 (Nat.le_of_ble_eq_true rfl) ?_
      refine Z_go kX3_readLine okX3 [] 80 ?_
      refine ⟨fun _ => ?_, fun z => absurd rfl z⟩
      refine ⟨rfl, (c_isName (i := 0) (by omega) hn hnx hst).use ?_⟩
      rw [h2]
      refine ⟨fun _ => ?_, fun z => absurd rfl z⟩
      refine ⟨rfl, (c_isName (i := 1) (by omega) hn hnx hst).use ?_⟩
      rw [h3]
      exact ⟨fun _ => ⟨rfl, rfl⟩, fun z => absurd rfl z⟩
/-- a text, k lines of it at most: its fault, where, what it tells -/
def prs (tp : Nat → Int32) (n : Nat) : Nat → RX → Nat × RX
  | 0, x => (0, x)
  | k + 1, x => if (tok tp n x.2.1).2.2 = 3 then (0, (tok tp n x.2.1).1, (tok tp n x.2.1).2.1, x.2.2) else
      if (lnS tp n (tok tp n x.2.1).1 (tok tp n x.2.1).2.1 (tok tp n x.2.1).2.2 x.2.2.1 x.2.2.2.1 x.2.2.2.2.1 x.2.2.2.2.2).1 = 0 then prs tp n k (lnS tp n (tok tp n x.2.1).1 (tok tp n x.2.1).2.1 (tok tp n x.2.1).2.2 x.2.2.1 x.2.2.2.1 x.2.2.2.2.1 x.2.2.2.2.2).2
      else lnS tp n (tok tp n x.2.1).1 (tok tp n x.2.1).2.1 (tok tp n x.2.1).2.2 x.2.2.1 x.2.2.2.1 x.2.2.2.2.1 x.2.2.2.2.2
theorem sgF_le {k : Nat} : sgF k ≤ 4 := by unfold sgF unf; split <;> (try split) <;> omega
theorem unf_le {k : Nat} : unf k ≤ 4 ∧ unf k ≠ 0 := by unfold unf; split <;> omega
theorem lnS_le {st nx tk : Nat} (hnx : nx ≤ n) : (lnS tp n st nx tk R W fro D).1 ≤ 4 ∧ nx ≤ (lnS tp n st nx tk R W fro D).2.2.1 := by
  obtain ⟨t1, t2, t3, t4⟩ := tok_le (tp := tp) hnx
  obtain ⟨u1, u2, u3, u4⟩ := tok_le (tp := tp) t3
  unfold lnS rwS frS
  split
  · exact ⟨unf_le.1, Nat.le_refl _⟩
  · split
    · split
      · exact ⟨Nat.le_refl _, Nat.le_refl _⟩
      · split
        · exact ⟨unf_le.1, by show nx ≤ (tok tp n nx).2.1; omega⟩
        · split
          · exact ⟨by show 3 ≤ 4; omega, by show nx ≤ (tok tp n nx).2.1; omega⟩
          · exact ⟨sgF_le, by show nx ≤ (tok tp n (tok tp n nx).2.1).2.1; omega⟩
    · split
      · split
        · exact ⟨Nat.le_refl _, Nat.le_refl _⟩
        · exact ⟨sgF_le, by show nx ≤ (tok tp n nx).2.1; omega⟩
      · exact ⟨by show 2 ≤ 4; omega, Nat.le_refl _⟩
theorem readAll_loop {Q : Option AV → AH → Prop} (hn : n ≤ 300) : ∀ (k : Nat) (x : RX) (tk : Nat) (b : Nat → Int32), okX x b n → 301 ≤ x.2.1 + k → k ≤ 301 →
    (∀ tk' b', okX (prs tp n k x).2 b' n → Q (some (vi (nI (prs tp n k x).1))) (rdX (prs tp n k x).2 tk' b' n tp)) →
    Z g mX3_readAll 5 Q 21 [some (vr 0), some (vr 3), some (vi (nI 0)), some (vi (nI (301 - k)))] [] (rdX x tk b n tp) := by
  intro k
  induction k with
  | zero =>
    intro x tk b hx h1 _ hQ
    have := hx.2.2.2.1
    omega
  | succ k ih =>
    intro x tk b hx h1 hk hQ
    obtain ⟨st, nx, R, W, fro, D⟩ := x
    obtain ⟨hb, hR, hW, hnx, hRW, hRW1⟩ := hx
    dsimp only at hb hR hW hnx hRW hRW1 h1
    obtain ⟨t1, t2, t3, t4⟩ := tok_le (tp := tp) hnx
    have tl := tok_lt (tp := tp) hnx
    refine Z_go kX3_readAll okX3 [21] 80 ?_
    refine ⟨fun (h : nI 300 < nI (301 - (k + 1))) => ?_, fun _ => ⟨fun z => absurd rfl z, fun _ => ?_⟩⟩
    · rw [nI_ltI (by omega) (by omega)] at h; omega
    · refine ⟨rfl, (c_readToken hn hnx).use ?_⟩
      simp only [prs] at hQ
      refine ⟨fun (h : ¬ nI (tok tp n nx).2.2 = nI 3) => ?_, fun (h : ¬ ¬ nI (tok tp n nx).2.2 = nI 3) => ?_⟩
      · rw [nI_eq (by omega) (by omega)] at h
        rw [if_neg h] at hQ
        have tl := tl h
        have hle := lnS_le (tp := tp) (R := R) (W := W) (D := D) (fro := fro) (st := (tok tp n nx).1) (tk := (tok tp n nx).2.2) t3
        obtain ⟨tk', b', hd, ho⟩ := c_readLine (g := g) (tp := tp) (st := (tok tp n nx).1) (nx := (tok tp n nx).2.1) (tk := (tok tp n nx).2.2) (fro := fro) hb hR hW hRW hRW1 hn t3 t2 t4
        refine ⟨rfl, hd.use ?_⟩
        by_cases h0 : (lnS tp n (tok tp n nx).1 (tok tp n nx).2.1 (tok tp n nx).2.2 R W fro D).1 = 0
        · rw [if_pos h0] at hQ
          rw [h0]
          have k2 := ih (lnS tp n (tok tp n nx).1 (tok tp n nx).2.1 (tok tp n nx).2.2 R W fro D).2 tk' b' ho (by omega) (by omega) hQ
          have e : nI (301 - k) = nI (301 - (k + 1)) + nI 1 := by rw [nI_add, show 301 - (k + 1) + 1 = 301 - k by omega]
          rw [e] at k2
          exact k2
        · rw [if_neg h0] at hQ
          refine Z_go kX3_readAll okX3 [] 80 ?_
          refine ⟨fun _ => hQ tk' b' ho, fun _ => ⟨fun _ => hQ tk' b' ho, fun (z : ¬ ¬ nI _ = nI 0) => ?_⟩⟩
          rw [nI_eq (by omega) (by omega)] at z
          exact absurd h0 z
      · rw [nI_eq (by omega) (by omega)] at h
        rw [if_pos (Classical.not_not.mp h)] at hQ
        exact hQ _ b ⟨hb, hR, hW, t3, hRW, hRW1⟩
/-- what a whole text tells -/
def txt (tp : Nat → Int32) (n : Nat) : Nat × RX := prs tp n 301 (0, 0, 0, 0, false, fun _ _ => 0)
theorem prs_st : ∀ (k : Nat) (x : RX) (st : Nat), 1 ≤ k → prs tp n k (st, x.2) = prs tp n k x := by
  intro k x st h
  cases k with
  | zero => omega
  | succ k => rfl
theorem c_readAll (hn : n ≤ 300) {mm : Nat} : Ev g mX3_readAll [vr 0, vr 3] (rdW st nx tk fro R W mm b n tp) (fun r B => ∃ tk' b', r = some (vi (nI (txt tp n).1)) ∧ B = rdX (txt tp n).2 tk' b' n tp ∧ okX (txt tp n).2 b' n) := by
  refine Ev_of omX3_readAll.1 (Nat.le_of_ble_eq_true rfl) ?_
  refine Z_go kX3_readAll okX3 [21] 80 ?_
  refine ⟨rfl, (c_clear (R := R) (W := W) (m := mm) (b := b)).fr [1, 2] rfl (by decide) rfl ?_⟩
  refine ⟨Or.inl rfl, ?_⟩
  have k := readAll_loop (g := g) (tp := tp) (n := n) (Q := fun r B => ∃ tk' b', r = some (vi (nI (txt tp n).1)) ∧ B = rdX (txt tp n).2 tk' b' n tp ∧ okX (txt tp n).2 b' n) hn 301 (st, 0, 0, 0, false, fun _ _ => 0) tk b ⟨fun r c (h : r < 0) _ => absurd h (by omega), by show 0 ≤ 12; omega, by show 0 ≤ 16; omega, by show 0 ≤ n; omega, fun _ => rfl, fun h => absurd rfl h⟩ (by show 301 ≤ 0 + 301; omega) (Nat.le_refl _) (fun tk' b' ho => by
    have e := prs_st (tp := tp) (n := n) 301 (0, 0, 0, 0, false, fun _ _ => 0) st (by omega)
    dsimp only at e
    rw [e] at ho ⊢
    exact ⟨tk', b', rfl, rfl, ho⟩)
  exact k
end RDR
end
