-- ===== PART A: goes FIRST, ahead of the names: the tables' words, and 'selects' of the private methods out of them =====
/-- a private method of a class that the tables say can be made, by its rows of tables_1 -/
def lw_okq (q : MethodName × Nat) : Prop := (q.1.cls ≠ "java/lang/invoke/MethodHandle" ∧ q.1.cls ≠ "java/lang/invoke/VarHandle") ∧ Cond.instantiable q.1.cls q.2 ∈ tables_1 ∧ Cond.privateMethod q.1 ∈ tables_1 ∧ Cond.instanceMethod q.1 ∈ tables_1
theorem lw_p0 : lw_okq (⟨"BeadWords$Reader", "readToken", "(LBeadWords$Tape;)V"⟩, 5) := ⟨⟨by decide +kernel, by decide +kernel⟩, List.mem_of_getElem? (i := 85) (by decide +kernel), List.mem_of_getElem? (i := 257) (by decide +kernel), List.mem_of_getElem? (i := 258) (by decide +kernel)⟩
theorem lw_p1 : lw_okq (⟨"BeadWords$Reader", "readLine", "(LBeadWords$Tape;)I"⟩, 5) := ⟨⟨by decide +kernel, by decide +kernel⟩, List.mem_of_getElem? (i := 85) (by decide +kernel), List.mem_of_getElem? (i := 265) (by decide +kernel), List.mem_of_getElem? (i := 266) (by decide +kernel)⟩
theorem lw_p2 : lw_okq (⟨"BeadWords$Reader", "unfit", "()I"⟩, 5) := ⟨⟨by decide +kernel, by decide +kernel⟩, List.mem_of_getElem? (i := 85) (by decide +kernel), List.mem_of_getElem? (i := 269) (by decide +kernel), List.mem_of_getElem? (i := 270) (by decide +kernel)⟩
theorem lw_p3 : lw_okq (⟨"BeadWords$Reader", "isName", "(LBeadWords$Tape;Ljava/lang/String;)Z"⟩, 5) := ⟨⟨by decide +kernel, by decide +kernel⟩, List.mem_of_getElem? (i := 85) (by decide +kernel), List.mem_of_getElem? (i := 274) (by decide +kernel), List.mem_of_getElem? (i := 275) (by decide +kernel)⟩
theorem lw_p4 : lw_okq (⟨"BeadWords$Reader", "readRow", "(LBeadWords$Tape;)I"⟩, 5) := ⟨⟨by decide +kernel, by decide +kernel⟩, List.mem_of_getElem? (i := 85) (by decide +kernel), List.mem_of_getElem? (i := 326) (by decide +kernel), List.mem_of_getElem? (i := 327) (by decide +kernel)⟩
theorem lw_p5 : lw_okq (⟨"BeadWords$Reader", "isBeads", "(LBeadWords$Tape;)Z"⟩, 5) := ⟨⟨by decide +kernel, by decide +kernel⟩, List.mem_of_getElem? (i := 85) (by decide +kernel), List.mem_of_getElem? (i := 330) (by decide +kernel), List.mem_of_getElem? (i := 331) (by decide +kernel)⟩
theorem lw_p6 : lw_okq (⟨"BeadWords$Reader", "readSign", "(LBeadWords$Tape;)I"⟩, 5) := ⟨⟨by decide +kernel, by decide +kernel⟩, List.mem_of_getElem? (i := 85) (by decide +kernel), List.mem_of_getElem? (i := 345) (by decide +kernel), List.mem_of_getElem? (i := 346) (by decide +kernel)⟩
theorem lw_p7 : lw_okq (⟨"BeadWords$Reader", "readFro", "(LBeadWords$Tape;)I"⟩, 5) := ⟨⟨by decide +kernel, by decide +kernel⟩, List.mem_of_getElem? (i := 85) (by decide +kernel), List.mem_of_getElem? (i := 350) (by decide +kernel), List.mem_of_getElem? (i := 351) (by decide +kernel)⟩
theorem lw_p8 : lw_okq (⟨"BeadWords", "wordsInAll", "()I"⟩, 11) := ⟨⟨by decide +kernel, by decide +kernel⟩, List.mem_of_getElem? (i := 18) (by decide +kernel), List.mem_of_getElem? (i := 374) (by decide +kernel), List.mem_of_getElem? (i := 375) (by decide +kernel)⟩
theorem lw_p9 : lw_okq (⟨"BeadWords$Teller", "put", "(I)V"⟩, 2) := ⟨⟨by decide +kernel, by decide +kernel⟩, List.mem_of_getElem? (i := 111) (by decide +kernel), List.mem_of_getElem? (i := 386) (by decide +kernel), List.mem_of_getElem? (i := 387) (by decide +kernel)⟩
theorem lw_p10 : lw_okq (⟨"BeadWords$Teller", "tellLike", "(I)I"⟩, 2) := ⟨⟨by decide +kernel, by decide +kernel⟩, List.mem_of_getElem? (i := 111) (by decide +kernel), List.mem_of_getElem? (i := 406) (by decide +kernel), List.mem_of_getElem? (i := 407) (by decide +kernel)⟩
theorem lw_p11 : lw_okq (⟨"BeadWords$Teller", "tellMirror", "(LBeadWords$Picture;I)I"⟩, 2) := ⟨⟨by decide +kernel, by decide +kernel⟩, List.mem_of_getElem? (i := 111) (by decide +kernel), List.mem_of_getElem? (i := 410) (by decide +kernel), List.mem_of_getElem? (i := 411) (by decide +kernel)⟩
theorem lw_p12 : lw_okq (⟨"BeadWords$Teller", "tellRuns", "(LBeadWords$Picture;II)I"⟩, 2) := ⟨⟨by decide +kernel, by decide +kernel⟩, List.mem_of_getElem? (i := 111) (by decide +kernel), List.mem_of_getElem? (i := 415) (by decide +kernel), List.mem_of_getElem? (i := 416) (by decide +kernel)⟩
theorem lw_p13 : lw_okq (⟨"BeadWords$Picture", "comesAgain", "(II)Z"⟩, 4) := ⟨⟨by decide +kernel, by decide +kernel⟩, List.mem_of_getElem? (i := 26) (by decide +kernel), List.mem_of_getElem? (i := 424) (by decide +kernel), List.mem_of_getElem? (i := 425) (by decide +kernel)⟩
theorem lw_p14 : lw_okq (⟨"BeadWords$Teller", "tellTimes", "(LBeadWords$Picture;II)I"⟩, 2) := ⟨⟨by decide +kernel, by decide +kernel⟩, List.mem_of_getElem? (i := 111) (by decide +kernel), List.mem_of_getElem? (i := 428) (by decide +kernel), List.mem_of_getElem? (i := 429) (by decide +kernel)⟩
theorem lw_p15 : lw_okq (⟨"BeadWords", "coloursInAll", "()I"⟩, 11) := ⟨⟨by decide +kernel, by decide +kernel⟩, List.mem_of_getElem? (i := 18) (by decide +kernel), List.mem_of_getElem? (i := 445) (by decide +kernel), List.mem_of_getElem? (i := 446) (by decide +kernel)⟩
def lw_privs_1 : List (MethodName × Nat) := [(⟨"BeadWords$Reader", "readToken", "(LBeadWords$Tape;)V"⟩, 5), (⟨"BeadWords$Reader", "readLine", "(LBeadWords$Tape;)I"⟩, 5), (⟨"BeadWords$Reader", "unfit", "()I"⟩, 5), (⟨"BeadWords$Reader", "isName", "(LBeadWords$Tape;Ljava/lang/String;)Z"⟩, 5), (⟨"BeadWords$Reader", "readRow", "(LBeadWords$Tape;)I"⟩, 5), (⟨"BeadWords$Reader", "isBeads", "(LBeadWords$Tape;)Z"⟩, 5), (⟨"BeadWords$Reader", "readSign", "(LBeadWords$Tape;)I"⟩, 5), (⟨"BeadWords$Reader", "readFro", "(LBeadWords$Tape;)I"⟩, 5), (⟨"BeadWords", "wordsInAll", "()I"⟩, 11), (⟨"BeadWords$Teller", "put", "(I)V"⟩, 2), (⟨"BeadWords$Teller", "tellLike", "(I)I"⟩, 2), (⟨"BeadWords$Teller", "tellMirror", "(LBeadWords$Picture;I)I"⟩, 2), (⟨"BeadWords$Teller", "tellRuns", "(LBeadWords$Picture;II)I"⟩, 2), (⟨"BeadWords$Picture", "comesAgain", "(II)Z"⟩, 4), (⟨"BeadWords$Teller", "tellTimes", "(LBeadWords$Picture;II)I"⟩, 2), (⟨"BeadWords", "coloursInAll", "()I"⟩, 11)]
theorem lw_r1 : ∀ q ∈ lw_privs_1, lw_okq q := List.forall_mem_cons.mpr ⟨lw_p0, List.forall_mem_cons.mpr ⟨lw_p1, List.forall_mem_cons.mpr ⟨lw_p2, List.forall_mem_cons.mpr ⟨lw_p3, List.forall_mem_cons.mpr ⟨lw_p4, List.forall_mem_cons.mpr ⟨lw_p5, List.forall_mem_cons.mpr ⟨lw_p6, List.forall_mem_cons.mpr ⟨lw_p7, List.forall_mem_cons.mpr ⟨lw_p8, List.forall_mem_cons.mpr ⟨lw_p9, List.forall_mem_cons.mpr ⟨lw_p10, List.forall_mem_cons.mpr ⟨lw_p11, List.forall_mem_cons.mpr ⟨lw_p12, List.forall_mem_cons.mpr ⟨lw_p13, List.forall_mem_cons.mpr ⟨lw_p14, List.forall_mem_cons.mpr ⟨lw_p15, fun _ h => absurd h List.not_mem_nil⟩⟩⟩⟩⟩⟩⟩⟩⟩⟩⟩⟩⟩⟩⟩⟩
theorem lw_p16 : lw_okq (⟨"BeadWords$Slip", "speakLike", "(LBeadWords$Picture;Z)I"⟩, 3) := ⟨⟨by decide +kernel, by decide +kernel⟩, List.mem_of_getElem? (i := 126) (by decide +kernel), List.mem_of_getElem? (i := 524) (by decide +kernel), List.mem_of_getElem? (i := 525) (by decide +kernel)⟩
theorem lw_p17 : lw_okq (⟨"BeadWords$Slip", "speakMirror", "(LBeadWords$Picture;)I"⟩, 3) := ⟨⟨by decide +kernel, by decide +kernel⟩, List.mem_of_getElem? (i := 126) (by decide +kernel), List.mem_of_getElem? (i := 530) (by decide +kernel), List.mem_of_getElem? (i := 531) (by decide +kernel)⟩
theorem lw_p18 : lw_okq (⟨"BeadWords$Slip", "speakRuns", "(I)I"⟩, 3) := ⟨⟨by decide +kernel, by decide +kernel⟩, List.mem_of_getElem? (i := 126) (by decide +kernel), List.mem_of_getElem? (i := 534) (by decide +kernel), List.mem_of_getElem? (i := 535) (by decide +kernel)⟩
theorem lw_p19 : lw_okq (⟨"BeadWords$Slip", "speakTimes", "(LBeadWords$Picture;)I"⟩, 3) := ⟨⟨by decide +kernel, by decide +kernel⟩, List.mem_of_getElem? (i := 126) (by decide +kernel), List.mem_of_getElem? (i := 539) (by decide +kernel), List.mem_of_getElem? (i := 540) (by decide +kernel)⟩
theorem lw_p20 : lw_okq (⟨"BeadWords", "drawRow", "(II)V"⟩, 11) := ⟨⟨by decide +kernel, by decide +kernel⟩, List.mem_of_getElem? (i := 18) (by decide +kernel), List.mem_of_getElem? (i := 666) (by decide +kernel), List.mem_of_getElem? (i := 667) (by decide +kernel)⟩
theorem lw_p21 : lw_okq (⟨"BeadWords", "imagesThere", "()I"⟩, 11) := ⟨⟨by decide +kernel, by decide +kernel⟩, List.mem_of_getElem? (i := 18) (by decide +kernel), List.mem_of_getElem? (i := 728) (by decide +kernel), List.mem_of_getElem? (i := 729) (by decide +kernel)⟩
theorem lw_p22 : lw_okq (⟨"BeadWordsModel", "reads", "()V"⟩, 20) := ⟨⟨by decide +kernel, by decide +kernel⟩, List.mem_of_getElem? (i := 732) (by decide +kernel), List.mem_of_getElem? (i := 816) (by decide +kernel), List.mem_of_getElem? (i := 817) (by decide +kernel)⟩
theorem lw_p23 : lw_okq (⟨"BeadWordsModel", "byteAt", "(I)I"⟩, 20) := ⟨⟨by decide +kernel, by decide +kernel⟩, List.mem_of_getElem? (i := 732) (by decide +kernel), List.mem_of_getElem? (i := 820) (by decide +kernel), List.mem_of_getElem? (i := 821) (by decide +kernel)⟩
theorem lw_p24 : lw_okq (⟨"BeadWordsModel", "requires", "(ZI)V"⟩, 20) := ⟨⟨by decide +kernel, by decide +kernel⟩, List.mem_of_getElem? (i := 732) (by decide +kernel), List.mem_of_getElem? (i := 826) (by decide +kernel), List.mem_of_getElem? (i := 827) (by decide +kernel)⟩
theorem lw_p25 : lw_okq (⟨"BeadWordsModel", "readLine", "()V"⟩, 20) := ⟨⟨by decide +kernel, by decide +kernel⟩, List.mem_of_getElem? (i := 732) (by decide +kernel), List.mem_of_getElem? (i := 830) (by decide +kernel), List.mem_of_getElem? (i := 831) (by decide +kernel)⟩
theorem lw_p26 : lw_okq (⟨"BeadWordsModel", "is", "(III)Z"⟩, 20) := ⟨⟨by decide +kernel, by decide +kernel⟩, List.mem_of_getElem? (i := 732) (by decide +kernel), List.mem_of_getElem? (i := 834) (by decide +kernel), List.mem_of_getElem? (i := 835) (by decide +kernel)⟩
theorem lw_p27 : lw_okq (⟨"BeadWordsModel", "readRow", "()V"⟩, 20) := ⟨⟨by decide +kernel, by decide +kernel⟩, List.mem_of_getElem? (i := 732) (by decide +kernel), List.mem_of_getElem? (i := 838) (by decide +kernel), List.mem_of_getElem? (i := 839) (by decide +kernel)⟩
theorem lw_p28 : lw_okq (⟨"BeadWordsModel", "areBeads", "()Z"⟩, 20) := ⟨⟨by decide +kernel, by decide +kernel⟩, List.mem_of_getElem? (i := 732) (by decide +kernel), List.mem_of_getElem? (i := 842) (by decide +kernel), List.mem_of_getElem? (i := 843) (by decide +kernel)⟩
theorem lw_p29 : lw_okq (⟨"BeadWordsModel", "width", "()I"⟩, 20) := ⟨⟨by decide +kernel, by decide +kernel⟩, List.mem_of_getElem? (i := 732) (by decide +kernel), List.mem_of_getElem? (i := 854) (by decide +kernel), List.mem_of_getElem? (i := 855) (by decide +kernel)⟩
theorem lw_p30 : lw_okq (⟨"BeadWordsModel", "beads", "()I"⟩, 20) := ⟨⟨by decide +kernel, by decide +kernel⟩, List.mem_of_getElem? (i := 732) (by decide +kernel), List.mem_of_getElem? (i := 858) (by decide +kernel), List.mem_of_getElem? (i := 859) (by decide +kernel)⟩
theorem lw_p31 : lw_okq (⟨"BeadWordsModel", "allWords", "()I"⟩, 20) := ⟨⟨by decide +kernel, by decide +kernel⟩, List.mem_of_getElem? (i := 732) (by decide +kernel), List.mem_of_getElem? (i := 862) (by decide +kernel), List.mem_of_getElem? (i := 863) (by decide +kernel)⟩
def lw_privs_2 : List (MethodName × Nat) := [(⟨"BeadWords$Slip", "speakLike", "(LBeadWords$Picture;Z)I"⟩, 3), (⟨"BeadWords$Slip", "speakMirror", "(LBeadWords$Picture;)I"⟩, 3), (⟨"BeadWords$Slip", "speakRuns", "(I)I"⟩, 3), (⟨"BeadWords$Slip", "speakTimes", "(LBeadWords$Picture;)I"⟩, 3), (⟨"BeadWords", "drawRow", "(II)V"⟩, 11), (⟨"BeadWords", "imagesThere", "()I"⟩, 11), (⟨"BeadWordsModel", "reads", "()V"⟩, 20), (⟨"BeadWordsModel", "byteAt", "(I)I"⟩, 20), (⟨"BeadWordsModel", "requires", "(ZI)V"⟩, 20), (⟨"BeadWordsModel", "readLine", "()V"⟩, 20), (⟨"BeadWordsModel", "is", "(III)Z"⟩, 20), (⟨"BeadWordsModel", "readRow", "()V"⟩, 20), (⟨"BeadWordsModel", "areBeads", "()Z"⟩, 20), (⟨"BeadWordsModel", "width", "()I"⟩, 20), (⟨"BeadWordsModel", "beads", "()I"⟩, 20), (⟨"BeadWordsModel", "allWords", "()I"⟩, 20)]
theorem lw_r2 : ∀ q ∈ lw_privs_2, lw_okq q := List.forall_mem_cons.mpr ⟨lw_p16, List.forall_mem_cons.mpr ⟨lw_p17, List.forall_mem_cons.mpr ⟨lw_p18, List.forall_mem_cons.mpr ⟨lw_p19, List.forall_mem_cons.mpr ⟨lw_p20, List.forall_mem_cons.mpr ⟨lw_p21, List.forall_mem_cons.mpr ⟨lw_p22, List.forall_mem_cons.mpr ⟨lw_p23, List.forall_mem_cons.mpr ⟨lw_p24, List.forall_mem_cons.mpr ⟨lw_p25, List.forall_mem_cons.mpr ⟨lw_p26, List.forall_mem_cons.mpr ⟨lw_p27, List.forall_mem_cons.mpr ⟨lw_p28, List.forall_mem_cons.mpr ⟨lw_p29, List.forall_mem_cons.mpr ⟨lw_p30, List.forall_mem_cons.mpr ⟨lw_p31, fun _ h => absurd h List.not_mem_nil⟩⟩⟩⟩⟩⟩⟩⟩⟩⟩⟩⟩⟩⟩⟩⟩
theorem lw_p32 : lw_okq (⟨"BeadWordsModel", "formOf", "(I)I"⟩, 20) := ⟨⟨by decide +kernel, by decide +kernel⟩, List.mem_of_getElem? (i := 732) (by decide +kernel), List.mem_of_getElem? (i := 866) (by decide +kernel), List.mem_of_getElem? (i := 867) (by decide +kernel)⟩
theorem lw_p33 : lw_okq (⟨"BeadWordsModel", "wordsBy", "(II)I"⟩, 20) := ⟨⟨by decide +kernel, by decide +kernel⟩, List.mem_of_getElem? (i := 732) (by decide +kernel), List.mem_of_getElem? (i := 870) (by decide +kernel), List.mem_of_getElem? (i := 871) (by decide +kernel)⟩
theorem lw_p34 : lw_okq (⟨"BeadWordsModel", "likeOf", "(IIZ)I"⟩, 20) := ⟨⟨by decide +kernel, by decide +kernel⟩, List.mem_of_getElem? (i := 732) (by decide +kernel), List.mem_of_getElem? (i := 874) (by decide +kernel), List.mem_of_getElem? (i := 875) (by decide +kernel)⟩
theorem lw_p35 : lw_okq (⟨"BeadWordsModel", "isSame", "(IIZ)Z"⟩, 20) := ⟨⟨by decide +kernel, by decide +kernel⟩, List.mem_of_getElem? (i := 732) (by decide +kernel), List.mem_of_getElem? (i := 878) (by decide +kernel), List.mem_of_getElem? (i := 879) (by decide +kernel)⟩
theorem lw_p36 : lw_okq (⟨"BeadWordsModel", "lineOf", "(II)I"⟩, 20) := ⟨⟨by decide +kernel, by decide +kernel⟩, List.mem_of_getElem? (i := 732) (by decide +kernel), List.mem_of_getElem? (i := 882) (by decide +kernel), List.mem_of_getElem? (i := 883) (by decide +kernel)⟩
theorem lw_p37 : lw_okq (⟨"BeadWordsModel", "isBack", "(I)Z"⟩, 20) := ⟨⟨by decide +kernel, by decide +kernel⟩, List.mem_of_getElem? (i := 732) (by decide +kernel), List.mem_of_getElem? (i := 886) (by decide +kernel), List.mem_of_getElem? (i := 887) (by decide +kernel)⟩
theorem lw_p38 : lw_okq (⟨"BeadWordsModel", "beadOf", "(II)I"⟩, 20) := ⟨⟨by decide +kernel, by decide +kernel⟩, List.mem_of_getElem? (i := 732) (by decide +kernel), List.mem_of_getElem? (i := 890) (by decide +kernel), List.mem_of_getElem? (i := 891) (by decide +kernel)⟩
theorem lw_p39 : lw_okq (⟨"BeadWordsModel", "runsOf", "(II)I"⟩, 20) := ⟨⟨by decide +kernel, by decide +kernel⟩, List.mem_of_getElem? (i := 732) (by decide +kernel), List.mem_of_getElem? (i := 894) (by decide +kernel), List.mem_of_getElem? (i := 895) (by decide +kernel)⟩
theorem lw_p40 : lw_okq (⟨"BeadWordsModel", "partOf", "(I)I"⟩, 20) := ⟨⟨by decide +kernel, by decide +kernel⟩, List.mem_of_getElem? (i := 732) (by decide +kernel), List.mem_of_getElem? (i := 901) (by decide +kernel), List.mem_of_getElem? (i := 902) (by decide +kernel)⟩
theorem lw_p41 : lw_okq (⟨"BeadWordsModel", "unlike", "()I"⟩, 20) := ⟨⟨by decide +kernel, by decide +kernel⟩, List.mem_of_getElem? (i := 732) (by decide +kernel), List.mem_of_getElem? (i := 905) (by decide +kernel), List.mem_of_getElem? (i := 906) (by decide +kernel)⟩
theorem lw_p42 : lw_okq (⟨"BeadWordsModel", "allRuns", "()I"⟩, 20) := ⟨⟨by decide +kernel, by decide +kernel⟩, List.mem_of_getElem? (i := 732) (by decide +kernel), List.mem_of_getElem? (i := 909) (by decide +kernel), List.mem_of_getElem? (i := 910) (by decide +kernel)⟩
theorem lw_p43 : lw_okq (⟨"BeadWordsModel", "colours", "()I"⟩, 20) := ⟨⟨by decide +kernel, by decide +kernel⟩, List.mem_of_getElem? (i := 732) (by decide +kernel), List.mem_of_getElem? (i := 913) (by decide +kernel), List.mem_of_getElem? (i := 914) (by decide +kernel)⟩
theorem lw_p44 : lw_okq (⟨"BeadWordsModel", "manyOf", "(II)I"⟩, 20) := ⟨⟨by decide +kernel, by decide +kernel⟩, List.mem_of_getElem? (i := 732) (by decide +kernel), List.mem_of_getElem? (i := 917) (by decide +kernel), List.mem_of_getElem? (i := 918) (by decide +kernel)⟩
theorem lw_p45 : lw_okq (⟨"BeadWordsModel", "isRow", "(I)Z"⟩, 20) := ⟨⟨by decide +kernel, by decide +kernel⟩, List.mem_of_getElem? (i := 732) (by decide +kernel), List.mem_of_getElem? (i := 925) (by decide +kernel), List.mem_of_getElem? (i := 926) (by decide +kernel)⟩
theorem lw_p46 : lw_okq (⟨"BeadWordsModel", "likes", "(I)I"⟩, 20) := ⟨⟨by decide +kernel, by decide +kernel⟩, List.mem_of_getElem? (i := 732) (by decide +kernel), List.mem_of_getElem? (i := 941) (by decide +kernel), List.mem_of_getElem? (i := 942) (by decide +kernel)⟩
theorem lw_p47 : lw_okq (⟨"BeadWordsModel", "wordOf", "(II)I"⟩, 20) := ⟨⟨by decide +kernel, by decide +kernel⟩, List.mem_of_getElem? (i := 732) (by decide +kernel), List.mem_of_getElem? (i := 954) (by decide +kernel), List.mem_of_getElem? (i := 955) (by decide +kernel)⟩
def lw_privs_3 : List (MethodName × Nat) := [(⟨"BeadWordsModel", "formOf", "(I)I"⟩, 20), (⟨"BeadWordsModel", "wordsBy", "(II)I"⟩, 20), (⟨"BeadWordsModel", "likeOf", "(IIZ)I"⟩, 20), (⟨"BeadWordsModel", "isSame", "(IIZ)Z"⟩, 20), (⟨"BeadWordsModel", "lineOf", "(II)I"⟩, 20), (⟨"BeadWordsModel", "isBack", "(I)Z"⟩, 20), (⟨"BeadWordsModel", "beadOf", "(II)I"⟩, 20), (⟨"BeadWordsModel", "runsOf", "(II)I"⟩, 20), (⟨"BeadWordsModel", "partOf", "(I)I"⟩, 20), (⟨"BeadWordsModel", "unlike", "()I"⟩, 20), (⟨"BeadWordsModel", "allRuns", "()I"⟩, 20), (⟨"BeadWordsModel", "colours", "()I"⟩, 20), (⟨"BeadWordsModel", "manyOf", "(II)I"⟩, 20), (⟨"BeadWordsModel", "isRow", "(I)Z"⟩, 20), (⟨"BeadWordsModel", "likes", "(I)I"⟩, 20), (⟨"BeadWordsModel", "wordOf", "(II)I"⟩, 20)]
theorem lw_r3 : ∀ q ∈ lw_privs_3, lw_okq q := List.forall_mem_cons.mpr ⟨lw_p32, List.forall_mem_cons.mpr ⟨lw_p33, List.forall_mem_cons.mpr ⟨lw_p34, List.forall_mem_cons.mpr ⟨lw_p35, List.forall_mem_cons.mpr ⟨lw_p36, List.forall_mem_cons.mpr ⟨lw_p37, List.forall_mem_cons.mpr ⟨lw_p38, List.forall_mem_cons.mpr ⟨lw_p39, List.forall_mem_cons.mpr ⟨lw_p40, List.forall_mem_cons.mpr ⟨lw_p41, List.forall_mem_cons.mpr ⟨lw_p42, List.forall_mem_cons.mpr ⟨lw_p43, List.forall_mem_cons.mpr ⟨lw_p44, List.forall_mem_cons.mpr ⟨lw_p45, List.forall_mem_cons.mpr ⟨lw_p46, List.forall_mem_cons.mpr ⟨lw_p47, fun _ h => absurd h List.not_mem_nil⟩⟩⟩⟩⟩⟩⟩⟩⟩⟩⟩⟩⟩⟩⟩⟩
theorem lw_p48 : lw_okq (⟨"BeadWordsModel", "speaks", "()Z"⟩, 20) := ⟨⟨by decide +kernel, by decide +kernel⟩, List.mem_of_getElem? (i := 732) (by decide +kernel), List.mem_of_getElem? (i := 971) (by decide +kernel), List.mem_of_getElem? (i := 972) (by decide +kernel)⟩
theorem lw_p49 : lw_okq (⟨"BeadWordsModel", "readLike", "(Z)Z"⟩, 20) := ⟨⟨by decide +kernel, by decide +kernel⟩, List.mem_of_getElem? (i := 732) (by decide +kernel), List.mem_of_getElem? (i := 975) (by decide +kernel), List.mem_of_getElem? (i := 976) (by decide +kernel)⟩
theorem lw_p50 : lw_okq (⟨"BeadWordsModel", "readMirror", "()Z"⟩, 20) := ⟨⟨by decide +kernel, by decide +kernel⟩, List.mem_of_getElem? (i := 732) (by decide +kernel), List.mem_of_getElem? (i := 979) (by decide +kernel), List.mem_of_getElem? (i := 980) (by decide +kernel)⟩
theorem lw_p51 : lw_okq (⟨"BeadWordsModel", "readRuns", "(I)Z"⟩, 20) := ⟨⟨by decide +kernel, by decide +kernel⟩, List.mem_of_getElem? (i := 732) (by decide +kernel), List.mem_of_getElem? (i := 983) (by decide +kernel), List.mem_of_getElem? (i := 984) (by decide +kernel)⟩
theorem lw_p52 : lw_okq (⟨"BeadWordsModel", "readTimes", "()Z"⟩, 20) := ⟨⟨by decide +kernel, by decide +kernel⟩, List.mem_of_getElem? (i := 732) (by decide +kernel), List.mem_of_getElem? (i := 988) (by decide +kernel), List.mem_of_getElem? (i := 989) (by decide +kernel)⟩
theorem lw_p53 : lw_okq (⟨"BeadWordsModel", "planOf", "(I)I"⟩, 20) := ⟨⟨by decide +kernel, by decide +kernel⟩, List.mem_of_getElem? (i := 732) (by decide +kernel), List.mem_of_getElem? (i := 1013) (by decide +kernel), List.mem_of_getElem? (i := 1014) (by decide +kernel)⟩
theorem lw_p54 : lw_okq (⟨"BeadWordsModel", "firstMistake", "()I"⟩, 20) := ⟨⟨by decide +kernel, by decide +kernel⟩, List.mem_of_getElem? (i := 732) (by decide +kernel), List.mem_of_getElem? (i := 1022) (by decide +kernel), List.mem_of_getElem? (i := 1023) (by decide +kernel)⟩
theorem lw_p55 : lw_okq (⟨"BeadWordsModel", "kindOf", "(I)I"⟩, 20) := ⟨⟨by decide +kernel, by decide +kernel⟩, List.mem_of_getElem? (i := 732) (by decide +kernel), List.mem_of_getElem? (i := 1026) (by decide +kernel), List.mem_of_getElem? (i := 1027) (by decide +kernel)⟩
theorem lw_p56 : lw_okq (⟨"BeadWordsModel", "asTold", "(II)I"⟩, 20) := ⟨⟨by decide +kernel, by decide +kernel⟩, List.mem_of_getElem? (i := 732) (by decide +kernel), List.mem_of_getElem? (i := 1030) (by decide +kernel), List.mem_of_getElem? (i := 1031) (by decide +kernel)⟩
theorem lw_p57 : lw_okq (⟨"BeadWordsModel", "turns", "(I)V"⟩, 20) := ⟨⟨by decide +kernel, by decide +kernel⟩, List.mem_of_getElem? (i := 732) (by decide +kernel), List.mem_of_getElem? (i := 1047) (by decide +kernel), List.mem_of_getElem? (i := 1048) (by decide +kernel)⟩
theorem lw_p58 : lw_okq (⟨"BeadWordsModel", "goesOn", "(I)V"⟩, 20) := ⟨⟨by decide +kernel, by decide +kernel⟩, List.mem_of_getElem? (i := 732) (by decide +kernel), List.mem_of_getElem? (i := 1051) (by decide +kernel), List.mem_of_getElem? (i := 1052) (by decide +kernel)⟩
theorem lw_p59 : lw_okq (⟨"BeadWordsModel", "copiesRow", "(II)V"⟩, 20) := ⟨⟨by decide +kernel, by decide +kernel⟩, List.mem_of_getElem? (i := 732) (by decide +kernel), List.mem_of_getElem? (i := 1055) (by decide +kernel), List.mem_of_getElem? (i := 1056) (by decide +kernel)⟩
theorem lw_p60 : lw_okq (⟨"BeadWordsModel", "drawsRow", "(III)V"⟩, 20) := ⟨⟨by decide +kernel, by decide +kernel⟩, List.mem_of_getElem? (i := 732) (by decide +kernel), List.mem_of_getElem? (i := 1072) (by decide +kernel), List.mem_of_getElem? (i := 1073) (by decide +kernel)⟩
theorem lw_p61 : lw_okq (⟨"BeadWordsModel", "gets", "()I"⟩, 20) := ⟨⟨by decide +kernel, by decide +kernel⟩, List.mem_of_getElem? (i := 732) (by decide +kernel), List.mem_of_getElem? (i := 1076) (by decide +kernel), List.mem_of_getElem? (i := 1077) (by decide +kernel)⟩
def lw_privs_4 : List (MethodName × Nat) := [(⟨"BeadWordsModel", "speaks", "()Z"⟩, 20), (⟨"BeadWordsModel", "readLike", "(Z)Z"⟩, 20), (⟨"BeadWordsModel", "readMirror", "()Z"⟩, 20), (⟨"BeadWordsModel", "readRuns", "(I)Z"⟩, 20), (⟨"BeadWordsModel", "readTimes", "()Z"⟩, 20), (⟨"BeadWordsModel", "planOf", "(I)I"⟩, 20), (⟨"BeadWordsModel", "firstMistake", "()I"⟩, 20), (⟨"BeadWordsModel", "kindOf", "(I)I"⟩, 20), (⟨"BeadWordsModel", "asTold", "(II)I"⟩, 20), (⟨"BeadWordsModel", "turns", "(I)V"⟩, 20), (⟨"BeadWordsModel", "goesOn", "(I)V"⟩, 20), (⟨"BeadWordsModel", "copiesRow", "(II)V"⟩, 20), (⟨"BeadWordsModel", "drawsRow", "(III)V"⟩, 20), (⟨"BeadWordsModel", "gets", "()I"⟩, 20)]
theorem lw_r4 : ∀ q ∈ lw_privs_4, lw_okq q := List.forall_mem_cons.mpr ⟨lw_p48, List.forall_mem_cons.mpr ⟨lw_p49, List.forall_mem_cons.mpr ⟨lw_p50, List.forall_mem_cons.mpr ⟨lw_p51, List.forall_mem_cons.mpr ⟨lw_p52, List.forall_mem_cons.mpr ⟨lw_p53, List.forall_mem_cons.mpr ⟨lw_p54, List.forall_mem_cons.mpr ⟨lw_p55, List.forall_mem_cons.mpr ⟨lw_p56, List.forall_mem_cons.mpr ⟨lw_p57, List.forall_mem_cons.mpr ⟨lw_p58, List.forall_mem_cons.mpr ⟨lw_p59, List.forall_mem_cons.mpr ⟨lw_p60, List.forall_mem_cons.mpr ⟨lw_p61, fun _ h => absurd h List.not_mem_nil⟩⟩⟩⟩⟩⟩⟩⟩⟩⟩⟩⟩⟩⟩
def lw_privs : List (MethodName × Nat) := lw_privs_1 ++ (lw_privs_2 ++ (lw_privs_3 ++ (lw_privs_4)))
def lw_tbl : List Cond := k2_sels lw_privs ++ tables_1
theorem lw_privs_ok : ∀ q ∈ lw_privs, lw_okq q := by
  show ∀ q ∈ lw_privs_1 ++ (lw_privs_2 ++ (lw_privs_3 ++ (lw_privs_4))), lw_okq q
  exact List.forall_mem_append.mpr ⟨lw_r1, List.forall_mem_append.mpr ⟨lw_r2, List.forall_mem_append.mpr ⟨lw_r3, lw_r4⟩⟩⟩
theorem goodIn_r {big : List Cond} (ws : List Cond) (ps : List Nat) (hp : ws = ps.filterMap (fun i => big[i]?)) (h : ws.all goodWord = true) : GoodIn big ws := by
  intro w hw
  have h1 := List.all_eq_true.mp h w hw
  rw [hp] at hw
  obtain ⟨i, -, hi⟩ := List.mem_filterMap.mp hw
  have hm : w ∈ big := by first | exact List.mem_of_getElem? hi | exact List.getElem?_mem hi
  exact ⟨hm, good_of_word h1⟩
theorem goodIn_app {big a b : List Cond} (ha : GoodIn big a) (hb : GoodIn big b) : GoodIn big (a ++ b) := fun w h => (List.mem_append.mp h).elim (ha w) (hb w)
theorem goodIn_ca {big a b : List Cond} {c : Cond} (ha : GoodIn big (c :: a)) (hb : GoodIn big b) : GoodIn big (c :: (a ++ b)) := fun w h => (List.mem_cons.mp h).elim (fun e => ha w (List.mem_cons.mpr (Or.inl e))) (fun h => (List.mem_append.mp h).elim (fun h => ha w (List.mem_cons.mpr (Or.inr h))) (hb w))
theorem goodIn_sub {big ws : List Cond} (hm : ∀ w ∈ ws, w ∈ big) (h : ws.all goodWord = true) : GoodIn big ws := fun w hw => ⟨hm w hw, good_of_word (List.all_eq_true.mp h w hw)⟩
def RX0 : String := "BeadWords$Chance"
def TX0 : u_T := fun k => match k with
  | _ => ("BeadWords$Chance", "seed", "I", false)
def tyX0 : Nat → FieldType := fun k => match k with
  | _ => .int
abbrev wsX00 : List Cond := u_ws RX0 TX0 1
theorem nmX0 : ∀ a, a < 1 → ∀ b, b < 1 → a ≠ b → (TX0 a).2.1 ≠ (TX0 b).2.1 := by decide +kernel
theorem tyX0_ok : ∀ k, k < 1 → parseFieldDescriptor (TX0 k).2.2.1 = some (tyX0 k) := by decide +kernel
abbrev cX0_init : ByteArray := prog_2_method_1_code
def yX0_init : MethodName := ⟨RX0, "<init>", "()V"⟩
abbrev cX0_below : ByteArray := prog_2_method_2_code
def yX0_below : MethodName := ⟨RX0, "below", "(I)I"⟩
def RX1 : String := "BeadWords$Image"
def TX1 : u_T := fun k => match k with
  | 0 => ("BeadWords$Image", "picture", "LBeadWords$Picture;", true)
  | 1 => ("BeadWords$Image", "strand", "LBeadWords$Strand;", true)
  | _ => ("BeadWords$Image", "there", "Z", false)
def tyX1 : Nat → FieldType := fun k => match k with
  | 0 => .object "BeadWords$Picture"
  | 1 => .object "BeadWords$Strand"
  | _ => .boolean
abbrev wsX10 : List Cond := u_ws RX1 TX1 3
theorem nmX1 : ∀ a, a < 3 → ∀ b, b < 3 → a ≠ b → (TX1 a).2.1 ≠ (TX1 b).2.1 := by decide +kernel
theorem tyX1_ok : ∀ k, k < 3 → parseFieldDescriptor (TX1 k).2.2.1 = some (tyX1 k) := by decide +kernel
abbrev cX1_init : ByteArray := prog_3_method_1_code
def yX1_init : MethodName := ⟨RX1, "<init>", "()V"⟩
def RX2 : String := "BeadWords$Picture"
def TX2 : u_T := fun k => match k with
  | 0 => ("BeadWords$Picture", "beads", "[I", true)
  | 1 => ("BeadWords$Picture", "rows", "I", false)
  | 2 => ("BeadWords$Picture", "width", "I", false)
  | _ => ("BeadWords$Picture", "mode", "I", false)
def tyX2 : Nat → FieldType := fun k => match k with
  | 0 => .array .int
  | 1 => .int
  | 2 => .int
  | _ => .int
abbrev wsX20 : List Cond := u_ws RX2 TX2 4
theorem nmX2 : ∀ a, a < 4 → ∀ b, b < 4 → a ≠ b → (TX2 a).2.1 ≠ (TX2 b).2.1 := by decide +kernel
theorem tyX2_ok : ∀ k, k < 4 → parseFieldDescriptor (TX2 k).2.2.1 = some (tyX2 k) := by decide +kernel
abbrev cX2_init : ByteArray := prog_4_method_1_code
def yX2_init : MethodName := ⟨RX2, "<init>", "()V"⟩
abbrev cX2_become : ByteArray := prog_4_method_2_code
def yX2_become : MethodName := ⟨RX2, "become", "(LBeadWords$Picture;)V"⟩
abbrev cX2_clear : ByteArray := prog_4_method_3_code
def yX2_clear : MethodName := ⟨RX2, "clear", "()V"⟩
abbrev cX2_size : ByteArray := prog_4_method_4_code
def yX2_size : MethodName := ⟨RX2, "size", "()I"⟩
abbrev cX2_hasRow : ByteArray := prog_4_method_5_code
def yX2_hasRow : MethodName := ⟨RX2, "hasRow", "(I)Z"⟩
abbrev cX2_hasBead : ByteArray := prog_4_method_6_code
def yX2_hasBead : MethodName := ⟨RX2, "hasBead", "(II)Z"⟩
abbrev cX2_colourAt : ByteArray := prog_4_method_7_code
def yX2_colourAt : MethodName := ⟨RX2, "colourAt", "(II)I"⟩
abbrev cX2_put : ByteArray := prog_4_method_8_code
def yX2_put : MethodName := ⟨RX2, "put", "(III)V"⟩
abbrev cX2_placeOf : ByteArray := prog_4_method_9_code
def yX2_placeOf : MethodName := ⟨RX2, "placeOf", "(II)I"⟩
abbrev cX2_readAt : ByteArray := prog_4_method_10_code
def yX2_readAt : MethodName := ⟨RX2, "readAt", "(II)I"⟩
abbrev cX2_manyIn : ByteArray := prog_4_method_11_code
def yX2_manyIn : MethodName := ⟨RX2, "manyIn", "(II)I"⟩
abbrev cX2_manyInAll : ByteArray := prog_4_method_12_code
def yX2_manyInAll : MethodName := ⟨RX2, "manyInAll", "(I)I"⟩
abbrev cX2_sameBeads : ByteArray := prog_4_method_13_code
def yX2_sameBeads : MethodName := ⟨RX2, "sameBeads", "(II)Z"⟩
abbrev cX2_sameLine : ByteArray := prog_4_method_14_code
def yX2_sameLine : MethodName := ⟨RX2, "sameLine", "(IIZ)Z"⟩
abbrev cX2_likeAhead : ByteArray := prog_4_method_15_code
def yX2_likeAhead : MethodName := ⟨RX2, "likeAhead", "(IZ)I"⟩
abbrev cX2_firstLike : ByteArray := prog_4_method_16_code
def yX2_firstLike : MethodName := ⟨RX2, "firstLike", "(I)I"⟩
abbrev cX2_manyLike : ByteArray := prog_4_method_17_code
def yX2_manyLike : MethodName := ⟨RX2, "manyLike", "(I)I"⟩
abbrev cX2_linesUnlike : ByteArray := prog_4_method_18_code
def yX2_linesUnlike : MethodName := ⟨RX2, "linesUnlike", "()I"⟩
abbrev cX2_runsOf : ByteArray := prog_4_method_19_code
def yX2_runsOf : MethodName := ⟨RX2, "runsOf", "(I)I"⟩
abbrev cX2_runsInAll : ByteArray := prog_4_method_20_code
def yX2_runsInAll : MethodName := ⟨RX2, "runsInAll", "()I"⟩
abbrev cX2_partOf : ByteArray := prog_4_method_21_code
def yX2_partOf : MethodName := ⟨RX2, "partOf", "(I)I"⟩
abbrev cX2_comesAgain : ByteArray := prog_4_method_22_code
def yX2_comesAgain : MethodName := ⟨RX2, "comesAgain", "(II)Z"⟩
abbrev cX2_rowOfPlan : ByteArray := prog_4_method_23_code
def yX2_rowOfPlan : MethodName := ⟨RX2, "rowOfPlan", "(I)I"⟩
abbrev cX2_placeOfPlan : ByteArray := prog_4_method_24_code
def yX2_placeOfPlan : MethodName := ⟨RX2, "placeOfPlan", "(I)I"⟩
abbrev cX2_planAt : ByteArray := prog_4_method_25_code
def yX2_planAt : MethodName := ⟨RX2, "planAt", "(I)I"⟩
abbrev cX2_takeRow : ByteArray := prog_4_method_26_code
def yX2_takeRow : MethodName := ⟨RX2, "takeRow", "(I)V"⟩
abbrev cX2_takeLine : ByteArray := prog_4_method_27_code
def yX2_takeLine : MethodName := ⟨RX2, "takeLine", "([II)V"⟩
abbrev cX2_copyRow : ByteArray := prog_4_method_28_code
def yX2_copyRow : MethodName := ⟨RX2, "copyRow", "(II)V"⟩
abbrev cX2_dyeAll : ByteArray := prog_4_method_29_code
def yX2_dyeAll : MethodName := ⟨RX2, "dyeAll", "(II)V"⟩
abbrev cX2_turn : ByteArray := prog_4_method_30_code
def yX2_turn : MethodName := ⟨RX2, "turn", "(I)V"⟩
abbrev cX2_moveOn : ByteArray := prog_4_method_31_code
def yX2_moveOn : MethodName := ⟨RX2, "moveOn", "(I)V"⟩
abbrev cX2_drop : ByteArray := prog_4_method_32_code
def yX2_drop : MethodName := ⟨RX2, "drop", "(I)V"⟩
abbrev cX2_repeat : ByteArray := prog_4_method_33_code
def yX2_repeat : MethodName := ⟨RX2, "repeat", "(I)V"⟩
abbrev cX2_exchange : ByteArray := prog_4_method_34_code
def yX2_exchange : MethodName := ⟨RX2, "exchange", "(II)V"⟩
def RX3 : String := "BeadWords$Reader"
def TX3 : u_T := fun k => match k with
  | 0 => ("BeadWords$Reader", "draft", "LBeadWords$Picture;", true)
  | 1 => ("BeadWords$Reader", "start", "I", false)
  | 2 => ("BeadWords$Reader", "next", "I", false)
  | 3 => ("BeadWords$Reader", "token", "I", false)
  | _ => ("BeadWords$Reader", "froTold", "Z", false)
def tyX3 : Nat → FieldType := fun k => match k with
  | 0 => .object "BeadWords$Picture"
  | 1 => .int
  | 2 => .int
  | 3 => .int
  | _ => .boolean
abbrev wsX30 : List Cond := u_ws RX3 TX3 5
theorem nmX3 : ∀ a, a < 5 → ∀ b, b < 5 → a ≠ b → (TX3 a).2.1 ≠ (TX3 b).2.1 := by decide +kernel
theorem tyX3_ok : ∀ k, k < 5 → parseFieldDescriptor (TX3 k).2.2.1 = some (tyX3 k) := by decide +kernel
abbrev cX3_init : ByteArray := prog_5_method_1_code
def yX3_init : MethodName := ⟨RX3, "<init>", "()V"⟩
abbrev cX3_readAll : ByteArray := prog_5_method_2_code
def yX3_readAll : MethodName := ⟨RX3, "readAll", "(LBeadWords$Tape;)I"⟩
abbrev cX3_readToken : ByteArray := prog_5_method_3_code
def yX3_readToken : MethodName := ⟨RX3, "readToken", "(LBeadWords$Tape;)V"⟩
abbrev cX3_readLine : ByteArray := prog_5_method_4_code
def yX3_readLine : MethodName := ⟨RX3, "readLine", "(LBeadWords$Tape;)I"⟩
abbrev cX3_readRow : ByteArray := prog_5_method_5_code
def yX3_readRow : MethodName := ⟨RX3, "readRow", "(LBeadWords$Tape;)I"⟩
abbrev cX3_readFro : ByteArray := prog_5_method_6_code
def yX3_readFro : MethodName := ⟨RX3, "readFro", "(LBeadWords$Tape;)I"⟩
abbrev cX3_readSign : ByteArray := prog_5_method_7_code
def yX3_readSign : MethodName := ⟨RX3, "readSign", "(LBeadWords$Tape;)I"⟩
abbrev cX3_unfit : ByteArray := prog_5_method_8_code
def yX3_unfit : MethodName := ⟨RX3, "unfit", "()I"⟩
abbrev cX3_isName : ByteArray := prog_5_method_9_code
def yX3_isName : MethodName := ⟨RX3, "isName", "(LBeadWords$Tape;Ljava/lang/String;)Z"⟩
abbrev cX3_isBeads : ByteArray := prog_5_method_10_code
def yX3_isBeads : MethodName := ⟨RX3, "isBeads", "(LBeadWords$Tape;)Z"⟩
def RX4 : String := "BeadWords$Sheet"
def TX4 : u_T := fun k => match k with
  | 0 => ("BeadWords$Sheet", "cells", "[I", true)
  | 1 => ("BeadWords$Sheet", "length", "I", false)
  | _ => ("BeadWords$Sheet", "lane", "I", false)
def tyX4 : Nat → FieldType := fun k => match k with
  | 0 => .array .int
  | 1 => .int
  | _ => .int
abbrev wsX40 : List Cond := u_ws RX4 TX4 3
theorem nmX4 : ∀ a, a < 3 → ∀ b, b < 3 → a ≠ b → (TX4 a).2.1 ≠ (TX4 b).2.1 := by decide +kernel
theorem tyX4_ok : ∀ k, k < 3 → parseFieldDescriptor (TX4 k).2.2.1 = some (tyX4 k) := by decide +kernel
abbrev cX4_init : ByteArray := prog_6_method_1_code
def yX4_init : MethodName := ⟨RX4, "<init>", "()V"⟩
abbrev cX4_renew : ByteArray := prog_6_method_2_code
def yX4_renew : MethodName := ⟨RX4, "renew", "(II)V"⟩
abbrev cX4_faultAt : ByteArray := prog_6_method_3_code
def yX4_faultAt : MethodName := ⟨RX4, "faultAt", "(II)I"⟩
abbrev cX4_put : ByteArray := prog_6_method_4_code
def yX4_put : MethodName := ⟨RX4, "put", "(II)V"⟩
def RX5 : String := "BeadWords$Slip"
def TX5 : u_T := fun k => match k with
  | 0 => ("BeadWords$Slip", "line", "[I", true)
  | 1 => ("BeadWords$Slip", "length", "I", false)
  | _ => ("BeadWords$Slip", "told", "[I", true)
def tyX5 : Nat → FieldType := fun k => match k with
  | 0 => .array .int
  | 1 => .int
  | _ => .array .int
abbrev wsX50 : List Cond := u_ws RX5 TX5 3
theorem nmX5 : ∀ a, a < 3 → ∀ b, b < 3 → a ≠ b → (TX5 a).2.1 ≠ (TX5 b).2.1 := by decide +kernel
theorem tyX5_ok : ∀ k, k < 3 → parseFieldDescriptor (TX5 k).2.2.1 = some (tyX5 k) := by decide +kernel
abbrev cX5_init : ByteArray := prog_7_method_1_code
def yX5_init : MethodName := ⟨RX5, "<init>", "()V"⟩
abbrev cX5_take : ByteArray := prog_7_method_2_code
def yX5_take : MethodName := ⟨RX5, "take", "(I)Z"⟩
abbrev cX5_speak : ByteArray := prog_7_method_3_code
def yX5_speak : MethodName := ⟨RX5, "speak", "(LBeadWords$Picture;)I"⟩
abbrev cX5_speakLike : ByteArray := prog_7_method_4_code
def yX5_speakLike : MethodName := ⟨RX5, "speakLike", "(LBeadWords$Picture;Z)I"⟩
abbrev cX5_speakMirror : ByteArray := prog_7_method_5_code
def yX5_speakMirror : MethodName := ⟨RX5, "speakMirror", "(LBeadWords$Picture;)I"⟩
abbrev cX5_speakTimes : ByteArray := prog_7_method_6_code
def yX5_speakTimes : MethodName := ⟨RX5, "speakTimes", "(LBeadWords$Picture;)I"⟩
abbrev cX5_speakRuns : ByteArray := prog_7_method_7_code
def yX5_speakRuns : MethodName := ⟨RX5, "speakRuns", "(I)I"⟩
abbrev cX5_fitting : ByteArray := prog_7_method_8_code
def yX5_fitting : MethodName := ⟨RX5, "fitting", "(LBeadWords$Picture;I)I"⟩
def RX6 : String := "BeadWords$Strand"
def TX6 : u_T := fun k => match k with
  | 0 => ("BeadWords$Strand", "beads", "[I", true)
  | _ => ("BeadWords$Strand", "length", "I", false)
def tyX6 : Nat → FieldType := fun k => match k with
  | 0 => .array .int
  | _ => .int
abbrev wsX60 : List Cond := u_ws RX6 TX6 2
theorem nmX6 : ∀ a, a < 2 → ∀ b, b < 2 → a ≠ b → (TX6 a).2.1 ≠ (TX6 b).2.1 := by decide +kernel
theorem tyX6_ok : ∀ k, k < 2 → parseFieldDescriptor (TX6 k).2.2.1 = some (tyX6 k) := by decide +kernel
abbrev cX6_init : ByteArray := prog_8_method_1_code
def yX6_init : MethodName := ⟨RX6, "<init>", "()V"⟩
abbrev cX6_become : ByteArray := prog_8_method_2_code
def yX6_become : MethodName := ⟨RX6, "become", "(LBeadWords$Strand;)V"⟩
abbrev cX6_take : ByteArray := prog_8_method_3_code
def yX6_take : MethodName := ⟨RX6, "take", "(I)V"⟩
abbrev cX6_firstWrong : ByteArray := prog_8_method_4_code
def yX6_firstWrong : MethodName := ⟨RX6, "firstWrong", "(LBeadWords$Picture;)I"⟩
abbrev cX6_asTold : ByteArray := prog_8_method_5_code
def yX6_asTold : MethodName := ⟨RX6, "asTold", "(LBeadWords$Picture;II)I"⟩
abbrev cX6_kindOf : ByteArray := prog_8_method_6_code
def yX6_kindOf : MethodName := ⟨RX6, "kindOf", "(LBeadWords$Picture;I)I"⟩
def RX7 : String := "BeadWords$Tape"
def TX7 : u_T := fun k => match k with
  | 0 => ("BeadWords$Tape", "bytes", "[I", true)
  | _ => ("BeadWords$Tape", "length", "I", false)
def tyX7 : Nat → FieldType := fun k => match k with
  | 0 => .array .int
  | _ => .int
abbrev wsX70 : List Cond := u_ws RX7 TX7 2
theorem nmX7 : ∀ a, a < 2 → ∀ b, b < 2 → a ≠ b → (TX7 a).2.1 ≠ (TX7 b).2.1 := by decide +kernel
theorem tyX7_ok : ∀ k, k < 2 → parseFieldDescriptor (TX7 k).2.2.1 = some (tyX7 k) := by decide +kernel
abbrev cX7_init : ByteArray := prog_9_method_1_code
def yX7_init : MethodName := ⟨RX7, "<init>", "()V"⟩
abbrev cX7_take : ByteArray := prog_9_method_2_code
def yX7_take : MethodName := ⟨RX7, "take", "(I)Z"⟩
abbrev cX7_isLetter : ByteArray := prog_9_method_3_code
def yX7_isLetter : MethodName := ⟨RX7, "isLetter", "(I)Z"⟩
def RX8 : String := "BeadWords$Teller"
def TX8 : u_T := fun k => match k with
  | 0 => ("BeadWords$Teller", "told", "[I", true)
  | _ => ("BeadWords$Teller", "length", "I", false)
def tyX8 : Nat → FieldType := fun k => match k with
  | 0 => .array .int
  | _ => .int
abbrev wsX80 : List Cond := u_ws RX8 TX8 2
theorem nmX8 : ∀ a, a < 2 → ∀ b, b < 2 → a ≠ b → (TX8 a).2.1 ≠ (TX8 b).2.1 := by decide +kernel
theorem tyX8_ok : ∀ k, k < 2 → parseFieldDescriptor (TX8 k).2.2.1 = some (tyX8 k) := by decide +kernel
abbrev cX8_init : ByteArray := prog_10_method_1_code
def yX8_init : MethodName := ⟨RX8, "<init>", "()V"⟩
abbrev cX8_tellBest : ByteArray := prog_10_method_2_code
def yX8_tellBest : MethodName := ⟨RX8, "tellBest", "(LBeadWords$Picture;I)I"⟩
abbrev cX8_tellBy : ByteArray := prog_10_method_3_code
def yX8_tellBy : MethodName := ⟨RX8, "tellBy", "(LBeadWords$Picture;II)I"⟩
abbrev cX8_put : ByteArray := prog_10_method_4_code
def yX8_put : MethodName := ⟨RX8, "put", "(I)V"⟩
abbrev cX8_tellLike : ByteArray := prog_10_method_5_code
def yX8_tellLike : MethodName := ⟨RX8, "tellLike", "(I)I"⟩
abbrev cX8_tellMirror : ByteArray := prog_10_method_6_code
def yX8_tellMirror : MethodName := ⟨RX8, "tellMirror", "(LBeadWords$Picture;I)I"⟩
abbrev cX8_tellTimes : ByteArray := prog_10_method_7_code
def yX8_tellTimes : MethodName := ⟨RX8, "tellTimes", "(LBeadWords$Picture;II)I"⟩
abbrev cX8_tellRuns : ByteArray := prog_10_method_8_code
def yX8_tellRuns : MethodName := ⟨RX8, "tellRuns", "(LBeadWords$Picture;II)I"⟩
def RX9 : String := "BeadWords"
def TX9 : u_T := fun k => match k with
  | 0 => ("BeadWords", "picture", "LBeadWords$Picture;", true)
  | 1 => ("BeadWords", "strand", "LBeadWords$Strand;", true)
  | 2 => ("BeadWords", "tape", "LBeadWords$Tape;", true)
  | 3 => ("BeadWords", "reader", "LBeadWords$Reader;", true)
  | 4 => ("BeadWords", "teller", "LBeadWords$Teller;", true)
  | 5 => ("BeadWords", "slip", "LBeadWords$Slip;", true)
  | 6 => ("BeadWords", "chance", "LBeadWords$Chance;", true)
  | 7 => ("BeadWords", "images", "[LBeadWords$Image;", true)
  | 8 => ("BeadWords", "sheets", "[LBeadWords$Sheet;", true)
  | 9 => ("BeadWords", "textFault", "I", false)
  | _ => ("BeadWords", "runFault", "I", false)
def tyX9 : Nat → FieldType := fun k => match k with
  | 0 => .object "BeadWords$Picture"
  | 1 => .object "BeadWords$Strand"
  | 2 => .object "BeadWords$Tape"
  | 3 => .object "BeadWords$Reader"
  | 4 => .object "BeadWords$Teller"
  | 5 => .object "BeadWords$Slip"
  | 6 => .object "BeadWords$Chance"
  | 7 => .array (.object "BeadWords$Image")
  | 8 => .array (.object "BeadWords$Sheet")
  | 9 => .int
  | _ => .int
abbrev wsX90 : List Cond := u_ws RX9 TX9 11
theorem nmX9 : ∀ a, a < 11 → ∀ b, b < 11 → a ≠ b → (TX9 a).2.1 ≠ (TX9 b).2.1 := by decide +kernel
theorem tyX9_ok : ∀ k, k < 11 → parseFieldDescriptor (TX9 k).2.2.1 = some (tyX9 k) := by decide +kernel
abbrev cX9_init : ByteArray := prog_1_method_1_code
def yX9_init : MethodName := ⟨RX9, "<init>", "()V"⟩
abbrev cX9_feed : ByteArray := prog_1_method_2_code
def yX9_feed : MethodName := ⟨RX9, "feed", "(I)I"⟩
abbrev cX9_end : ByteArray := prog_1_method_3_code
def yX9_end : MethodName := ⟨RX9, "end", "(I)I"⟩
abbrev cX9_text : ByteArray := prog_1_method_4_code
def yX9_text : MethodName := ⟨RX9, "text", "()I"⟩
abbrev cX9_fault : ByteArray := prog_1_method_5_code
def yX9_fault : MethodName := ⟨RX9, "fault", "()I"⟩
abbrev cX9_rule : ByteArray := prog_1_method_6_code
def yX9_rule : MethodName := ⟨RX9, "rule", "(I)I"⟩
abbrev cX9_bead : ByteArray := prog_1_method_7_code
def yX9_bead : MethodName := ⟨RX9, "bead", "(II)I"⟩
abbrev cX9_many : ByteArray := prog_1_method_8_code
def yX9_many : MethodName := ⟨RX9, "many", "(II)I"⟩
abbrev cX9_row : ByteArray := prog_1_method_9_code
def yX9_row : MethodName := ⟨RX9, "row", "(II)I"⟩
abbrev cX9_words : ByteArray := prog_1_method_10_code
def yX9_words : MethodName := ⟨RX9, "words", "(II)I"⟩
abbrev cX9_word : ByteArray := prog_1_method_11_code
def yX9_word : MethodName := ⟨RX9, "word", "(II)I"⟩
abbrev cX9_tell : ByteArray := prog_1_method_12_code
def yX9_tell : MethodName := ⟨RX9, "tell", "(I)I"⟩
abbrev cX9_tear : ByteArray := prog_1_method_13_code
def yX9_tear : MethodName := ⟨RX9, "tear", "()I"⟩
abbrev cX9_spoken : ByteArray := prog_1_method_14_code
def yX9_spoken : MethodName := ⟨RX9, "spoken", "()I"⟩
abbrev cX9_said : ByteArray := prog_1_method_15_code
def yX9_said : MethodName := ⟨RX9, "said", "(I)I"⟩
abbrev cX9_add : ByteArray := prog_1_method_16_code
def yX9_add : MethodName := ⟨RX9, "add", "()I"⟩
abbrev cX9_string : ByteArray := prog_1_method_17_code
def yX9_string : MethodName := ⟨RX9, "string", "(I)I"⟩
abbrev cX9_off : ByteArray := prog_1_method_18_code
def yX9_off : MethodName := ⟨RX9, "off", "(I)I"⟩
abbrev cX9_plan : ByteArray := prog_1_method_19_code
def yX9_plan : MethodName := ⟨RX9, "plan", "(I)I"⟩
abbrev cX9_mistake : ByteArray := prog_1_method_20_code
def yX9_mistake : MethodName := ⟨RX9, "mistake", "(I)I"⟩
abbrev cX9_paint : ByteArray := prog_1_method_21_code
def yX9_paint : MethodName := ⟨RX9, "paint", "(III)I"⟩
abbrev cX9_dye : ByteArray := prog_1_method_22_code
def yX9_dye : MethodName := ⟨RX9, "dye", "(II)I"⟩
abbrev cX9_change : ByteArray := prog_1_method_23_code
def yX9_change : MethodName := ⟨RX9, "change", "(II)I"⟩
abbrev cX9_swap : ByteArray := prog_1_method_24_code
def yX9_swap : MethodName := ⟨RX9, "swap", "(II)I"⟩
abbrev cX9_mode : ByteArray := prog_1_method_25_code
def yX9_mode : MethodName := ⟨RX9, "mode", "(I)I"⟩
abbrev cX9_draw : ByteArray := prog_1_method_26_code
def yX9_draw : MethodName := ⟨RX9, "draw", "(IIII)I"⟩
abbrev cX9_keep : ByteArray := prog_1_method_27_code
def yX9_keep : MethodName := ⟨RX9, "keep", "(I)I"⟩
abbrev cX9_back : ByteArray := prog_1_method_28_code
def yX9_back : MethodName := ⟨RX9, "back", "(I)I"⟩
abbrev cX9_sheet : ByteArray := prog_1_method_29_code
def yX9_sheet : MethodName := ⟨RX9, "sheet", "(III)I"⟩
abbrev cX9_lay : ByteArray := prog_1_method_30_code
def yX9_lay : MethodName := ⟨RX9, "lay", "(III)I"⟩
abbrev cX9_run : ByteArray := prog_1_method_31_code
def yX9_run : MethodName := ⟨RX9, "run", "(IIII)I"⟩
abbrev cX9_torn : ByteArray := prog_1_method_32_code
def yX9_torn : MethodName := ⟨RX9, "torn", "()I"⟩
abbrev cX9_count : ByteArray := prog_1_method_33_code
def yX9_count : MethodName := ⟨RX9, "count", "(I)I"⟩
abbrev cX9_isColour : ByteArray := prog_1_method_34_code
def yX9_isColour : MethodName := ⟨RX9, "isColour", "(I)Z"⟩
abbrev cX9_isSheet : ByteArray := prog_1_method_35_code
def yX9_isSheet : MethodName := ⟨RX9, "isSheet", "(I)Z"⟩
abbrev cX9_isLane : ByteArray := prog_1_method_36_code
def yX9_isLane : MethodName := ⟨RX9, "isLane", "(I)Z"⟩
abbrev cX9_wordsInAll : ByteArray := prog_1_method_37_code
def yX9_wordsInAll : MethodName := ⟨RX9, "wordsInAll", "()I"⟩
abbrev cX9_coloursInAll : ByteArray := prog_1_method_38_code
def yX9_coloursInAll : MethodName := ⟨RX9, "coloursInAll", "()I"⟩
abbrev cX9_imagesThere : ByteArray := prog_1_method_39_code
def yX9_imagesThere : MethodName := ⟨RX9, "imagesThere", "()I"⟩
abbrev cX9_drawRow : ByteArray := prog_1_method_40_code
def yX9_drawRow : MethodName := ⟨RX9, "drawRow", "(II)V"⟩
def RX10 : String := "BeadWordsModel"
def TX10 : u_T := fun k => match k with
  | 0 => ("BeadWordsModel", "st", "[I", true)
  | 1 => ("BeadWordsModel", "draft", "[I", true)
  | 2 => ("BeadWordsModel", "kept", "[I", true)
  | 3 => ("BeadWordsModel", "isKept", "[Z", true)
  | 4 => ("BeadWordsModel", "tape", "[I", true)
  | 5 => ("BeadWordsModel", "taped", "I", false)
  | 6 => ("BeadWordsModel", "pos", "I", false)
  | 7 => ("BeadWordsModel", "begun", "I", false)
  | 8 => ("BeadWordsModel", "sort", "I", false)
  | 9 => ("BeadWordsModel", "fault", "I", false)
  | 10 => ("BeadWordsModel", "wrongAt", "I", false)
  | 11 => ("BeadWordsModel", "slip", "[I", true)
  | 12 => ("BeadWordsModel", "told", "I", false)
  | 13 => ("BeadWordsModel", "line", "[I", true)
  | 14 => ("BeadWordsModel", "lineMany", "I", false)
  | 15 => ("BeadWordsModel", "seeded", "I", false)
  | 16 => ("BeadWordsModel", "lanes", "[I", true)
  | 17 => ("BeadWordsModel", "sizes", "[I", true)
  | 18 => ("BeadWordsModel", "cells", "[I", true)
  | _ => ("BeadWordsModel", "torn", "I", false)
def tyX10 : Nat → FieldType := fun k => match k with
  | 0 => .array .int
  | 1 => .array .int
  | 2 => .array .int
  | 3 => .array .boolean
  | 4 => .array .int
  | 5 => .int
  | 6 => .int
  | 7 => .int
  | 8 => .int
  | 9 => .int
  | 10 => .int
  | 11 => .array .int
  | 12 => .int
  | 13 => .array .int
  | 14 => .int
  | 15 => .int
  | 16 => .array .int
  | 17 => .array .int
  | 18 => .array .int
  | _ => .int
abbrev wsX100 : List Cond := u_ws RX10 TX10 20
theorem nmX10 : ∀ a, a < 20 → ∀ b, b < 20 → a ≠ b → (TX10 a).2.1 ≠ (TX10 b).2.1 := by decide +kernel
theorem tyX10_ok : ∀ k, k < 20 → parseFieldDescriptor (TX10 k).2.2.1 = some (tyX10 k) := by decide +kernel
abbrev cX10_init : ByteArray := prog_12_method_1_code
def yX10_init : MethodName := ⟨RX10, "<init>", "()V"⟩
abbrev cX10_in : ByteArray := prog_12_method_3_code
def yX10_in : MethodName := ⟨RX10, "in", "(JJJ)Z"⟩
abbrev cX10_flag : ByteArray := prog_12_method_4_code
def yX10_flag : MethodName := ⟨RX10, "flag", "(Z)I"⟩
abbrev cX10_feed : ByteArray := prog_12_method_5_code
def yX10_feed : MethodName := ⟨RX10, "feed", "(I)I"⟩
abbrev cX10_end : ByteArray := prog_12_method_6_code
def yX10_end : MethodName := ⟨RX10, "end", "(I)I"⟩
abbrev cX10_requires : ByteArray := prog_12_method_7_code
def yX10_requires : MethodName := ⟨RX10, "requires", "(ZI)V"⟩
abbrev cX10_byteAt : ByteArray := prog_12_method_8_code
def yX10_byteAt : MethodName := ⟨RX10, "byteAt", "(I)I"⟩
abbrev cX10_reads : ByteArray := prog_12_method_9_code
def yX10_reads : MethodName := ⟨RX10, "reads", "()V"⟩
abbrev cX10_is : ByteArray := prog_12_method_10_code
def yX10_is : MethodName := ⟨RX10, "is", "(III)Z"⟩
abbrev cX10_areBeads : ByteArray := prog_12_method_11_code
def yX10_areBeads : MethodName := ⟨RX10, "areBeads", "()Z"⟩
abbrev cX10_readRow : ByteArray := prog_12_method_12_code
def yX10_readRow : MethodName := ⟨RX10, "readRow", "()V"⟩
abbrev cX10_readLine : ByteArray := prog_12_method_13_code
def yX10_readLine : MethodName := ⟨RX10, "readLine", "()V"⟩
abbrev cX10_text : ByteArray := prog_12_method_14_code
def yX10_text : MethodName := ⟨RX10, "text", "()I"⟩
abbrev cX10_fault : ByteArray := prog_12_method_15_code
def yX10_fault : MethodName := ⟨RX10, "fault", "()I"⟩
abbrev cX10_isRow : ByteArray := prog_12_method_16_code
def yX10_isRow : MethodName := ⟨RX10, "isRow", "(I)Z"⟩
abbrev cX10_isColour : ByteArray := prog_12_method_17_code
def yX10_isColour : MethodName := ⟨RX10, "isColour", "(I)Z"⟩
abbrev cX10_beadOf : ByteArray := prog_12_method_18_code
def yX10_beadOf : MethodName := ⟨RX10, "beadOf", "(II)I"⟩
abbrev cX10_isBack : ByteArray := prog_12_method_19_code
def yX10_isBack : MethodName := ⟨RX10, "isBack", "(I)Z"⟩
abbrev cX10_lineOf : ByteArray := prog_12_method_20_code
def yX10_lineOf : MethodName := ⟨RX10, "lineOf", "(II)I"⟩
abbrev cX10_isSame : ByteArray := prog_12_method_21_code
def yX10_isSame : MethodName := ⟨RX10, "isSame", "(IIZ)Z"⟩
abbrev cX10_likeOf : ByteArray := prog_12_method_22_code
def yX10_likeOf : MethodName := ⟨RX10, "likeOf", "(IIZ)I"⟩
abbrev cX10_runsOf : ByteArray := prog_12_method_23_code
def yX10_runsOf : MethodName := ⟨RX10, "runsOf", "(II)I"⟩
abbrev cX10_partOf : ByteArray := prog_12_method_24_code
def yX10_partOf : MethodName := ⟨RX10, "partOf", "(I)I"⟩
abbrev cX10_wordsBy : ByteArray := prog_12_method_25_code
def yX10_wordsBy : MethodName := ⟨RX10, "wordsBy", "(II)I"⟩
abbrev cX10_formOf : ByteArray := prog_12_method_26_code
def yX10_formOf : MethodName := ⟨RX10, "formOf", "(I)I"⟩
abbrev cX10_wordOf : ByteArray := prog_12_method_27_code
def yX10_wordOf : MethodName := ⟨RX10, "wordOf", "(II)I"⟩
abbrev cX10_allWords : ByteArray := prog_12_method_28_code
def yX10_allWords : MethodName := ⟨RX10, "allWords", "()I"⟩
abbrev cX10_unlike : ByteArray := prog_12_method_29_code
def yX10_unlike : MethodName := ⟨RX10, "unlike", "()I"⟩
abbrev cX10_allRuns : ByteArray := prog_12_method_30_code
def yX10_allRuns : MethodName := ⟨RX10, "allRuns", "()I"⟩
abbrev cX10_width : ByteArray := prog_12_method_31_code
def yX10_width : MethodName := ⟨RX10, "width", "()I"⟩
abbrev cX10_beads : ByteArray := prog_12_method_32_code
def yX10_beads : MethodName := ⟨RX10, "beads", "()I"⟩
abbrev cX10_manyOf : ByteArray := prog_12_method_33_code
def yX10_manyOf : MethodName := ⟨RX10, "manyOf", "(II)I"⟩
abbrev cX10_colours : ByteArray := prog_12_method_34_code
def yX10_colours : MethodName := ⟨RX10, "colours", "()I"⟩
abbrev cX10_rule : ByteArray := prog_12_method_35_code
def yX10_rule : MethodName := ⟨RX10, "rule", "(I)I"⟩
abbrev cX10_bead : ByteArray := prog_12_method_36_code
def yX10_bead : MethodName := ⟨RX10, "bead", "(II)I"⟩
abbrev cX10_many : ByteArray := prog_12_method_37_code
def yX10_many : MethodName := ⟨RX10, "many", "(II)I"⟩
abbrev cX10_likes : ByteArray := prog_12_method_38_code
def yX10_likes : MethodName := ⟨RX10, "likes", "(I)I"⟩
abbrev cX10_row : ByteArray := prog_12_method_39_code
def yX10_row : MethodName := ⟨RX10, "row", "(II)I"⟩
abbrev cX10_words : ByteArray := prog_12_method_40_code
def yX10_words : MethodName := ⟨RX10, "words", "(II)I"⟩
abbrev cX10_word : ByteArray := prog_12_method_41_code
def yX10_word : MethodName := ⟨RX10, "word", "(II)I"⟩
abbrev cX10_tell : ByteArray := prog_12_method_42_code
def yX10_tell : MethodName := ⟨RX10, "tell", "(I)I"⟩
abbrev cX10_tear : ByteArray := prog_12_method_43_code
def yX10_tear : MethodName := ⟨RX10, "tear", "()I"⟩
abbrev cX10_readRuns : ByteArray := prog_12_method_44_code
def yX10_readRuns : MethodName := ⟨RX10, "readRuns", "(I)Z"⟩
abbrev cX10_readLike : ByteArray := prog_12_method_45_code
def yX10_readLike : MethodName := ⟨RX10, "readLike", "(Z)Z"⟩
abbrev cX10_readMirror : ByteArray := prog_12_method_46_code
def yX10_readMirror : MethodName := ⟨RX10, "readMirror", "()Z"⟩
abbrev cX10_readTimes : ByteArray := prog_12_method_47_code
def yX10_readTimes : MethodName := ⟨RX10, "readTimes", "()Z"⟩
abbrev cX10_speaks : ByteArray := prog_12_method_48_code
def yX10_speaks : MethodName := ⟨RX10, "speaks", "()Z"⟩
abbrev cX10_spoken : ByteArray := prog_12_method_49_code
def yX10_spoken : MethodName := ⟨RX10, "spoken", "()I"⟩
abbrev cX10_said : ByteArray := prog_12_method_50_code
def yX10_said : MethodName := ⟨RX10, "said", "(I)I"⟩
abbrev cX10_add : ByteArray := prog_12_method_51_code
def yX10_add : MethodName := ⟨RX10, "add", "()I"⟩
abbrev cX10_string : ByteArray := prog_12_method_52_code
def yX10_string : MethodName := ⟨RX10, "string", "(I)I"⟩
abbrev cX10_off : ByteArray := prog_12_method_53_code
def yX10_off : MethodName := ⟨RX10, "off", "(I)I"⟩
abbrev cX10_planOf : ByteArray := prog_12_method_54_code
def yX10_planOf : MethodName := ⟨RX10, "planOf", "(I)I"⟩
abbrev cX10_plan : ByteArray := prog_12_method_55_code
def yX10_plan : MethodName := ⟨RX10, "plan", "(I)I"⟩
abbrev cX10_firstMistake : ByteArray := prog_12_method_56_code
def yX10_firstMistake : MethodName := ⟨RX10, "firstMistake", "()I"⟩
abbrev cX10_asTold : ByteArray := prog_12_method_57_code
def yX10_asTold : MethodName := ⟨RX10, "asTold", "(II)I"⟩
abbrev cX10_kindOf : ByteArray := prog_12_method_58_code
def yX10_kindOf : MethodName := ⟨RX10, "kindOf", "(I)I"⟩
abbrev cX10_mistake : ByteArray := prog_12_method_59_code
def yX10_mistake : MethodName := ⟨RX10, "mistake", "(I)I"⟩
abbrev cX10_paint : ByteArray := prog_12_method_60_code
def yX10_paint : MethodName := ⟨RX10, "paint", "(III)I"⟩
abbrev cX10_dye : ByteArray := prog_12_method_61_code
def yX10_dye : MethodName := ⟨RX10, "dye", "(II)I"⟩
abbrev cX10_copiesRow : ByteArray := prog_12_method_62_code
def yX10_copiesRow : MethodName := ⟨RX10, "copiesRow", "(II)V"⟩
abbrev cX10_turns : ByteArray := prog_12_method_63_code
def yX10_turns : MethodName := ⟨RX10, "turns", "(I)V"⟩
abbrev cX10_goesOn : ByteArray := prog_12_method_64_code
def yX10_goesOn : MethodName := ⟨RX10, "goesOn", "(I)V"⟩
abbrev cX10_change : ByteArray := prog_12_method_65_code
def yX10_change : MethodName := ⟨RX10, "change", "(II)I"⟩
abbrev cX10_swap : ByteArray := prog_12_method_66_code
def yX10_swap : MethodName := ⟨RX10, "swap", "(II)I"⟩
abbrev cX10_mode : ByteArray := prog_12_method_67_code
def yX10_mode : MethodName := ⟨RX10, "mode", "(I)I"⟩
abbrev cX10_gets : ByteArray := prog_12_method_68_code
def yX10_gets : MethodName := ⟨RX10, "gets", "()I"⟩
abbrev cX10_drawsRow : ByteArray := prog_12_method_69_code
def yX10_drawsRow : MethodName := ⟨RX10, "drawsRow", "(III)V"⟩
abbrev cX10_draw : ByteArray := prog_12_method_70_code
def yX10_draw : MethodName := ⟨RX10, "draw", "(IIII)I"⟩
abbrev cX10_keep : ByteArray := prog_12_method_71_code
def yX10_keep : MethodName := ⟨RX10, "keep", "(I)I"⟩
abbrev cX10_back : ByteArray := prog_12_method_72_code
def yX10_back : MethodName := ⟨RX10, "back", "(I)I"⟩
abbrev cX10_isSheet : ByteArray := prog_12_method_73_code
def yX10_isSheet : MethodName := ⟨RX10, "isSheet", "(II)Z"⟩
abbrev cX10_sheet : ByteArray := prog_12_method_74_code
def yX10_sheet : MethodName := ⟨RX10, "sheet", "(III)I"⟩
abbrev cX10_lay : ByteArray := prog_12_method_75_code
def yX10_lay : MethodName := ⟨RX10, "lay", "(III)I"⟩
abbrev cX10_run : ByteArray := prog_12_method_76_code
def yX10_run : MethodName := ⟨RX10, "run", "(IIII)I"⟩
abbrev cX10_torn : ByteArray := prog_12_method_77_code
def yX10_torn : MethodName := ⟨RX10, "torn", "()I"⟩
abbrev cX10_count : ByteArray := prog_12_method_78_code
def yX10_count : MethodName := ⟨RX10, "count", "(I)I"⟩
def RJ0 : String := "java/lang/String"
def TJ0 : u_T := fun k => match k with
  | _ => ("", "", "", false)
abbrev wsJ00 : List Cond := u_ws RJ0 TJ0 0
abbrev cJ0_length_8abf5 : ByteArray := prog_13_method_54_code
def yJ0_length_8abf5 : MethodName := ⟨RJ0, "length", "()I"⟩
abbrev cJ0_charAt_5068e : ByteArray := prog_13_method_56_code
def yJ0_charAt_5068e : MethodName := ⟨RJ0, "charAt", "(I)C"⟩
abbrev cJ0_coder_7d493 : ByteArray := prog_13_method_152_code
def yJ0_coder_7d493 : MethodName := ⟨RJ0, "coder", "()B"⟩
abbrev cJ0_isLatin1_aae02 : ByteArray := prog_13_method_154_code
def yJ0_isLatin1_aae02 : MethodName := ⟨RJ0, "isLatin1", "()Z"⟩
abbrev cJ0_checkIndex_df160 : ByteArray := prog_13_method_155_code
def yJ0_checkIndex_df160 : MethodName := ⟨RJ0, "checkIndex", "(II)V"⟩
def RJ1 : String := "java/lang/StringLatin1"
def TJ1 : u_T := fun k => match k with
  | _ => ("", "", "", false)
abbrev wsJ10 : List Cond := u_ws RJ1 TJ1 0
abbrev cJ1_charAt_3b067 : ByteArray := prog_14_method_2_code
def yJ1_charAt_3b067 : MethodName := ⟨RJ1, "charAt", "([BI)C"⟩
def RJ2 : String := "java/lang/StringUTF16"
def TJ2 : u_T := fun k => match k with
  | _ => ("", "", "", false)
abbrev wsJ20 : List Cond := u_ws RJ2 TJ2 0
abbrev cJ2_getChar_3b067 : ByteArray := prog_15_method_5_code
def yJ2_getChar_3b067 : MethodName := ⟨RJ2, "getChar", "([BI)C"⟩
abbrev cJ2_length_9d52b : ByteArray := prog_15_method_6_code
def yJ2_length_9d52b : MethodName := ⟨RJ2, "length", "([B)I"⟩
abbrev cJ2_charAt_3b067 : ByteArray := prog_15_method_83_code
def yJ2_charAt_3b067 : MethodName := ⟨RJ2, "charAt", "([BI)C"⟩
abbrev cJ2_checkIndex_2214a : ByteArray := prog_15_method_91_code
def yJ2_checkIndex_2214a : MethodName := ⟨RJ2, "checkIndex", "(I[B)V"⟩
def RJ10 : String := "java/lang/System"
def TJ10 : u_T := fun k => match k with
  | _ => ("", "", "", false)
abbrev wsJ100 : List Cond := u_ws RJ10 TJ10 0
def RJ3 : String := "jdk/internal/util/Preconditions"
def TJ3 : u_T := fun k => match k with
  | _ => ("", "", "", false)
abbrev wsJ30 : List Cond := u_ws RJ3 TJ3 0
abbrev cJ3_checkIndex_8e157 : ByteArray := prog_17_method_11_code
def yJ3_checkIndex_8e157 : MethodName := ⟨RJ3, "checkIndex", "(IILjava/util/function/BiFunction;)I"⟩
def RL : String := "BeadWordsLaw"
abbrev cL_law : ByteArray := code
def yL_law : MethodName := ⟨RL, "law", "([I)Z"⟩
