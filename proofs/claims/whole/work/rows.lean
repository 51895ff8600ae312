section
-- ===== PART A: goes FIRST, ahead of the names: the tables' words, and 'selects' of the private methods out of them =====
/-- a private method of a class that the tables say can be made, by its rows of tables_1 -/
def lw_okq (q : MethodName × Nat) : Prop := (q.1.cls ≠ "java/lang/invoke/MethodHandle" ∧ q.1.cls ≠ "java/lang/invoke/VarHandle") ∧ Cond.instantiable q.1.cls q.2 ∈ tables_1 ∧ Cond.privateMethod q.1 ∈ tables_1 ∧ Cond.instanceMethod q.1 ∈ tables_1
theorem lw_p0 : lw_okq (⟨"BeadWords$Reader", "readToken", "(LBeadWords$Tape;)V"⟩, 5) := ⟨⟨by decide +kernel, by decide +kernel⟩, List.mem_of_getElem? (i := 85) (by decide +kernel), List.mem_of_getElem? (i := 257) (by decide +kernel), List.mem_of_getElem? (i := 258) (by decide +kernel)⟩
theorem lw_p1 : lw_okq (⟨"BeadWords$Reader", "readLine", "(LBeadWords$Tape;)I"⟩, 5) := ⟨⟨by decide +kernel, by decide +kernel⟩, List.mem_of_getElem? (i := 85) (by decide +kernel), List.mem_of_getElem? (i := 265) (by decide +kernel), List.mem_of_getElem? (i := 266) (by decide +kernel)⟩
theorem lw_p2 : lw_okq (⟨"BeadWords$Reader", "unfit", "()I"⟩, 5) := ⟨⟨by decide +kernel, by decide +kernel⟩, List.mem_of_getElem? (i := 85) (by decide +kernel), List.mem_of_getElem? (i := 269) (by decide +kernel), List.mem_of_getElem? (i := 270) (by decide +kernel)⟩
theorem lw_p3 : lw_okq (⟨"BeadWords$Reader", "isName", "(LBeadWords$Tape;Ljava/lang/String;)Z"⟩, 5) := ⟨⟨by decide +kernel, by decide +kernel⟩, List.mem_of_getElem? (i := 85) (by decide +kernel), List.mem_of_getElem? (i := 274) (by decide +kernel), List.mem_of_getElem? (i := 275) (by decide +kernel)⟩
theorem lw_p4 : lw_okq (⟨"BeadWords$Reader", "readRow", "(LBeadWords$Tape;)I"⟩, 5) := ⟨⟨by decide +kernel, by decide +kernel⟩, List.mem_of_getElem? (i := 85) (by decide +kernel), List.mem_of_getElem? (i := 326) (by decide +kernel), List.mem_of_getElem? (i := 327) (by decide +kernel)⟩
theorem lw_p5 : lw_okq (⟨"BeadWords$Reader", "isBeads", "(LBeadWords$Tape;)Z"⟩, 5) := ⟨⟨by decide +kernel, by decide +kernel⟩, List.mem_of_getElem? (i := 85) (by decide +kernel), List.mem_of_getElem? (i := 330) (by decide +kernel), List.mem_of_getElem? (i := 331) (by decide +kernel)⟩
theorem lw_p6 : lw_okq (⟨"BeadWords$Reader", "readSign", "(LBeadWords$Tape;)I"⟩, 5) := ⟨⟨by decide +kernel, by decide +kernel⟩, List.mem_of_getElem? (i := 85) (by decide +kernel), List.mem_of_getElem? (i := 345) (by decide +kernel), List.mem_of_getElem? (i := 346) (by decide +kernel)⟩
theorem lw_p7 : lw_okq (⟨"BeadWords$Reader", "readFro", "(LBeadWords$Tape;)I"⟩, 5) := ⟨⟨by decide +kernel, by decide +kernel⟩, List.mem_of_getElem? (i := 85) (by decide +kernel), List.mem_of_getElem? (i := 350) (by decide +kernel), List.mem_of_getElem? (i := 351) (by decide +kernel)⟩
theorem lw_p8 : lw_okq (⟨"BeadWords", "wordsInAll", "()I"⟩, 11) := ⟨⟨by decide +kernel, by decide +kernel⟩, List.mem_of_getElem? (i := 18) (by decide +kernel), List.mem_of_getElem? (i := 374) (by decide +kernel), List.mem_of_getElem? (i := 375) (by decide +kernel)⟩
theorem lw_p9 : lw_okq (⟨"BeadWords$Teller", "put", "(I)V"⟩, 2) := ⟨⟨by decide +kernel, by decide +kernel⟩, List.mem_of_getElem? (i := 111) (by decide +kernel), List.mem_of_getElem? (i := 386) (by decide +kernel), List.mem_of_getElem? (i := 387) (by decide +kernel)⟩
theorem lw_p10 : lw_okq (⟨"BeadWords$Teller", "tellLike", "(I)I"⟩, 2) := ⟨⟨by decide +kernel, by decide +kernel⟩, List.mem_of_getElem? (i := 111) (by decide +kernel), List.mem_of_getElem? (i := 406) (by decide +kernel), List.mem_of_getElem? (i := 407) (by decide +kernel)⟩
theorem lw_p11 : lw_okq (⟨"BeadWords$Teller", "tellMirror", "(LBeadWords$Picture;I)I"⟩, 2) := ⟨⟨by decide +kernel, by decide +kernel⟩, List.mem_of_getElem? (i := 111) (by decide +kernel), List.mem_of_getElem? (i := 410) (by decide +kernel), List.mem_of_getElem? (i := 411) (by decide +kernel)⟩
theorem lw_p12 : lw_okq (⟨"BeadWords$Teller", "tellRuns", "(LBeadWords$Picture;II)I"⟩, 2) := ⟨⟨by decide +kernel, by decide +kernel⟩, List.mem_of_getElem? (i := 111) (by decide +kernel), List.mem_of_getElem? (i := 415) (by decide +kernel), List.mem_of_getElem? (i := 416) (by decide +kernel)⟩
theorem lw_p13 : lw_okq (⟨"BeadWords$Picture", "comesAgain", "(II)Z"⟩, 4) := ⟨⟨by decide +kernel, by decide +kernel⟩, List.mem_of_getElem? (i := 26) (by decide +kernel), List.mem_of_getElem? (i := 424) (by decide +kernel), List.mem_of_getElem? (i := 425) (by decide +kernel)⟩
theorem lw_p14 : lw_okq (⟨"BeadWords$Teller", "tellTimes", "(LBeadWords$Picture;II)I"⟩, 2) := ⟨⟨by decide +kernel, by decide +kernel⟩, List.mem_of_getElem? (i := 111) (by decide +kernel), List.mem_of_getElem? (i := 428) (by decide +kernel), List.mem_of_getElem? (i := 429) (by decide +kernel)⟩
theorem lw_p15 : lw_okq (⟨"BeadWords", "coloursInAll", "()I"⟩, 11) := ⟨⟨by decide +kernel, by decide +kernel⟩, List.mem_of_getElem? (i := 18) (by decide +kernel), List.mem_of_getElem? (i := 445) (by decide +kernel), List.mem_of_getElem? (i := 446) (by decide +kernel)⟩
def lw_privs_1 : List (MethodName × Nat) := [(⟨"BeadWords$Reader", "readToken", "(LBeadWords$Tape;)V"⟩, 5), (⟨"BeadWords$Reader", "readLine", "(LBeadWords$Tape;)I"⟩, 5), (⟨"BeadWords$Reader", "unfit", "()I"⟩, 5), (⟨"BeadWords$Reader", "isName", "(LBeadWords$Tape;Ljava/lang/String;)Z"⟩, 5), (⟨"BeadWords$Reader", "readRow", "(LBeadWords$Tape;)I"⟩, 5), (⟨"BeadWords$Reader", "isBeads", "(LBeadWords$Tape;)Z"⟩, 5), (⟨"BeadWords$Reader", "readSign", "(LBeadWords$Tape;)I"⟩, 5), (⟨"BeadWords$Reader", "readFro", "(LBeadWords$Tape;)I"⟩, 5), (⟨"BeadWords", "wordsInAll", "()I"⟩, 11), (⟨"BeadWords$Teller", "put", "(I)V"⟩, 2), (⟨"BeadWords$Teller", "tellLike", "(I)I"⟩, 2), (⟨"BeadWords$Teller", "tellMirror", "(LBeadWords$Picture;I)I"⟩, 2), (⟨"BeadWords$Teller", "tellRuns", "(LBeadWords$Picture;II)I"⟩, 2), (⟨"BeadWords$Picture", "comesAgain", "(II)Z"⟩, 4), (⟨"BeadWords$Teller", "tellTimes", "(LBeadWords$Picture;II)I"⟩, 2), (⟨"BeadWords", "coloursInAll", "()I"⟩, 11)]
theorem lw_r1 : ∀ q ∈ lw_privs_1, lw_okq q := List.forall_mem_cons.mpr ⟨lw_p0, List.forall_mem_cons.mpr ⟨lw_p1, List.forall_mem_cons.mpr ⟨lw_p2, List.forall_mem_cons.mpr ⟨lw_p3, List.forall_mem_cons.mpr ⟨lw_p4, List.forall_mem_cons.mpr ⟨lw_p5, List.forall_mem_cons.mpr ⟨lw_p6, List.forall_mem_cons.mpr ⟨lw_p7, List.forall_mem_cons.mpr ⟨lw_p8, List.forall_mem_cons.mpr ⟨lw_p9, List.forall_mem_cons.mpr ⟨lw_p10, List.forall_mem_cons.mpr ⟨lw_p11, List.forall_mem_cons.mpr ⟨lw_p12, List.forall_mem_cons.mpr ⟨lw_p13, List.forall_mem_cons.mpr ⟨lw_p14, List.forall_mem_cons.mpr ⟨lw_p15, fun _ h => absurd h List.not_mem_nil⟩⟩⟩⟩⟩⟩⟩⟩⟩⟩⟩⟩⟩⟩⟩⟩
theorem lw_p16 : lw_okq (⟨"BeadWords$Slip", "speakLike", "(LBeadWords$Picture;Z)I"⟩, 3) := ⟨⟨by decide +kernel, by decide +kernel⟩, List.mem_of_getElem? (i := 126) (by decide +kernel), List.mem_of_getElem? (i := 524) (by decide +kernel), List.mem_of_getElem? (i := 525) (by decide +kernel)⟩
theorem lw_p17 : lw_okq (⟨"BeadWords$Slip", "speakMirror", "(LBeadWords$Picture;)I"⟩, 3) := ⟨⟨by decide +kernel, by decide +kernel⟩, List.mem_of_getElem? (i := 126) (by decide +kernel), List.mem_of_getElem? (i := 530) (by decide +kernel), List.mem_of_getElem? (i := 531) (by decide +kernel)⟩
theorem lw_p18 : lw_okq (⟨"BeadWords$Slip", "speakRuns", "(I)I"⟩, 3) := ⟨⟨by decide +kernel, by decide +kernel⟩, List.mem_of_getElem? (i := 126) (by decide +kernel), List.mem_of_getElem? (i := 534) (by decide +kernel), List.mem_of_getElem? (i := 535) (by decide +kernel)⟩
theorem lw_p19 : lw_okq (⟨"BeadWords$Slip", "speakTimes", "(LBeadWords$Picture;)I"⟩, 3) := ⟨⟨by decide +kernel, by decide +kernel⟩, List.mem_of_getElem? (i := 126) (by decide +kernel), List.mem_of_getElem? (i := 539) (by decide +kernel), List.mem_of_getElem? (i := 540) (by decide +kernel)⟩
theorem lw_p20 : lw_okq (⟨"BeadWords", "drawRow", "(II)V"⟩, 11) := ⟨⟨by decide +kernel, by decide +kernel⟩, List.mem_of_getElem? (i := 18) (by decide +kernel), List.mem_of_getElem? (i := 666) (by decide +kernel), List.mem_of_getElem? (i := 667) (by decide +kernel)⟩
theorem lw_p21 : lw_okq (⟨"BeadWords", "imagesThere", "()I"⟩, 11) := ⟨⟨by decide +kernel, by decide +kernel⟩, List.mem_of_getElem? (i := 18) (by decide +kernel), List.mem_of_getElem? (i := 728) (by decide +kernel), List.mem_of_getElem? (i := 729) (by decide +kernel)⟩
theorem lw_p22 : lw_okq (⟨"BeadWordsModel", "reads", "()V"⟩, 20) := ⟨⟨by decide +kernel, by decide +kernel⟩, List.mem_of_getElem? (i := 732) (by decide +kernel), List.mem_of_getElem? (i := 816) (by decide +kernel), List.mem_of_getElem? (i := 817) (by decide +kernel)⟩
theorem lw_p23 : lw_okq (⟨"BeadWordsModel", "byteAt", "(I)I"⟩, 20) := ⟨⟨by decide +kernel, by decide +kernel⟩, List.mem_of_getElem? (i := 732) (by decide +kernel), List.mem_of_getElem? (i := 820) (by decide +kernel), List.mem_of_getElem? (i := 821) (by decide +kernel)⟩
theorem lw_p24 : lw_okq (⟨"BeadWordsModel", "requires", "(ZI)V"⟩, 20) := ⟨⟨by decide +kernel, by decide +kernel⟩, List.mem_of_getElem? (i := 732) (by decide +kernel), List.mem_of_getElem? (i := 826) (by decide +kernel), List.mem_of_getElem? (i := 827) (by decide +kernel)⟩
theorem lw_p25 : lw_okq (⟨"BeadWordsModel", "readLine", "()V"⟩, 20) := ⟨⟨by decide +kernel, by decide +kernel⟩, List.mem_of_getElem? (i := 732) (by decide +kernel), List.mem_of_getElem? (i := 830) (by decide +kernel), List.mem_of_getElem? (i := 831) (by decide +kernel)⟩
theorem lw_p26 : lw_okq (⟨"BeadWordsModel", "is", "(III)Z"⟩, 20) := ⟨⟨by decide +kernel, by decide +kernel⟩, List.mem_of_getElem? (i := 732) (by decide +kernel), List.mem_of_getElem? (i := 834) (by decide +kernel), List.mem_of_getElem? (i := 835) (by decide +kernel)⟩
theorem lw_p27 : lw_okq (⟨"BeadWordsModel", "readRow", "()V"⟩, 20) := ⟨⟨by decide +kernel, by decide +kernel⟩, List.mem_of_getElem? (i := 732) (by decide +kernel), List.mem_of_getElem? (i := 838) (by decide +kernel), List.mem_of_getElem? (i := 839) (by decide +kernel)⟩
theorem lw_p28 : lw_okq (⟨"BeadWordsModel", "areBeads", "()Z"⟩, 20) := ⟨⟨by decide +kernel, by decide +kernel⟩, List.mem_of_getElem? (i := 732) (by decide +kernel), List.mem_of_getElem? (i := 842) (by decide +kernel), List.mem_of_getElem? (i := 843) (by decide +kernel)⟩
theorem lw_p29 : lw_okq (⟨"BeadWordsModel", "width", "()I"⟩, 20) := ⟨⟨by decide +kernel, by decide +kernel⟩, List.mem_of_getElem? (i := 732) (by decide +kernel), List.mem_of_getElem? (i := 854) (by decide +kernel), List.mem_of_getElem? (i := 855) (by decide +kernel)⟩
theorem lw_p30 : lw_okq (⟨"BeadWordsModel", "beads", "()I"⟩, 20) := ⟨⟨by decide +kernel, by decide +kernel⟩, List.mem_of_getElem? (i := 732) (by decide +kernel), List.mem_of_getElem? (i := 858) (by decide +kernel), List.mem_of_getElem? (i := 859) (by decide +kernel)⟩
theorem lw_p31 : lw_okq (⟨"BeadWordsModel", "allWords", "()I"⟩, 20) := ⟨⟨by decide +kernel, by decide +kernel⟩, List.mem_of_getElem? (i := 732) (by decide +kernel), List.mem_of_getElem? (i := 862) (by decide +kernel), List.mem_of_getElem? (i := 863) (by decide +kernel)⟩
def lw_privs_2 : List (MethodName × Nat) := [(⟨"BeadWords$Slip", "speakLike", "(LBeadWords$Picture;Z)I"⟩, 3), (⟨"BeadWords$Slip", "speakMirror", "(LBeadWords$Picture;)I"⟩, 3), (⟨"BeadWords$Slip", "speakRuns", "(I)I"⟩, 3), (⟨"BeadWords$Slip", "speakTimes", "(LBeadWords$Picture;)I"⟩, 3), (⟨"BeadWords", "drawRow", "(II)V"⟩, 11), (⟨"BeadWords", "imagesThere", "()I"⟩, 11), (⟨"BeadWordsModel", "reads", "()V"⟩, 20), (⟨"BeadWordsModel", "byteAt", "(I)I"⟩, 20), (⟨"BeadWordsModel", "requires", "(ZI)V"⟩, 20), (⟨"BeadWordsModel", "readLine", "()V"⟩, 20), (⟨"BeadWordsModel", "is", "(III)Z"⟩, 20), (⟨"BeadWordsModel", "readRow", "()V"⟩, 20), (⟨"BeadWordsModel", "areBeads", "()Z"⟩, 20), (⟨"BeadWordsModel", "width", "()I"⟩, 20), (⟨"BeadWordsModel", "beads", "()I"⟩, 20), (⟨"BeadWordsModel", "allWords", "()I"⟩, 20)]
theorem lw_r2 : ∀ q ∈ lw_privs_2, lw_okq q := List.forall_mem_cons.mpr ⟨lw_p16, List.forall_mem_cons.mpr ⟨lw_p17, List.forall_mem_cons.mpr ⟨lw_p18, List.forall_mem_cons.mpr ⟨lw_p19, List.forall_mem_cons.mpr ⟨lw_p20, List.forall_mem_cons.mpr ⟨lw_p21, List.forall_mem_cons.mpr ⟨lw_p22, List.forall_mem_cons.mpr ⟨lw_p23, List.forall_mem_cons.mpr ⟨lw_p24, List.forall_mem_cons.mpr ⟨lw_p25, List.forall_mem_cons.mpr ⟨lw_p26, List.forall_mem_cons.mpr ⟨lw_p27, List.forall_mem_cons.mpr ⟨lw_p28, List.forall_mem_cons.mpr ⟨lw_p29, List.forall_mem_cons.mpr ⟨lw_p30, List.forall_mem_cons.mpr ⟨lw_p31, fun _ h => absurd h List.not_mem_nil⟩⟩⟩⟩⟩⟩⟩⟩⟩⟩⟩⟩⟩⟩⟩⟩
theorem lw_p32 : lw_okq (⟨"BeadWordsModel", "formOf", "(I)I"⟩, 20) := ⟨⟨by decide +kernel, by decide +kernel⟩, List.mem_of_getElem? (i := 732) (by decide +kernel), List.mem_of_getElem? (i := 866) (by decide +kernel), List.mem_of_getElem? (i := 867) (by decide +kernel)⟩
theorem lw_p33 : lw_okq (⟨"BeadWordsModel", "wordsBy", "(II)I"⟩, 20) := ⟨⟨by decide +kernel, by decide +kernel⟩, List.mem_of_getElem? (i := 732) (by decide +kernel), List.mem_of_getElem? (i := 870) (by decide +kernel), List.mem_of_getElem? (i := 871) (by decide +kernel)⟩
theorem lw_p34 : lw_okq (⟨"BeadWordsModel", "likeOf", "(IIZ)I"⟩, 20) := ⟨⟨by decide +kernel, by decide +kernel⟩, List.mem_of_getElem? (i := 732) (by decide +kernel), List.mem_of_getElem? (i := 874) (by decide +kernel), List.mem_of_getElem? (i := 875) (by decide +kernel)⟩
theorem lw_p35 : lw_okq (⟨"BeadWordsModel", "isSame", "(IIZ)Z"⟩, 20) := ⟨⟨by decide +kernel, by decide +kernel⟩, List.mem_of_getElem? (i := 732) (by decide +kernel), List.mem_of_getElem? (i := 878) (by decide +kernel), List.mem_of_getElem? (i := 879) (by decide +kernel)⟩
theorem lw_p36 : lw_okq (⟨"BeadWordsModel", "lineOf", "(II)I"⟩, 20) := ⟨⟨by decide +kernel, by decide +kernel⟩, List.mem_of_getElem? (i := 732) (by decide +kernel), List.mem_of_getElem? (i := 882) (by decide +kernel), List.mem_of_getElem? (i := 883) (by decide +kernel)⟩
theorem lw_p37 : lw_okq (⟨"BeadWordsModel", "isBack", "(I)Z"⟩, 20) := ⟨⟨by decide +kernel, by decide +kernel⟩, List.mem_of_getElem? (i := 732) (by decide +kernel), List.mem_of_getElem? (i := 886) (by decide +kernel), List.mem_of_getElem? (i := 887) (by decide +kernel)⟩
theorem lw_p38 : lw_okq (⟨"BeadWordsModel", "beadOf", "(II)I"⟩, 20) := ⟨⟨by decide +kernel, by decide +kernel⟩, List.mem_of_getElem? (i := 732) (by decide +kernel), List.mem_of_getElem? (i := 890) (by decide +kernel), List.mem_of_getElem? (i := 891) (by decide +kernel)⟩
theorem lw_p39 : lw_okq (⟨"BeadWordsModel", "runsOf", "(II)I"⟩, 20) := ⟨⟨by decide +kernel, by decide +kernel⟩, List.mem_of_getElem? (i := 732) (by decide +kernel), List.mem_of_getElem? (i := 894) (by decide +kernel), List.mem_of_getElem? (i := 895) (by decide +kernel)⟩
theorem lw_p40 : lw_okq (⟨"BeadWordsModel", "partOf", "(I)I"⟩, 20) := ⟨⟨by decide +kernel, by decide +kernel⟩, List.mem_of_getElem? (i := 732) (by decide +kernel), List.mem_of_getElem? (i := 901) (by decide +kernel), List.mem_of_getElem? (i := 902) (by decide +kernel)⟩
theorem lw_p41 : lw_okq (⟨"BeadWordsModel", "unlike", "()I"⟩, 20) := ⟨⟨by decide +kernel, by decide +kernel⟩, List.mem_of_getElem? (i := 732) (by decide +kernel), List.mem_of_getElem? (i := 905) (by decide +kernel), List.mem_of_getElem? (i := 906) (by decide +kernel)⟩
theorem lw_p42 : lw_okq (⟨"BeadWordsModel", "allRuns", "()I"⟩, 20) := ⟨⟨by decide +kernel, by decide +kernel⟩, List.mem_of_getElem? (i := 732) (by decide +kernel), List.mem_of_getElem? (i := 909) (by decide +kernel), List.mem_of_getElem? (i := 910) (by decide +kernel)⟩
theorem lw_p43 : lw_okq (⟨"BeadWordsModel", "colours", "()I"⟩, 20) := ⟨⟨by decide +kernel, by decide +kernel⟩, List.mem_of_getElem? (i := 732) (by decide +kernel), List.mem_of_getElem? (i := 913) (by decide +kernel), List.mem_of_getElem? (i := 914) (by decide +kernel)⟩
theorem lw_p44 : lw_okq (⟨"BeadWordsModel", "manyOf", "(II)I"⟩, 20) := ⟨⟨by decide +kernel, by decide +kernel⟩, List.mem_of_getElem? (i := 732) (by decide +kernel), List.mem_of_getElem? (i := 917) (by decide +kernel), List.mem_of_getElem? (i := 918) (by decide +kernel)⟩
theorem lw_p45 : lw_okq (⟨"BeadWordsModel", "isRow", "(I)Z"⟩, 20) := ⟨⟨by decide +kernel, by decide +kernel⟩, List.mem_of_getElem? (i := 732) (by decide +kernel), List.mem_of_getElem? (i := 925) (by decide +kernel), List.mem_of_getElem? (i := 926) (by decide +kernel)⟩
theorem lw_p46 : lw_okq (⟨"BeadWordsModel", "likes", "(I)I"⟩, 20) := ⟨⟨by decide +kernel, by decide +kernel⟩, List.mem_of_getElem? (i := 732) (by decide +kernel), List.mem_of_getElem? (i := 941) (by decide +kernel), List.mem_of_getElem? (i := 942) (by decide +kernel)⟩
theorem lw_p47 : lw_okq (⟨"BeadWordsModel", "wordOf", "(II)I"⟩, 20) := ⟨⟨by decide +kernel, by decide +kernel⟩, List.mem_of_getElem? (i := 732) (by decide +kernel), List.mem_of_getElem? (i := 954) (by decide +kernel), List.mem_of_getElem? (i := 955) (by decide +kernel)⟩
def lw_privs_3 : List (MethodName × Nat) := [(⟨"BeadWordsModel", "formOf", "(I)I"⟩, 20), (⟨"BeadWordsModel", "wordsBy", "(II)I"⟩, 20), (⟨"BeadWordsModel", "likeOf", "(IIZ)I"⟩, 20), (⟨"BeadWordsModel", "isSame", "(IIZ)Z"⟩, 20), (⟨"BeadWordsModel", "lineOf", "(II)I"⟩, 20), (⟨"BeadWordsModel", "isBack", "(I)Z"⟩, 20), (⟨"BeadWordsModel", "beadOf", "(II)I"⟩, 20), (⟨"BeadWordsModel", "runsOf", "(II)I"⟩, 20), (⟨"BeadWordsModel", "partOf", "(I)I"⟩, 20), (⟨"BeadWordsModel", "unlike", "()I"⟩, 20), (⟨"BeadWordsModel", "allRuns", "()I"⟩, 20), (⟨"BeadWordsModel", "colours", "()I"⟩, 20), (⟨"BeadWordsModel", "manyOf", "(II)I"⟩, 20), (⟨"BeadWordsModel", "isRow", "(I)Z"⟩, 20), (⟨"BeadWordsModel", "likes", "(I)I"⟩, 20), (⟨"BeadWordsModel", "wordOf", "(II)I"⟩, 20)]
theorem lw_r3 : ∀ q ∈ lw_privs_3, lw_okq q := List.forall_mem_cons.mpr ⟨lw_p32, List.forall_mem_cons.mpr ⟨lw_p33, List.forall_mem_cons.mpr ⟨lw_p34, List.forall_mem_cons.mpr ⟨lw_p35, List.forall_mem_cons.mpr ⟨lw_p36, List.forall_mem_cons.mpr ⟨lw_p37, List.forall_mem_cons.mpr ⟨lw_p38, List.forall_mem_cons.mpr ⟨lw_p39, List.forall_mem_cons.mpr ⟨lw_p40, List.forall_mem_cons.mpr ⟨lw_p41, List.forall_mem_cons.mpr ⟨lw_p42, List.forall_mem_cons.mpr ⟨lw_p43, List.forall_mem_cons.mpr ⟨lw_p44, List.forall_mem_cons.mpr ⟨lw_p45, List.forall_mem_cons.mpr ⟨lw_p46, List.forall_mem_cons.mpr ⟨lw_p47, fun _ h => absurd h List.not_mem_nil⟩⟩⟩⟩⟩⟩⟩⟩⟩⟩⟩⟩⟩⟩⟩⟩
theorem lw_p48 : lw_okq (⟨"BeadWordsModel", "speaks", "()Z"⟩, 20) := ⟨⟨by decide +kernel, by decide +kernel⟩, List.mem_of_getElem? (i := 732) (by decide +kernel), List.mem_of_getElem? (i := 971) (by decide +kernel), List.mem_of_getElem? (i := 972) (by decide +kernel)⟩
theorem lw_p49 : lw_okq (⟨"BeadWordsModel", "readLike", "(Z)Z"⟩, 20) := ⟨⟨by decide +kernel, by decide +kernel⟩, List.mem_of_getElem? (i := 732) (by decide +kernel), List.mem_of_getElem? (i := 975) (by decide +kernel), List.mem_of_getElem? (i := 976) (by decide +kernel)⟩
theorem lw_p50 : lw_okq (⟨"BeadWordsModel", "readMirror", "()Z"⟩, 20) := ⟨⟨by decide +kernel, by decide +kernel⟩, List.mem_of_getElem? (i := 732) (by decide +kernel), List.mem_of_getElem? (i := 979) (by decide +kernel), List.mem_of_getElem? (i := 980) (by decide +kernel)⟩
theorem lw_p51 : lw_okq (⟨"BeadWordsModel", "readRuns", "(I)Z"⟩, 20) := ⟨⟨by decide +kernel, by decide +kernel⟩, List.mem_of_getElem? (i := 732) (by decide +kernel), List.mem_of_getElem? (i := 983) (by decide +kernel), List.mem_of_getElem? (i := 984) (by decide +kernel)⟩
theorem lw_p52 : lw_okq (⟨"BeadWordsModel", "readTimes", "()Z"⟩, 20) := ⟨⟨by decide +kernel, by decide +kernel⟩, List.mem_of_getElem? (i := 732) (by decide +kernel), List.mem_of_getElem? (i := 988) (by decide +kernel), List.mem_of_getElem? (i := 989) (by decide +kernel)⟩
theorem lw_p53 : lw_okq (⟨"BeadWordsModel", "planOf", "(I)I"⟩, 20) := ⟨⟨by decide +kernel, by decide +kernel⟩, List.mem_of_getElem? (i := 732) (by decide +kernel), List.mem_of_getElem? (i := 1013) (by decide +kernel), List.mem_of_getElem? (i := 1014) (by decide +kernel)⟩
theorem lw_p54 : lw_okq (⟨"BeadWordsModel", "firstMistake", "()I"⟩, 20) := ⟨⟨by decide +kernel, by decide +kernel⟩, List.mem_of_getElem? (i := 732) (by decide +kernel), List.mem_of_getElem? (i := 1022) (by decide +kernel), List.mem_of_getElem? (i := 1023) (by decide +kernel)⟩
theorem lw_p55 : lw_okq (⟨"BeadWordsModel", "kindOf", "(I)I"⟩, 20) := ⟨⟨by decide +kernel, by decide +kernel⟩, List.mem_of_getElem? (i := 732) (by decide +kernel), List.mem_of_getElem? (i := 1026) (by decide +kernel), List.mem_of_getElem? (i := 1027) (by decide +kernel)⟩
theorem lw_p56 : lw_okq (⟨"BeadWordsModel", "asTold", "(II)I"⟩, 20) := ⟨⟨by decide +kernel, by decide +kernel⟩, List.mem_of_getElem? (i := 732) (by decide +kernel), List.mem_of_getElem? (i := 1030) (by decide +kernel), List.mem_of_getElem? (i := 1031) (by decide +kernel)⟩
theorem lw_p57 : lw_okq (⟨"BeadWordsModel", "turns", "(I)V"⟩, 20) := ⟨⟨by decide +kernel, by decide +kernel⟩, List.mem_of_getElem? (i := 732) (by decide +kernel), List.mem_of_getElem? (i := 1047) (by decide +kernel), List.mem_of_getElem? (i := 1048) (by decide +kernel)⟩
theorem lw_p58 : lw_okq (⟨"BeadWordsModel", "goesOn", "(I)V"⟩, 20) := ⟨⟨by decide +kernel, by decide +kernel⟩, List.mem_of_getElem? (i := 732) (by decide +kernel), List.mem_of_getElem? (i := 1051) (by decide +kernel), List.mem_of_getElem? (i := 1052) (by decide +kernel)⟩
theorem lw_p59 : lw_okq (⟨"BeadWordsModel", "copiesRow", "(II)V"⟩, 20) := ⟨⟨by decide +kernel, by decide +kernel⟩, List.mem_of_getElem? (i := 732) (by decide +kernel), List.mem_of_getElem? (i := 1055) (by decide +kernel), List.mem_of_getElem? (i := 1056) (by decide +kernel)⟩
theorem lw_p60 : lw_okq (⟨"BeadWordsModel", "drawsRow", "(III)V"⟩, 20) := ⟨⟨by decide +kernel, by decide +kernel⟩, List.mem_of_getElem? (i := 732) (by decide +kernel), List.mem_of_getElem? (i := 1072) (by decide +kernel), List.mem_of_getElem? (i := 1073) (by decide +kernel)⟩
theorem lw_p61 : lw_okq (⟨"BeadWordsModel", "gets", "()I"⟩, 20) := ⟨⟨by decide +kernel, by decide +kernel⟩, List.mem_of_getElem? (i := 732) (by decide +kernel), List.mem_of_getElem? (i := 1076) (by decide +kernel), List.mem_of_getElem? (i := 1077) (by decide +kernel)⟩
def lw_privs_4 : List (MethodName × Nat) := [(⟨"BeadWordsModel", "speaks", "()Z"⟩, 20), (⟨"BeadWordsModel", "readLike", "(Z)Z"⟩, 20), (⟨"BeadWordsModel", "readMirror", "()Z"⟩, 20), (⟨"BeadWordsModel", "readRuns", "(I)Z"⟩, 20), (⟨"BeadWordsModel", "readTimes", "()Z"⟩, 20), (⟨"BeadWordsModel", "planOf", "(I)I"⟩, 20), (⟨"BeadWordsModel", "firstMistake", "()I"⟩, 20), (⟨"BeadWordsModel", "kindOf", "(I)I"⟩, 20), (⟨"BeadWordsModel", "asTold", "(II)I"⟩, 20), (⟨"BeadWordsModel", "turns", "(I)V"⟩, 20), (⟨"BeadWordsModel", "goesOn", "(I)V"⟩, 20), (⟨"BeadWordsModel", "copiesRow", "(II)V"⟩, 20), (⟨"BeadWordsModel", "drawsRow", "(III)V"⟩, 20), (⟨"BeadWordsModel", "gets", "()I"⟩, 20)]
theorem lw_r4 : ∀ q ∈ lw_privs_4, lw_okq q := List.forall_mem_cons.mpr ⟨lw_p48, List.forall_mem_cons.mpr ⟨lw_p49, List.forall_mem_cons.mpr ⟨lw_p50, List.forall_mem_cons.mpr ⟨lw_p51, List.forall_mem_cons.mpr ⟨lw_p52, List.forall_mem_cons.mpr ⟨lw_p53, List.forall_mem_cons.mpr ⟨lw_p54, List.forall_mem_cons.mpr ⟨lw_p55, List.forall_mem_cons.mpr ⟨lw_p56, List.forall_mem_cons.mpr ⟨lw_p57, List.forall_mem_cons.mpr ⟨lw_p58, List.forall_mem_cons.mpr ⟨lw_p59, List.forall_mem_cons.mpr ⟨lw_p60, List.forall_mem_cons.mpr ⟨lw_p61, fun _ h => absurd h List.not_mem_nil⟩⟩⟩⟩⟩⟩⟩⟩⟩⟩⟩⟩⟩⟩
def lw_privs : List (MethodName × Nat) := lw_privs_1 ++ (lw_privs_2 ++ (lw_privs_3 ++ (lw_privs_4)))
def lw_tbl : List Cond := k2_sels lw_privs ++ tables_1
theorem lw_privs_ok : ∀ q ∈ lw_privs, lw_okq q := by
  show ∀ q ∈ lw_privs_1 ++ (lw_privs_2 ++ (lw_privs_3 ++ (lw_privs_4))), lw_okq q
  exact List.forall_mem_append.mpr ⟨lw_r1, List.forall_mem_append.mpr ⟨lw_r2, List.forall_mem_append.mpr ⟨lw_r3, lw_r4⟩⟩⟩
theorem goodIn_r {big : List Cond} (ws : List Cond) (ps : List Nat) (hp : ws = ps.filterMap (fun i => big[i]?)) (h : ws.all goodWord = true) : GoodIn big ws := by
  intro w hw
  have h1 := List.all_eq_true.mp h w hw
  rw [hp] at hw
  obtain ⟨i, -, hi⟩ := List.mem_filterMap.mp hw
  have hm : w ∈ big := by first | exact List.mem_of_getElem? hi | exact List.getElem?_mem hi
  exact ⟨hm, good_of_word h1⟩
theorem goodIn_app {big a b : List Cond} (ha : GoodIn big a) (hb : GoodIn big b) : GoodIn big (a ++ b) := fun w h => (List.mem_append.mp h).elim (ha w) (hb w)
theorem goodIn_ca {big a b : List Cond} {c : Cond} (ha : GoodIn big (c :: a)) (hb : GoodIn big b) : GoodIn big (c :: (a ++ b)) := fun w h => (List.mem_cons.mp h).elim (fun e => ha w (List.mem_cons.mpr (Or.inl e))) (fun h => (List.mem_append.mp h).elim (fun h => ha w (List.mem_cons.mpr (Or.inr h))) (hb w))
theorem goodIn_sub {big ws : List Cond} (hm : ∀ w ∈ ws, w ∈ big) (h : ws.all goodWord = true) : GoodIn big ws := fun w hw => ⟨hm w hw, good_of_word (List.all_eq_true.mp h w hw)⟩
def RX0 : String := "BeadWords$Chance"
def TX0 : u_T := fun k => match k with
  | _ => ("BeadWords$Chance", "seed", "I", false)
def tyX0 : Nat → FieldType := fun k => match k with
  | _ => .int
abbrev wsX00 : List Cond := u_ws RX0 TX0 1
theorem nmX0 : ∀ a, a < 1 → ∀ b, b < 1 → a ≠ b → (TX0 a).2.1 ≠ (TX0 b).2.1 := by decide +kernel
theorem tyX0_ok : ∀ k, k < 1 → parseFieldDescriptor (TX0 k).2.2.1 = some (tyX0 k) := by decide +kernel
abbrev cX0_init : ByteArray := prog_2_method_1_code
def yX0_init : MethodName := ⟨RX0, "<init>", "()V"⟩
abbrev cX0_below : ByteArray := prog_2_method_2_code
def yX0_below : MethodName := ⟨RX0, "below", "(I)I"⟩
def RX1 : String := "BeadWords$Image"
def TX1 : u_T := fun k => match k with
  | 0 => ("BeadWords$Image", "picture", "LBeadWords$Picture;", true)
  | 1 => ("BeadWords$Image", "strand", "LBeadWords$Strand;", true)
  | _ => ("BeadWords$Image", "there", "Z", false)
def tyX1 : Nat → FieldType := fun k => match k with
  | 0 => .object "BeadWords$Picture"
  | 1 => .object "BeadWords$Strand"
  | _ => .boolean
abbrev wsX10 : List Cond := u_ws RX1 TX1 3
theorem nmX1 : ∀ a, a < 3 → ∀ b, b < 3 → a ≠ b → (TX1 a).2.1 ≠ (TX1 b).2.1 := by decide +kernel
theorem tyX1_ok : ∀ k, k < 3 → parseFieldDescriptor (TX1 k).2.2.1 = some (tyX1 k) := by decide +kernel
abbrev cX1_init : ByteArray := prog_3_method_1_code
def yX1_init : MethodName := ⟨RX1, "<init>", "()V"⟩
def RX2 : String := "BeadWords$Picture"
def TX2 : u_T := fun k => match k with
  | 0 => ("BeadWords$Picture", "beads", "[I", true)
  | 1 => ("BeadWords$Picture", "rows", "I", false)
  | 2 => ("BeadWords$Picture", "width", "I", false)
  | _ => ("BeadWords$Picture", "mode", "I", false)
def tyX2 : Nat → FieldType := fun k => match k with
  | 0 => .array .int
  | 1 => .int
  | 2 => .int
  | _ => .int
abbrev wsX20 : List Cond := u_ws RX2 TX2 4
theorem nmX2 : ∀ a, a < 4 → ∀ b, b < 4 → a ≠ b → (TX2 a).2.1 ≠ (TX2 b).2.1 := by decide +kernel
theorem tyX2_ok : ∀ k, k < 4 → parseFieldDescriptor (TX2 k).2.2.1 = some (tyX2 k) := by decide +kernel
abbrev cX2_init : ByteArray := prog_4_method_1_code
def yX2_init : MethodName := ⟨RX2, "<init>", "()V"⟩
abbrev cX2_become : ByteArray := prog_4_method_2_code
def yX2_become : MethodName := ⟨RX2, "become", "(LBeadWords$Picture;)V"⟩
abbrev cX2_clear : ByteArray := prog_4_method_3_code
def yX2_clear : MethodName := ⟨RX2, "clear", "()V"⟩
abbrev cX2_size : ByteArray := prog_4_method_4_code
def yX2_size : MethodName := ⟨RX2, "size", "()I"⟩
abbrev cX2_hasRow : ByteArray := prog_4_method_5_code
def yX2_hasRow : MethodName := ⟨RX2, "hasRow", "(I)Z"⟩
abbrev cX2_hasBead : ByteArray := prog_4_method_6_code
def yX2_hasBead : MethodName := ⟨RX2, "hasBead", "(II)Z"⟩
abbrev cX2_colourAt : ByteArray := prog_4_method_7_code
def yX2_colourAt : MethodName := ⟨RX2, "colourAt", "(II)I"⟩
abbrev cX2_put : ByteArray := prog_4_method_8_code
def yX2_put : MethodName := ⟨RX2, "put", "(III)V"⟩
abbrev cX2_placeOf : ByteArray := prog_4_method_9_code
def yX2_placeOf : MethodName := ⟨RX2, "placeOf", "(II)I"⟩
abbrev cX2_readAt : ByteArray := prog_4_method_10_code
def yX2_readAt : MethodName := ⟨RX2, "readAt", "(II)I"⟩
abbrev cX2_manyIn : ByteArray := prog_4_method_11_code
def yX2_manyIn : MethodName := ⟨RX2, "manyIn", "(II)I"⟩
abbrev cX2_manyInAll : ByteArray := prog_4_method_12_code
def yX2_manyInAll : MethodName := ⟨RX2, "manyInAll", "(I)I"⟩
abbrev cX2_sameBeads : ByteArray := prog_4_method_13_code
def yX2_sameBeads : MethodName := ⟨RX2, "sameBeads", "(II)Z"⟩
abbrev cX2_sameLine : ByteArray := prog_4_method_14_code
def yX2_sameLine : MethodName := ⟨RX2, "sameLine", "(IIZ)Z"⟩
abbrev cX2_likeAhead : ByteArray := prog_4_method_15_code
def yX2_likeAhead : MethodName := ⟨RX2, "likeAhead", "(IZ)I"⟩
abbrev cX2_firstLike : ByteArray := prog_4_method_16_code
def yX2_firstLike : MethodName := ⟨RX2, "firstLike", "(I)I"⟩
abbrev cX2_manyLike : ByteArray := prog_4_method_17_code
def yX2_manyLike : MethodName := ⟨RX2, "manyLike", "(I)I"⟩
abbrev cX2_linesUnlike : ByteArray := prog_4_method_18_code
def yX2_linesUnlike : MethodName := ⟨RX2, "linesUnlike", "()I"⟩
abbrev cX2_runsOf : ByteArray := prog_4_method_19_code
def yX2_runsOf : MethodName := ⟨RX2, "runsOf", "(I)I"⟩
abbrev cX2_runsInAll : ByteArray := prog_4_method_20_code
def yX2_runsInAll : MethodName := ⟨RX2, "runsInAll", "()I"⟩
abbrev cX2_partOf : ByteArray := prog_4_method_21_code
def yX2_partOf : MethodName := ⟨RX2, "partOf", "(I)I"⟩
abbrev cX2_comesAgain : ByteArray := prog_4_method_22_code
def yX2_comesAgain : MethodName := ⟨RX2, "comesAgain", "(II)Z"⟩
abbrev cX2_rowOfPlan : ByteArray := prog_4_method_23_code
def yX2_rowOfPlan : MethodName := ⟨RX2, "rowOfPlan", "(I)I"⟩
abbrev cX2_placeOfPlan : ByteArray := prog_4_method_24_code
def yX2_placeOfPlan : MethodName := ⟨RX2, "placeOfPlan", "(I)I"⟩
abbrev cX2_planAt : ByteArray := prog_4_method_25_code
def yX2_planAt : MethodName := ⟨RX2, "planAt", "(I)I"⟩
abbrev cX2_takeRow : ByteArray := prog_4_method_26_code
def yX2_takeRow : MethodName := ⟨RX2, "takeRow", "(I)V"⟩
abbrev cX2_takeLine : ByteArray := prog_4_method_27_code
def yX2_takeLine : MethodName := ⟨RX2, "takeLine", "([II)V"⟩
abbrev cX2_copyRow : ByteArray := prog_4_method_28_code
def yX2_copyRow : MethodName := ⟨RX2, "copyRow", "(II)V"⟩
abbrev cX2_dyeAll : ByteArray := prog_4_method_29_code
def yX2_dyeAll : MethodName := ⟨RX2, "dyeAll", "(II)V"⟩
abbrev cX2_turn : ByteArray := prog_4_method_30_code
def yX2_turn : MethodName := ⟨RX2, "turn", "(I)V"⟩
abbrev cX2_moveOn : ByteArray := prog_4_method_31_code
def yX2_moveOn : MethodName := ⟨RX2, "moveOn", "(I)V"⟩
abbrev cX2_drop : ByteArray := prog_4_method_32_code
def yX2_drop : MethodName := ⟨RX2, "drop", "(I)V"⟩
abbrev cX2_repeat : ByteArray := prog_4_method_33_code
def yX2_repeat : MethodName := ⟨RX2, "repeat", "(I)V"⟩
abbrev cX2_exchange : ByteArray := prog_4_method_34_code
def yX2_exchange : MethodName := ⟨RX2, "exchange", "(II)V"⟩
def RX3 : String := "BeadWords$Reader"
def TX3 : u_T := fun k => match k with
  | 0 => ("BeadWords$Reader", "draft", "LBeadWords$Picture;", true)
  | 1 => ("BeadWords$Reader", "start", "I", false)
  | 2 => ("BeadWords$Reader", "next", "I", false)
  | 3 => ("BeadWords$Reader", "token", "I", false)
  | _ => ("BeadWords$Reader", "froTold", "Z", false)
def tyX3 : Nat → FieldType := fun k => match k with
  | 0 => .object "BeadWords$Picture"
  | 1 => .int
  | 2 => .int
  | 3 => .int
  | _ => .boolean
abbrev wsX30 : List Cond := u_ws RX3 TX3 5
theorem nmX3 : ∀ a, a < 5 → ∀ b, b < 5 → a ≠ b → (TX3 a).2.1 ≠ (TX3 b).2.1 := by decide +kernel
theorem tyX3_ok : ∀ k, k < 5 → parseFieldDescriptor (TX3 k).2.2.1 = some (tyX3 k) := by decide +kernel
abbrev cX3_init : ByteArray := prog_5_method_1_code
def yX3_init : MethodName := ⟨RX3, "<init>", "()V"⟩
abbrev cX3_readAll : ByteArray := prog_5_method_2_code
def yX3_readAll : MethodName := ⟨RX3, "readAll", "(LBeadWords$Tape;)I"⟩
abbrev cX3_readToken : ByteArray := prog_5_method_3_code
def yX3_readToken : MethodName := ⟨RX3, "readToken", "(LBeadWords$Tape;)V"⟩
abbrev cX3_readLine : ByteArray := prog_5_method_4_code
def yX3_readLine : MethodName := ⟨RX3, "readLine", "(LBeadWords$Tape;)I"⟩
abbrev cX3_readRow : ByteArray := prog_5_method_5_code
def yX3_readRow : MethodName := ⟨RX3, "readRow", "(LBeadWords$Tape;)I"⟩
abbrev cX3_readFro : ByteArray := prog_5_method_6_code
def yX3_readFro : MethodName := ⟨RX3, "readFro", "(LBeadWords$Tape;)I"⟩
abbrev cX3_readSign : ByteArray := prog_5_method_7_code
def yX3_readSign : MethodName := ⟨RX3, "readSign", "(LBeadWords$Tape;)I"⟩
abbrev cX3_unfit : ByteArray := prog_5_method_8_code
def yX3_unfit : MethodName := ⟨RX3, "unfit", "()I"⟩
abbrev cX3_isName : ByteArray := prog_5_method_9_code
def yX3_isName : MethodName := ⟨RX3, "isName", "(LBeadWords$Tape;Ljava/lang/String;)Z"⟩
abbrev cX3_isBeads : ByteArray := prog_5_method_10_code
def yX3_isBeads : MethodName := ⟨RX3, "isBeads", "(LBeadWords$Tape;)Z"⟩
def RX4 : String := "BeadWords$Sheet"
def TX4 : u_T := fun k => match k with
  | 0 => ("BeadWords$Sheet", "cells", "[I", true)
  | 1 => ("BeadWords$Sheet", "length", "I", false)
  | _ => ("BeadWords$Sheet", "lane", "I", false)
def tyX4 : Nat → FieldType := fun k => match k with
  | 0 => .array .int
  | 1 => .int
  | _ => .int
abbrev wsX40 : List Cond := u_ws RX4 TX4 3
theorem nmX4 : ∀ a, a < 3 → ∀ b, b < 3 → a ≠ b → (TX4 a).2.1 ≠ (TX4 b).2.1 := by decide +kernel
theorem tyX4_ok : ∀ k, k < 3 → parseFieldDescriptor (TX4 k).2.2.1 = some (tyX4 k) := by decide +kernel
abbrev cX4_init : ByteArray := prog_6_method_1_code
def yX4_init : MethodName := ⟨RX4, "<init>", "()V"⟩
abbrev cX4_renew : ByteArray := prog_6_method_2_code
def yX4_renew : MethodName := ⟨RX4, "renew", "(II)V"⟩
abbrev cX4_faultAt : ByteArray := prog_6_method_3_code
def yX4_faultAt : MethodName := ⟨RX4, "faultAt", "(II)I"⟩
abbrev cX4_put : ByteArray := prog_6_method_4_code
def yX4_put : MethodName := ⟨RX4, "put", "(II)V"⟩
def RX5 : String := "BeadWords$Slip"
def TX5 : u_T := fun k => match k with
  | 0 => ("BeadWords$Slip", "line", "[I", true)
  | 1 => ("BeadWords$Slip", "length", "I", false)
  | _ => ("BeadWords$Slip", "told", "[I", true)
def tyX5 : Nat → FieldType := fun k => match k with
  | 0 => .array .int
  | 1 => .int
  | _ => .array .int
abbrev wsX50 : List Cond := u_ws RX5 TX5 3
theorem nmX5 : ∀ a, a < 3 → ∀ b, b < 3 → a ≠ b → (TX5 a).2.1 ≠ (TX5 b).2.1 := by decide +kernel
theorem tyX5_ok : ∀ k, k < 3 → parseFieldDescriptor (TX5 k).2.2.1 = some (tyX5 k) := by decide +kernel
abbrev cX5_init : ByteArray := prog_7_method_1_code
def yX5_init : MethodName := ⟨RX5, "<init>", "()V"⟩
abbrev cX5_take : ByteArray := prog_7_method_2_code
def yX5_take : MethodName := ⟨RX5, "take", "(I)Z"⟩
abbrev cX5_speak : ByteArray := prog_7_method_3_code
def yX5_speak : MethodName := ⟨RX5, "speak", "(LBeadWords$Picture;)I"⟩
abbrev cX5_speakLike : ByteArray := prog_7_method_4_code
def yX5_speakLike : MethodName := ⟨RX5, "speakLike", "(LBeadWords$Picture;Z)I"⟩
abbrev cX5_speakMirror : ByteArray := prog_7_method_5_code
def yX5_speakMirror : MethodName := ⟨RX5, "speakMirror", "(LBeadWords$Picture;)I"⟩
abbrev cX5_speakTimes : ByteArray := prog_7_method_6_code
def yX5_speakTimes : MethodName := ⟨RX5, "speakTimes", "(LBeadWords$Picture;)I"⟩
abbrev cX5_speakRuns : ByteArray := prog_7_method_7_code
def yX5_speakRuns : MethodName := ⟨RX5, "speakRuns", "(I)I"⟩
abbrev cX5_fitting : ByteArray := prog_7_method_8_code
def yX5_fitting : MethodName := ⟨RX5, "fitting", "(LBeadWords$Picture;I)I"⟩
def RX6 : String := "BeadWords$Strand"
def TX6 : u_T := fun k => match k with
  | 0 => ("BeadWords$Strand", "beads", "[I", true)
  | _ => ("BeadWords$Strand", "length", "I", false)
def tyX6 : Nat → FieldType := fun k => match k with
  | 0 => .array .int
  | _ => .int
abbrev wsX60 : List Cond := u_ws RX6 TX6 2
theorem nmX6 : ∀ a, a < 2 → ∀ b, b < 2 → a ≠ b → (TX6 a).2.1 ≠ (TX6 b).2.1 := by decide +kernel
theorem tyX6_ok : ∀ k, k < 2 → parseFieldDescriptor (TX6 k).2.2.1 = some (tyX6 k) := by decide +kernel
abbrev cX6_init : ByteArray := prog_8_method_1_code
def yX6_init : MethodName := ⟨RX6, "<init>", "()V"⟩
abbrev cX6_become : ByteArray := prog_8_method_2_code
def yX6_become : MethodName := ⟨RX6, "become", "(LBeadWords$Strand;)V"⟩
abbrev cX6_take : ByteArray := prog_8_method_3_code
def yX6_take : MethodName := ⟨RX6, "take", "(I)V"⟩
abbrev cX6_firstWrong : ByteArray := prog_8_method_4_code
def yX6_firstWrong : MethodName := ⟨RX6, "firstWrong", "(LBeadWords$Picture;)I"⟩
abbrev cX6_asTold : ByteArray := prog_8_method_5_code
def yX6_asTold : MethodName := ⟨RX6, "asTold", "(LBeadWords$Picture;II)I"⟩
abbrev cX6_kindOf : ByteArray := prog_8_method_6_code
def yX6_kindOf : MethodName := ⟨RX6, "kindOf", "(LBeadWords$Picture;I)I"⟩
def RX7 : String := "BeadWords$Tape"
def TX7 : u_T := fun k => match k with
  | 0 => ("BeadWords$Tape", "bytes", "[I", true)
  | _ => ("BeadWords$Tape", "length", "I", false)
def tyX7 : Nat → FieldType := fun k => match k with
  | 0 => .array .int
  | _ => .int
abbrev wsX70 : List Cond := u_ws RX7 TX7 2
theorem nmX7 : ∀ a, a < 2 → ∀ b, b < 2 → a ≠ b → (TX7 a).2.1 ≠ (TX7 b).2.1 := by decide +kernel
theorem tyX7_ok : ∀ k, k < 2 → parseFieldDescriptor (TX7 k).2.2.1 = some (tyX7 k) := by decide +kernel
abbrev cX7_init : ByteArray := prog_9_method_1_code
def yX7_init : MethodName := ⟨RX7, "<init>", "()V"⟩
abbrev cX7_take : ByteArray := prog_9_method_2_code
def yX7_take : MethodName := ⟨RX7, "take", "(I)Z"⟩
abbrev cX7_isLetter : ByteArray := prog_9_method_3_code
def yX7_isLetter : MethodName := ⟨RX7, "isLetter", "(I)Z"⟩
def RX8 : String := "BeadWords$Teller"
def TX8 : u_T := fun k => match k with
  | 0 => ("BeadWords$Teller", "told", "[I", true)
  | _ => ("BeadWords$Teller", "length", "I", false)
def tyX8 : Nat → FieldType := fun k => match k with
  | 0 => .array .int
  | _ => .int
abbrev wsX80 : List Cond := u_ws RX8 TX8 2
theorem nmX8 : ∀ a, a < 2 → ∀ b, b < 2 → a ≠ b → (TX8 a).2.1 ≠ (TX8 b).2.1 := by decide +kernel
theorem tyX8_ok : ∀ k, k < 2 → parseFieldDescriptor (TX8 k).2.2.1 = some (tyX8 k) := by decide +kernel
abbrev cX8_init : ByteArray := prog_10_method_1_code
def yX8_init : MethodName := ⟨RX8, "<init>", "()V"⟩
abbrev cX8_tellBest : ByteArray := prog_10_method_2_code
def yX8_tellBest : MethodName := ⟨RX8, "tellBest", "(LBeadWords$Picture;I)I"⟩
abbrev cX8_tellBy : ByteArray := prog_10_method_3_code
def yX8_tellBy : MethodName := ⟨RX8, "tellBy", "(LBeadWords$Picture;II)I"⟩
abbrev cX8_put : ByteArray := prog_10_method_4_code
def yX8_put : MethodName := ⟨RX8, "put", "(I)V"⟩
abbrev cX8_tellLike : ByteArray := prog_10_method_5_code
def yX8_tellLike : MethodName := ⟨RX8, "tellLike", "(I)I"⟩
abbrev cX8_tellMirror : ByteArray := prog_10_method_6_code
def yX8_tellMirror : MethodName := ⟨RX8, "tellMirror", "(LBeadWords$Picture;I)I"⟩
abbrev cX8_tellTimes : ByteArray := prog_10_method_7_code
def yX8_tellTimes : MethodName := ⟨RX8, "tellTimes", "(LBeadWords$Picture;II)I"⟩
abbrev cX8_tellRuns : ByteArray := prog_10_method_8_code
def yX8_tellRuns : MethodName := ⟨RX8, "tellRuns", "(LBeadWords$Picture;II)I"⟩
def RX9 : String := "BeadWords"
def TX9 : u_T := fun k => match k with
  | 0 => ("BeadWords", "picture", "LBeadWords$Picture;", true)
  | 1 => ("BeadWords", "strand", "LBeadWords$Strand;", true)
  | 2 => ("BeadWords", "tape", "LBeadWords$Tape;", true)
  | 3 => ("BeadWords", "reader", "LBeadWords$Reader;", true)
  | 4 => ("BeadWords", "teller", "LBeadWords$Teller;", true)
  | 5 => ("BeadWords", "slip", "LBeadWords$Slip;", true)
  | 6 => ("BeadWords", "chance", "LBeadWords$Chance;", true)
  | 7 => ("BeadWords", "images", "[LBeadWords$Image;", true)
  | 8 => ("BeadWords", "sheets", "[LBeadWords$Sheet;", true)
  | 9 => ("BeadWords", "textFault", "I", false)
  | _ => ("BeadWords", "runFault", "I", false)
def tyX9 : Nat → FieldType := fun k => match k with
  | 0 => .object "BeadWords$Picture"
  | 1 => .object "BeadWords$Strand"
  | 2 => .object "BeadWords$Tape"
  | 3 => .object "BeadWords$Reader"
  | 4 => .object "BeadWords$Teller"
  | 5 => .object "BeadWords$Slip"
  | 6 => .object "BeadWords$Chance"
  | 7 => .array (.object "BeadWords$Image")
  | 8 => .array (.object "BeadWords$Sheet")
  | 9 => .int
  | _ => .int
abbrev wsX90 : List Cond := u_ws RX9 TX9 11
theorem nmX9 : ∀ a, a < 11 → ∀ b, b < 11 → a ≠ b → (TX9 a).2.1 ≠ (TX9 b).2.1 := by decide +kernel
theorem tyX9_ok : ∀ k, k < 11 → parseFieldDescriptor (TX9 k).2.2.1 = some (tyX9 k) := by decide +kernel
abbrev cX9_init : ByteArray := prog_1_method_1_code
def yX9_init : MethodName := ⟨RX9, "<init>", "()V"⟩
abbrev cX9_feed : ByteArray := prog_1_method_2_code
def yX9_feed : MethodName := ⟨RX9, "feed", "(I)I"⟩
abbrev cX9_end : ByteArray := prog_1_method_3_code
def yX9_end : MethodName := ⟨RX9, "end", "(I)I"⟩
abbrev cX9_text : ByteArray := prog_1_method_4_code
def yX9_text : MethodName := ⟨RX9, "text", "()I"⟩
abbrev cX9_fault : ByteArray := prog_1_method_5_code
def yX9_fault : MethodName := ⟨RX9, "fault", "()I"⟩
abbrev cX9_rule : ByteArray := prog_1_method_6_code
def yX9_rule : MethodName := ⟨RX9, "rule", "(I)I"⟩
abbrev cX9_bead : ByteArray := prog_1_method_7_code
def yX9_bead : MethodName := ⟨RX9, "bead", "(II)I"⟩
abbrev cX9_many : ByteArray := prog_1_method_8_code
def yX9_many : MethodName := ⟨RX9, "many", "(II)I"⟩
abbrev cX9_row : ByteArray := prog_1_method_9_code
def yX9_row : MethodName := ⟨RX9, "row", "(II)I"⟩
abbrev cX9_words : ByteArray := prog_1_method_10_code
def yX9_words : MethodName := ⟨RX9, "words", "(II)I"⟩
abbrev cX9_word : ByteArray := prog_1_method_11_code
def yX9_word : MethodName := ⟨RX9, "word", "(II)I"⟩
abbrev cX9_tell : ByteArray := prog_1_method_12_code
def yX9_tell : MethodName := ⟨RX9, "tell", "(I)I"⟩
abbrev cX9_tear : ByteArray := prog_1_method_13_code
def yX9_tear : MethodName := ⟨RX9, "tear", "()I"⟩
abbrev cX9_spoken : ByteArray := prog_1_method_14_code
def yX9_spoken : MethodName := ⟨RX9, "spoken", "()I"⟩
abbrev cX9_said : ByteArray := prog_1_method_15_code
def yX9_said : MethodName := ⟨RX9, "said", "(I)I"⟩
abbrev cX9_add : ByteArray := prog_1_method_16_code
def yX9_add : MethodName := ⟨RX9, "add", "()I"⟩
abbrev cX9_string : ByteArray := prog_1_method_17_code
def yX9_string : MethodName := ⟨RX9, "string", "(I)I"⟩
abbrev cX9_off : ByteArray := prog_1_method_18_code
def yX9_off : MethodName := ⟨RX9, "off", "(I)I"⟩
abbrev cX9_plan : ByteArray := prog_1_method_19_code
def yX9_plan : MethodName := ⟨RX9, "plan", "(I)I"⟩
abbrev cX9_mistake : ByteArray := prog_1_method_20_code
def yX9_mistake : MethodName := ⟨RX9, "mistake", "(I)I"⟩
abbrev cX9_paint : ByteArray := prog_1_method_21_code
def yX9_paint : MethodName := ⟨RX9, "paint", "(III)I"⟩
abbrev cX9_dye : ByteArray := prog_1_method_22_code
def yX9_dye : MethodName := ⟨RX9, "dye", "(II)I"⟩
abbrev cX9_change : ByteArray := prog_1_method_23_code
def yX9_change : MethodName := ⟨RX9, "change", "(II)I"⟩
abbrev cX9_swap : ByteArray := prog_1_method_24_code
def yX9_swap : MethodName := ⟨RX9, "swap", "(II)I"⟩
abbrev cX9_mode : ByteArray := prog_1_method_25_code
def yX9_mode : MethodName := ⟨RX9, "mode", "(I)I"⟩
abbrev cX9_draw : ByteArray := prog_1_method_26_code
def yX9_draw : MethodName := ⟨RX9, "draw", "(IIII)I"⟩
abbrev cX9_keep : ByteArray := prog_1_method_27_code
def yX9_keep : MethodName := ⟨RX9, "keep", "(I)I"⟩
abbrev cX9_back : ByteArray := prog_1_method_28_code
def yX9_back : MethodName := ⟨RX9, "back", "(I)I"⟩
abbrev cX9_sheet : ByteArray := prog_1_method_29_code
def yX9_sheet : MethodName := ⟨RX9, "sheet", "(III)I"⟩
abbrev cX9_lay : ByteArray := prog_1_method_30_code
def yX9_lay : MethodName := ⟨RX9, "lay", "(III)I"⟩
abbrev cX9_run : ByteArray := prog_1_method_31_code
def yX9_run : MethodName := ⟨RX9, "run", "(IIII)I"⟩
abbrev cX9_torn : ByteArray := prog_1_method_32_code
def yX9_torn : MethodName := ⟨RX9, "torn", "()I"⟩
abbrev cX9_count : ByteArray := prog_1_method_33_code
def yX9_count : MethodName := ⟨RX9, "count", "(I)I"⟩
abbrev cX9_isColour : ByteArray := prog_1_method_34_code
def yX9_isColour : MethodName := ⟨RX9, "isColour", "(I)Z"⟩
abbrev cX9_isSheet : ByteArray := prog_1_method_35_code
def yX9_isSheet : MethodName := ⟨RX9, "isSheet", "(I)Z"⟩
abbrev cX9_isLane : ByteArray := prog_1_method_36_code
def yX9_isLane : MethodName := ⟨RX9, "isLane", "(I)Z"⟩
abbrev cX9_wordsInAll : ByteArray := prog_1_method_37_code
def yX9_wordsInAll : MethodName := ⟨RX9, "wordsInAll", "()I"⟩
abbrev cX9_coloursInAll : ByteArray := prog_1_method_38_code
def yX9_coloursInAll : MethodName := ⟨RX9, "coloursInAll", "()I"⟩
abbrev cX9_imagesThere : ByteArray := prog_1_method_39_code
def yX9_imagesThere : MethodName := ⟨RX9, "imagesThere", "()I"⟩
abbrev cX9_drawRow : ByteArray := prog_1_method_40_code
def yX9_drawRow : MethodName := ⟨RX9, "drawRow", "(II)V"⟩
def RX10 : String := "BeadWordsModel"
def TX10 : u_T := fun k => match k with
  | 0 => ("BeadWordsModel", "st", "[I", true)
  | 1 => ("BeadWordsModel", "draft", "[I", true)
  | 2 => ("BeadWordsModel", "kept", "[I", true)
  | 3 => ("BeadWordsModel", "isKept", "[Z", true)
  | 4 => ("BeadWordsModel", "tape", "[I", true)
  | 5 => ("BeadWordsModel", "taped", "I", false)
  | 6 => ("BeadWordsModel", "pos", "I", false)
  | 7 => ("BeadWordsModel", "begun", "I", false)
  | 8 => ("BeadWordsModel", "sort", "I", false)
  | 9 => ("BeadWordsModel", "fault", "I", false)
  | 10 => ("BeadWordsModel", "wrongAt", "I", false)
  | 11 => ("BeadWordsModel", "slip", "[I", true)
  | 12 => ("BeadWordsModel", "told", "I", false)
  | 13 => ("BeadWordsModel", "line", "[I", true)
  | 14 => ("BeadWordsModel", "lineMany", "I", false)
  | 15 => ("BeadWordsModel", "seeded", "I", false)
  | 16 => ("BeadWordsModel", "lanes", "[I", true)
  | 17 => ("BeadWordsModel", "sizes", "[I", true)
  | 18 => ("BeadWordsModel", "cells", "[I", true)
  | _ => ("BeadWordsModel", "torn", "I", false)
def tyX10 : Nat → FieldType := fun k => match k with
  | 0 => .array .int
  | 1 => .array .int
  | 2 => .array .int
  | 3 => .array .boolean
  | 4 => .array .int
  | 5 => .int
  | 6 => .int
  | 7 => .int
  | 8 => .int
  | 9 => .int
  | 10 => .int
  | 11 => .array .int
  | 12 => .int
  | 13 => .array .int
  | 14 => .int
  | 15 => .int
  | 16 => .array .int
  | 17 => .array .int
  | 18 => .array .int
  | _ => .int
abbrev wsX100 : List Cond := u_ws RX10 TX10 20
theorem nmX10 : ∀ a, a < 20 → ∀ b, b < 20 → a ≠ b → (TX10 a).2.1 ≠ (TX10 b).2.1 := by decide +kernel
theorem tyX10_ok : ∀ k, k < 20 → parseFieldDescriptor (TX10 k).2.2.1 = some (tyX10 k) := by decide +kernel
abbrev cX10_init : ByteArray := prog_12_method_1_code
def yX10_init : MethodName := ⟨RX10, "<init>", "()V"⟩
abbrev cX10_in : ByteArray := prog_12_method_3_code
def yX10_in : MethodName := ⟨RX10, "in", "(JJJ)Z"⟩
abbrev cX10_flag : ByteArray := prog_12_method_4_code
def yX10_flag : MethodName := ⟨RX10, "flag", "(Z)I"⟩
abbrev cX10_feed : ByteArray := prog_12_method_5_code
def yX10_feed : MethodName := ⟨RX10, "feed", "(I)I"⟩
abbrev cX10_end : ByteArray := prog_12_method_6_code
def yX10_end : MethodName := ⟨RX10, "end", "(I)I"⟩
abbrev cX10_requires : ByteArray := prog_12_method_7_code
def yX10_requires : MethodName := ⟨RX10, "requires", "(ZI)V"⟩
abbrev cX10_byteAt : ByteArray := prog_12_method_8_code
def yX10_byteAt : MethodName := ⟨RX10, "byteAt", "(I)I"⟩
abbrev cX10_reads : ByteArray := prog_12_method_9_code
def yX10_reads : MethodName := ⟨RX10, "reads", "()V"⟩
abbrev cX10_is : ByteArray := prog_12_method_10_code
def yX10_is : MethodName := ⟨RX10, "is", "(III)Z"⟩
abbrev cX10_areBeads : ByteArray := prog_12_method_11_code
def yX10_areBeads : MethodName := ⟨RX10, "areBeads", "()Z"⟩
abbrev cX10_readRow : ByteArray := prog_12_method_12_code
def yX10_readRow : MethodName := ⟨RX10, "readRow", "()V"⟩
abbrev cX10_readLine : ByteArray := prog_12_method_13_code
def yX10_readLine : MethodName := ⟨RX10, "readLine", "()V"⟩
abbrev cX10_text : ByteArray := prog_12_method_14_code
def yX10_text : MethodName := ⟨RX10, "text", "()I"⟩
abbrev cX10_fault : ByteArray := prog_12_method_15_code
def yX10_fault : MethodName := ⟨RX10, "fault", "()I"⟩
abbrev cX10_isRow : ByteArray := prog_12_method_16_code
def yX10_isRow : MethodName := ⟨RX10, "isRow", "(I)Z"⟩
abbrev cX10_isColour : ByteArray := prog_12_method_17_code
def yX10_isColour : MethodName := ⟨RX10, "isColour", "(I)Z"⟩
abbrev cX10_beadOf : ByteArray := prog_12_method_18_code
def yX10_beadOf : MethodName := ⟨RX10, "beadOf", "(II)I"⟩
abbrev cX10_isBack : ByteArray := prog_12_method_19_code
def yX10_isBack : MethodName := ⟨RX10, "isBack", "(I)Z"⟩
abbrev cX10_lineOf : ByteArray := prog_12_method_20_code
def yX10_lineOf : MethodName := ⟨RX10, "lineOf", "(II)I"⟩
abbrev cX10_isSame : ByteArray := prog_12_method_21_code
def yX10_isSame : MethodName := ⟨RX10, "isSame", "(IIZ)Z"⟩
abbrev cX10_likeOf : ByteArray := prog_12_method_22_code
def yX10_likeOf : MethodName := ⟨RX10, "likeOf", "(IIZ)I"⟩
abbrev cX10_runsOf : ByteArray := prog_12_method_23_code
def yX10_runsOf : MethodName := ⟨RX10, "runsOf", "(II)I"⟩
abbrev cX10_partOf : ByteArray := prog_12_method_24_code
def yX10_partOf : MethodName := ⟨RX10, "partOf", "(I)I"⟩
abbrev cX10_wordsBy : ByteArray := prog_12_method_25_code
def yX10_wordsBy : MethodName := ⟨RX10, "wordsBy", "(II)I"⟩
abbrev cX10_formOf : ByteArray := prog_12_method_26_code
def yX10_formOf : MethodName := ⟨RX10, "formOf", "(I)I"⟩
abbrev cX10_wordOf : ByteArray := prog_12_method_27_code
def yX10_wordOf : MethodName := ⟨RX10, "wordOf", "(II)I"⟩
abbrev cX10_allWords : ByteArray := prog_12_method_28_code
def yX10_allWords : MethodName := ⟨RX10, "allWords", "()I"⟩
abbrev cX10_unlike : ByteArray := prog_12_method_29_code
def yX10_unlike : MethodName := ⟨RX10, "unlike", "()I"⟩
abbrev cX10_allRuns : ByteArray := prog_12_method_30_code
def yX10_allRuns : MethodName := ⟨RX10, "allRuns", "()I"⟩
abbrev cX10_width : ByteArray := prog_12_method_31_code
def yX10_width : MethodName := ⟨RX10, "width", "()I"⟩
abbrev cX10_beads : ByteArray := prog_12_method_32_code
def yX10_beads : MethodName := ⟨RX10, "beads", "()I"⟩
abbrev cX10_manyOf : ByteArray := prog_12_method_33_code
def yX10_manyOf : MethodName := ⟨RX10, "manyOf", "(II)I"⟩
abbrev cX10_colours : ByteArray := prog_12_method_34_code
def yX10_colours : MethodName := ⟨RX10, "colours", "()I"⟩
abbrev cX10_rule : ByteArray := prog_12_method_35_code
def yX10_rule : MethodName := ⟨RX10, "rule", "(I)I"⟩
abbrev cX10_bead : ByteArray := prog_12_method_36_code
def yX10_bead : MethodName := ⟨RX10, "bead", "(II)I"⟩
abbrev cX10_many : ByteArray := prog_12_method_37_code
def yX10_many : MethodName := ⟨RX10, "many", "(II)I"⟩
abbrev cX10_likes : ByteArray := prog_12_method_38_code
def yX10_likes : MethodName := ⟨RX10, "likes", "(I)I"⟩
abbrev cX10_row : ByteArray := prog_12_method_39_code
def yX10_row : MethodName := ⟨RX10, "row", "(II)I"⟩
abbrev cX10_words : ByteArray := prog_12_method_40_code
def yX10_words : MethodName := ⟨RX10, "words", "(II)I"⟩
abbrev cX10_word : ByteArray := prog_12_method_41_code
def yX10_word : MethodName := ⟨RX10, "word", "(II)I"⟩
abbrev cX10_tell : ByteArray := prog_12_method_42_code
def yX10_tell : MethodName := ⟨RX10, "tell", "(I)I"⟩
abbrev cX10_tear : ByteArray := prog_12_method_43_code
def yX10_tear : MethodName := ⟨RX10, "tear", "()I"⟩
abbrev cX10_readRuns : ByteArray := prog_12_method_44_code
def yX10_readRuns : MethodName := ⟨RX10, "readRuns", "(I)Z"⟩
abbrev cX10_readLike : ByteArray := prog_12_method_45_code
def yX10_readLike : MethodName := ⟨RX10, "readLike", "(Z)Z"⟩
abbrev cX10_readMirror : ByteArray := prog_12_method_46_code
def yX10_readMirror : MethodName := ⟨RX10, "readMirror", "()Z"⟩
abbrev cX10_readTimes : ByteArray := prog_12_method_47_code
def yX10_readTimes : MethodName := ⟨RX10, "readTimes", "()Z"⟩
abbrev cX10_speaks : ByteArray := prog_12_method_48_code
def yX10_speaks : MethodName := ⟨RX10, "speaks", "()Z"⟩
abbrev cX10_spoken : ByteArray := prog_12_method_49_code
def yX10_spoken : MethodName := ⟨RX10, "spoken", "()I"⟩
abbrev cX10_said : ByteArray := prog_12_method_50_code
def yX10_said : MethodName := ⟨RX10, "said", "(I)I"⟩
abbrev cX10_add : ByteArray := prog_12_method_51_code
def yX10_add : MethodName := ⟨RX10, "add", "()I"⟩
abbrev cX10_string : ByteArray := prog_12_method_52_code
def yX10_string : MethodName := ⟨RX10, "string", "(I)I"⟩
abbrev cX10_off : ByteArray := prog_12_method_53_code
def yX10_off : MethodName := ⟨RX10, "off", "(I)I"⟩
abbrev cX10_planOf : ByteArray := prog_12_method_54_code
def yX10_planOf : MethodName := ⟨RX10, "planOf", "(I)I"⟩
abbrev cX10_plan : ByteArray := prog_12_method_55_code
def yX10_plan : MethodName := ⟨RX10, "plan", "(I)I"⟩
abbrev cX10_firstMistake : ByteArray := prog_12_method_56_code
def yX10_firstMistake : MethodName := ⟨RX10, "firstMistake", "()I"⟩
abbrev cX10_asTold : ByteArray := prog_12_method_57_code
def yX10_asTold : MethodName := ⟨RX10, "asTold", "(II)I"⟩
abbrev cX10_kindOf : ByteArray := prog_12_method_58_code
def yX10_kindOf : MethodName := ⟨RX10, "kindOf", "(I)I"⟩
abbrev cX10_mistake : ByteArray := prog_12_method_59_code
def yX10_mistake : MethodName := ⟨RX10, "mistake", "(I)I"⟩
abbrev cX10_paint : ByteArray := prog_12_method_60_code
def yX10_paint : MethodName := ⟨RX10, "paint", "(III)I"⟩
abbrev cX10_dye : ByteArray := prog_12_method_61_code
def yX10_dye : MethodName := ⟨RX10, "dye", "(II)I"⟩
abbrev cX10_copiesRow : ByteArray := prog_12_method_62_code
def yX10_copiesRow : MethodName := ⟨RX10, "copiesRow", "(II)V"⟩
abbrev cX10_turns : ByteArray := prog_12_method_63_code
def yX10_turns : MethodName := ⟨RX10, "turns", "(I)V"⟩
abbrev cX10_goesOn : ByteArray := prog_12_method_64_code
def yX10_goesOn : MethodName := ⟨RX10, "goesOn", "(I)V"⟩
abbrev cX10_change : ByteArray := prog_12_method_65_code
def yX10_change : MethodName := ⟨RX10, "change", "(II)I"⟩
abbrev cX10_swap : ByteArray := prog_12_method_66_code
def yX10_swap : MethodName := ⟨RX10, "swap", "(II)I"⟩
abbrev cX10_mode : ByteArray := prog_12_method_67_code
def yX10_mode : MethodName := ⟨RX10, "mode", "(I)I"⟩
abbrev cX10_gets : ByteArray := prog_12_method_68_code
def yX10_gets : MethodName := ⟨RX10, "gets", "()I"⟩
abbrev cX10_drawsRow : ByteArray := prog_12_method_69_code
def yX10_drawsRow : MethodName := ⟨RX10, "drawsRow", "(III)V"⟩
abbrev cX10_draw : ByteArray := prog_12_method_70_code
def yX10_draw : MethodName := ⟨RX10, "draw", "(IIII)I"⟩
abbrev cX10_keep : ByteArray := prog_12_method_71_code
def yX10_keep : MethodName := ⟨RX10, "keep", "(I)I"⟩
abbrev cX10_back : ByteArray := prog_12_method_72_code
def yX10_back : MethodName := ⟨RX10, "back", "(I)I"⟩
abbrev cX10_isSheet : ByteArray := prog_12_method_73_code
def yX10_isSheet : MethodName := ⟨RX10, "isSheet", "(II)Z"⟩
abbrev cX10_sheet : ByteArray := prog_12_method_74_code
def yX10_sheet : MethodName := ⟨RX10, "sheet", "(III)I"⟩
abbrev cX10_lay : ByteArray := prog_12_method_75_code
def yX10_lay : MethodName := ⟨RX10, "lay", "(III)I"⟩
abbrev cX10_run : ByteArray := prog_12_method_76_code
def yX10_run : MethodName := ⟨RX10, "run", "(IIII)I"⟩
abbrev cX10_torn : ByteArray := prog_12_method_77_code
def yX10_torn : MethodName := ⟨RX10, "torn", "()I"⟩
abbrev cX10_count : ByteArray := prog_12_method_78_code
def yX10_count : MethodName := ⟨RX10, "count", "(I)I"⟩
def RJ0 : String := "java/lang/String"
def TJ0 : u_T := fun k => match k with
  | _ => ("", "", "", false)
abbrev wsJ00 : List Cond := u_ws RJ0 TJ0 0
abbrev cJ0_length_8abf5 : ByteArray := prog_13_method_54_code
def yJ0_length_8abf5 : MethodName := ⟨RJ0, "length", "()I"⟩
abbrev cJ0_charAt_5068e : ByteArray := prog_13_method_56_code
def yJ0_charAt_5068e : MethodName := ⟨RJ0, "charAt", "(I)C"⟩
abbrev cJ0_coder_7d493 : ByteArray := prog_13_method_152_code
def yJ0_coder_7d493 : MethodName := ⟨RJ0, "coder", "()B"⟩
abbrev cJ0_isLatin1_aae02 : ByteArray := prog_13_method_154_code
def yJ0_isLatin1_aae02 : MethodName := ⟨RJ0, "isLatin1", "()Z"⟩
abbrev cJ0_checkIndex_df160 : ByteArray := prog_13_method_155_code
def yJ0_checkIndex_df160 : MethodName := ⟨RJ0, "checkIndex", "(II)V"⟩
def RJ1 : String := "java/lang/StringLatin1"
def TJ1 : u_T := fun k => match k with
  | _ => ("", "", "", false)
abbrev wsJ10 : List Cond := u_ws RJ1 TJ1 0
abbrev cJ1_charAt_3b067 : ByteArray := prog_14_method_2_code
def yJ1_charAt_3b067 : MethodName := ⟨RJ1, "charAt", "([BI)C"⟩
def RJ2 : String := "java/lang/StringUTF16"
def TJ2 : u_T := fun k => match k with
  | _ => ("", "", "", false)
abbrev wsJ20 : List Cond := u_ws RJ2 TJ2 0
abbrev cJ2_getChar_3b067 : ByteArray := prog_15_method_5_code
def yJ2_getChar_3b067 : MethodName := ⟨RJ2, "getChar", "([BI)C"⟩
abbrev cJ2_length_9d52b : ByteArray := prog_15_method_6_code
def yJ2_length_9d52b : MethodName := ⟨RJ2, "length", "([B)I"⟩
abbrev cJ2_charAt_3b067 : ByteArray := prog_15_method_83_code
def yJ2_charAt_3b067 : MethodName := ⟨RJ2, "charAt", "([BI)C"⟩
abbrev cJ2_checkIndex_2214a : ByteArray := prog_15_method_91_code
def yJ2_checkIndex_2214a : MethodName := ⟨RJ2, "checkIndex", "(I[B)V"⟩
def RJ10 : String := "java/lang/System"
def TJ10 : u_T := fun k => match k with
  | _ => ("", "", "", false)
abbrev wsJ100 : List Cond := u_ws RJ10 TJ10 0
def RJ3 : String := "jdk/internal/util/Preconditions"
def TJ3 : u_T := fun k => match k with
  | _ => ("", "", "", false)
abbrev wsJ30 : List Cond := u_ws RJ3 TJ3 0
abbrev cJ3_checkIndex_8e157 : ByteArray := prog_17_method_11_code
def yJ3_checkIndex_8e157 : MethodName := ⟨RJ3, "checkIndex", "(IILjava/util/function/BiFunction;)I"⟩
def RL : String := "BeadWordsLaw"
abbrev cL_law : ByteArray := code
def yL_law : MethodName := ⟨RL, "law", "([I)Z"⟩
end
section
/-! abstract values, cells, worlds: a reference is the number of its cell in the world -/
abbrev AV : Type := Int32 ⊕ (Int64 ⊕ Nat)
abbrev vi (x : Int32) : AV := .inl x
abbrev vl (x : Int64) : AV := .inr (.inl x)
abbrev vr (k : Nat) : AV := .inr (.inr k)
def cv (ad : Nat → Nat) : AV → Value
  | .inl x => .int x
  | .inr (.inl x) => .long x
  | .inr (.inr k) => .ref (ad k)
abbrev AC : Type := (Nat × Nat × (Nat → Int32)) ⊕ ((Nat × Nat × (Nat → Nat)) ⊕ (Nat × List AV))
abbrev ar (t n : Nat) (f : Nat → Int32) : AC := .inl (t, n, f)
abbrev rr (t n : Nat) (f : Nat → Nat) : AC := .inr (.inl (t, n, f))
abbrev ob (ci : Nat) (fs : List AV) : AC := .inr (.inr (ci, fs))
def ce (ad : Nat → Nat) (tc : Nat → ClassId) : AC → va_E
  | .inl (t, n, f) => .inl (tc t, n, .inl f)
  | .inr (.inl (t, n, g)) => .inl (tc t, n, .inr (.inr (.inr (.inr (fun i => some (ad (g i)))))))
  | .inr (.inr (ci, fs)) => .inr (ci, fs.map (cv ad))
abbrev AH : Type := List AC
def wm (ad : Nat → Nat) (tc : Nat → ClassId) (A : AH) : va_W := A.mapIdx (fun k c => (ad k, ce ad tc c))
theorem wm_get {ad : Nat → Nat} {tc : Nat → ClassId} {A : AH} {k : Nat} : (wm ad tc A)[k]? = (A[k]?).map (fun c => (ad k, ce ad tc c)) := by simp [wm]
theorem wm_at {ad : Nat → Nat} {tc : Nat → ClassId} {A : AH} {k : Nat} {c : AC} (h : A[k]? = some c) : (wm ad tc A)[k]? = some (ad k, ce ad tc c) := by rw [wm_get, h]; rfl
theorem wm_of {ad : Nat → Nat} {tc : Nat → ClassId} {A : AH} {k : Nat} {q : Nat × va_E} (h : (wm ad tc A)[k]? = some q) : ∃ c, A[k]? = some c ∧ q = (ad k, ce ad tc c) := by
  rw [wm_get] at h
  cases hc : A[k]? with
  | none => rw [hc] at h; cases h
  | some c => rw [hc] at h; exact ⟨c, rfl, (Option.some.inj h).symm⟩
theorem wm_set {ad : Nat → Nat} {tc : Nat → ClassId} {A : AH} {k : Nat} {c : AC} : wm ad tc (A.set k c) = (wm ad tc A).set k (ad k, ce ad tc c) := by
  apply List.ext_getElem?
  intro i
  rw [wm_get, List.getElem?_set, List.getElem?_set, wm_get]
  by_cases h : k = i
  · subst h
    have : (wm ad tc A).length = A.length := by simp [wm]
    rw [this]
    by_cases h2 : k < A.length
    · simp [h2]
    · simp [h2]
  · simp [h]
/-- name, bytes, most locals, type of the answer, level -/
abbrev ME : Type := MethodName × ByteArray × Nat × Option FieldType × Nat
def rmL (d : Nat) : Room := { frames := d, cells := 0, slots := 0, locals := 35 * d }
/-- launch, numbers of classes and slots, classes of arrays, places of the String constants -/
abbrev GG : Type := Launch × va_G × (Nat → ClassId) × (Nat → Nat) × (Nat → Nat)
def tyG (tc : Nat → ClassId) : List (ClassId × FieldType) := [(tc 0, .int), (tc 1, .boolean), (tc 2, .object RX1), (tc 3, .object RX4)]
abbrev vwCl : List vw_C := [(RX0, TX0, 1), (RX1, TX1, 3), (RX2, TX2, 4), (RX3, TX3, 5), (RX4, TX4, 3), (RX5, TX5, 3), (RX6, TX6, 2), (RX7, TX7, 2), (RX8, TX8, 2), (RX9, TX9, 11), (RX10, TX10, 20)]
def AA (ad : Nat → Nat) (N sz : Nat) : Nat → Prop := fun q => (∃ k, k < N ∧ q = ad k) ∨ sz ≤ q
def inj (ad : Nat → Nat) (N : Nat) : Prop := ∀ i j, i < N → j < N → ad i = ad j → i = j
/-- what stands outside every world: the nest mates' links, the String constants, two statics of the JDK -/
def Sx (g : GG) (A : Nat → Prop) (U : State) : Prop :=
  (va_Nw (.methodLinkNest RX3 106 yX9_isColour RX9) U ∧ va_Nw (.methodLinkNest RX5 54 yX9_isColour RX9) U) ∧
  (vk_R RX3 60 "row" (g.2.2.2.1 0) U ∧ vk_R RX3 69 "fro" (g.2.2.2.1 1) U) ∧
  vk_S 2 [3, 3] [[114, 111, 119], [102, 114, 111]] g.2.2.2.1 g.2.2.2.2 A U U.heap ∧
  va_Z RJ0 "COMPACT_STRINGS" "Z" (.int 1) A U U.heap ∧ va_Zq RJ3 "SIOOBE_FORMATTER" "Ljava/util/function/BiFunction;" A U U.heap
theorem Sx.go {g : GG} {A B : Nat → Prop} {s U : State} (h : Sx g A s) (hW : s.WarmedH U.vm) (hAB : ∀ q, B q → A q) (hq : ∀ a : Nat, a < s.heap.size → ¬ A a → U.heap[a]? = s.heap[a]?) : Sx g B U := by
  obtain ⟨⟨h1, h2⟩, ⟨h3, h4⟩, h5, h6, h7⟩ := h
  exact ⟨⟨h1.warmM hW, h2.warmM hW⟩, ⟨h3.warm hW, h4.warm hW⟩, ((h5.moved hW.alike).kept hq).narrow hAB, ((h6.moved hW.alike).kept hq).narrow hAB, ((h7.moved hW.alike).kept hq).narrow hAB⟩
theorem Sx.same {g : GG} {A : Nat → Prop} {s U : State} (h : Sx g A s) (hv : U.vm = s.vm) (hh : U.heap = s.heap) : Sx g A U := by
  obtain ⟨⟨h1, h2⟩, ⟨h3, h4⟩, h5, h6, h7⟩ := h
  have ha : s.vm.Alike U.vm := by rw [hv]; exact Vm.Alike.refl _
  refine ⟨⟨h1.same rfl hv.symm, h2.same rfl hv.symm⟩, ⟨h3.same hv, h4.same hv⟩, ?_, ?_, ?_⟩
  · rw [hh]; exact h5.moved ha
  · rw [hh]; exact h6.moved ha
  · rw [hh]; exact h7.moved ha
/-- the words that every method is given: all of the tables that last -/
def wsG : List Cond := lw_tbl.filter goodWord
theorem wsG_in {w : Cond} (h : w ∈ wsG) : w ∈ lw_tbl := (List.mem_filter.mp h).1
theorem wsG_good {w : Cond} (h : w ∈ wsG) : goodWord w = true := (List.mem_filter.mp h).2
def wsM (M : ME) : List Cond := Cond.code M.1 M.2.1 M.2.2.1 M.2.2.2.1 :: wsG
def PcE (g : GG) (ad : Nat → Nat) (sz : Nat) (vs : List AV) (A : AH) : Array Value → State → Prop :=
  va_Pc (vs.map (cv ad)) (fun U => U.heap.size = sz ∧ va_P g.2.1 vwCl (wm ad g.2.2.1 A) U.heap ∧ va_K g.2.1 vwCl (tyG g.2.2.1) U ∧ Sx g (AA ad A.length sz) U)
def QcE (g : GG) (ad : Nat → Nat) (N : Nat) (Q : Option AV → AH → Prop) : Array Value → State → Outcome → State → Prop := fun _ st oc t =>
  (∃ (r : Option AV) (A' : AH), oc = .returned (r.map (cv ad)) ∧ Q r A' ∧ A'.length = N ∧ va_P g.2.1 vwCl (wm ad g.2.2.1 A') t.heap) ∧ va_F (AA ad N st.heap.size) st t
def okS (g : GG) (ad : Nat → Nat) : Prop := ∀ i, i < 2 → ad (1000 + i) = g.2.2.2.1 i
/-- the contract of a method: from these arguments and this world it comes to an answer and a world of which Q holds -/
def Ev (g : GG) (M : ME) (vs : List AV) (A : AH) (Q : Option AV → AH → Prop) : Prop :=
  ∀ (ad : Nat → Nat) (sz : Nat), inj ad A.length → okS g ad → Met g.1 M.1 (wsM M) (rmL M.2.2.2.2) (PcE g ad sz vs A) (QcE g ad A.length Q) 0 0 (AA ad A.length sz)
def LV (ad : Nat → Nat) (ls : Array Slot) (n : Nat) (lv : List (Option AV)) : Prop := ls.size = n ∧ lv_wf ls ∧ ∀ (k : Nat) (v : AV), lv[k]? = some (some v) → ls[k]? = some (.val (cv ad v))
def asc (ad : Nat → Nat) (lv : List (Option AV)) : List (Nat × Value) := (List.range lv.length).filterMap (fun k => (lv.getD k none).map (fun v => (k, cv ad v)))
theorem asc_mem {ad : Nat → Nat} {lv : List (Option AV)} {q : Nat × Value} : q ∈ asc ad lv ↔ ∃ v, lv[q.1]? = some (some v) ∧ q.2 = cv ad v := by
  unfold asc
  rw [List.mem_filterMap]
  constructor
  · rintro ⟨k, hk, h⟩
    have hk := List.mem_range.mp hk
    rw [List.getD_eq_getElem?_getD, List.getElem?_eq_getElem hk] at h
    cases hv : lv[k] with
    | none => rw [hv] at h; cases h
    | some v =>
      rw [hv] at h
      have h := Option.some.inj h
      subst h
      exact ⟨v, by rw [List.getElem?_eq_getElem hk, hv], rfl⟩
  · rintro ⟨v, h1, h2⟩
    have hk : q.1 < lv.length := (List.getElem?_eq_some_iff.mp h1).1
    refine ⟨q.1, List.mem_range.mpr hk, ?_⟩
    rw [List.getD_eq_getElem?_getD, h1]
    show some (q.1, cv ad v) = some q
    rw [← h2]
theorem LV.has {ad : Nat → Nat} {ls : Array Slot} {n : Nat} {lv : List (Option AV)} (h : LV ad ls n lv) : lv_has ls n (asc ad lv) := by
  refine ⟨h.1, h.2.1, fun q hq => ?_⟩
  obtain ⟨v, h1, h2⟩ := asc_mem.mp hq
  rw [h.2.2 _ v h1, h2]
theorem LV.at {ad : Nat → Nat} {ls : Array Slot} {n : Nat} {lv : List (Option AV)} (h : LV ad ls n lv) {i : Nat} {v : AV} (hi : lv[i]? = some (some v)) : ls[i]? = some (.val (cv ad v)) := h.2.2 i v hi
def isL (v : Option AV) : Bool := match v with
  | some (.inr (.inl _)) => true
  | _ => false
/-- a store at i kills no long -/
def okSt (lv : List (Option AV)) (i : Nat) : Bool := match i with
  | 0 => true
  | k + 1 => !(isL (lv.getD k none))
theorem cv_cat {ad : Nat → Nat} {v : AV} : (cv ad v).category = 2 ↔ isL (some v) = true := by
  rcases v with x | x | k <;> simp [cv, Value.category, isL]
theorem LV.set1 {ad : Nat → Nat} {ls' : Array Slot} {n : Nat} {lv : List (Option AV)} {i : Nat} {v : AV} (hok : okSt lv i = true)
    (h : lv_has ls' n ((i, cv ad v) :: (asc ad lv).filter (fun q => !(q.1 == i) && !(q.1 + 1 == i && q.2.category == 2)))) : LV ad ls' n (lv.set i (some v)) := by
  refine ⟨h.1, h.2.1, fun k w hk => ?_⟩
  rw [List.getElem?_set] at hk
  by_cases e : i = k
  · subst e
    rw [if_pos rfl] at hk
    split at hk
    · have e2 : v = w := Option.some.inj (Option.some.inj hk)
      subst e2
      exact h.2.2 (i, cv ad v) List.mem_cons_self
    · cases hk
  · rw [if_neg e] at hk
    refine h.2.2 (k, cv ad w) (List.mem_cons_of_mem _ (List.mem_filter.mpr ⟨asc_mem.mpr ⟨w, hk, rfl⟩, ?_⟩))
    have e1 : ¬ k = i := fun q => e q.symm
    simp only [Bool.and_eq_true, Bool.not_eq_true', beq_eq_false_iff_ne, ne_eq, e1, not_false_eq_true, true_and, Bool.and_eq_false_iff]
    by_cases e2 : k + 1 = i
    · right
      subst e2
      intro hc
      have h2 := cv_cat.mp hc
      simp only [okSt] at hok
      rw [List.getD_eq_getElem?_getD, hk] at hok
      simp [h2] at hok
    · exact Or.inl e2
theorem LV.set2 {ad : Nat → Nat} {ls' : Array Slot} {n : Nat} {lv : List (Option AV)} {i : Nat} {v : AV} (hok : okSt lv i = true)
    (h : lv_has ls' n ((i, cv ad v) :: (asc ad lv).filter (fun q => !(q.1 == i) && (!(q.1 == i + 1) && !(q.1 + 1 == i && q.2.category == 2))))) : LV ad ls' n ((lv.set i (some v)).set (i + 1) none) := by
  refine ⟨h.1, h.2.1, fun k w hk => ?_⟩
  rw [List.getElem?_set] at hk
  by_cases e0 : i + 1 = k
  · rw [if_pos e0] at hk
    split at hk <;> cases hk
  rw [if_neg e0, List.getElem?_set] at hk
  by_cases e : i = k
  · subst e
    rw [if_pos rfl] at hk
    split at hk
    · have e2 : v = w := Option.some.inj (Option.some.inj hk)
      subst e2
      exact h.2.2 (i, cv ad v) List.mem_cons_self
    · cases hk
  · rw [if_neg e] at hk
    refine h.2.2 (k, cv ad w) (List.mem_cons_of_mem _ (List.mem_filter.mpr ⟨asc_mem.mpr ⟨w, hk, rfl⟩, ?_⟩))
    have e1 : ¬ k = i := fun q => e q.symm
    have e3 : ¬ k = i + 1 := fun q => e0 q.symm
    simp only [Bool.and_eq_true, Bool.not_eq_true', beq_eq_false_iff_ne, ne_eq, e1, e3, not_false_eq_true, true_and, Bool.and_eq_false_iff]
    by_cases e2 : k + 1 = i
    · right
      subst e2
      intro hc
      have h2 := cv_cat.mp hc
      simp only [okSt] at hok
      rw [List.getD_eq_getElem?_getD, hk] at hok
      simp [h2] at hok
    · exact Or.inl e2
/-- the locals at the start -/
def lv0 : List AV → List (Option AV)
  | [] => []
  | .inr (.inl x) :: r => some (.inr (.inl x)) :: none :: lv0 r
  | .inl x :: r => some (.inl x) :: lv0 r
  | .inr (.inr x) :: r => some (.inr (.inr x)) :: lv0 r
theorem lv0_mem {ad : Nat → Nat} : ∀ (vs : List AV) (i k : Nat) (v : AV), (lv0 vs)[k]? = some (some v) → (i + k, cv ad v) ∈ lv_args i (vs.map (cv ad)) := by
  intro vs
  induction vs with
  | nil => intro i k v h; simp [lv0] at h
  | cons a r ih =>
    intro i k v h
    rcases a with x | x | x
    · cases k with
      | zero => simp [lv0] at h; subst h; exact List.mem_cons_self
      | succ k =>
        simp only [lv0, List.getElem?_cons_succ] at h
        have := ih (i + 1) k v h
        refine List.mem_cons_of_mem _ ?_
        simpa [cv, Value.category, Nat.add_assoc, Nat.add_comm 1 k] using this
    · match k, h with
      | 0, h => simp [lv0] at h; subst h; exact List.mem_cons_self
      | 1, h => simp [lv0] at h
      | k + 2, h =>
        simp only [lv0, List.getElem?_cons_succ] at h
        have := ih (i + 2) k v h
        refine List.mem_cons_of_mem _ ?_
        simpa [cv, Value.category, Nat.add_assoc, Nat.add_comm 2 k] using this
    · cases k with
      | zero => simp [lv0] at h; subst h; exact List.mem_cons_self
      | succ k =>
        simp only [lv0, List.getElem?_cons_succ] at h
        have := ih (i + 1) k v h
        refine List.mem_cons_of_mem _ ?_
        simpa [cv, Value.category, Nat.add_assoc, Nat.add_comm 1 k] using this
theorem lv0_len {ad : Nat → Nat} : ∀ (vs : List AV), (lg_sl (vs.map (cv ad))).length = (lv0 vs).length := by
  intro vs
  induction vs with
  | nil => rfl
  | cons a r ih =>
    rcases a with x | x | x <;> simp [lg_sl, lv0, cv, Value.category] at ih ⊢ <;> omega
end
section
/-! the walk over abstract states: one row an instruction -/
def Cx (g : GG) (M : ME) (N : Nat) (ad : Nat → Nat) (p : Program) (s : State) (m : MethodId) (args : Array Value) (meth : Method) (c : Code) : Prop :=
  p.tables.exec = Jvm.exec ∧ c.code = M.2.1 ∧ meth.sig.returnType = M.2.2.2.1 ∧ c.maxLocals = M.2.2.1 ∧ s.vm.findClass M.1.cls = some m.cls ∧ (∀ w ∈ wsG, w.before args s = true) ∧ meth.locks = false ∧
  va_K g.2.1 vwCl (tyG g.2.2.1) s ∧ Sx g (AA ad N s.heap.size) s ∧ inj ad N ∧ okS g ad
/-- from the frame at pc, with these locals, this stack, this world, the method comes to an end of which Q holds -/
def Z (g : GG) (M : ME) (N : Nat) (Q : Option AV → AH → Prop) (pc : Nat) (lv : List (Option AV)) (st : List AV) (A : AH) : Prop :=
  ∀ (ad : Nat → Nat) (p : Program) (e : Env) (s : State) (m : MethodId) (args : Array Value) (below : List Frame) (meth : Method) (c : Code), Cx g M N ad p s m args meth c →
    ∀ (H : Heap) (locs : List Loc) (ls : Array Slot), va_P g.2.1 vwCl (wm ad g.2.2.1 A) H → va_S (AA ad N s.heap.size) s.heap H locs → A.length = N → LV ad ls M.2.2.1 lv →
      W p g.1 e (rmL M.2.2.2.2) s m args below meth c H locs 0 0 (MQ below (QcE g ad N Q) args s 0 0 (AA ad N s.heap.size)) (F0 m pc ls (st.map (cv ad)))
theorem AA_D {ad : Nat → Nat} {N sz : Nat} {tc : Nat → ClassId} {A : AH} (hi : inj ad N) (hN : A.length = N) : va_D (AA ad N sz) (wm ad tc A) := by
  refine ⟨fun i j p q hp hq h => ?_, fun k q hq => ?_⟩
  · obtain ⟨c1, h1, rfl⟩ := wm_of hp
    obtain ⟨c2, h2, rfl⟩ := wm_of hq
    exact hi i j (hN ▸ (List.getElem?_eq_some_iff.mp h1).1) (hN ▸ (List.getElem?_eq_some_iff.mp h2).1) h
  · obtain ⟨c1, h1, rfl⟩ := wm_of hq
    exact Or.inl ⟨k, hN ▸ (List.getElem?_eq_some_iff.mp h1).1, rfl⟩
section ZR
variable {g : GG} {M : ME} {N : Nat} {Q : Option AV → AH → Prop} {pc : Nat} {lv : List (Option AV)} {st : List AV} {A : AH}
theorem Z_iconst {n : Int} {x : Int32} (hd : decode M.2.1 pc = .ok (.iconst n, 1)) (hv : Int32.ofInt n = x) (k : Z g M N Q (pc + 1) lv (vi x :: st) A) : Z g M N Q pc lv st A := by
  intro ad p e s m args below meth c C H locs ls hP hS hN hl
  exact lv_iconst C.1 C.2.1 hd hv (k ad p e s m args below meth c C H locs ls hP hS hN hl)
theorem Z_bipush {n : Int} {x : Int32} (hd : decode M.2.1 pc = .ok (.bipush n, 2)) (hv : (Int8.ofInt n).toInt32 = x) (k : Z g M N Q (pc + 2) lv (vi x :: st) A) : Z g M N Q pc lv st A := by
  intro ad p e s m args below meth c C H locs ls hP hS hN hl
  exact lv_bipush C.1 C.2.1 hd hv (k ad p e s m args below meth c C H locs ls hP hS hN hl)
theorem Z_sipush {n : Int} {x : Int32} (hd : decode M.2.1 pc = .ok (.sipush n, 3)) (hv : (Int16.ofInt n).toInt32 = x) (k : Z g M N Q (pc + 3) lv (vi x :: st) A) : Z g M N Q pc lv st A := by
  intro ad p e s m args below meth c C H locs ls hP hS hN hl
  exact lv_sipush C.1 C.2.1 hd hv (k ad p e s m args below meth c C H locs ls hP hS hN hl)
theorem Z_lconst {n : Fin 2} {x : Int64} (hd : decode M.2.1 pc = .ok (.lconst n, 1)) (hv : Int64.ofNat (n : Nat) = x) (k : Z g M N Q (pc + 1) lv (vl x :: st) A) : Z g M N Q pc lv st A := by
  intro ad p e s m args below meth c C H locs ls hP hS hN hl
  exact lv_lconst C.1 C.2.1 hd hv (k ad p e s m args below meth c C H locs ls hP hS hN hl)
theorem Z_ldc {i : Nat} {x : Int32} (hd : decode M.2.1 pc = .ok (.ldc i, 2)) (hw : Cond.constant M.1.cls i x ∈ wsG) (k : Z g M N Q (pc + 2) lv (vi x :: st) A) : Z g M N Q pc lv st A := by
  intro ad p e s m args below meth c C H locs ls hP hS hN hl
  exact lv_ldc C.1 C.2.1 C.2.2.2.2.1 (C.2.2.2.2.2.1 _ hw) hd (k ad p e s m args below meth c C H locs ls hP hS hN hl)
theorem Z_ldc2 {i : Nat} {x : Int64} (hd : decode M.2.1 pc = .ok (.ldc2_w i, 3)) (hw : Cond.constantLong M.1.cls i x ∈ wsG) (k : Z g M N Q (pc + 3) lv (vl x :: st) A) : Z g M N Q pc lv st A := by
  intro ad p e s m args below meth c C H locs ls hP hS hN hl
  exact lv_ldc2 C.1 C.2.1 C.2.2.2.2.1 (C.2.2.2.2.2.1 _ hw) hd (k ad p e s m args below meth c C H locs ls hP hS hN hl)
theorem Z_iload_n {n : Fin 4} {x : Int32} (hd : decode M.2.1 pc = .ok (.iload_n n, 1)) (hv : lv[(n : Nat)]? = some (some (vi x))) (k : Z g M N Q (pc + 1) lv (vi x :: st) A) : Z g M N Q pc lv st A := by
  intro ad p e s m args below meth c C H locs ls hP hS hN hl
  exact lv_iload_n C.1 C.2.1 hd rfl (hl.at hv) (k ad p e s m args below meth c C H locs ls hP hS hN hl)
theorem Z_iload {n : Nat} {x : Int32} (hd : decode M.2.1 pc = .ok (.iload n, 2)) (hv : lv[n]? = some (some (vi x))) (k : Z g M N Q (pc + 2) lv (vi x :: st) A) : Z g M N Q pc lv st A := by
  intro ad p e s m args below meth c C H locs ls hP hS hN hl
  exact lv_iload C.1 C.2.1 hd (hl.at hv) (k ad p e s m args below meth c C H locs ls hP hS hN hl)
theorem Z_lload_n {n : Fin 4} {x : Int64} (hd : decode M.2.1 pc = .ok (.lload_n n, 1)) (hv : lv[(n : Nat)]? = some (some (vl x))) (k : Z g M N Q (pc + 1) lv (vl x :: st) A) : Z g M N Q pc lv st A := by
  intro ad p e s m args below meth c C H locs ls hP hS hN hl
  exact lv_lload_n C.1 C.2.1 hd rfl (hl.at hv) (k ad p e s m args below meth c C H locs ls hP hS hN hl)
theorem Z_lload {n : Nat} {x : Int64} (hd : decode M.2.1 pc = .ok (.lload n, 2)) (hv : lv[n]? = some (some (vl x))) (k : Z g M N Q (pc + 2) lv (vl x :: st) A) : Z g M N Q pc lv st A := by
  intro ad p e s m args below meth c C H locs ls hP hS hN hl
  exact lv_lload C.1 C.2.1 hd (hl.at hv) (k ad p e s m args below meth c C H locs ls hP hS hN hl)
theorem Z_aload_n {n : Fin 4} {x : Nat} (hd : decode M.2.1 pc = .ok (.aload_n n, 1)) (hv : lv[(n : Nat)]? = some (some (vr x))) (k : Z g M N Q (pc + 1) lv (vr x :: st) A) : Z g M N Q pc lv st A := by
  intro ad p e s m args below meth c C H locs ls hP hS hN hl
  exact lv_aload_n C.1 C.2.1 hd rfl (hl.at hv) (k ad p e s m args below meth c C H locs ls hP hS hN hl)
theorem Z_aload {n : Nat} {x : Nat} (hd : decode M.2.1 pc = .ok (.aload n, 2)) (hv : lv[n]? = some (some (vr x))) (k : Z g M N Q (pc + 2) lv (vr x :: st) A) : Z g M N Q pc lv st A := by
  intro ad p e s m args below meth c C H locs ls hP hS hN hl
  exact lv_aload C.1 C.2.1 hd (hl.at hv) (k ad p e s m args below meth c C H locs ls hP hS hN hl)
theorem Z_istore_n {n : Fin 4} {x : Int32} (hd : decode M.2.1 pc = .ok (.istore_n n, 1)) (hn : (n : Nat) < M.2.2.1) (hok : okSt lv n = true) (k : Z g M N Q (pc + 1) (lv.set n (some (vi x))) st A) : Z g M N Q pc lv (vi x :: st) A := by
  intro ad p e s m args below meth c C H locs ls hP hS hN hl
  exact lv_istore_n C.1 C.2.1 hd rfl hl.has hn rfl (fun ls' h' => k ad p e s m args below meth c C H locs ls' hP hS hN (LV.set1 hok h'))
theorem Z_istore {n : Nat} {x : Int32} (hd : decode M.2.1 pc = .ok (.istore n, 2)) (hn : n < M.2.2.1) (hok : okSt lv n = true) (k : Z g M N Q (pc + 2) (lv.set n (some (vi x))) st A) : Z g M N Q pc lv (vi x :: st) A := by
  intro ad p e s m args below meth c C H locs ls hP hS hN hl
  exact lv_istore C.1 C.2.1 hd hl.has hn rfl (fun ls' h' => k ad p e s m args below meth c C H locs ls' hP hS hN (LV.set1 hok h'))
theorem Z_astore_n {n : Fin 4} {x : Nat} (hd : decode M.2.1 pc = .ok (.astore_n n, 1)) (hn : (n : Nat) < M.2.2.1) (hok : okSt lv n = true) (k : Z g M N Q (pc + 1) (lv.set n (some (vr x))) st A) : Z g M N Q pc lv (vr x :: st) A := by
  intro ad p e s m args below meth c C H locs ls hP hS hN hl
  exact lv_astore_n C.1 C.2.1 hd rfl hl.has hn rfl (fun ls' h' => k ad p e s m args below meth c C H locs ls' hP hS hN (LV.set1 hok h'))
theorem Z_astore {n : Nat} {x : Nat} (hd : decode M.2.1 pc = .ok (.astore n, 2)) (hn : n < M.2.2.1) (hok : okSt lv n = true) (k : Z g M N Q (pc + 2) (lv.set n (some (vr x))) st A) : Z g M N Q pc lv (vr x :: st) A := by
  intro ad p e s m args below meth c C H locs ls hP hS hN hl
  exact lv_astore C.1 C.2.1 hd hl.has hn rfl (fun ls' h' => k ad p e s m args below meth c C H locs ls' hP hS hN (LV.set1 hok h'))
theorem Z_lstore {n : Nat} {x : Int64} (hd : decode M.2.1 pc = .ok (.lstore n, 2)) (hn : n + 1 < M.2.2.1) (hok : okSt lv n = true) (k : Z g M N Q (pc + 2) ((lv.set n (some (vl x))).set (n + 1) none) st A) : Z g M N Q pc lv (vl x :: st) A := by
  intro ad p e s m args below meth c C H locs ls hP hS hN hl
  exact lv_lstore C.1 C.2.1 hd hl.has hn rfl (fun ls' h' => k ad p e s m args below meth c C H locs ls' hP hS hN (LV.set2 hok h'))
theorem Z_iinc {i : Nat} {n : Int} {x : Int32} {y : Int32} (hd : decode M.2.1 pc = .ok (.iinc i n, 3)) (hv : lv[i]? = some (some (vi x))) (hy : Int32.ofInt n = y) (hn : i < M.2.2.1) (hok : okSt lv i = true) (k : Z g M N Q (pc + 3) (lv.set i (some (vi (x + y)))) st A) : Z g M N Q pc lv st A := by
  intro ad p e s m args below meth c C H locs ls hP hS hN hl
  subst hy
  obtain ⟨j, hj⟩ := List.getElem?_of_mem (asc_mem (ad := ad) (q := (i, .int x)) |>.mpr ⟨vi x, hv, rfl⟩)
  exact lv_iinc C.1 C.2.1 hd hl.has hj rfl hn rfl (fun ls' h' => k ad p e s m args below meth c C H locs ls' hP hS hN (LV.set1 hok h'))
theorem Z_iadd {x y : Int32} (hd : decode M.2.1 pc = .ok (.iadd, 1)) (k : Z g M N Q (pc + 1) lv (vi (x + y) :: st) A) : Z g M N Q pc lv (vi y :: vi x :: st) A := by
  intro ad p e s m args below meth c C H locs ls hP hS hN hl
  exact lv_iadd C.1 C.2.1 hd (k ad p e s m args below meth c C H locs ls hP hS hN hl)
theorem Z_isub {x y : Int32} (hd : decode M.2.1 pc = .ok (.isub, 1)) (k : Z g M N Q (pc + 1) lv (vi (x - y) :: st) A) : Z g M N Q pc lv (vi y :: vi x :: st) A := by
  intro ad p e s m args below meth c C H locs ls hP hS hN hl
  exact lv_isub C.1 C.2.1 hd (k ad p e s m args below meth c C H locs ls hP hS hN hl)
theorem Z_imul {x y : Int32} (hd : decode M.2.1 pc = .ok (.imul, 1)) (k : Z g M N Q (pc + 1) lv (vi (x * y) :: st) A) : Z g M N Q pc lv (vi y :: vi x :: st) A := by
  intro ad p e s m args below meth c C H locs ls hP hS hN hl
  exact lv_imul C.1 C.2.1 hd (k ad p e s m args below meth c C H locs ls hP hS hN hl)
theorem Z_iand {x y : Int32} (hd : decode M.2.1 pc = .ok (.iand, 1)) (k : Z g M N Q (pc + 1) lv (vi (x &&& y) :: st) A) : Z g M N Q pc lv (vi y :: vi x :: st) A := by
  intro ad p e s m args below meth c C H locs ls hP hS hN hl
  exact lv_iand C.1 C.2.1 hd (k ad p e s m args below meth c C H locs ls hP hS hN hl)
theorem Z_ishr {x y : Int32} (hd : decode M.2.1 pc = .ok (.ishr, 1)) (k : Z g M N Q (pc + 1) lv (vi (x >>> (y &&& 31)) :: st) A) : Z g M N Q pc lv (vi y :: vi x :: st) A := by
  intro ad p e s m args below meth c C H locs ls hP hS hN hl
  exact lv_ishr C.1 C.2.1 hd (k ad p e s m args below meth c C H locs ls hP hS hN hl)
theorem Z_iushr {x y : Int32} (hd : decode M.2.1 pc = .ok (.iushr, 1)) (k : Z g M N Q (pc + 1) lv (vi (x.toUInt32 >>> (y.toUInt32 &&& Int32.toUInt32 31)).toInt32 :: st) A) : Z g M N Q pc lv (vi y :: vi x :: st) A := by
  intro ad p e s m args below meth c C H locs ls hP hS hN hl
  exact lv_iushr C.1 C.2.1 hd rfl (k ad p e s m args below meth c C H locs ls hP hS hN hl)
theorem Z_idiv {x y : Int32} (hd : decode M.2.1 pc = .ok (.idiv, 1)) (hne : ¬ y = 0) (k : Z g M N Q (pc + 1) lv (vi (x / y) :: st) A) : Z g M N Q pc lv (vi y :: vi x :: st) A := by
  intro ad p e s m args below meth c C H locs ls hP hS hN hl
  exact lv_idiv C.1 C.2.1 hd hne (k ad p e s m args below meth c C H locs ls hP hS hN hl)
theorem Z_irem {x y : Int32} (hd : decode M.2.1 pc = .ok (.irem, 1)) (hne : ¬ y = 0) (k : Z g M N Q (pc + 1) lv (vi (x - x / y * y) :: st) A) : Z g M N Q pc lv (vi y :: vi x :: st) A := by
  intro ad p e s m args below meth c C H locs ls hP hS hN hl
  exact lv_irem C.1 C.2.1 hd hne (k ad p e s m args below meth c C H locs ls hP hS hN hl)
theorem Z_ladd {x y : Int64} (hd : decode M.2.1 pc = .ok (.ladd, 1)) (k : Z g M N Q (pc + 1) lv (vl (x + y) :: st) A) : Z g M N Q pc lv (vl y :: vl x :: st) A := by
  intro ad p e s m args below meth c C H locs ls hP hS hN hl
  exact lv_ladd C.1 C.2.1 hd (k ad p e s m args below meth c C H locs ls hP hS hN hl)
theorem Z_lcmp {x y : Int64} (hd : decode M.2.1 pc = .ok (.lcmp, 1)) (k : Z g M N Q (pc + 1) lv (vi (lg_cmp x y) :: st) A) : Z g M N Q pc lv (vl y :: vl x :: st) A := by
  intro ad p e s m args below meth c C H locs ls hP hS hN hl
  exact W.lcmp C.1 C.2.1 hd (k ad p e s m args below meth c C H locs ls hP hS hN hl)
theorem Z_i2l {x : Int32} (hd : decode M.2.1 pc = .ok (.i2l, 1)) (k : Z g M N Q (pc + 1) lv (vl x.toInt64 :: st) A) : Z g M N Q pc lv (vi x :: st) A := by
  intro ad p e s m args below meth c C H locs ls hP hS hN hl
  exact lv_i2l C.1 C.2.1 hd rfl (k ad p e s m args below meth c C H locs ls hP hS hN hl)
theorem Z_l2i {x : Int64} (hd : decode M.2.1 pc = .ok (.l2i, 1)) (k : Z g M N Q (pc + 1) lv (vi x.toInt32 :: st) A) : Z g M N Q pc lv (vl x :: st) A := by
  intro ad p e s m args below meth c C H locs ls hP hS hN hl
  exact lv_l2i C.1 C.2.1 hd rfl (k ad p e s m args below meth c C H locs ls hP hS hN hl)
theorem Z_i2b {x : Int32} (hd : decode M.2.1 pc = .ok (.i2b, 1)) (k : Z g M N Q (pc + 1) lv (vi x.toInt8.toInt32 :: st) A) : Z g M N Q pc lv (vi x :: st) A := by
  intro ad p e s m args below meth c C H locs ls hP hS hN hl
  exact lv_i2b C.1 C.2.1 hd rfl (k ad p e s m args below meth c C H locs ls hP hS hN hl)
theorem Z_i2s {x : Int32} (hd : decode M.2.1 pc = .ok (.i2s, 1)) (k : Z g M N Q (pc + 1) lv (vi x.toInt16.toInt32 :: st) A) : Z g M N Q pc lv (vi x :: st) A := by
  intro ad p e s m args below meth c C H locs ls hP hS hN hl
  exact lv_i2s C.1 C.2.1 hd rfl (k ad p e s m args below meth c C H locs ls hP hS hN hl)
theorem cat1 {ad : Nat → Nat} {v : AV} (h : isL (some v) = false) : (cv ad v).category = 1 := by
  rcases v with x | x | k
  · rfl
  · cases h
  · rfl
theorem Z_dup {v : AV} (hd : decode M.2.1 pc = .ok (.dup, 1)) (hv : isL (some v) = false) (k : Z g M N Q (pc + 1) lv (v :: v :: st) A) : Z g M N Q pc lv (v :: st) A := by
  intro ad p e s m args below meth c C H locs ls hP hS hN hl
  exact lv_dup C.1 C.2.1 hd (cat1 hv) (k ad p e s m args below meth c C H locs ls hP hS hN hl)
theorem Z_pop {v : AV} (hd : decode M.2.1 pc = .ok (.pop, 1)) (hv : isL (some v) = false) (k : Z g M N Q (pc + 1) lv st A) : Z g M N Q pc lv (v :: st) A := by
  intro ad p e s m args below meth c C H locs ls hP hS hN hl
  exact lv_pop C.1 C.2.1 hd (cat1 hv) (k ad p e s m args below meth c C H locs ls hP hS hN hl)
theorem Z_dup2 {v w : AV} (hd : decode M.2.1 pc = .ok (.dup2, 1)) (hv : isL (some v) = false) (hw : isL (some w) = false) (k : Z g M N Q (pc + 1) lv (v :: w :: v :: w :: st) A) : Z g M N Q pc lv (v :: w :: st) A := by
  intro ad p e s m args below meth c C H locs ls hP hS hN hl
  exact lv_dup2_11 C.1 C.2.1 hd (cat1 hv) (cat1 hw) (k ad p e s m args below meth c C H locs ls hP hS hN hl)
theorem Z_goto {off : Int} {t : Nat} (hd : decode M.2.1 pc = .ok (.goto off, 3)) (ht : (pc : Int) + off = (t : Int)) (k : Z g M N Q t lv st A) : Z g M N Q pc lv st A := by
  intro ad p e s m args below meth c C H locs ls hP hS hN hl
  exact lv_goto C.1 C.2.1 hd ht (k ad p e s m args below meth c C H locs ls hP hS hN hl)
/-- what a branch asks -/
def cnd (o : Jvm.ClassFile.Cond) (x y : Int32) : Prop := match o with
  | .eq => x = y
  | .ne => ¬ x = y
  | .lt => x < y
  | .ge => y ≤ x
  | .gt => y < x
  | .le => x ≤ y
theorem Z_if {o : Jvm.ClassFile.Cond} {x : Int32} {off : Int} {t : Nat} (hd : decode M.2.1 pc = .ok (.ifCond o off, 3)) (ht : (pc : Int) + off = (t : Int)) (k1 : cnd o x 0 → Z g M N Q t lv st A) (k2 : ¬ cnd o x 0 → Z g M N Q (pc + 3) lv st A) : Z g M N Q pc lv (vi x :: st) A := by
  intro ad p e s m args below meth c C H locs ls hP hS hN hl
  have h1 := fun h => k1 h ad p e s m args below meth c C H locs ls hP hS hN hl
  have h2 := fun h => k2 h ad p e s m args below meth c C H locs ls hP hS hN hl
  cases o with
  | eq => exact lv_if_eq C.1 C.2.1 hd ht h1 h2
  | ne => exact lv_if_ne C.1 C.2.1 hd ht h1 (fun h => h2 (fun q => q h))
  | lt => exact lv_if_lt C.1 C.2.1 hd ht h1 h2
  | ge => exact lv_if_ge C.1 C.2.1 hd ht h1 h2
  | gt => exact lv_if_gt C.1 C.2.1 hd ht h1 h2
  | le => exact lv_if_le C.1 C.2.1 hd ht h1 h2
theorem Z_icmp {o : Jvm.ClassFile.Cond} {x y : Int32} {off : Int} {t : Nat} (hd : decode M.2.1 pc = .ok (.if_icmp o off, 3)) (ht : (pc : Int) + off = (t : Int)) (k1 : cnd o x y → Z g M N Q t lv st A) (k2 : ¬ cnd o x y → Z g M N Q (pc + 3) lv st A) : Z g M N Q pc lv (vi y :: vi x :: st) A := by
  intro ad p e s m args below meth c C H locs ls hP hS hN hl
  have h1 := fun h => k1 h ad p e s m args below meth c C H locs ls hP hS hN hl
  have h2 := fun h => k2 h ad p e s m args below meth c C H locs ls hP hS hN hl
  cases o with
  | eq => exact lv_icmp_eq C.1 C.2.1 hd ht h1 h2
  | ne => exact lv_icmp_ne C.1 C.2.1 hd ht h1 (fun h => h2 (fun q => q h))
  | lt => exact lv_icmp_lt C.1 C.2.1 hd ht h1 h2
  | ge => exact lv_icmp_ge C.1 C.2.1 hd ht h1 h2
  | gt => exact lv_icmp_gt C.1 C.2.1 hd ht h1 h2
  | le => exact lv_icmp_le C.1 C.2.1 hd ht h1 h2
theorem Z_iaload {i : Int32} {q n : Nat} {f : Nat → Int32} (hd : decode M.2.1 pc = .ok (.iaload, 1)) (ha : A[q]? = some (ar 0 n f)) (hin : vp_in i n) (k : Z g M N Q (pc + 1) lv (vi (f i.toNatClampNeg) :: st) A) : Z g M N Q pc lv (vi i :: vr q :: st) A := by
  intro ad p e s m args below meth c C H locs ls hP hS hN hl
  exact va_iald (q0 := q) (t0 := 0) C.1 C.2.1 C.2.2.2.2.2.2.2.1 hP (wm_at ha) rfl hin hd (k ad p e s m args below meth c C H locs ls hP hS hN hl)
theorem Z_baload {i : Int32} {q n : Nat} {f : Nat → Int32} (hd : decode M.2.1 pc = .ok (.baload, 1)) (ha : A[q]? = some (ar 1 n f)) (hin : vp_in i n) (k : Z g M N Q (pc + 1) lv (vi (f i.toNatClampNeg) :: st) A) : Z g M N Q pc lv (vi i :: vr q :: st) A := by
  intro ad p e s m args below meth c C H locs ls hP hS hN hl
  exact va_zald (q0 := q) (t0 := 1) C.1 C.2.1 C.2.2.2.2.2.2.2.1 hP (wm_at ha) rfl hin hd (k ad p e s m args below meth c C H locs ls hP hS hN hl)
theorem Z_aaload {i : Int32} {q n t : Nat} {f : Nat → Nat} (hd : decode M.2.1 pc = .ok (.aaload, 1)) (ha : A[q]? = some (rr t n f)) (ht : t = 2 ∨ t = 3) (hin : vp_in i n) (k : Z g M N Q (pc + 1) lv (vr (f i.toNatClampNeg) :: st) A) : Z g M N Q pc lv (vi i :: vr q :: st) A := by
  intro ad p e s m args below meth c C H locs ls hP hS hN hl
  rcases ht with rfl | rfl
  · exact va_aldq (q0 := q) (t0 := 2) C.1 C.2.1 C.2.2.2.2.2.2.2.1 hP (wm_at ha) rfl hin hd (k ad p e s m args below meth c C H locs ls hP hS hN hl)
  · exact va_aldq (q0 := q) (t0 := 3) C.1 C.2.1 C.2.2.2.2.2.2.2.1 hP (wm_at ha) rfl hin hd (k ad p e s m args below meth c C H locs ls hP hS hN hl)
theorem Z_iastore {i x : Int32} {q n : Nat} {f : Nat → Int32} (hd : decode M.2.1 pc = .ok (.iastore, 1)) (ha : A[q]? = some (ar 0 n f)) (hin : vp_in i n) (k : Z g M N Q (pc + 1) lv st (A.set q (ar 0 n (upd f i.toNatClampNeg x)))) : Z g M N Q pc lv (vi x :: vi i :: vr q :: st) A := by
  intro ad p e s m args below meth c C H locs ls hP hS hN hl
  refine va_iast (q0 := q) (t0 := 0) C.1 C.2.1 C.2.2.2.2.2.2.2.1 hP (AA_D C.2.2.2.2.2.2.2.2.2.1 hN) hS (wm_at ha) rfl hin hd (fun H1 locs1 hP1 hD1 hS1 => ?_)
  exact k ad p e s m args below meth c C H1 locs1 ls (by rw [wm_set]; exact hP1) hS1 (by rw [List.length_set]; exact hN) hl
theorem z01 {x : Int32} (h : x = 0 ∨ x = 1) : narrow .boolean (.int x) = .int x ∧ fits .boolean (.int x) = true := by
  rcases h with rfl | rfl <;> exact ⟨by decide, by decide⟩
theorem Z_bastore {i x : Int32} {q n : Nat} {f : Nat → Int32} (hd : decode M.2.1 pc = .ok (.bastore, 1)) (ha : A[q]? = some (ar 1 n f)) (hin : vp_in i n) (hx : x = 0 ∨ x = 1) (k : Z g M N Q (pc + 1) lv st (A.set q (ar 1 n (upd f i.toNatClampNeg x)))) : Z g M N Q pc lv (vi x :: vi i :: vr q :: st) A := by
  intro ad p e s m args below meth c C H locs ls hP hS hN hl
  refine va_zast (q0 := q) (t0 := 1) C.1 C.2.1 C.2.2.2.2.2.2.2.1 hP (AA_D C.2.2.2.2.2.2.2.2.2.1 hN) hS (wm_at ha) rfl hin hd (fun H1 locs1 hP1 hD1 hS1 => ?_)
  have e9 : vp_nar .boolean x = x := by rcases hx with rfl | rfl <;> rfl
  rw [e9] at hP1
  exact k ad p e s m args below meth c C H1 locs1 ls (by rw [wm_set]; exact hP1) hS1 (by rw [List.length_set]; exact hN) hl
end ZR
end
section
/-! fields, answers, calls, a method's start, the frame -/
def FLk (own : String) (idx ci k : Nat) : Prop := ∃ (C : String) (T : u_T) (NN : Nat), vwCl[ci]? = some (C, T, NN) ∧ k < NN ∧ (∀ w ∈ u_ws C T NN, w ∈ wsG) ∧ Cond.fieldLink own idx (T k).1 (T k).2.1 (T k).2.2.1 ∈ wsG
def FPk (own : String) (idx ci k : Nat) (ty : FieldType) : Prop := ∃ (C : String) (T : u_T) (NN : Nat), vwCl[ci]? = some (C, T, NN) ∧ k < NN ∧ (∀ w ∈ u_ws C T NN, w ∈ wsG) ∧ Cond.fieldLink own idx (T k).1 (T k).2.1 (T k).2.2.1 ∈ wsG ∧
  (T k).2.2.2 = false ∧ parseFieldDescriptor (T k).2.2.1 = some ty ∧ (∃ ty0 : Nat → FieldType, ∀ k, k < NN → parseFieldDescriptor (T k).2.2.1 = some (ty0 k)) ∧ (∀ a, a < NN → ∀ b, b < NN → a ≠ b → (T a).2.1 ≠ (T b).2.1)
def okM (me : ME) : Prop := Cond.code me.1 me.2.1 me.2.2.1 me.2.2.2.1 ∈ wsG ∧ Cond.initialized me.1.cls ∈ wsG ∧ (me.1.cls ≠ "java/lang/invoke/MethodHandle" ∧ me.1.cls ≠ "java/lang/invoke/VarHandle") ∧ me.2.2.1 ≤ 16 ∧ plainName me.1.cls = true
def okV (me : ME) (n : Nat) : Prop := okM me ∧ Cond.instanceMethod me.1 ∈ wsG ∧ Cond.selects me.1.cls me.1 me.1 ∈ wsG ∧ (parseMethodDescriptor me.1.desc).map (fun d => d.parameters.length) = some n
def okT (me : ME) (n : Nat) : Prop := okM me ∧ Cond.static me.1 ∈ wsG ∧ (parseMethodDescriptor me.1.desc).map (fun d => d.parameters.length) = some n
theorem good_M {me : ME} (h : Cond.code me.1 me.2.1 me.2.2.1 me.2.2.2.1 ∈ wsG) : GoodIn wsG (wsM me) := by
  intro w hw
  rcases List.mem_cons.mp hw with rfl | hw
  · exact ⟨h, good_of_word (wsG_good h)⟩
  · exact ⟨hw, good_of_word (wsG_good hw)⟩
theorem good_one {w : Cond} (h : w ∈ wsG) : w ∈ wsG ∧ ((w.onTables && w.keeps) = true ∨ ∃ ty, w = .arrayClass ty) := ⟨h, good_of_word (wsG_good h)⟩
theorem AA_up {ad : Nat → Nat} {N a b : Nat} (h : a ≤ b) : ∀ q, AA ad N b q → AA ad N a q := fun q hq => hq.elim Or.inl (fun h2 => Or.inr (Nat.le_trans h h2))
theorem PcE_blind {g : GG} {ad : Nat → Nat} {sz : Nat} {vs : List AV} {A : AH} : FrameBlind (PcE g ad sz vs A) := by
  intro a U g' mk h
  obtain ⟨h0, h1, h2, h3, h4⟩ := h
  exact ⟨h0, h1, h2, va_K.moved (u := U) (U := U.calling g' mk a) (Vm.Alike.refl U.vm) h3, h4.same (U := U.calling g' mk a) rfl rfl⟩
section ZC
variable {g : GG} {M : ME} {N : Nat} {Q : Option AV → AH → Prop} {pc : Nat} {lv : List (Option AV)} {st : List AV} {A : AH}
theorem Z_getfield {idx ci k q : Nat} {fs : List AV} {v : AV} (hd : decode M.2.1 pc = .ok (.getfield idx, 3)) (hf : FLk M.1.cls idx ci k) (ha : A[q]? = some (ob ci fs)) (hv : fs[k]? = some v) (kk : Z g M N Q (pc + 3) lv (v :: st) A) : Z g M N Q pc lv (vr q :: st) A := by
  intro ad p e s m args below meth c C H locs ls hP hS hN hl
  obtain ⟨C', T, NN, h1, h2, h3, h4⟩ := hf
  exact va_get (ref := (T k).1) (fs := fs.map (cv ad)) (v := cv ad v) C.1 C.2.1 C.2.2.2.2.2.1 h3 C.2.2.2.2.1 C.2.2.2.2.2.2.2.1 hP q (wm_at ha) h1 k h2 (C.2.2.2.2.2.1 _ h4) (fun _ h9 => h9) (by rw [List.getElem?_map, hv]; rfl) hd (kk ad p e s m args below meth c C H locs ls hP hS hN hl)
theorem Z_putV {idx ci k q : Nat} {fs : List AV} {v : AV} {ty : FieldType} (hd : decode M.2.1 pc = .ok (.putfield idx, 3)) (hf : FPk M.1.cls idx ci k ty) (ha : A[q]? = some (ob ci fs)) (hk : k < fs.length) (hn : ∀ ad, narrow ty (cv ad v) = cv ad v ∧ fits ty (cv ad v) = true) (kk : Z g M N Q (pc + 3) lv st (A.set q (ob ci (fs.set k v)))) : Z g M N Q pc lv (v :: vr q :: st) A := by
  intro ad p e s m args below meth c C H locs ls hP hS hN hl
  obtain ⟨C', T, NN, h1, h2, h3, h4, h5, h6, ⟨ty0, h7⟩, h8⟩ := hf
  refine va_put (ref := (T k).1) (fs := fs.map (cv ad)) (v := cv ad v) C.1 C.2.1 C.2.2.2.2.2.1 h3 ty0 h7 h8 C.2.2.2.2.1 C.2.2.2.2.2.2.2.1 hP (AA_D C.2.2.2.2.2.2.2.2.2.1 hN) hS q (wm_at ha) h1 k h2 (C.2.2.2.2.2.1 _ h4) (fun _ h9 => h9) h5 h6 (hn ad).1 (hn ad).2 (by rw [List.length_map]; exact hk) hd (fun H1 locs1 hP1 hD1 hS1 => ?_)
  refine kk ad p e s m args below meth c C H1 locs1 ls ?_ hS1 (by rw [List.length_set]; exact hN) hl
  rw [wm_set]
  show va_P _ _ ((wm ad g.2.2.1 A).set q (ad q, .inr (ci, (fs.set k v).map (cv ad)))) H1
  rw [List.map_set]
  exact hP1
theorem Z_put {idx ci k q : Nat} {fs : List AV} {x : Int32} (hd : decode M.2.1 pc = .ok (.putfield idx, 3)) (hf : FPk M.1.cls idx ci k .int) (ha : A[q]? = some (ob ci fs)) (hk : k < fs.length) (kk : Z g M N Q (pc + 3) lv st (A.set q (ob ci (fs.set k (vi x))))) : Z g M N Q pc lv (vi x :: vr q :: st) A :=
  Z_putV hd hf ha hk (fun _ => ⟨rfl, rfl⟩) kk
theorem Z_putz {idx ci k q : Nat} {fs : List AV} {x : Int32} (hd : decode M.2.1 pc = .ok (.putfield idx, 3)) (hf : FPk M.1.cls idx ci k .boolean) (ha : A[q]? = some (ob ci fs)) (hk : k < fs.length) (hx : x = 0 ∨ x = 1) (kk : Z g M N Q (pc + 3) lv st (A.set q (ob ci (fs.set k (vi x))))) : Z g M N Q pc lv (vi x :: vr q :: st) A :=
  Z_putV hd hf ha hk (fun _ => z01 hx) kk
theorem Z_ireturn {x : Int32} {ty : FieldType} (hd : decode M.2.1 pc = .ok (.ireturn, 1)) (hr : M.2.2.2.1 = some ty) (hn : narrow ty (.int x) = .int x) (h : Q (some (vi x)) A) : Z g M N Q pc lv [vi x] A := by
  intro ad p e s m args below meth c C H locs ls hP hS hN hl
  have hlocks : meth.locks = false := C.2.2.2.2.2.2.1
  exact W.zret (ty := ty) (v := x) C.1 C.2.1 (C.2.2.1.trans hr) hn (fun t ht hW => ⟨⟨some (vi x), A, rfl, h, hN, by rw [ht]; exact hP⟩, hS.F ht⟩) hS.2.2 hd
theorem Z_return (hd : decode M.2.1 pc = .ok (.return_, 1)) (hr : M.2.2.2.1 = none) (h : Q none A) : Z g M N Q pc lv [] A := by
  intro ad p e s m args below meth c C H locs ls hP hS hN hl
  have hlocks : meth.locks = false := C.2.2.2.2.2.2.1
  exact W.vret C.1 C.2.1 (C.2.2.1.trans hr) (fun t ht hW => ⟨⟨none, A, rfl, h, hN, by rw [ht]; exact hP⟩, hS.F ht⟩) hS.2.2 hd
/-- behind a call -/
theorem Z_after {me : ME} {vs rest : List AV} {st0 : List AV} (ad : Nat → Nat) {p : Program} {e : Env} {s : State} {m : MethodId} {args : Array Value} {below : List Frame} {meth : Method} {c : Code} (C : Cx g M N ad p s m args meth c) {H : Heap} {locs : List Loc} {ls : Array Slot} (hS : va_S (AA ad N s.heap.size) s.heap H locs) (hN : A.length = N) (hl : LV ad ls M.2.2.1 lv) {a : Array Value}
    (hr : va_Run p g.1 e (rmL M.2.2.2.2) s m args below meth c H locs 0 0 0 0 (F0 m pc ls (st0.map (cv ad))) (rest.map (cv ad)) (QcE g ad A.length (fun r A' => Z g M N Q (pc + 3) lv (r.toList ++ rest) A') a) (AA ad A.length H.size)) :
    W p g.1 e (rmL M.2.2.2.2) s m args below meth c H locs 0 0 (MQ below (QcE g ad N Q) args s 0 0 (AA ad N s.heap.size)) (F0 m pc ls (st0.map (cv ad))) := by
  intro T hT X
  obtain ⟨v, st₀, t, T', L, h0, X', hL, e1, e2, ⟨⟨r, A', hv, hz, hlen, hP1⟩, hF⟩, stp⟩ := hr T hT X
  have hv : v = r.map (cv ad) := Outcome.returned.inj hv
  subst hv
  rw [hN] at hL hlen hF
  obtain ⟨hF1, hF2⟩ := hF
  rw [h0] at hF1 hF2
  have hS' : va_S (AA ad N s.heap.size) s.heap T'.heap (locs ++ L) := by
    refine ⟨Nat.le_trans hS.1 (by rw [e1]; exact hF1), fun q h1 h2 => ?_, fun q hq => ?_⟩
    · rw [e1, hF2 q (Nat.lt_of_lt_of_le h1 hS.1) (fun z => h2 (AA_up hS.1 q z))]
      exact hS.2.1 q h1 h2
    · rcases List.mem_append.mp hq with h | h
      · exact hS.2.2 q h
      · exact AA_up hS.1 _ (hL q h)
  obtain ⟨t2, a1, b1⟩ := hz ad p e s m args below meth c C T'.heap (locs ++ L) ls (by rw [e1]; exact hP1) hS' hlen hl T' rfl X'
  refine ⟨t2, stp t2 ?_, b1⟩
  have e9 : (r.toList ++ rest).map (cv ad) = (r.map (cv ad)).toList ++ rest.map (cv ad) := by
    cases r <;> simp
  rw [e9] at a1
  exact a1
theorem Z_pre {me : ME} {vs : List AV} (ad : Nat → Nat) {p : Program} {s : State} {m : MethodId} {args : Array Value} {meth : Method} {c : Code} (C : Cx g M N ad p s m args meth c) {H : Heap} {locs : List Loc} (hP : va_P g.2.1 vwCl (wm ad g.2.2.1 A) H) (hS : va_S (AA ad N s.heap.size) s.heap H locs) (hN : A.length = N) :
    ∀ U : State, U.heap = H → s.WarmedH U.vm → PcE g ad H.size vs A (vs.map (cv ad)).toArray U := by
  intro U hU hW
  refine ⟨rfl, by rw [hU], by rw [hU]; exact hP, va_K.moved hW.alike C.2.2.2.2.2.2.2.1, ?_⟩
  rw [hN]
  exact C.2.2.2.2.2.2.2.2.1.go hW (AA_up hS.1) (fun q h1 h2 => by rw [hU]; exact hS.2.1 q h1 h2)
theorem rm_ok {dc dm maxL : Nat} (h : dc < dm) (hl : maxL ≤ 16) : (rmL dc).frames + 1 ≤ (rmL dm).frames ∧ 8 + (maxL + 11) + (rmL dc).locals ≤ (rmL dm).locals := by
  constructor
  · exact h
  · show 8 + (maxL + 11) + 35 * dc ≤ 35 * dm
    omega
def cats (l : List AV) : Nat := match l with
  | [] => 0
  | v :: r => (if isL (some v) then 2 else 1) + cats r
theorem cats_ok {ad : Nat → Nat} : ∀ l : List AV, ((l.map (cv ad)).map fun v => v.category).sum = cats l := by
  intro l
  induction l with
  | nil => rfl
  | cons v r ih =>
    rcases v with x | x | k <;> simp [cats, cv, Value.category, isL] at ih ⊢ <;> exact ih
theorem Z_callV {me : ME} {idx n ci q : Nat} {fs vs rest : List AV} (hd : decode M.2.1 pc = .ok (.invokevirtual idx, 3)) (hlink : Cond.methodLink M.1.cls idx me.1 ∈ wsG) (ho : okV me n) (hlev : me.2.2.2.2 < M.2.2.2.2) (ha : A[q]? = some (ob ci fs)) (hcl : (vwCl[ci]?).map (fun r => r.1) = some me.1.cls) (hn : vs.length = n) (hcat : cats rest ≤ 8)
    (h : Ev g me (vr q :: vs) A (fun r A' => Z g M N Q (pc + 3) lv (r.toList ++ rest) A')) : Z g M N Q pc lv (vs.reverse ++ vr q :: rest) A := by
  intro ad p e s m args below meth c C H locs ls hP hS hN hl
  obtain ⟨⟨o1, o2, o3, o4, o5⟩, o6, o7, o8⟩ := ho
  have hM := h ad H.size (hN ▸ C.2.2.2.2.2.2.2.2.2.1) C.2.2.2.2.2.2.2.2.2.2
  obtain ⟨rC, hrC, hrC2⟩ : ∃ r, vwCl[ci]? = some r ∧ r.1 = me.1.cls := by
    cases hr : vwCl[ci]? with
    | none => rw [hr] at hcl; cases hcl
    | some r => rw [hr] at hcl; exact ⟨r, rfl, Option.some.inj hcl⟩
  have hrecv := va_recv (a := ad q) (q0 := q) (ci := ci) C.2.2.2.2.2.2.2.1 hP hrC (wm_at ha)
  rw [hrC2] at hrecv
  have hGV : GoodIn wsG (wsV M.1.cls idx me.1.cls me.1 (wsM me)) := by
    intro w hw
    unfold wsV at hw
    rcases List.mem_append.mp hw with hw | hw
    · simp only [List.mem_cons, List.not_mem_nil, or_false] at hw
      rcases hw with rfl | rfl | rfl | rfl
      · exact good_one hlink
      · exact good_one o6
      · exact good_one o7
      · exact good_one o2
    · exact good_M o1 w hw
  have hr := va_runV (p := p) (e := e) (below := below) (meth := meth) (locs := locs) (cells := 0) (slots := 0) (H := H) (R := rmL M.2.2.2.2) (g := F0 m pc ls ((vs.reverse ++ vr q :: rest).map (cv ad))) (As := vs.map (cv ad)) (rest := rest.map (cv ad)) (b := ad q) (nL := M.2.2.1)
    (S := (⟨C.1, C.2.1, C.2.2.2.1, C.2.2.2.2.1, C.2.2.2.2.2.1⟩ : CallFix p m c M.2.1 M.2.2.1 s args wsG M.1.cls)) hM (cwV n C.2.2.2.2.2.1 hGV rfl rfl rfl ⟨rfl, o3.1, o3.2, o8⟩ (rm_ok hlev o4)) ⟨PcE_blind, hrecv, Z_pre (me := me) ad C hP hS hN⟩ rfl (by rw [List.length_map]; exact hn) hl.1 (by simp [List.map_append, List.map_reverse, cv]) (lv_room (by rw [cats_ok]; exact hcat)) hd ⟨Nat.le_refl _, Nat.le_refl _⟩
  exact Z_after (me := me) (vs := vs) ad C hS hN hl hr
theorem Z_callS {me : ME} {idx n : Nat} {vs rest : List AV} (hd : decode M.2.1 pc = .ok (.invokestatic idx, 3)) (hlink : Cond.methodLink M.1.cls idx me.1 ∈ wsG) (ho : okT me n) (hcls : me.1.cls = M.1.cls) (hlev : me.2.2.2.2 < M.2.2.2.2) (hn : vs.length = n) (hcat : cats rest ≤ 8)
    (h : Ev g me vs A (fun r A' => Z g M N Q (pc + 3) lv (r.toList ++ rest) A')) : Z g M N Q pc lv (vs.reverse ++ rest) A := by
  intro ad p e s m args below meth c C H locs ls hP hS hN hl
  obtain ⟨⟨o1, o2, o3, o4, o5⟩, o6, o8⟩ := ho
  have hM := h ad H.size (hN ▸ C.2.2.2.2.2.2.2.2.2.1) C.2.2.2.2.2.2.2.2.2.2
  have hGS : GoodIn wsG (wsS M.1.cls idx me.1 (wsM me)) := by
    intro w hw
    unfold wsS at hw
    rcases List.mem_append.mp hw with hw | hw
    · simp only [List.mem_cons, List.not_mem_nil, or_false] at hw
      rcases hw with rfl | rfl | rfl
      · exact good_one hlink
      · exact good_one o6
      · rw [← hcls]; exact good_one o2
    · exact good_M o1 w hw
  have hr := va_runS (p := p) (e := e) (below := below) (meth := meth) (locs := locs) (cells := 0) (slots := 0) (H := H) (R := rmL M.2.2.2.2) (g := F0 m pc ls ((vs.reverse ++ rest).map (cv ad))) (As := vs.map (cv ad)) (rest := rest.map (cv ad)) (nL := M.2.2.1)
    (S := (⟨C.1, C.2.1, C.2.2.2.1, C.2.2.2.2.1, C.2.2.2.2.2.1⟩ : CallFix p m c M.2.1 M.2.2.1 s args wsG M.1.cls)) hM (cwS n C.2.2.2.2.2.1 hGS rfl rfl rfl ⟨hcls, o3.1, o3.2, o8⟩ (rm_ok hlev o4)) ⟨PcE_blind, Z_pre (me := me) ad C hP hS hN⟩ rfl (by rw [List.length_map]; exact hn) hl.1 (by simp [List.map_append, List.map_reverse]) (lv_room (by rw [cats_ok]; exact hcat)) hd ⟨Nat.le_refl _, Nat.le_refl _⟩
  exact Z_after (me := me) (vs := vs) ad C hS hN hl hr
/-- a private static method of a nest mate: isColour out of Reader and Slip -/
theorem Z_callN {me : ME} {idx n : Nat} {vs rest : List AV} (hd : decode M.2.1 pc = .ok (.invokestatic idx, 3)) (hw : (M.1.cls = RX3 ∧ idx = 106 ∨ M.1.cls = RX5 ∧ idx = 54) ∧ me.1 = yX9_isColour) (ho : okT me n) (hlev : me.2.2.2.2 < M.2.2.2.2) (hn : vs.length = n) (hcat : cats rest ≤ 8)
    (h : Ev g me vs A (fun r A' => Z g M N Q (pc + 3) lv (r.toList ++ rest) A')) : Z g M N Q pc lv (vs.reverse ++ rest) A := by
  intro ad p e s m args below meth c C H locs ls hP hS hN hl
  obtain ⟨⟨o1, o2, o3, o4, o5⟩, o6, o8⟩ := ho
  have hM := h ad H.size (hN ▸ C.2.2.2.2.2.2.2.2.2.1) C.2.2.2.2.2.2.2.2.2.2
  have hlk : va_Nw (.methodLinkNest M.1.cls idx me.1 RX9) s := by
    have hsx := C.2.2.2.2.2.2.2.2.1.1
    obtain ⟨hw1, hw2⟩ := hw
    rw [hw2]
    rcases hw1 with ⟨w1, w2⟩ | ⟨w1, w2⟩
    · rw [w1, w2]; exact hsx.1
    · rw [w1, w2]; exact hsx.2
  have hr := va_runSN (p := p) (e := e) (below := below) (meth := meth) (locs := locs) (cells := 0) (slots := 0) (H := H) (R := rmL M.2.2.2.2) (g := F0 m pc ls ((vs.reverse ++ rest).map (cv ad))) (As := vs.map (cv ad)) (rest := rest.map (cv ad)) (nL := M.2.2.1)
    (S := (⟨C.1, C.2.1, C.2.2.2.1, C.2.2.2.2.1, C.2.2.2.2.2.1⟩ : CallFix p m c M.2.1 M.2.2.1 s args wsG M.1.cls)) hM ⟨va_cnB (host := RX9) n C.2.2.2.2.2.1 (good_M o1) rfl rfl rfl hlk (C.2.2.2.2.2.1 _ o2) ⟨o3.1, o3.2, o8⟩ (rm_ok hlev o4), C.2.2.2.2.2.1 _ o6, trivial⟩ ⟨PcE_blind, Z_pre (me := me) ad C hP hS hN⟩ rfl (by rw [List.length_map]; exact hn) hl.1 (by simp [List.map_append, List.map_reverse]) (lv_room (by rw [cats_ok]; exact hcat)) hd ⟨Nat.le_refl _, Nat.le_refl _⟩
  exact Z_after (me := me) (vs := vs) ad C hS hN hl hr
/-- System.arraycopy of ints -/
theorem Z_acopy {idx q0 q1 n0 n1 : Nat} {f f1 : Nat → Int32} {sp dp n : Int32} (hd : decode M.2.1 pc = .ok (.invokestatic idx, 3)) (hlink : Cond.methodLink M.1.cls idx arraycopyName ∈ wsG) (hnat : Cond.native arraycopyName ∈ wsG) (hst : Cond.static arraycopyName ∈ wsG) (hini : Cond.initialized "java/lang/System" ∈ wsG)
    (hlev : 0 < M.2.2.2.2) (ha0 : A[q0]? = some (ar 0 n0 f)) (ha1 : A[q1]? = some (ar 0 n1 f1)) (h1 : ¬ sp < 0) (h2 : ¬ dp < 0) (h3 : ¬ n < 0) (h4 : sp.toNatClampNeg + n.toNatClampNeg ≤ n0) (h5 : dp.toNatClampNeg + n.toNatClampNeg ≤ n1) (hcat : cats st ≤ 8)
    (k : Z g M N Q (pc + 3) lv st (A.set q1 (ar 0 n1 (va_cpy f f1 sp.toNatClampNeg dp.toNatClampNeg n.toNatClampNeg)))) : Z g M N Q pc lv (vi n :: vi dp :: vr q1 :: vi sp :: vr q0 :: st) A := by
  intro ad p e s m args below meth c C H locs ls hP hS hN hl
  have hw := C.2.2.2.2.2.1
  refine va_copyi (ty := .int) C.1 C.2.1 (C.2.2.2.1.trans hl.1.symm) C.2.2.2.2.1 (hw _ hlink) (hw _ hnat) (hw _ hst) (hw _ hini) C.2.2.2.2.2.2.2.1 hP (AA_D C.2.2.2.2.2.2.2.2.2.1 hN) hS q0 q1 0 0 (wm_at ha0) (wm_at ha1) rfl rfl rfl h1 h2 h3 h4 h5 (fun i hi => rfl) hlev ?_ hd (fun H1 locs1 hP1 hD1 hS1 => ?_)
  · rw [cats_ok]
    have e9 : nativeFrameWords "java/lang/System" "arraycopy" 5 = 7 := by decide +kernel
    rw [e9]
    show cats st + (7 + 11) ≤ 35 * M.2.2.2.2
    omega
  · exact k ad p e s m args below meth c C H1 locs1 ls (by rw [wm_set]; exact hP1) hS1 (by rw [List.length_set]; exact hN) hl
end ZC
/-- a method's start -/
theorem Ev_of {g : GG} {me : ME} {vs : List AV} {A : AH} {Q : Option AV → AH → Prop} (ho : okM me) (hlen : (lv0 vs).length ≤ me.2.2.1) (h : Z g me A.length Q 0 (lv0 vs ++ List.replicate (me.2.2.1 - (lv0 vs).length) none) [] A) : Ev g me vs A Q := by
  intro ad sz hi hs
  refine Met.ofW (cc := me.2.1) (maxL := me.2.2.1) (ret := me.2.2.2.1) ho.2.2.2.2 rfl ?_
  intro p e s m args below meth c s₁ B hml hv
  obtain ⟨rfl, hsz, hP, hK, hX⟩ := hv
  subst hsz
  have hts := atoms_spec (ws := wsM me) B.pre
  have hl := lv_entry (vs.map (cv ad)) (n := me.2.2.1) (by rw [lv0_len]; exact hlen)
  rw [lg_entry_eq]
  generalize (lg_sl (vs.map (cv ad)) ++ List.replicate (me.2.2.1 - (lg_sl (vs.map (cv ad))).length) Slot.unset).toArray = ls at hl ⊢
  refine h ad p e s m _ below meth c ⟨B.exec, B.bytes, B.returns, hml, findClass_of_methodNamed B.named, fun w hw => hts w (List.mem_cons_of_mem _ hw), B.notSynchronized, hK, hX, hi, hs⟩ s.heap [] ls hP va_S.rf rfl ⟨hl.1, hl.2.1, fun k v hk => ?_⟩
  have hk2 : (lv0 vs)[k]? = some (some v) := by
    rcases Nat.lt_or_ge k (lv0 vs).length with h1 | h1
    · rwa [List.getElem?_append_left h1] at hk
    · rw [List.getElem?_append_right h1] at hk
      have := List.mem_of_getElem? hk
      rw [List.mem_replicate] at this
      cases this.2
  have := lv0_mem (ad := ad) vs 0 k v hk2
  rw [Nat.zero_add] at this
  exact hl.2.2 _ this
theorem Ev.mono {g : GG} {me : ME} {vs : List AV} {A : AH} {Q Q' : Option AV → AH → Prop} (h : Ev g me vs A Q) (hq : ∀ r A', A'.length = A.length → Q r A' → Q' r A') : Ev g me vs A Q' := by
  intro ad sz hi hs p e ha hc hk s m args below hf happ hP hK
  obtain ⟨n, o, h1, h2, h3, ⟨⟨r, A', b1, b2, b3, b4⟩, hF⟩, h5⟩ := h ad sz hi hs p e ha hc hk s m args below hf happ hP hK
  exact ⟨n, o, h1, h2, h3, ⟨⟨r, A', b1, hq r A' b3 b2, b3, b4⟩, hF⟩, h5⟩
end
section
/-! the frame: a contract over a small world holds in every world that has it as a part -/
def ren (is : List Nat) (k : Nat) : Nat := is.getD k k
def renV (is : List Nat) : AV → AV
  | .inl x => .inl x
  | .inr (.inl x) => .inr (.inl x)
  | .inr (.inr k) => .inr (.inr (ren is k))
def renC (is : List Nat) : AC → AC
  | .inl a => .inl a
  | .inr (.inl (t, n, f)) => .inr (.inl (t, n, fun i => ren is (f i)))
  | .inr (.inr (ci, fs)) => .inr (.inr (ci, fs.map (renV is)))
def put (r : List Nat) : List Nat → AH → AH → AH
  | i :: is, c :: A, B => put r is A (B.set i (renC r c))
  | _, _, B => B
theorem cv_ren {ad : Nat → Nat} {is : List Nat} (v : AV) : cv ad (renV is v) = cv (fun k => ad (ren is k)) v := by
  rcases v with x | x | k <;> rfl
theorem ce_ren {ad : Nat → Nat} {tc : Nat → ClassId} {is : List Nat} (c : AC) : ce ad tc (renC is c) = ce (fun k => ad (ren is k)) tc c := by
  rcases c with ⟨t, n, f⟩ | ⟨t, n, f⟩ | ⟨ci, fs⟩
  · rfl
  · rfl
  · show (Sum.inr (ci, (fs.map (renV is)).map (cv ad)) : va_E) = Sum.inr (ci, fs.map (cv (fun k => ad (ren is k))))
    rw [List.map_map]
    congr 2
    apply List.map_congr_left
    intro v _
    exact cv_ren v
theorem put_len {r : List Nat} : ∀ (is : List Nat) (A B : AH), (put r is A B).length = B.length := by
  intro is
  induction is with
  | nil => intro A B; rfl
  | cons i is ih =>
    intro A B
    cases A with
    | nil => rfl
    | cons c A => simp only [put]; rw [ih, List.length_set]
theorem put_out {r : List Nat} {k : Nat} : ∀ (is : List Nat) (A B : AH), k ∉ is → (put r is A B)[k]? = B[k]? := by
  intro is
  induction is with
  | nil => intro A B _; rfl
  | cons i is ih =>
    intro A B h
    cases A with
    | nil => rfl
    | cons c A =>
      simp only [put]
      rw [ih A _ (fun q => h (List.mem_cons_of_mem _ q)), List.getElem?_set_ne (fun (e : i = k) => h (by rw [e]; exact List.mem_cons_self))]
theorem put_in {r : List Nat} : ∀ (is : List Nat) (A B : AH), is.Nodup → ∀ (j k : Nat) (c : AC), is[j]? = some k → A[j]? = some c → k < B.length → (put r is A B)[k]? = some (renC r c) := by
  intro is
  induction is with
  | nil => intro A B _ j k c h; simp at h
  | cons i is ih =>
    intro A B hn j k c h1 h2 h3
    obtain ⟨hn1, hn2⟩ := List.nodup_cons.mp hn
    cases A with
    | nil => simp at h2
    | cons c0 A =>
      simp only [put]
      cases j with
      | zero =>
        simp at h1 h2
        subst h1; subst h2
        rw [put_out is A _ hn1, List.getElem?_set_self h3]
      | succ j =>
        simp at h1 h2
        exact ih A _ hn2 j k c h1 h2 (by rw [List.length_set]; exact h3)
theorem nd_of {l : List Nat} (h : va_nd l = true) : l.Nodup := by
  induction l with
  | nil => exact List.nodup_nil
  | cons a l ih =>
    simp only [va_nd, Bool.and_eq_true] at h
    refine List.nodup_cons.mpr ⟨?_, ih h.2⟩
    have h1 := h.1
    intro hm
    simp [hm] at h1
theorem Sx.nar {g : GG} {A B : Nat → Prop} {s : State} (h : Sx g A s) (hAB : ∀ q, B q → A q) : Sx g B s :=
  ⟨h.1, h.2.1, h.2.2.1.narrow hAB, h.2.2.2.1.narrow hAB, h.2.2.2.2.narrow hAB⟩
theorem Ev.fr {g : GG} {me : ME} {vs : List AV} {A B : AH} {Q Q' : Option AV → AH → Prop} (is : List Nat) (h : Ev g me vs A Q) (hnd : va_nd is = true) (hbd : is.length ≤ 1000) (hB : is.map (fun i => B[i]?) = A.map (fun c => some (renC is c)))
    (hq : ∀ r A', A'.length = A.length → Q r A' → Q' (r.map (renV is)) (put is is A' B)) : Ev g me (vs.map (renV is)) B Q' := by
  have hlen : is.length = A.length := by have := congrArg List.length hB; simpa using this
  have hN := nd_of hnd
  have atB : ∀ (j : Nat) (c : AC), A[j]? = some c → ∃ k : Nat, is[j]? = some k ∧ B[k]? = some (renC is c) := by
    intro j c hc
    have h1 : (is.map (fun i => B[i]?))[j]? = some (some (renC is c)) := by rw [hB, List.getElem?_map, hc]; rfl
    rw [List.getElem?_map] at h1
    cases hi : is[j]? with
    | none => rw [hi] at h1; cases h1
    | some k => rw [hi] at h1; exact ⟨k, rfl, Option.some.inj h1⟩
  have renAt : ∀ (j k : Nat), is[j]? = some k → ren is j = k := by
    intro j k hj
    unfold ren
    rw [List.getD_eq_getElem?_getD, hj]
    rfl
  have isA : ∀ (j : Nat), j < A.length → ∃ c, A[j]? = some c := fun j hj => ⟨A[j], List.getElem?_eq_getElem hj⟩
  intro ad sz hi hs
  have hAA : ∀ q, AA (fun k => ad (ren is k)) A.length sz q → AA ad B.length sz q := by
    rintro q (⟨j, h1, h2⟩ | h1)
    · obtain ⟨c, hc⟩ := isA j h1
      obtain ⟨k, k1, k2⟩ := atB j c hc
      refine Or.inl ⟨k, (List.getElem?_eq_some_iff.mp k2).1, ?_⟩
      rw [h2]
      show ad (ren is j) = ad k
      rw [renAt j k k1]
    · exact Or.inr h1
  have hi' : inj (fun k => ad (ren is k)) A.length := by
    intro i j h1 h2 h3
    obtain ⟨c1, hc1⟩ := isA i h1
    obtain ⟨c2, hc2⟩ := isA j h2
    obtain ⟨k1, a1, b1⟩ := atB i c1 hc1
    obtain ⟨k2, a2, b2⟩ := atB j c2 hc2
    have h3 : ad (ren is i) = ad (ren is j) := h3
    rw [renAt i k1 a1, renAt j k2 a2] at h3
    have e := hi k1 k2 (List.getElem?_eq_some_iff.mp b1).1 (List.getElem?_eq_some_iff.mp b2).1 h3
    subst e
    exact va_nd_inj is hnd i j k1 a1 a2
  have hs' : okS g (fun k => ad (ren is k)) := by
    intro i hi2
    have : ren is (1000 + i) = 1000 + i := by
      unfold ren
      rw [List.getD_eq_getElem?_getD, List.getElem?_eq_none (by omega)]
      rfl
    show ad (ren is (1000 + i)) = _
    rw [this]
    exact hs i hi2
  intro p e ha hc hk s m args below hf happ hP hK
  obtain ⟨p0, p1, p2, p3, p4⟩ := hP
  have hP' : PcE g (fun k => ad (ren is k)) sz vs A args s := by
    refine ⟨?_, p1, ?_, p3, ?_⟩
    · rw [p0, List.map_map]
      congr 1
      apply List.map_congr_left
      intro v _
      exact cv_ren v
    · intro j q hq2
      obtain ⟨c, c1, rfl⟩ := wm_of hq2
      obtain ⟨k, k1, k2⟩ := atB j c c1
      have := p2 k _ (wm_at k2)
      rw [ce_ren] at this
      show va_at _ _ (ad (ren is j), _) _
      rw [renAt j k k1]
      exact this
    · exact p4.nar hAA
  obtain ⟨n, o, h1, h2, h3, ⟨⟨r, A', b1, b2, b3, b4⟩, hF⟩, L, h5, h6⟩ := h _ sz hi' hs' p e ha hc hk s m args below hf happ hP' hK
  refine ⟨n, o, h1, h2, h3, ⟨⟨r.map (renV is), put is is A' B, ?_, hq r A' b3 b2, put_len _ _ _, ?_⟩, ?_⟩, L, h5, fun q hq2 => hAA _ (h6 q hq2)⟩
  · rw [b1]
    cases r with
    | none => rfl
    | some v => show Outcome.returned (some _) = Outcome.returned (some _); rw [cv_ren]
  · intro k q hq2
    obtain ⟨c, c1, rfl⟩ := wm_of hq2
    have hkB : k < B.length := by have := (List.getElem?_eq_some_iff.mp c1).1; rwa [put_len] at this
    by_cases hin : k ∈ is
    · obtain ⟨j, hj⟩ := List.getElem?_of_mem hin
      have hjA : j < A'.length := by rw [b3, ← hlen]; exact (List.getElem?_eq_some_iff.mp hj).1
      have hc' : A'[j]? = some A'[j] := List.getElem?_eq_getElem hjA
      have e1 := put_in (r := is) is A' B hN j k _ hj hc' hkB
      have e2 : c = renC is A'[j] := Option.some.inj (c1.symm.trans e1)
      have e3 := b4 j _ (wm_at hc')
      rw [e2]
      show va_at _ _ (ad k, ce ad _ (renC is A'[j])) _
      rw [ce_ren, ← renAt j k hj]
      exact e3
    · rw [put_out is A' B hin] at c1
      have hat := p2 k _ (wm_at c1)
      refine hat.kept ?_
      have hlt : ad k < s.heap.size := hat.lt
      refine hF.2 _ hlt ?_
      rintro (⟨j, j1, j2⟩ | j1)
      · obtain ⟨c2, hc2⟩ := isA j j1
        obtain ⟨k2, k3, k4⟩ := atB j c2 hc2
        have j2 : ad k = ad (ren is j) := j2
        rw [renAt j k2 k3] at j2
        have := hi k k2 hkB (List.getElem?_eq_some_iff.mp k4).1 j2
        subst this
        exact hin (List.mem_of_getElem? k3)
      · exact absurd hlt (by have : s.heap.size ≤ ad k := j1; omega)
  · rw [p1] at hF ⊢
    exact ⟨hF.1, fun q h1 h2 => hF.2 q h1 (fun z => h2 (by rw [p1] at *; exact hAA q z))⟩
end
section
/-! what an instruction asks: a program's text as a proposition -/
/-- pc, length, instruction, target (or the default's), constant, a switch's targets -/
abbrev En : Type := Nat × Nat × Instr × Nat × Int32 × List Nat
/-- (index, class, slot, kind: 0 int, 1 boolean, 2 not to be put) -/
abbrev FT : Type := List (Nat × Nat × Nat × Nat)
/-- (index, kind: 0 virtual, 1 static, 2 static of a nest mate, 3 arraycopy; number of arguments; the method) -/
abbrev IT : Type := List (Nat × Nat × Nat × ME)
/-- a class' tables: fields, methods, ints, longs, Strings -/
abbrev CT : Type := FT × IT × List (Nat × Int32) × List (Nat × Int64) × List (Nat × Nat)
def lk {α : Type} : List (Nat × α) → Nat → Option α
  | [], _ => none
  | q :: r, i => bif Nat.beq q.1 i then some q.2 else lk r i
theorem lk_mem {α : Type} : ∀ (l : List (Nat × α)) (i : Nat) (x : α), lk l i = some x → (i, x) ∈ l := by
  intro l
  induction l with
  | nil => intro i x h; cases h
  | cons q r ih =>
    intro i x h
    simp only [lk] at h
    cases hb : Nat.beq q.1 i with
    | true =>
      rw [hb] at h
      have e1 := Nat.eq_of_beq_eq_true hb
      have e2 : q.2 = x := Option.some.inj h
      rw [← e1, ← e2]
      exact List.mem_cons_self
    | false =>
      rw [hb] at h
      exact List.mem_cons_of_mem _ (ih i x h)
abbrev KK : Type := Nat → List (Option AV) → List AV → AH → Prop
/-- a switch over targets from i on -/
def swc (k : Nat → Prop) (x : Int32) : Nat → List Nat → Nat → Prop
  | _, [], d => k d
  | i, t :: r, d => (x = nI i → k t) ∧ (¬ x = nI i → swc k x (i + 1) r d)
def top1 (v : Option AV) : Bool := !(isL v)
def stp (g : GG) (M : ME) (Q : Option AV → AH → Prop) (E : List En) (T : CT) (K : KK) (pc : Nat) (lv : List (Option AV)) (st : List AV) (A : AH) : Prop :=
  match lk E pc with
  | none => False
  | some (len, ins, tg, x, tl) =>
    match ins with
    | .iconst _ => K (pc + 1) lv (vi x :: st) A
    | .bipush _ => K (pc + 2) lv (vi x :: st) A
    | .sipush _ => K (pc + 3) lv (vi x :: st) A
    | .lconst n => K (pc + 1) lv (vl (lN n)  :: st) A
    | .ldc i => match lk T.2.2.1 i with
      | some y => K (pc + 2) lv (vi y :: st) A
      | none => match lk T.2.2.2.2 i with
        | some q => K (pc + 2) lv (vr (1000 + q) :: st) A
        | none => False
    | .ldc2_w i => match lk T.2.2.2.1 i with
      | some y => K (pc + 3) lv (vl y :: st) A
      | none => False
    | .iload_n n => match lv[(n : Nat)]? with
      | some (some (.inl y)) => K (pc + 1) lv (vi y :: st) A
      | _ => False
    | .iload n => match lv[n]? with
      | some (some (.inl y)) => K (pc + 2) lv (vi y :: st) A
      | _ => False
    | .lload_n n => match lv[(n : Nat)]? with
      | some (some (.inr (.inl y))) => K (pc + 1) lv (vl y :: st) A
      | _ => False
    | .lload n => match lv[n]? with
      | some (some (.inr (.inl y))) => K (pc + 2) lv (vl y :: st) A
      | _ => False
    | .aload_n n => match lv[(n : Nat)]? with
      | some (some (.inr (.inr y))) => K (pc + 1) lv (vr y :: st) A
      | _ => False
    | .aload n => match lv[n]? with
      | some (some (.inr (.inr y))) => K (pc + 2) lv (vr y :: st) A
      | _ => False
    | .istore_n n => match st with
      | .inl y :: r => bif Nat.blt n M.2.2.1 && okSt lv n then K (pc + 1) (lv.set n (some (vi y))) r A else False
      | _ => False
    | .istore n => match st with
      | .inl y :: r => bif Nat.blt n M.2.2.1 && okSt lv n then K (pc + 2) (lv.set n (some (vi y))) r A else False
      | _ => False
    | .astore_n n => match st with
      | .inr (.inr y) :: r => bif Nat.blt n M.2.2.1 && okSt lv n then K (pc + 1) (lv.set n (some (vr y))) r A else False
      | _ => False
    | .astore n => match st with
      | .inr (.inr y) :: r => bif Nat.blt n M.2.2.1 && okSt lv n then K (pc + 2) (lv.set n (some (vr y))) r A else False
      | _ => False
    | .lstore n => match st with
      | .inr (.inl y) :: r => bif Nat.blt (n + 1) M.2.2.1 && okSt lv n then K (pc + 2) ((lv.set n (some (vl y))).set (n + 1) none) r A else False
      | _ => False
    | .iinc n _ => match lv[n]? with
      | some (some (.inl y)) => bif Nat.blt n M.2.2.1 && okSt lv n then K (pc + 3) (lv.set n (some (vi (y + x)))) st A else False
      | _ => False
    | .iadd => match st with
      | .inl z :: .inl y :: r => K (pc + 1) lv (vi (y + z) :: r) A
      | _ => False
    | .isub => match st with
      | .inl z :: .inl y :: r => K (pc + 1) lv (vi (y - z) :: r) A
      | _ => False
    | .imul => match st with
      | .inl z :: .inl y :: r => K (pc + 1) lv (vi (y * z) :: r) A
      | _ => False
    | .iand => match st with
      | .inl z :: .inl y :: r => K (pc + 1) lv (vi (y &&& z) :: r) A
      | _ => False
    | .ishr => match st with
      | .inl z :: .inl y :: r => K (pc + 1) lv (vi (y >>> (z &&& 31)) :: r) A
      | _ => False
    | .iushr => match st with
      | .inl z :: .inl y :: r => K (pc + 1) lv (vi (y.toUInt32 >>> (z.toUInt32 &&& Int32.toUInt32 31)).toInt32 :: r) A
      | _ => False
    | .idiv => match st with
      | .inl z :: .inl y :: r => ¬ z = 0 ∧ K (pc + 1) lv (vi (y / z) :: r) A
      | _ => False
    | .irem => match st with
      | .inl z :: .inl y :: r => ¬ z = 0 ∧ K (pc + 1) lv (vi (y - y / z * z) :: r) A
      | _ => False
    | .ladd => match st with
      | .inr (.inl z) :: .inr (.inl y) :: r => K (pc + 1) lv (vl (y + z) :: r) A
      | _ => False
    | .lcmp => match st with
      | .inr (.inl z) :: .inr (.inl y) :: r => K (pc + 1) lv (vi (lg_cmp y z) :: r) A
      | _ => False
    | .i2l => match st with
      | .inl y :: r => K (pc + 1) lv (vl y.toInt64 :: r) A
      | _ => False
    | .l2i => match st with
      | .inr (.inl y) :: r => K (pc + 1) lv (vi y.toInt32 :: r) A
      | _ => False
    | .i2b => match st with
      | .inl y :: r => K (pc + 1) lv (vi y.toInt8.toInt32 :: r) A
      | _ => False
    | .i2s => match st with
      | .inl y :: r => K (pc + 1) lv (vi y.toInt16.toInt32 :: r) A
      | _ => False
    | .dup => match st with
      | v :: r => bif isL (some v) then False else K (pc + 1) lv (v :: v :: r) A
      | _ => False
    | .pop => match st with
      | v :: r => bif isL (some v) then False else K (pc + 1) lv r A
      | _ => False
    | .dup2 => match st with
      | v :: w :: r => bif isL (some v) || isL (some w) then False else K (pc + 1) lv (v :: w :: v :: w :: r) A
      | _ => False
    | .goto _ => K tg lv st A
    | .ifCond o _ => match st with
      | .inl y :: r => (cnd o y 0 → K tg lv r A) ∧ (¬ cnd o y 0 → K (pc + 3) lv r A)
      | _ => False
    | .if_icmp o _ => match st with
      | .inl z :: .inl y :: r => (cnd o y z → K tg lv r A) ∧ (¬ cnd o y z → K (pc + 3) lv r A)
      | _ => False
    | .tableswitch _ lo hi _ => match st with
      | .inl y :: r => swc (fun t => K t lv r A) y lo.toNat tl tg
      | _ => False
    | .iaload => match st with
      | .inl i :: .inr (.inr q) :: r => match A[q]? with
        | some (.inl (0, n, f)) => vp_in i n ∧ K (pc + 1) lv (vi (f i.toNatClampNeg) :: r) A
        | _ => False
      | _ => False
    | .baload => match st with
      | .inl i :: .inr (.inr q) :: r => match A[q]? with
        | some (.inl (1, n, f)) => vp_in i n ∧ K (pc + 1) lv (vi (f i.toNatClampNeg) :: r) A
        | _ => False
      | _ => False
    | .aaload => match st with
      | .inl i :: .inr (.inr q) :: r => match A[q]? with
        | some (.inr (.inl (t, n, f))) => (t = 2 ∨ t = 3) ∧ vp_in i n ∧ K (pc + 1) lv (vr (f i.toNatClampNeg) :: r) A
        | _ => False
      | _ => False
    | .iastore => match st with
      | .inl y :: .inl i :: .inr (.inr q) :: r => match A[q]? with
        | some (.inl (0, n, f)) => vp_in i n ∧ K (pc + 1) lv r (A.set q (ar 0 n (upd f i.toNatClampNeg y)))
        | _ => False
      | _ => False
    | .bastore => match st with
      | .inl y :: .inl i :: .inr (.inr q) :: r => match A[q]? with
        | some (.inl (1, n, f)) => vp_in i n ∧ (y = 0 ∨ y = 1) ∧ K (pc + 1) lv r (A.set q (ar 1 n (upd f i.toNatClampNeg y)))
        | _ => False
      | _ => False
    | .getfield i => match lk T.1 i with
      | some (ci, k, _) => match st with
        | .inr (.inr q) :: r => match A[q]? with
          | some (.inr (.inr (cj, fs))) => bif Nat.beq cj ci then (match fs[k]? with
            | some v => K (pc + 3) lv (v :: r) A
            | none => False) else False
          | _ => False
        | _ => False
      | none => False
    | .putfield i => match lk T.1 i with
      | some (ci, k, ty) => match st with
        | .inl y :: .inr (.inr q) :: r => match A[q]? with
          | some (.inr (.inr (cj, fs))) => bif Nat.beq cj ci && Nat.blt k fs.length then (match ty with
            | 0 => K (pc + 3) lv r (A.set q (ob ci (fs.set k (vi y))))
            | 1 => (y = 0 ∨ y = 1) ∧ K (pc + 3) lv r (A.set q (ob ci (fs.set k (vi y))))
            | _ => False) else False
          | _ => False
        | _ => False
      | none => False
    | .ireturn => match st with
      | [.inl y] => (match M.2.2.2.1 with
        | some .int => Q (some (vi y)) A
        | some .boolean => (y = 0 ∨ y = 1) ∧ Q (some (vi y)) A
        | _ => False)
      | _ => False
    | .return_ => match st with
      | [] => (match M.2.2.2.1 with
        | none => Q none A
        | _ => False)
      | _ => False
    | .invokevirtual i => match lk T.2.1 i with
      | some (0, n, me) => match st.drop n with
        | .inr (.inr q) :: r => match A[q]? with
          | some (.inr (.inr (ci, fs))) => bif Nat.blt me.2.2.2.2 M.2.2.2.2 && Nat.ble (cats r) 8 then
              ((vwCl[ci]?).map (fun r => r.1) = some me.1.cls ∧ Ev g me (.inr (.inr q) :: (st.take n).reverse) A (fun v A' => K (pc + 3) lv (v.toList ++ r) A')) else False
          | _ => False
        | _ => False
      | _ => False
    | .invokestatic i => match lk T.2.1 i with
      | some (1, n, me) => bif Nat.ble n st.length && Nat.blt me.2.2.2.2 M.2.2.2.2 && Nat.ble (cats (st.drop n)) 8 then
          Ev g me (st.take n).reverse A (fun v A' => K (pc + 3) lv (v.toList ++ st.drop n) A') else False
      | some (2, n, me) => bif Nat.ble n st.length && Nat.blt me.2.2.2.2 M.2.2.2.2 && Nat.ble (cats (st.drop n)) 8 then
          Ev g me (st.take n).reverse A (fun v A' => K (pc + 3) lv (v.toList ++ st.drop n) A') else False
      | some (3, _, _) => match st with
        | .inl n :: .inl dp :: .inr (.inr q1) :: .inl sp :: .inr (.inr q0) :: r => match A[q0]? with
          | some (.inl (0, n0, f)) => match A[q1]? with
            | some (.inl (0, n1, f1)) => bif Nat.blt 0 M.2.2.2.2 && Nat.ble (cats r) 8 then
              (¬ sp < 0 ∧ ¬ dp < 0 ∧ ¬ n < 0 ∧ sp.toNatClampNeg + n.toNatClampNeg ≤ n0 ∧ dp.toNatClampNeg + n.toNatClampNeg ≤ n1 ∧ K (pc + 3) lv r (A.set q1 (ar 0 n1 (va_cpy f f1 sp.toNatClampNeg dp.toNatClampNeg n.toNatClampNeg)))) else False
            | _ => False
          | _ => False
        | _ => False
      | _ => False
    | _ => False
/-- so many steps at most, none at a pc of cuts -/
def wpz (g : GG) (M : ME) (Q : Option AV → AH → Prop) (E : List En) (T : CT) (cuts : List Nat) (K : KK) : Nat → KK
  | 0 => K
  | n + 1 => fun pc lv st A => bif cuts.contains pc then K pc lv st A else stp g M Q E T (wpz g M Q E T cuts K n) pc lv st A
end
section
/-! the walk follows what the text asks -/
def ln : Instr → Nat
  | .iconst _ => 1 | .bipush _ => 2 | .sipush _ => 3 | .lconst _ => 1 | .ldc _ => 2 | .ldc2_w _ => 3
  | .iload _ => 2 | .lload _ => 2 | .aload _ => 2 | .istore _ => 2 | .astore _ => 2 | .lstore _ => 2 | .iinc _ _ => 3
  | .goto _ => 3 | .ifCond _ _ => 3 | .if_icmp _ _ => 3 | .getfield _ => 3 | .putfield _ => 3 | .invokevirtual _ => 3 | .invokestatic _ => 3
  | .tableswitch _ _ _ _ => 0
  | _ => 1
def chk (pc len : Nat) (ins : Instr) (tg : Nat) (x : Int32) (tl : List Nat) : Bool :=
  (ln ins == 0 || len == ln ins) && match ins with
  | .iconst n => Int32.ofInt n == x
  | .bipush n => (Int8.ofInt n).toInt32 == x
  | .sipush n => (Int16.ofInt n).toInt32 == x
  | .iinc _ n => Int32.ofInt n == x
  | .goto off => (pc : Int) + off == (tg : Int)
  | .ifCond _ off => (pc : Int) + off == (tg : Int)
  | .if_icmp _ off => (pc : Int) + off == (tg : Int)
  | .tableswitch d lo hi offs => decide (0 ≤ lo) && decide (hi < 1000) && (hi == lo + (tl.length : Int) - 1) && ((pc : Int) + d == (tg : Int)) && (offs.toList.map (fun o => (pc : Int) + o) == tl.map (fun (t : Nat) => (t : Int)))
  | _ => true
def okE (b : ByteArray) (E : List En) : Prop := ∀ q ∈ E, decode b q.1 = .ok (q.2.2.1, q.2.1) ∧ chk q.1 q.2.1 q.2.2.1 q.2.2.2.1 q.2.2.2.2.1 q.2.2.2.2.2 = true
def okIv (cls : String) (q : Nat × Nat × Nat × ME) : Prop :=
  (q.2.1 = 0 → Cond.methodLink cls q.1 q.2.2.2.1 ∈ wsG ∧ okV q.2.2.2 q.2.2.1) ∧
  (q.2.1 = 1 → Cond.methodLink cls q.1 q.2.2.2.1 ∈ wsG ∧ okT q.2.2.2 q.2.2.1 ∧ q.2.2.2.1.cls = cls) ∧
  (q.2.1 = 2 → ((cls = RX3 ∧ q.1 = 106 ∨ cls = RX5 ∧ q.1 = 54) ∧ q.2.2.2.1 = yX9_isColour) ∧ okT q.2.2.2 q.2.2.1) ∧
  (q.2.1 = 3 → Cond.methodLink cls q.1 arraycopyName ∈ wsG ∧ Cond.native arraycopyName ∈ wsG ∧ Cond.static arraycopyName ∈ wsG ∧ Cond.initialized "java/lang/System" ∈ wsG)
def okF (cls : String) (q : Nat × Nat × Nat × Nat) : Prop := FLk cls q.1 q.2.1 q.2.2.1 ∧ (q.2.2.2 = 0 → FPk cls q.1 q.2.1 q.2.2.1 .int) ∧ (q.2.2.2 = 1 → FPk cls q.1 q.2.1 q.2.2.1 .boolean)
def okCT (cls : String) (T : CT) : Prop := (∀ q ∈ T.1, okF cls q) ∧ (∀ q ∈ T.2.1, okIv cls q) ∧ (∀ q ∈ T.2.2.1, Cond.constant cls q.1 q.2 ∈ wsG) ∧ (∀ q ∈ T.2.2.2.1, Cond.constantLong cls q.1 q.2 ∈ wsG) ∧ (∀ q ∈ T.2.2.2.2, cls = RX3 ∧ (q = (60, 0) ∨ q = (69, 1)))
section SND
variable {g : GG} {M : ME} {N : Nat} {Q : Option AV → AH → Prop} {pc : Nat} {lv : List (Option AV)} {st : List AV} {A : AH}
theorem Z_ldcS {i q : Nat} (hd : decode M.2.1 pc = .ok (.ldc i, 2)) (hw : M.1.cls = RX3 ∧ ((i, q) = (60, 0) ∨ (i, q) = (69, 1))) (k : Z g M N Q (pc + 2) lv (vr (1000 + q) :: st) A) : Z g M N Q pc lv st A := by
  intro ad p e s m args below meth c C H locs ls hP hS hN hl
  have hk := k ad p e s m args below meth c C H locs ls hP hS hN hl
  have hsx := C.2.2.2.2.2.2.2.2.1.2.1
  have hos := C.2.2.2.2.2.2.2.2.2.2
  obtain ⟨h1, h2⟩ := hw
  have ho := C.2.2.2.2.1
  rw [h1] at ho
  rcases h2 with h2 | h2 <;> cases h2
  · have e := hos 0 (by decide)
    refine va_ldcS C.1 C.2.1 ho hsx.1 hd ?_
    rw [← e]; exact hk
  · have e := hos 1 (by decide)
    refine va_ldcS C.1 C.2.1 ho hsx.2 hd ?_
    rw [← e]; exact hk
theorem Z_sw {d lo hi : Int} {offs : Array Int} {len tg : Nat} {tl : List Nat} {x : Int32} (hd : decode M.2.1 pc = .ok (.tableswitch d lo hi offs, len)) (h0 : 0 ≤ lo) (h9 : hi < 1000) (h1 : hi = lo + (tl.length : Int) - 1) (h2 : (pc : Int) + d = (tg : Int)) (h3 : offs.toList.map (fun o => (pc : Int) + o) = tl.map (fun (t : Nat) => (t : Int)))
    (k : ∀ t, (∃ i : Nat, tl[i]? = some t ∧ x = nI (lo.toNat + i)) → Z g M N Q t lv st A) (kd : (∀ i : Nat, i < tl.length → ¬ x = nI (lo.toNat + i)) → Z g M N Q tg lv st A) : Z g M N Q pc lv (vi x :: st) A := by
  intro ad p e s m args below meth c C H locs ls hP hS hN hl
  by_cases hin : x.toInt < lo ∨ hi < x.toInt
  · refine lv_tableOut C.1 C.2.1 hd hin h2 (kd (fun i hi2 he => ?_) ad p e s m args below meth c C H locs ls hP hS hN hl)
    rw [he, nI_toInt (by omega)] at hin
    omega
  · have hin1 : ¬ x.toInt < lo := fun h => hin (Or.inl h)
    have hin2 : ¬ hi < x.toInt := fun h => hin (Or.inr h)
    have hlen : (x.toInt - lo).toNat < tl.length := by omega
    obtain ⟨t, ht⟩ : ∃ t, tl[(x.toInt - lo).toNat]? = some t := ⟨_, List.getElem?_eq_getElem hlen⟩
    have h4 : (offs.toList.map (fun o => (pc : Int) + o))[(x.toInt - lo).toNat]? = some (t : Int) := by rw [h3, List.getElem?_map, ht]; rfl
    rw [List.getElem?_map, Array.getElem?_toList] at h4
    cases ho : offs[(x.toInt - lo).toNat]? with
    | none => rw [ho] at h4; cases h4
    | some o =>
      rw [ho] at h4
      refine lv_tableIn C.1 C.2.1 hd hin1 hin2 ho (Option.some.inj h4) (k t ⟨_, ht, ?_⟩ ad p e s m args below meth c C H locs ls hP hS hN hl)
      apply Int32.toInt_inj.mp
      rw [nI_toInt (by omega)]
      omega
theorem swc_in {k : Nat → Prop} {x : Int32} : ∀ (tl : List Nat) (i d : Nat), swc k x i tl d → (∀ t, (∃ j : Nat, tl[j]? = some t ∧ x = nI (i + j) ∧ ∀ j', j' < j → ¬ x = nI (i + j')) → k t) ∧ ((∀ j : Nat, j < tl.length → ¬ x = nI (i + j)) → k d) := by
  intro tl
  induction tl with
  | nil => intro i d h; exact ⟨fun t ⟨j, h1, _⟩ => by simp at h1, fun _ => h⟩
  | cons a r ih =>
    intro i d h
    obtain ⟨h1, h2⟩ := h
    refine ⟨?_, fun h3 => ?_⟩
    · rintro t ⟨j, h3, h4, h5⟩
      cases j with
      | zero => simp at h3; subst h3; exact h1 h4
      | succ j =>
        have hx := h5 0 (by omega)
        refine (ih (i + 1) d (h2 hx)).1 t ⟨j, by simpa using h3, by rw [h4]; congr 1; omega, fun j' hj' => ?_⟩
        have := h5 (j' + 1) (by omega)
        rwa [show i + 1 + j' = i + (j' + 1) by omega]
    · have hx := h3 0 (by simp)
      refine (ih (i + 1) d (h2 hx)).2 (fun j hj => ?_)
      have := h3 (j + 1) (by simp; omega)
      rwa [show i + 1 + j = i + (j + 1) by omega]
end SND
theorem bif_f {b : Bool} {P : Prop} (h : bif b then P else False) : b = true ∧ P := by
  cases b with
  | true => exact ⟨rfl, h⟩
  | false => exact h.elim
theorem bif_n {b : Bool} {P : Prop} (h : bif b then False else P) : b = false ∧ P := by
  cases b with
  | false => exact ⟨rfl, h⟩
  | true => exact h.elim
theorem blt_lt {a b : Nat} (h : Nat.blt a b = true) : a < b := Nat.le_of_ble_eq_true h
set_option maxHeartbeats 4000000 in
theorem stp_sound {g : GG} {M : ME} {N : Nat} {Q : Option AV → AH → Prop} {E : List En} {T : CT} {K : KK} (hE : okE M.2.1 E) (hT : okCT M.1.cls T) (hK : ∀ pc lv st A, K pc lv st A → Z g M N Q pc lv st A) (pc : Nat) (lv : List (Option AV)) (st : List AV) (A : AH) (h : stp g M Q E T K pc lv st A) : Z g M N Q pc lv st A := by
  unfold stp at h
  cases hl : lk E pc with
  | none => rw [hl] at h; exact h.elim
  | some w =>
    obtain ⟨len, ins, tg, x, tl⟩ := w
    rw [hl] at h
    have hm := lk_mem _ _ _ hl
    obtain ⟨hd, hc⟩ := hE _ hm
    dsimp only at hd hc h
    unfold chk at hc
    rw [Bool.and_eq_true] at hc
    obtain ⟨hc1, hc2⟩ := hc
    cases ins
    case iconst n =>
      obtain rfl : len = 1 := by simpa [ln] using hc1
      exact Z_iconst hd (by simpa using hc2) (hK _ _ _ _ h)
    case bipush n =>
      obtain rfl : len = 2 := by simpa [ln] using hc1
      exact Z_bipush hd (by simpa using hc2) (hK _ _ _ _ h)
    case sipush n =>
      obtain rfl : len = 3 := by simpa [ln] using hc1
      exact Z_sipush hd (by simpa using hc2) (hK _ _ _ _ h)
    case lconst n =>
      obtain rfl : len = 1 := by simpa [ln] using hc1
      exact Z_lconst hd rfl (hK _ _ _ _ h)
    case ldc i =>
      obtain rfl : len = 2 := by simpa [ln] using hc1
      dsimp only at h
      split at h
      · rename_i y hy
        exact Z_ldc hd (hT.2.2.1 _ (lk_mem _ _ _ hy)) (hK _ _ _ _ h)
      · split at h
        · rename_i q hq
          exact Z_ldcS hd (hT.2.2.2.2 _ (lk_mem _ _ _ hq)) (hK _ _ _ _ h)
        · exact h.elim
    case ldc2_w i =>
      obtain rfl : len = 3 := by simpa [ln] using hc1
      dsimp only at h
      split at h
      · rename_i y hy
        exact Z_ldc2 hd (hT.2.2.2.1 _ (lk_mem _ _ _ hy)) (hK _ _ _ _ h)
      · exact h.elim
    case iload_n n =>
      obtain rfl : len = 1 := by simpa [ln] using hc1
      dsimp only at h
      split at h
      · rename_i y hy
        exact Z_iload_n hd hy (hK _ _ _ _ h)
      · exact h.elim
    case iload n =>
      obtain rfl : len = 2 := by simpa [ln] using hc1
      dsimp only at h
      split at h
      · rename_i y hy
        exact Z_iload hd hy (hK _ _ _ _ h)
      · exact h.elim
    case lload_n n =>
      obtain rfl : len = 1 := by simpa [ln] using hc1
      dsimp only at h
      split at h
      · rename_i y hy
        exact Z_lload_n hd hy (hK _ _ _ _ h)
      · exact h.elim
    case lload n =>
      obtain rfl : len = 2 := by simpa [ln] using hc1
      dsimp only at h
      split at h
      · rename_i y hy
        exact Z_lload hd hy (hK _ _ _ _ h)
      · exact h.elim
    case aload_n n =>
      obtain rfl : len = 1 := by simpa [ln] using hc1
      dsimp only at h
      split at h
      · rename_i y hy
        exact Z_aload_n hd hy (hK _ _ _ _ h)
      · exact h.elim
    case aload n =>
      obtain rfl : len = 2 := by simpa [ln] using hc1
      dsimp only at h
      split at h
      · rename_i y hy
        exact Z_aload hd hy (hK _ _ _ _ h)
      · exact h.elim
    case istore_n n =>
      obtain rfl : len = 1 := by simpa [ln] using hc1
      dsimp only at h
      split at h
      · obtain ⟨hb, h⟩ := bif_f h
        rw [Bool.and_eq_true] at hb
        exact Z_istore_n hd (blt_lt hb.1) hb.2 (hK _ _ _ _ h)
      · exact h.elim
    case istore n =>
      obtain rfl : len = 2 := by simpa [ln] using hc1
      dsimp only at h
      split at h
      · obtain ⟨hb, h⟩ := bif_f h
        rw [Bool.and_eq_true] at hb
        exact Z_istore hd (blt_lt hb.1) hb.2 (hK _ _ _ _ h)
      · exact h.elim
    case astore_n n =>
      obtain rfl : len = 1 := by simpa [ln] using hc1
      dsimp only at h
      split at h
      · obtain ⟨hb, h⟩ := bif_f h
        rw [Bool.and_eq_true] at hb
        exact Z_astore_n hd (blt_lt hb.1) hb.2 (hK _ _ _ _ h)
      · exact h.elim
    case astore n =>
      obtain rfl : len = 2 := by simpa [ln] using hc1
      dsimp only at h
      split at h
      · obtain ⟨hb, h⟩ := bif_f h
        rw [Bool.and_eq_true] at hb
        exact Z_astore hd (blt_lt hb.1) hb.2 (hK _ _ _ _ h)
      · exact h.elim
    case lstore n =>
      obtain rfl : len = 2 := by simpa [ln] using hc1
      dsimp only at h
      split at h
      · obtain ⟨hb, h⟩ := bif_f h
        rw [Bool.and_eq_true] at hb
        exact Z_lstore hd (blt_lt hb.1) hb.2 (hK _ _ _ _ h)
      · exact h.elim
    case iinc i n =>
      obtain rfl : len = 3 := by simpa [ln] using hc1
      dsimp only at h
      split at h
      · rename_i y hy
        obtain ⟨hb, h⟩ := bif_f h
        rw [Bool.and_eq_true] at hb
        exact Z_iinc hd hy (by simpa using hc2) (blt_lt hb.1) hb.2 (hK _ _ _ _ h)
      · exact h.elim
    case iadd =>
      obtain rfl : len = 1 := by simpa [ln] using hc1
      dsimp only at h
      split at h
      · exact Z_iadd hd (hK _ _ _ _ h)
      · exact h.elim
    case isub =>
      obtain rfl : len = 1 := by simpa [ln] using hc1
      dsimp only at h
      split at h
      · exact Z_isub hd (hK _ _ _ _ h)
      · exact h.elim
    case imul =>
      obtain rfl : len = 1 := by simpa [ln] using hc1
      dsimp only at h
      split at h
      · exact Z_imul hd (hK _ _ _ _ h)
      · exact h.elim
    case iand =>
      obtain rfl : len = 1 := by simpa [ln] using hc1
      dsimp only at h
      split at h
      · exact Z_iand hd (hK _ _ _ _ h)
      · exact h.elim
    case ishr =>
      obtain rfl : len = 1 := by simpa [ln] using hc1
      dsimp only at h
      split at h
      · exact Z_ishr hd (hK _ _ _ _ h)
      · exact h.elim
    case iushr =>
      obtain rfl : len = 1 := by simpa [ln] using hc1
      dsimp only at h
      split at h
      · exact Z_iushr hd (hK _ _ _ _ h)
      · exact h.elim
    case ladd =>
      obtain rfl : len = 1 := by simpa [ln] using hc1
      dsimp only at h
      split at h
      · exact Z_ladd hd (hK _ _ _ _ h)
      · exact h.elim
    case lcmp =>
      obtain rfl : len = 1 := by simpa [ln] using hc1
      dsimp only at h
      split at h
      · exact Z_lcmp hd (hK _ _ _ _ h)
      · exact h.elim
    case i2l =>
      obtain rfl : len = 1 := by simpa [ln] using hc1
      dsimp only at h
      split at h
      · exact Z_i2l hd (hK _ _ _ _ h)
      · exact h.elim
    case l2i =>
      obtain rfl : len = 1 := by simpa [ln] using hc1
      dsimp only at h
      split at h
      · exact Z_l2i hd (hK _ _ _ _ h)
      · exact h.elim
    case i2b =>
      obtain rfl : len = 1 := by simpa [ln] using hc1
      dsimp only at h
      split at h
      · exact Z_i2b hd (hK _ _ _ _ h)
      · exact h.elim
    case i2s =>
      obtain rfl : len = 1 := by simpa [ln] using hc1
      dsimp only at h
      split at h
      · exact Z_i2s hd (hK _ _ _ _ h)
      · exact h.elim
    case idiv =>
      obtain rfl : len = 1 := by simpa [ln] using hc1
      dsimp only at h
      split at h
      · exact Z_idiv hd h.1 (hK _ _ _ _ h.2)
      · exact h.elim
    case irem =>
      obtain rfl : len = 1 := by simpa [ln] using hc1
      dsimp only at h
      split at h
      · exact Z_irem hd h.1 (hK _ _ _ _ h.2)
      · exact h.elim
    case dup =>
      obtain rfl : len = 1 := by simpa [ln] using hc1
      dsimp only at h
      split at h
      · obtain ⟨hb, h⟩ := bif_n h
        exact Z_dup hd hb (hK _ _ _ _ h)
      · exact h.elim
    case pop =>
      obtain rfl : len = 1 := by simpa [ln] using hc1
      dsimp only at h
      split at h
      · obtain ⟨hb, h⟩ := bif_n h
        exact Z_pop hd hb (hK _ _ _ _ h)
      · exact h.elim
    case dup2 =>
      obtain rfl : len = 1 := by simpa [ln] using hc1
      dsimp only at h
      split at h
      · obtain ⟨hb, h⟩ := bif_n h
        rw [Bool.or_eq_false_iff] at hb
        exact Z_dup2 hd hb.1 hb.2 (hK _ _ _ _ h)
      · exact h.elim
    case goto off =>
      obtain rfl : len = 3 := by simpa [ln] using hc1
      exact Z_goto hd (by simpa using hc2) (hK _ _ _ _ h)
    case ifCond o off =>
      obtain rfl : len = 3 := by simpa [ln] using hc1
      dsimp only at h
      split at h
      · exact Z_if hd (by simpa using hc2) (fun q => hK _ _ _ _ (h.1 q)) (fun q => hK _ _ _ _ (h.2 q))
      · exact h.elim
    case if_icmp o off =>
      obtain rfl : len = 3 := by simpa [ln] using hc1
      dsimp only at h
      split at h
      · exact Z_icmp hd (by simpa using hc2) (fun q => hK _ _ _ _ (h.1 q)) (fun q => hK _ _ _ _ (h.2 q))
      · exact h.elim
    case tableswitch d lo hi offs =>
      dsimp only at h hc2
      simp only [Bool.and_eq_true, decide_eq_true_eq, beq_iff_eq] at hc2
      obtain ⟨⟨⟨⟨c1, c2⟩, c3⟩, c4⟩, c5⟩ := hc2
      split at h
      · rename_i y r
        obtain ⟨s1, s2⟩ := swc_in tl lo.toNat tg h
        refine Z_sw hd c1 c2 c3 c4 c5 (fun t ht => hK _ _ _ _ (s1 t ?_)) (fun hh => hK _ _ _ _ (s2 hh))
        obtain ⟨i, i1, i2⟩ := ht
        refine ⟨i, i1, i2, fun j hj he => ?_⟩
        have hi : i < tl.length := (List.getElem?_eq_some_iff.mp i1).1
        rw [i2] at he
        have := (nI_eq (by omega) (by omega)).mp he
        omega
      · exact h.elim
    case iaload =>
      obtain rfl : len = 1 := by simpa [ln] using hc1
      dsimp only at h
      split at h
      · split at h
        · rename_i hq
          exact Z_iaload hd hq h.1 (hK _ _ _ _ h.2)
        · exact h.elim
      · exact h.elim
    case baload =>
      obtain rfl : len = 1 := by simpa [ln] using hc1
      dsimp only at h
      split at h
      · split at h
        · rename_i hq
          exact Z_baload hd hq h.1 (hK _ _ _ _ h.2)
        · exact h.elim
      · exact h.elim
    case aaload =>
      obtain rfl : len = 1 := by simpa [ln] using hc1
      dsimp only at h
      split at h
      · split at h
        · rename_i hq
          exact Z_aaload hd hq h.1 h.2.1 (hK _ _ _ _ h.2.2)
        · exact h.elim
      · exact h.elim
    case iastore =>
      obtain rfl : len = 1 := by simpa [ln] using hc1
      dsimp only at h
      split at h
      · split at h
        · rename_i hq
          exact Z_iastore hd hq h.1 (hK _ _ _ _ h.2)
        · exact h.elim
      · exact h.elim
    case bastore =>
      obtain rfl : len = 1 := by simpa [ln] using hc1
      dsimp only at h
      split at h
      · split at h
        · rename_i hq
          exact Z_bastore hd hq h.1 h.2.1 (hK _ _ _ _ h.2.2)
        · exact h.elim
      · exact h.elim
    case getfield i =>
      obtain rfl : len = 3 := by simpa [ln] using hc1
      dsimp only at h
      split at h
      · rename_i ci k ty hf
        split at h
        · split at h
          · rename_i cj fs hq
            obtain ⟨hb, h2⟩ := bif_f h
            clear h
            have h := h2
            clear h2
            have e := Nat.eq_of_beq_eq_true hb
            subst e
            split at h
            · rename_i v hv
              exact Z_getfield hd (hT.1 _ (lk_mem _ _ _ hf)).1 hq hv (hK _ _ _ _ h)
            · exact h.elim
          · exact h.elim
        · exact h.elim
      · exact h.elim
    case putfield i =>
      obtain rfl : len = 3 := by simpa [ln] using hc1
      dsimp only at h
      split at h
      · rename_i ci k ty hf
        split at h
        · split at h
          · rename_i cj fs hq
            obtain ⟨hb, h⟩ := bif_f h
            rw [Bool.and_eq_true] at hb
            have e := Nat.eq_of_beq_eq_true hb.1
            subst e
            split at h
            · exact Z_put hd ((hT.1 _ (lk_mem _ _ _ hf)).2.1 rfl) hq (blt_lt hb.2) (hK _ _ _ _ h)
            · exact Z_putz hd ((hT.1 _ (lk_mem _ _ _ hf)).2.2 rfl) hq (blt_lt hb.2) h.1 (hK _ _ _ _ h.2)
            · exact h.elim
          · exact h.elim
        · exact h.elim
      · exact h.elim
    case ireturn =>
      obtain rfl : len = 1 := by simpa [ln] using hc1
      dsimp only at h
      split at h
      · split at h
        · rename_i hr
          exact Z_ireturn hd hr rfl h
        · rename_i hr
          exact Z_ireturn hd hr (z01 h.1).1 h.2
        · exact h.elim
      · exact h.elim
    case return_ =>
      obtain rfl : len = 1 := by simpa [ln] using hc1
      dsimp only at h
      split at h
      · split at h
        · rename_i hr
          exact Z_return hd hr h
        · exact h.elim
      · exact h.elim
    case invokevirtual i =>
      obtain rfl : len = 3 := by simpa [ln] using hc1
      dsimp only at h
      split at h
      · rename_i n me hi
        split at h
        · rename_i q r hst
          split at h
          · rename_i ci fs hq
            obtain ⟨hb, h1, h2⟩ := bif_f h
            rw [Bool.and_eq_true] at hb
            obtain ⟨hv1, -⟩ := hT.2.1 _ (lk_mem _ _ _ hi)
            obtain ⟨hv2, hv3⟩ := hv1 rfl
            have hlen : n < st.length := by
              rcases Nat.lt_or_ge n st.length with q1 | q1
              · exact q1
              · rw [List.drop_eq_nil_of_le q1] at hst; cases hst
            have e : st = (st.take n).reverse.reverse ++ .inr (.inr q) :: r := by rw [List.reverse_reverse, ← hst, List.take_append_drop]
            have := Z_callV (N := N) (vs := (st.take n).reverse) (rest := r) hd hv2 hv3 (blt_lt hb.1) hq h1 (by simp; omega) (Nat.le_of_ble_eq_true hb.2) (h2.mono (fun v A' _ h9 => hK _ _ _ _ h9))
            rw [← e] at this
            exact this
          · exact h.elim
        · exact h.elim
      · exact h.elim
    case invokestatic i =>
      obtain rfl : len = 3 := by simpa [ln] using hc1
      dsimp only at h
      split at h
      · rename_i n me hi
        obtain ⟨hb, h1⟩ := bif_f h
        rw [Bool.and_eq_true, Bool.and_eq_true] at hb
        obtain ⟨-, hv1, -⟩ := hT.2.1 _ (lk_mem _ _ _ hi)
        obtain ⟨hv2, hv3, hv4⟩ := hv1 rfl
        have hlen := Nat.le_of_ble_eq_true hb.1.1
        have e : st = (st.take n).reverse.reverse ++ st.drop n := by rw [List.reverse_reverse, List.take_append_drop]
        have := Z_callS (N := N) (vs := (st.take n).reverse) (rest := st.drop n) hd hv2 hv3 hv4 (blt_lt hb.1.2) (by simp; omega) (Nat.le_of_ble_eq_true hb.2) (h1.mono (fun v A' _ h9 => hK _ _ _ _ h9))
        rw [← e] at this
        exact this
      · rename_i n me hi
        obtain ⟨hb, h1⟩ := bif_f h
        rw [Bool.and_eq_true, Bool.and_eq_true] at hb
        obtain ⟨-, -, hv1, -⟩ := hT.2.1 _ (lk_mem _ _ _ hi)
        obtain ⟨hv2, hv3⟩ := hv1 rfl
        have hlen := Nat.le_of_ble_eq_true hb.1.1
        have e : st = (st.take n).reverse.reverse ++ st.drop n := by rw [List.reverse_reverse, List.take_append_drop]
        have := Z_callN (N := N) (vs := (st.take n).reverse) (rest := st.drop n) hd hv2 hv3 (blt_lt hb.1.2) (by simp; omega) (Nat.le_of_ble_eq_true hb.2) (h1.mono (fun v A' _ h9 => hK _ _ _ _ h9))
        rw [← e] at this
        exact this
      · rename_i hi
        obtain ⟨-, -, -, hv1⟩ := hT.2.1 _ (lk_mem _ _ _ hi)
        obtain ⟨v1, v2, v3, v4⟩ := hv1 rfl
        split at h
        · split at h
          · rename_i ha0
            split at h
            · rename_i ha1
              obtain ⟨hb, h1, h2, h3, h4, h5, h6⟩ := bif_f h
              rw [Bool.and_eq_true] at hb
              exact Z_acopy hd v1 v2 v3 v4 (blt_lt hb.1) ha0 ha1 h1 h2 h3 h4 h5 (Nat.le_of_ble_eq_true hb.2) (hK _ _ _ _ h6)
            · exact h.elim
          · exact h.elim
        · exact h.elim
      · exact h.elim
    all_goals exact h.elim
theorem wpz_sound {g : GG} {M : ME} {N : Nat} {Q : Option AV → AH → Prop} {E : List En} {T : CT} {cuts : List Nat} (hE : okE M.2.1 E) (hT : okCT M.1.cls T) : ∀ (n pc : Nat) (lv : List (Option AV)) (st : List AV) (A : AH), wpz g M Q E T cuts (Z g M N Q) n pc lv st A → Z g M N Q pc lv st A := by
  intro n
  induction n with
  | zero => intro pc lv st A h; exact h
  | succ n ih =>
    intro pc lv st A h
    simp only [wpz] at h
    cases hc : cuts.contains pc with
    | true => rw [hc] at h; exact h
    | false => rw [hc] at h; exact stp_sound hE hT ih pc lv st A h
/-- from pc on: one step, then up to n more -/
theorem Z_go {g : GG} {M : ME} {N : Nat} {Q : Option AV → AH → Prop} {E : List En} {T : CT} (hE : okE M.2.1 E) (hT : okCT M.1.cls T) (cuts : List Nat) (n : Nat) {pc : Nat} {lv : List (Option AV)} {st : List AV} {A : AH} (h : stp g M Q E T (wpz g M Q E T cuts (Z g M N Q) n) pc lv st A) : Z g M N Q pc lv st A :=
  stp_sound hE hT (wpz_sound hE hT n) pc lv st A h
end
