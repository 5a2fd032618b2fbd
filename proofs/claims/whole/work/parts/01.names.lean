-- the tables' words (begun from the skeleton), names of classes, fields and methods: written by gen01.py
/-- a private method of a class that the tables say can be made, by its rows of tables_1 -/
def lw_okq (q : MethodName × Nat) : Prop := (q.1.cls ≠ "java/lang/invoke/MethodHandle" ∧ q.1.cls ≠ "java/lang/invoke/VarHandle") ∧ Cond.instantiable q.1.cls q.2 ∈ tables_1 ∧ Cond.privateMethod q.1 ∈ tables_1 ∧ Cond.instanceMethod q.1 ∈ tables_1
theorem lw_p0 : lw_okq (⟨"TextIndices", "languageOf", "(I)LTextIndices$Language;"⟩, 7) := ⟨⟨by decide +kernel, by decide +kernel⟩, List.mem_of_getElem? (i := 23) (by decide +kernel), List.mem_of_getElem? (i := 265) (by decide +kernel), List.mem_of_getElem? (i := 266) (by decide +kernel)⟩
theorem lw_p1 : lw_okq (⟨"TextIndices$Tape", "keepWord", "(II)V"⟩, 6) := ⟨⟨by decide +kernel, by decide +kernel⟩, List.mem_of_getElem? (i := 31) (by decide +kernel), List.mem_of_getElem? (i := 284) (by decide +kernel), List.mem_of_getElem? (i := 285) (by decide +kernel)⟩
theorem lw_p2 : lw_okq (⟨"TextIndices$Tape", "hasWord", "(I)Z"⟩, 6) := ⟨⟨by decide +kernel, by decide +kernel⟩, List.mem_of_getElem? (i := 31) (by decide +kernel), List.mem_of_getElem? (i := 312) (by decide +kernel), List.mem_of_getElem? (i := 313) (by decide +kernel)⟩
theorem lw_p3 : lw_okq (⟨"TextIndices", "takeFirstWord", "()J"⟩, 7) := ⟨⟨by decide +kernel, by decide +kernel⟩, List.mem_of_getElem? (i := 23) (by decide +kernel), List.mem_of_getElem? (i := 422) (by decide +kernel), List.mem_of_getElem? (i := 423) (by decide +kernel)⟩
theorem lw_p4 : lw_okq (⟨"TextIndices", "tell", "(J)I"⟩, 7) := ⟨⟨by decide +kernel, by decide +kernel⟩, List.mem_of_getElem? (i := 23) (by decide +kernel), List.mem_of_getElem? (i := 427) (by decide +kernel), List.mem_of_getElem? (i := 428) (by decide +kernel)⟩
theorem lw_p5 : lw_okq (⟨"TextIndices$Question", "skipBlanks", "()V"⟩, 9) := ⟨⟨by decide +kernel, by decide +kernel⟩, List.mem_of_getElem? (i := 122) (by decide +kernel), List.mem_of_getElem? (i := 444) (by decide +kernel), List.mem_of_getElem? (i := 445) (by decide +kernel)⟩
theorem lw_p6 : lw_okq (⟨"TextIndices$Question", "readPart", "()Z"⟩, 9) := ⟨⟨by decide +kernel, by decide +kernel⟩, List.mem_of_getElem? (i := 122) (by decide +kernel), List.mem_of_getElem? (i := 450) (by decide +kernel), List.mem_of_getElem? (i := 451) (by decide +kernel)⟩
theorem lw_p7 : lw_okq (⟨"TextIndices$Question", "readPhrase", "(Z)Z"⟩, 9) := ⟨⟨by decide +kernel, by decide +kernel⟩, List.mem_of_getElem? (i := 122) (by decide +kernel), List.mem_of_getElem? (i := 454) (by decide +kernel), List.mem_of_getElem? (i := 455) (by decide +kernel)⟩
theorem lw_p8 : lw_okq (⟨"java/util/ArrayList", "add", "(Ljava/lang/Object;[Ljava/lang/Object;I)V"⟩, 3) := ⟨⟨by decide +kernel, by decide +kernel⟩, List.mem_of_getElem? (i := 128) (by decide +kernel), List.mem_of_getElem? (i := 491) (by decide +kernel), List.mem_of_getElem? (i := 492) (by decide +kernel)⟩
theorem lw_p9 : lw_okq (⟨"java/util/ArrayList", "grow", "()[Ljava/lang/Object;"⟩, 3) := ⟨⟨by decide +kernel, by decide +kernel⟩, List.mem_of_getElem? (i := 128) (by decide +kernel), List.mem_of_getElem? (i := 495) (by decide +kernel), List.mem_of_getElem? (i := 496) (by decide +kernel)⟩
theorem lw_p10 : lw_okq (⟨"java/util/ArrayList", "grow", "(I)[Ljava/lang/Object;"⟩, 3) := ⟨⟨by decide +kernel, by decide +kernel⟩, List.mem_of_getElem? (i := 128) (by decide +kernel), List.mem_of_getElem? (i := 499) (by decide +kernel), List.mem_of_getElem? (i := 500) (by decide +kernel)⟩
theorem lw_p11 : lw_okq (⟨"TextIndices$Question", "readWord", "()J"⟩, 9) := ⟨⟨by decide +kernel, by decide +kernel⟩, List.mem_of_getElem? (i := 122) (by decide +kernel), List.mem_of_getElem? (i := 539) (by decide +kernel), List.mem_of_getElem? (i := 540) (by decide +kernel)⟩
theorem lw_p12 : lw_okq (⟨"TextIndices$Question", "seek", "(J)V"⟩, 9) := ⟨⟨by decide +kernel, by decide +kernel⟩, List.mem_of_getElem? (i := 122) (by decide +kernel), List.mem_of_getElem? (i := 545) (by decide +kernel), List.mem_of_getElem? (i := 546) (by decide +kernel)⟩
theorem lw_p13 : lw_okq (⟨"TextIndices$Question", "soughtBy", "(LTextIndices$Part;)J"⟩, 9) := ⟨⟨by decide +kernel, by decide +kernel⟩, List.mem_of_getElem? (i := 122) (by decide +kernel), List.mem_of_getElem? (i := 581) (by decide +kernel), List.mem_of_getElem? (i := 582) (by decide +kernel)⟩
theorem lw_p14 : lw_okq (⟨"TextIndices$Question", "hasTerm", "(J)Z"⟩, 9) := ⟨⟨by decide +kernel, by decide +kernel⟩, List.mem_of_getElem? (i := 122) (by decide +kernel), List.mem_of_getElem? (i := 585) (by decide +kernel), List.mem_of_getElem? (i := 586) (by decide +kernel)⟩
theorem lw_p15 : lw_okq (⟨"TextIndices$Question", "isPartAnsweredBy", "(LTextIndices$Part;LTextIndices$Shelf;I)Z"⟩, 9) := ⟨⟨by decide +kernel, by decide +kernel⟩, List.mem_of_getElem? (i := 122) (by decide +kernel), List.mem_of_getElem? (i := 607) (by decide +kernel), List.mem_of_getElem? (i := 608) (by decide +kernel)⟩
def lw_privs_1 : List (MethodName × Nat) := [(⟨"TextIndices", "languageOf", "(I)LTextIndices$Language;"⟩, 7), (⟨"TextIndices$Tape", "keepWord", "(II)V"⟩, 6), (⟨"TextIndices$Tape", "hasWord", "(I)Z"⟩, 6), (⟨"TextIndices", "takeFirstWord", "()J"⟩, 7), (⟨"TextIndices", "tell", "(J)I"⟩, 7), (⟨"TextIndices$Question", "skipBlanks", "()V"⟩, 9), (⟨"TextIndices$Question", "readPart", "()Z"⟩, 9), (⟨"TextIndices$Question", "readPhrase", "(Z)Z"⟩, 9), (⟨"java/util/ArrayList", "add", "(Ljava/lang/Object;[Ljava/lang/Object;I)V"⟩, 3), (⟨"java/util/ArrayList", "grow", "()[Ljava/lang/Object;"⟩, 3), (⟨"java/util/ArrayList", "grow", "(I)[Ljava/lang/Object;"⟩, 3), (⟨"TextIndices$Question", "readWord", "()J"⟩, 9), (⟨"TextIndices$Question", "seek", "(J)V"⟩, 9), (⟨"TextIndices$Question", "soughtBy", "(LTextIndices$Part;)J"⟩, 9), (⟨"TextIndices$Question", "hasTerm", "(J)Z"⟩, 9), (⟨"TextIndices$Question", "isPartAnsweredBy", "(LTextIndices$Part;LTextIndices$Shelf;I)Z"⟩, 9)]
theorem lw_r1 : ∀ q ∈ lw_privs_1, lw_okq q := List.forall_mem_cons.mpr ⟨lw_p0, List.forall_mem_cons.mpr ⟨lw_p1, List.forall_mem_cons.mpr ⟨lw_p2, List.forall_mem_cons.mpr ⟨lw_p3, List.forall_mem_cons.mpr ⟨lw_p4, List.forall_mem_cons.mpr ⟨lw_p5, List.forall_mem_cons.mpr ⟨lw_p6, List.forall_mem_cons.mpr ⟨lw_p7, List.forall_mem_cons.mpr ⟨lw_p8, List.forall_mem_cons.mpr ⟨lw_p9, List.forall_mem_cons.mpr ⟨lw_p10, List.forall_mem_cons.mpr ⟨lw_p11, List.forall_mem_cons.mpr ⟨lw_p12, List.forall_mem_cons.mpr ⟨lw_p13, List.forall_mem_cons.mpr ⟨lw_p14, List.forall_mem_cons.mpr ⟨lw_p15, fun _ h => absurd h List.not_mem_nil⟩⟩⟩⟩⟩⟩⟩⟩⟩⟩⟩⟩⟩⟩⟩⟩
theorem lw_p16 : lw_okq (⟨"TextIndices$Shelf", "standsAt", "(I[JII)Z"⟩, 10) := ⟨⟨by decide +kernel, by decide +kernel⟩, List.mem_of_getElem? (i := 84) (by decide +kernel), List.mem_of_getElem? (i := 615) (by decide +kernel), List.mem_of_getElem? (i := 616) (by decide +kernel)⟩
theorem lw_p17 : lw_okq (⟨"TextIndices$Answers", "has", "(I)Z"⟩, 3) := ⟨⟨by decide +kernel, by decide +kernel⟩, List.mem_of_getElem? (i := 182) (by decide +kernel), List.mem_of_getElem? (i := 649) (by decide +kernel), List.mem_of_getElem? (i := 650) (by decide +kernel)⟩
theorem lw_p18 : lw_okq (⟨"TextIndices$Likes", "offer", "(JI)V"⟩, 7) := ⟨⟨by decide +kernel, by decide +kernel⟩, List.mem_of_getElem? (i := 198) (by decide +kernel), List.mem_of_getElem? (i := 683) (by decide +kernel), List.mem_of_getElem? (i := 684) (by decide +kernel)⟩
theorem lw_p19 : lw_okq (⟨"TextIndices$Likes", "holds", "(J)Z"⟩, 7) := ⟨⟨by decide +kernel, by decide +kernel⟩, List.mem_of_getElem? (i := 198) (by decide +kernel), List.mem_of_getElem? (i := 687) (by decide +kernel), List.mem_of_getElem? (i := 688) (by decide +kernel)⟩
theorem lw_p20 : lw_okq (⟨"TextIndices$Likes", "changesNeeded", "(I)I"⟩, 7) := ⟨⟨by decide +kernel, by decide +kernel⟩, List.mem_of_getElem? (i := 198) (by decide +kernel), List.mem_of_getElem? (i := 691) (by decide +kernel), List.mem_of_getElem? (i := 692) (by decide +kernel)⟩
theorem lw_p21 : lw_okq (⟨"TextIndices$Likes", "insert", "(JI)V"⟩, 7) := ⟨⟨by decide +kernel, by decide +kernel⟩, List.mem_of_getElem? (i := 198) (by decide +kernel), List.mem_of_getElem? (i := 696) (by decide +kernel), List.mem_of_getElem? (i := 697) (by decide +kernel)⟩
theorem lw_p22 : lw_okq (⟨"TextIndices$Likes", "standsBefore", "(JII)Z"⟩, 7) := ⟨⟨by decide +kernel, by decide +kernel⟩, List.mem_of_getElem? (i := 198) (by decide +kernel), List.mem_of_getElem? (i := 700) (by decide +kernel), List.mem_of_getElem? (i := 701) (by decide +kernel)⟩
theorem lw_p23 : lw_okq (⟨"TextIndices$Shelf", "countNewStems", "(II)I"⟩, 10) := ⟨⟨by decide +kernel, by decide +kernel⟩, List.mem_of_getElem? (i := 84) (by decide +kernel), List.mem_of_getElem? (i := 756) (by decide +kernel), List.mem_of_getElem? (i := 757) (by decide +kernel)⟩
theorem lw_p24 : lw_okq (⟨"TextIndices$Shelf", "hasEarlier", "(III)Z"⟩, 10) := ⟨⟨by decide +kernel, by decide +kernel⟩, List.mem_of_getElem? (i := 84) (by decide +kernel), List.mem_of_getElem? (i := 760) (by decide +kernel), List.mem_of_getElem? (i := 761) (by decide +kernel)⟩
theorem lw_p25 : lw_okq (⟨"TextIndicesModel", "readWords", "()V"⟩, 33) := ⟨⟨by decide +kernel, by decide +kernel⟩, List.mem_of_getElem? (i := 764) (by decide +kernel), List.mem_of_getElem? (i := 883) (by decide +kernel), List.mem_of_getElem? (i := 884) (by decide +kernel)⟩
theorem lw_p26 : lw_okq (⟨"TextIndicesModel", "add", "(II)V"⟩, 33) := ⟨⟨by decide +kernel, by decide +kernel⟩, List.mem_of_getElem? (i := 764) (by decide +kernel), List.mem_of_getElem? (i := 890) (by decide +kernel), List.mem_of_getElem? (i := 891) (by decide +kernel)⟩
theorem lw_p27 : lw_okq (⟨"TextIndicesModel", "isStop", "(II)Z"⟩, 33) := ⟨⟨by decide +kernel, by decide +kernel⟩, List.mem_of_getElem? (i := 764) (by decide +kernel), List.mem_of_getElem? (i := 894) (by decide +kernel), List.mem_of_getElem? (i := 895) (by decide +kernel)⟩
theorem lw_p28 : lw_okq (⟨"TextIndicesModel", "same", "(II)Z"⟩, 33) := ⟨⟨by decide +kernel, by decide +kernel⟩, List.mem_of_getElem? (i := 764) (by decide +kernel), List.mem_of_getElem? (i := 898) (by decide +kernel), List.mem_of_getElem? (i := 899) (by decide +kernel)⟩
theorem lw_p29 : lw_okq (⟨"TextIndicesModel", "byteOf", "(II)I"⟩, 33) := ⟨⟨by decide +kernel, by decide +kernel⟩, List.mem_of_getElem? (i := 764) (by decide +kernel), List.mem_of_getElem? (i := 902) (by decide +kernel), List.mem_of_getElem? (i := 903) (by decide +kernel)⟩
theorem lw_p30 : lw_okq (⟨"TextIndicesModel", "copy", "(II)V"⟩, 33) := ⟨⟨by decide +kernel, by decide +kernel⟩, List.mem_of_getElem? (i := 764) (by decide +kernel), List.mem_of_getElem? (i := 906) (by decide +kernel), List.mem_of_getElem? (i := 907) (by decide +kernel)⟩
theorem lw_p31 : lw_okq (⟨"TextIndicesModel", "stemTo", "(III)V"⟩, 33) := ⟨⟨by decide +kernel, by decide +kernel⟩, List.mem_of_getElem? (i := 764) (by decide +kernel), List.mem_of_getElem? (i := 921) (by decide +kernel), List.mem_of_getElem? (i := 922) (by decide +kernel)⟩
def lw_privs_2 : List (MethodName × Nat) := [(⟨"TextIndices$Shelf", "standsAt", "(I[JII)Z"⟩, 10), (⟨"TextIndices$Answers", "has", "(I)Z"⟩, 3), (⟨"TextIndices$Likes", "offer", "(JI)V"⟩, 7), (⟨"TextIndices$Likes", "holds", "(J)Z"⟩, 7), (⟨"TextIndices$Likes", "changesNeeded", "(I)I"⟩, 7), (⟨"TextIndices$Likes", "insert", "(JI)V"⟩, 7), (⟨"TextIndices$Likes", "standsBefore", "(JII)Z"⟩, 7), (⟨"TextIndices$Shelf", "countNewStems", "(II)I"⟩, 10), (⟨"TextIndices$Shelf", "hasEarlier", "(III)Z"⟩, 10), (⟨"TextIndicesModel", "readWords", "()V"⟩, 33), (⟨"TextIndicesModel", "add", "(II)V"⟩, 33), (⟨"TextIndicesModel", "isStop", "(II)Z"⟩, 33), (⟨"TextIndicesModel", "same", "(II)Z"⟩, 33), (⟨"TextIndicesModel", "byteOf", "(II)I"⟩, 33), (⟨"TextIndicesModel", "copy", "(II)V"⟩, 33), (⟨"TextIndicesModel", "stemTo", "(III)V"⟩, 33)]
theorem lw_r2 : ∀ q ∈ lw_privs_2, lw_okq q := List.forall_mem_cons.mpr ⟨lw_p16, List.forall_mem_cons.mpr ⟨lw_p17, List.forall_mem_cons.mpr ⟨lw_p18, List.forall_mem_cons.mpr ⟨lw_p19, List.forall_mem_cons.mpr ⟨lw_p20, List.forall_mem_cons.mpr ⟨lw_p21, List.forall_mem_cons.mpr ⟨lw_p22, List.forall_mem_cons.mpr ⟨lw_p23, List.forall_mem_cons.mpr ⟨lw_p24, List.forall_mem_cons.mpr ⟨lw_p25, List.forall_mem_cons.mpr ⟨lw_p26, List.forall_mem_cons.mpr ⟨lw_p27, List.forall_mem_cons.mpr ⟨lw_p28, List.forall_mem_cons.mpr ⟨lw_p29, List.forall_mem_cons.mpr ⟨lw_p30, List.forall_mem_cons.mpr ⟨lw_p31, fun _ h => absurd h List.not_mem_nil⟩⟩⟩⟩⟩⟩⟩⟩⟩⟩⟩⟩⟩⟩⟩⟩
theorem lw_p32 : lw_okq (⟨"TextIndicesModel", "ends", "(II)Z"⟩, 33) := ⟨⟨by decide +kernel, by decide +kernel⟩, List.mem_of_getElem? (i := 764) (by decide +kernel), List.mem_of_getElem? (i := 925) (by decide +kernel), List.mem_of_getElem? (i := 926) (by decide +kernel)⟩
theorem lw_p33 : lw_okq (⟨"TextIndicesModel", "show", "(I)I"⟩, 33) := ⟨⟨by decide +kernel, by decide +kernel⟩, List.mem_of_getElem? (i := 764) (by decide +kernel), List.mem_of_getElem? (i := 929) (by decide +kernel), List.mem_of_getElem? (i := 930) (by decide +kernel)⟩
theorem lw_p34 : lw_okq (⟨"TextIndicesModel", "wordsOf", "(I)I"⟩, 33) := ⟨⟨by decide +kernel, by decide +kernel⟩, List.mem_of_getElem? (i := 764) (by decide +kernel), List.mem_of_getElem? (i := 941) (by decide +kernel), List.mem_of_getElem? (i := 942) (by decide +kernel)⟩
theorem lw_p35 : lw_okq (⟨"TextIndicesModel", "isText", "(I)Z"⟩, 33) := ⟨⟨by decide +kernel, by decide +kernel⟩, List.mem_of_getElem? (i := 764) (by decide +kernel), List.mem_of_getElem? (i := 949) (by decide +kernel), List.mem_of_getElem? (i := 950) (by decide +kernel)⟩
theorem lw_p36 : lw_okq (⟨"TextIndicesModel", "isFirst", "(III)Z"⟩, 33) := ⟨⟨by decide +kernel, by decide +kernel⟩, List.mem_of_getElem? (i := 764) (by decide +kernel), List.mem_of_getElem? (i := 965) (by decide +kernel), List.mem_of_getElem? (i := 966) (by decide +kernel)⟩
theorem lw_p37 : lw_okq (⟨"TextIndicesModel", "hasAt", "(IIIZ)Z"⟩, 33) := ⟨⟨by decide +kernel, by decide +kernel⟩, List.mem_of_getElem? (i := 764) (by decide +kernel), List.mem_of_getElem? (i := 969) (by decide +kernel), List.mem_of_getElem? (i := 970) (by decide +kernel)⟩
theorem lw_p38 : lw_okq (⟨"TextIndicesModel", "beginsSo", "(II)Z"⟩, 33) := ⟨⟨by decide +kernel, by decide +kernel⟩, List.mem_of_getElem? (i := 764) (by decide +kernel), List.mem_of_getElem? (i := 973) (by decide +kernel), List.mem_of_getElem? (i := 974) (by decide +kernel)⟩
theorem lw_p39 : lw_okq (⟨"TextIndicesModel", "readQuestion", "()I"⟩, 33) := ⟨⟨by decide +kernel, by decide +kernel⟩, List.mem_of_getElem? (i := 764) (by decide +kernel), List.mem_of_getElem? (i := 981) (by decide +kernel), List.mem_of_getElem? (i := 982) (by decide +kernel)⟩
theorem lw_p40 : lw_okq (⟨"TextIndicesModel", "skip", "()V"⟩, 33) := ⟨⟨by decide +kernel, by decide +kernel⟩, List.mem_of_getElem? (i := 764) (by decide +kernel), List.mem_of_getElem? (i := 985) (by decide +kernel), List.mem_of_getElem? (i := 986) (by decide +kernel)⟩
theorem lw_p41 : lw_okq (⟨"TextIndicesModel", "here", "()I"⟩, 33) := ⟨⟨by decide +kernel, by decide +kernel⟩, List.mem_of_getElem? (i := 764) (by decide +kernel), List.mem_of_getElem? (i := 989) (by decide +kernel), List.mem_of_getElem? (i := 990) (by decide +kernel)⟩
theorem lw_p42 : lw_okq (⟨"TextIndicesModel", "isPart", "()Z"⟩, 33) := ⟨⟨by decide +kernel, by decide +kernel⟩, List.mem_of_getElem? (i := 764) (by decide +kernel), List.mem_of_getElem? (i := 993) (by decide +kernel), List.mem_of_getElem? (i := 994) (by decide +kernel)⟩
theorem lw_p43 : lw_okq (⟨"TextIndicesModel", "isLetter", "()Z"⟩, 33) := ⟨⟨by decide +kernel, by decide +kernel⟩, List.mem_of_getElem? (i := 764) (by decide +kernel), List.mem_of_getElem? (i := 997) (by decide +kernel), List.mem_of_getElem? (i := 998) (by decide +kernel)⟩
theorem lw_p44 : lw_okq (⟨"TextIndicesModel", "need", "(Z)V"⟩, 33) := ⟨⟨by decide +kernel, by decide +kernel⟩, List.mem_of_getElem? (i := 764) (by decide +kernel), List.mem_of_getElem? (i := 1001) (by decide +kernel), List.mem_of_getElem? (i := 1002) (by decide +kernel)⟩
theorem lw_p45 : lw_okq (⟨"TextIndicesModel", "readPart", "(I)V"⟩, 33) := ⟨⟨by decide +kernel, by decide +kernel⟩, List.mem_of_getElem? (i := 764) (by decide +kernel), List.mem_of_getElem? (i := 1005) (by decide +kernel), List.mem_of_getElem? (i := 1006) (by decide +kernel)⟩
theorem lw_p46 : lw_okq (⟨"TextIndicesModel", "readWord", "()V"⟩, 33) := ⟨⟨by decide +kernel, by decide +kernel⟩, List.mem_of_getElem? (i := 764) (by decide +kernel), List.mem_of_getElem? (i := 1009) (by decide +kernel), List.mem_of_getElem? (i := 1010) (by decide +kernel)⟩
theorem lw_p47 : lw_okq (⟨"TextIndicesModel", "countStems", "(I)I"⟩, 33) := ⟨⟨by decide +kernel, by decide +kernel⟩, List.mem_of_getElem? (i := 764) (by decide +kernel), List.mem_of_getElem? (i := 1013) (by decide +kernel), List.mem_of_getElem? (i := 1014) (by decide +kernel)⟩
def lw_privs_3 : List (MethodName × Nat) := [(⟨"TextIndicesModel", "ends", "(II)Z"⟩, 33), (⟨"TextIndicesModel", "show", "(I)I"⟩, 33), (⟨"TextIndicesModel", "wordsOf", "(I)I"⟩, 33), (⟨"TextIndicesModel", "isText", "(I)Z"⟩, 33), (⟨"TextIndicesModel", "isFirst", "(III)Z"⟩, 33), (⟨"TextIndicesModel", "hasAt", "(IIIZ)Z"⟩, 33), (⟨"TextIndicesModel", "beginsSo", "(II)Z"⟩, 33), (⟨"TextIndicesModel", "readQuestion", "()I"⟩, 33), (⟨"TextIndicesModel", "skip", "()V"⟩, 33), (⟨"TextIndicesModel", "here", "()I"⟩, 33), (⟨"TextIndicesModel", "isPart", "()Z"⟩, 33), (⟨"TextIndicesModel", "isLetter", "()Z"⟩, 33), (⟨"TextIndicesModel", "need", "(Z)V"⟩, 33), (⟨"TextIndicesModel", "readPart", "(I)V"⟩, 33), (⟨"TextIndicesModel", "readWord", "()V"⟩, 33), (⟨"TextIndicesModel", "countStems", "(I)I"⟩, 33)]
theorem lw_r3 : ∀ q ∈ lw_privs_3, lw_okq q := List.forall_mem_cons.mpr ⟨lw_p32, List.forall_mem_cons.mpr ⟨lw_p33, List.forall_mem_cons.mpr ⟨lw_p34, List.forall_mem_cons.mpr ⟨lw_p35, List.forall_mem_cons.mpr ⟨lw_p36, List.forall_mem_cons.mpr ⟨lw_p37, List.forall_mem_cons.mpr ⟨lw_p38, List.forall_mem_cons.mpr ⟨lw_p39, List.forall_mem_cons.mpr ⟨lw_p40, List.forall_mem_cons.mpr ⟨lw_p41, List.forall_mem_cons.mpr ⟨lw_p42, List.forall_mem_cons.mpr ⟨lw_p43, List.forall_mem_cons.mpr ⟨lw_p44, List.forall_mem_cons.mpr ⟨lw_p45, List.forall_mem_cons.mpr ⟨lw_p46, List.forall_mem_cons.mpr ⟨lw_p47, fun _ h => absurd h List.not_mem_nil⟩⟩⟩⟩⟩⟩⟩⟩⟩⟩⟩⟩⟩⟩⟩⟩
theorem lw_p48 : lw_okq (⟨"TextIndicesModel", "isAsked", "(III)Z"⟩, 33) := ⟨⟨by decide +kernel, by decide +kernel⟩, List.mem_of_getElem? (i := 764) (by decide +kernel), List.mem_of_getElem? (i := 1017) (by decide +kernel), List.mem_of_getElem? (i := 1018) (by decide +kernel)⟩
theorem lw_p49 : lw_okq (⟨"TextIndicesModel", "answersRow", "(II)Z"⟩, 33) := ⟨⟨by decide +kernel, by decide +kernel⟩, List.mem_of_getElem? (i := 764) (by decide +kernel), List.mem_of_getElem? (i := 1021) (by decide +kernel), List.mem_of_getElem? (i := 1022) (by decide +kernel)⟩
theorem lw_p50 : lw_okq (⟨"TextIndicesModel", "answersPart", "(II)Z"⟩, 33) := ⟨⟨by decide +kernel, by decide +kernel⟩, List.mem_of_getElem? (i := 764) (by decide +kernel), List.mem_of_getElem? (i := 1025) (by decide +kernel), List.mem_of_getElem? (i := 1026) (by decide +kernel)⟩
theorem lw_p51 : lw_okq (⟨"TextIndicesModel", "hasPhrase", "(II)Z"⟩, 33) := ⟨⟨by decide +kernel, by decide +kernel⟩, List.mem_of_getElem? (i := 764) (by decide +kernel), List.mem_of_getElem? (i := 1029) (by decide +kernel), List.mem_of_getElem? (i := 1030) (by decide +kernel)⟩
theorem lw_p52 : lw_okq (⟨"TextIndicesModel", "times", "(IIZ)I"⟩, 33) := ⟨⟨by decide +kernel, by decide +kernel⟩, List.mem_of_getElem? (i := 764) (by decide +kernel), List.mem_of_getElem? (i := 1033) (by decide +kernel), List.mem_of_getElem? (i := 1034) (by decide +kernel)⟩
theorem lw_p53 : lw_okq (⟨"TextIndicesModel", "scoreOf", "(IIII)J"⟩, 33) := ⟨⟨by decide +kernel, by decide +kernel⟩, List.mem_of_getElem? (i := 764) (by decide +kernel), List.mem_of_getElem? (i := 1037) (by decide +kernel), List.mem_of_getElem? (i := 1038) (by decide +kernel)⟩
theorem lw_p54 : lw_okq (⟨"TextIndicesModel", "distance", "(II)I"⟩, 33) := ⟨⟨by decide +kernel, by decide +kernel⟩, List.mem_of_getElem? (i := 764) (by decide +kernel), List.mem_of_getElem? (i := 1054) (by decide +kernel), List.mem_of_getElem? (i := 1055) (by decide +kernel)⟩
theorem lw_p55 : lw_okq (⟨"TextIndicesModel", "isLiked", "(I)Z"⟩, 33) := ⟨⟨by decide +kernel, by decide +kernel⟩, List.mem_of_getElem? (i := 764) (by decide +kernel), List.mem_of_getElem? (i := 1058) (by decide +kernel), List.mem_of_getElem? (i := 1059) (by decide +kernel)⟩
theorem lw_p56 : lw_okq (⟨"TextIndicesModel", "isBefore", "(II)Z"⟩, 33) := ⟨⟨by decide +kernel, by decide +kernel⟩, List.mem_of_getElem? (i := 764) (by decide +kernel), List.mem_of_getElem? (i := 1062) (by decide +kernel), List.mem_of_getElem? (i := 1063) (by decide +kernel)⟩
def lw_privs_4 : List (MethodName × Nat) := [(⟨"TextIndicesModel", "isAsked", "(III)Z"⟩, 33), (⟨"TextIndicesModel", "answersRow", "(II)Z"⟩, 33), (⟨"TextIndicesModel", "answersPart", "(II)Z"⟩, 33), (⟨"TextIndicesModel", "hasPhrase", "(II)Z"⟩, 33), (⟨"TextIndicesModel", "times", "(IIZ)I"⟩, 33), (⟨"TextIndicesModel", "scoreOf", "(IIII)J"⟩, 33), (⟨"TextIndicesModel", "distance", "(II)I"⟩, 33), (⟨"TextIndicesModel", "isLiked", "(I)Z"⟩, 33), (⟨"TextIndicesModel", "isBefore", "(II)Z"⟩, 33)]
theorem lw_r4 : ∀ q ∈ lw_privs_4, lw_okq q := List.forall_mem_cons.mpr ⟨lw_p48, List.forall_mem_cons.mpr ⟨lw_p49, List.forall_mem_cons.mpr ⟨lw_p50, List.forall_mem_cons.mpr ⟨lw_p51, List.forall_mem_cons.mpr ⟨lw_p52, List.forall_mem_cons.mpr ⟨lw_p53, List.forall_mem_cons.mpr ⟨lw_p54, List.forall_mem_cons.mpr ⟨lw_p55, List.forall_mem_cons.mpr ⟨lw_p56, fun _ h => absurd h List.not_mem_nil⟩⟩⟩⟩⟩⟩⟩⟩⟩
def lw_privs : List (MethodName × Nat) := lw_privs_1 ++ (lw_privs_2 ++ (lw_privs_3 ++ (lw_privs_4)))
def lw_tbl : List Cond := k2_sels lw_privs ++ tables_1
theorem lw_privs_ok : ∀ q ∈ lw_privs, lw_okq q := by
  show ∀ q ∈ lw_privs_1 ++ (lw_privs_2 ++ (lw_privs_3 ++ (lw_privs_4))), lw_okq q
  exact List.forall_mem_append.mpr ⟨lw_r1, List.forall_mem_append.mpr ⟨lw_r2, List.forall_mem_append.mpr ⟨lw_r3, lw_r4⟩⟩⟩
def F_TI : u_T := fun k => match k with
  | 0 => ("TextIndices", "tape", "LTextIndices$Tape;", true)
  | 1 => ("TextIndices", "languages", "[LTextIndices$Language;", true)
  | 2 => ("TextIndices", "shelf", "LTextIndices$Shelf;", true)
  | 3 => ("TextIndices", "question", "LTextIndices$Question;", true)
  | 4 => ("TextIndices", "answers", "LTextIndices$Answers;", true)
  | 5 => ("TextIndices", "likes", "LTextIndices$Likes;", true)
  | _ => ("TextIndices", "told", "J", false)
def ty_TI : Nat → FieldType := fun k => match k with
  | 0 => .object "TextIndices$Tape"
  | 1 => .array (.object "TextIndices$Language")
  | 2 => .object "TextIndices$Shelf"
  | 3 => .object "TextIndices$Question"
  | 4 => .object "TextIndices$Answers"
  | 5 => .object "TextIndices$Likes"
  | _ => .long
theorem nm_TI : ∀ a, a < 7 → ∀ b, b < 7 → a ≠ b → (F_TI a).2.1 ≠ (F_TI b).2.1 := by decide +kernel
theorem tyok_TI : ∀ k, k < 7 → parseFieldDescriptor (F_TI k).2.2.1 = some (ty_TI k) := by decide +kernel
def F_Ta : u_T := fun k => match k with
  | 0 => ("TextIndices$Tape", "symbols", "[I", true)
  | 1 => ("TextIndices$Tape", "length", "I", false)
  | 2 => ("TextIndices$Tape", "words", "[J", true)
  | 3 => ("TextIndices$Tape", "starts", "[I", true)
  | 4 => ("TextIndices$Tape", "sizes", "[I", true)
  | _ => ("TextIndices$Tape", "found", "I", false)
def ty_Ta : Nat → FieldType := fun k => match k with
  | 0 => .array .int
  | 1 => .int
  | 2 => .array .long
  | 3 => .array .int
  | 4 => .array .int
  | _ => .int
theorem nm_Ta : ∀ a, a < 6 → ∀ b, b < 6 → a ≠ b → (F_Ta a).2.1 ≠ (F_Ta b).2.1 := by decide +kernel
theorem tyok_Ta : ∀ k, k < 6 → parseFieldDescriptor (F_Ta k).2.2.1 = some (ty_Ta k) := by decide +kernel
def F_La : u_T := fun k => match k with
  | 0 => ("TextIndices$Language", "number", "I", true)
  | 1 => ("TextIndices$Language", "endings", "[J", true)
  | 2 => ("TextIndices$Language", "insteads", "[J", true)
  | 3 => ("TextIndices$Language", "rules", "I", false)
  | 4 => ("TextIndices$Language", "stops", "[J", false)
  | _ => ("TextIndices$Language", "stopCount", "I", false)
def ty_La : Nat → FieldType := fun k => match k with
  | 0 => .int
  | 1 => .array .long
  | 2 => .array .long
  | 3 => .int
  | 4 => .array .long
  | _ => .int
theorem nm_La : ∀ a, a < 6 → ∀ b, b < 6 → a ≠ b → (F_La a).2.1 ≠ (F_La b).2.1 := by decide +kernel
theorem tyok_La : ∀ k, k < 6 → parseFieldDescriptor (F_La k).2.2.1 = some (ty_La k) := by decide +kernel
def F_Sh : u_T := fun k => match k with
  | 0 => ("TextIndices$Shelf", "tongues", "[I", true)
  | 1 => ("TextIndices$Shelf", "fields", "[I", true)
  | 2 => ("TextIndices$Shelf", "gone", "[Z", true)
  | 3 => ("TextIndices$Shelf", "firsts", "[I", true)
  | 4 => ("TextIndices$Shelf", "count", "I", false)
  | 5 => ("TextIndices$Shelf", "words", "[J", true)
  | 6 => ("TextIndices$Shelf", "stems", "[J", true)
  | 7 => ("TextIndices$Shelf", "starts", "[I", true)
  | 8 => ("TextIndices$Shelf", "sizes", "[I", true)
  | _ => ("TextIndices$Shelf", "wordCount", "I", false)
def ty_Sh : Nat → FieldType := fun k => match k with
  | 0 => .array .int
  | 1 => .array .int
  | 2 => .array .boolean
  | 3 => .array .int
  | 4 => .int
  | 5 => .array .long
  | 6 => .array .long
  | 7 => .array .int
  | 8 => .array .int
  | _ => .int
theorem nm_Sh : ∀ a, a < 10 → ∀ b, b < 10 → a ≠ b → (F_Sh a).2.1 ≠ (F_Sh b).2.1 := by decide +kernel
theorem tyok_Sh : ∀ k, k < 10 → parseFieldDescriptor (F_Sh k).2.2.1 = some (ty_Sh k) := by decide +kernel
def F_Qu : u_T := fun k => match k with
  | 0 => ("TextIndices$Question", "tape", "LTextIndices$Tape;", true)
  | 1 => ("TextIndices$Question", "parts", "Ljava/util/ArrayList;", true)
  | 2 => ("TextIndices$Question", "sought", "[J", true)
  | 3 => ("TextIndices$Question", "soughtCount", "I", false)
  | 4 => ("TextIndices$Question", "terms", "[J", true)
  | 5 => ("TextIndices$Question", "shares", "[J", true)
  | 6 => ("TextIndices$Question", "termCount", "I", false)
  | 7 => ("TextIndices$Question", "place", "I", false)
  | _ => ("TextIndices$Question", "row", "I", false)
def ty_Qu : Nat → FieldType := fun k => match k with
  | 0 => .object "TextIndices$Tape"
  | 1 => .object "java/util/ArrayList"
  | 2 => .array .long
  | 3 => .int
  | 4 => .array .long
  | 5 => .array .long
  | 6 => .int
  | 7 => .int
  | _ => .int
theorem nm_Qu : ∀ a, a < 9 → ∀ b, b < 9 → a ≠ b → (F_Qu a).2.1 ≠ (F_Qu b).2.1 := by decide +kernel
theorem tyok_Qu : ∀ k, k < 9 → parseFieldDescriptor (F_Qu k).2.2.1 = some (ty_Qu k) := by decide +kernel
def F_AL : u_T := fun k => match k with
  | 0 => ("java/util/AbstractList", "modCount", "I", false)
  | 1 => ("java/util/ArrayList", "elementData", "[Ljava/lang/Object;", false)
  | _ => ("java/util/ArrayList", "size", "I", false)
def ty_AL : Nat → FieldType := fun k => match k with
  | 0 => .int
  | 1 => .array (.object "java/lang/Object")
  | _ => .int
theorem nm_AL : ∀ a, a < 3 → ∀ b, b < 3 → a ≠ b → (F_AL a).2.1 ≠ (F_AL b).2.1 := by decide +kernel
theorem tyok_AL : ∀ k, k < 3 → parseFieldDescriptor (F_AL k).2.2.1 = some (ty_AL k) := by decide +kernel
def F_An : u_T := fun k => match k with
  | 0 => ("TextIndices$Answers", "numbers", "[I", true)
  | 1 => ("TextIndices$Answers", "weights", "[J", true)
  | _ => ("TextIndices$Answers", "count", "I", false)
def ty_An : Nat → FieldType := fun k => match k with
  | 0 => .array .int
  | 1 => .array .long
  | _ => .int
theorem nm_An : ∀ a, a < 3 → ∀ b, b < 3 → a ≠ b → (F_An a).2.1 ≠ (F_An b).2.1 := by decide +kernel
theorem tyok_An : ∀ k, k < 3 → parseFieldDescriptor (F_An k).2.2.1 = some (ty_An k) := by decide +kernel
def F_Li : u_T := fun k => match k with
  | 0 => ("TextIndices$Likes", "words", "[J", true)
  | 1 => ("TextIndices$Likes", "changes", "[I", true)
  | 2 => ("TextIndices$Likes", "count", "I", false)
  | 3 => ("TextIndices$Likes", "model", "[I", true)
  | 4 => ("TextIndices$Likes", "modelLength", "I", false)
  | 5 => ("TextIndices$Likes", "other", "[I", true)
  | _ => ("TextIndices$Likes", "costs", "[I", true)
def ty_Li : Nat → FieldType := fun k => match k with
  | 0 => .array .long
  | 1 => .array .int
  | 2 => .int
  | 3 => .array .int
  | 4 => .int
  | 5 => .array .int
  | _ => .array .int
theorem nm_Li : ∀ a, a < 7 → ∀ b, b < 7 → a ≠ b → (F_Li a).2.1 ≠ (F_Li b).2.1 := by decide +kernel
theorem tyok_Li : ∀ k, k < 7 → parseFieldDescriptor (F_Li k).2.2.1 = some (ty_Li k) := by decide +kernel
def F_Mo : u_T := fun k => match k with
  | 0 => ("TextIndicesModel", "bytes", "[B", true)
  | 1 => ("TextIndicesModel", "lengths", "[I", true)
  | 2 => ("TextIndicesModel", "tape", "[B", true)
  | 3 => ("TextIndicesModel", "size", "I", false)
  | 4 => ("TextIndicesModel", "languages", "[I", true)
  | 5 => ("TextIndicesModel", "fields", "[I", true)
  | 6 => ("TextIndicesModel", "counts", "[I", true)
  | 7 => ("TextIndicesModel", "froms", "[I", true)
  | 8 => ("TextIndicesModel", "fulls", "[I", true)
  | 9 => ("TextIndicesModel", "texts", "I", false)
  | 10 => ("TextIndicesModel", "gone", "I", false)
  | 11 => ("TextIndicesModel", "stopLanguages", "[I", true)
  | 12 => ("TextIndicesModel", "stops", "I", false)
  | 13 => ("TextIndicesModel", "rules", "[I", true)
  | 14 => ("TextIndicesModel", "taped", "I", false)
  | 15 => ("TextIndicesModel", "tapedFroms", "[I", true)
  | 16 => ("TextIndicesModel", "tapedFulls", "[I", true)
  | 17 => ("TextIndicesModel", "partRows", "[I", true)
  | 18 => ("TextIndicesModel", "partSorts", "[I", true)
  | 19 => ("TextIndicesModel", "partFirsts", "[I", true)
  | 20 => ("TextIndicesModel", "partCounts", "[I", true)
  | 21 => ("TextIndicesModel", "parts", "I", false)
  | 22 => ("TextIndicesModel", "asked", "I", false)
  | 23 => ("TextIndicesModel", "at", "I", false)
  | 24 => ("TextIndicesModel", "fault", "I", false)
  | 25 => ("TextIndicesModel", "answers", "[I", true)
  | 26 => ("TextIndicesModel", "scores", "[J", true)
  | 27 => ("TextIndicesModel", "answered", "I", false)
  | 28 => ("TextIndicesModel", "changes", "[I", true)
  | 29 => ("TextIndicesModel", "liked", "I", false)
  | 30 => ("TextIndicesModel", "shown", "[B", true)
  | 31 => ("TextIndicesModel", "shownSize", "I", false)
  | _ => ("TextIndicesModel", "table", "[I", true)
def ty_Mo : Nat → FieldType := fun k => match k with
  | 0 => .array .byte
  | 1 => .array .int
  | 2 => .array .byte
  | 3 => .int
  | 4 => .array .int
  | 5 => .array .int
  | 6 => .array .int
  | 7 => .array .int
  | 8 => .array .int
  | 9 => .int
  | 10 => .int
  | 11 => .array .int
  | 12 => .int
  | 13 => .array .int
  | 14 => .int
  | 15 => .array .int
  | 16 => .array .int
  | 17 => .array .int
  | 18 => .array .int
  | 19 => .array .int
  | 20 => .array .int
  | 21 => .int
  | 22 => .int
  | 23 => .int
  | 24 => .int
  | 25 => .array .int
  | 26 => .array .long
  | 27 => .int
  | 28 => .array .int
  | 29 => .int
  | 30 => .array .byte
  | 31 => .int
  | _ => .array .int
theorem nm_Mo : ∀ a, a < 33 → ∀ b, b < 33 → a ≠ b → (F_Mo a).2.1 ≠ (F_Mo b).2.1 := by decide +kernel
theorem tyok_Mo : ∀ k, k < 33 → parseFieldDescriptor (F_Mo k).2.2.1 = some (ty_Mo k) := by decide +kernel
def F_Pa : u_T := fun k => match k with
  | 0 => ("TextIndices$Part", "kind", "LTextIndices$Kind;", true)
  | 1 => ("TextIndices$Part", "without", "Z", true)
  | 2 => ("TextIndices$Part", "row", "I", true)
  | 3 => ("TextIndices$Part", "first", "I", true)
  | _ => ("TextIndices$Part", "length", "I", true)
def ty_Pa : Nat → FieldType := fun k => match k with
  | 0 => .object "TextIndices$Kind"
  | 1 => .boolean
  | 2 => .int
  | 3 => .int
  | _ => .int
theorem nm_Pa : ∀ a, a < 5 → ∀ b, b < 5 → a ≠ b → (F_Pa a).2.1 ≠ (F_Pa b).2.1 := by decide +kernel
theorem tyok_Pa : ∀ k, k < 5 → parseFieldDescriptor (F_Pa k).2.2.1 = some (ty_Pa k) := by decide +kernel
abbrev b_An_init : ByteArray := prog_2_method_1_code
def y_An_init : MethodName := ⟨"TextIndices$Answers", "<init>", "()V"⟩
abbrev b_An_clear : ByteArray := prog_2_method_2_code
def y_An_clear : MethodName := ⟨"TextIndices$Answers", "clear", "()V"⟩
abbrev b_An_count : ByteArray := prog_2_method_3_code
def y_An_count : MethodName := ⟨"TextIndices$Answers", "count", "()I"⟩
abbrev b_An_add : ByteArray := prog_2_method_4_code
def y_An_add : MethodName := ⟨"TextIndices$Answers", "add", "(IJ)V"⟩
abbrev b_An_has : ByteArray := prog_2_method_5_code
def y_An_has : MethodName := ⟨"TextIndices$Answers", "has", "(I)Z"⟩
abbrev b_An_textAt : ByteArray := prog_2_method_6_code
def y_An_textAt : MethodName := ⟨"TextIndices$Answers", "textAt", "(I)I"⟩
abbrev b_An_weightAt : ByteArray := prog_2_method_7_code
def y_An_weightAt : MethodName := ⟨"TextIndices$Answers", "weightAt", "(I)J"⟩
abbrev b_La_init : ByteArray := prog_4_method_1_code
def y_La_init : MethodName := ⟨"TextIndices$Language", "<init>", "(I)V"⟩
abbrev b_La_number : ByteArray := prog_4_method_2_code
def y_La_number : MethodName := ⟨"TextIndices$Language", "number", "()I"⟩
abbrev b_La_isStop : ByteArray := prog_4_method_3_code
def y_La_isStop : MethodName := ⟨"TextIndices$Language", "isStop", "(J)Z"⟩
abbrev b_La_addStop : ByteArray := prog_4_method_4_code
def y_La_addStop : MethodName := ⟨"TextIndices$Language", "addStop", "(J)Z"⟩
abbrev b_La_ruleCount : ByteArray := prog_4_method_5_code
def y_La_ruleCount : MethodName := ⟨"TextIndices$Language", "ruleCount", "()I"⟩
abbrev b_La_addRule : ByteArray := prog_4_method_6_code
def y_La_addRule : MethodName := ⟨"TextIndices$Language", "addRule", "(JJ)Z"⟩
abbrev b_La_stemOf : ByteArray := prog_4_method_7_code
def y_La_stemOf : MethodName := ⟨"TextIndices$Language", "stemOf", "(J)J"⟩
abbrev b_La_isEnding : ByteArray := prog_4_method_8_code
def y_La_isEnding : MethodName := ⟨"TextIndices$Language", "isEnding", "(JJ)Z"⟩
abbrev b_La_stemInTexts : ByteArray := prog_4_method_9_code
def y_La_stemInTexts : MethodName := ⟨"TextIndices$Language", "stemInTexts", "(J)J"⟩
abbrev b_Li_init : ByteArray := prog_5_method_1_code
def y_Li_init : MethodName := ⟨"TextIndices$Likes", "<init>", "()V"⟩
abbrev b_Li_clear : ByteArray := prog_5_method_2_code
def y_Li_clear : MethodName := ⟨"TextIndices$Likes", "clear", "()V"⟩
abbrev b_Li_count : ByteArray := prog_5_method_3_code
def y_Li_count : MethodName := ⟨"TextIndices$Likes", "count", "()I"⟩
abbrev b_Li_wordAt : ByteArray := prog_5_method_4_code
def y_Li_wordAt : MethodName := ⟨"TextIndices$Likes", "wordAt", "(I)J"⟩
abbrev b_Li_search : ByteArray := prog_5_method_5_code
def y_Li_search : MethodName := ⟨"TextIndices$Likes", "search", "(LTextIndices$Shelf;IJI)V"⟩
abbrev b_Li_offer : ByteArray := prog_5_method_6_code
def y_Li_offer : MethodName := ⟨"TextIndices$Likes", "offer", "(JI)V"⟩
abbrev b_Li_holds : ByteArray := prog_5_method_7_code
def y_Li_holds : MethodName := ⟨"TextIndices$Likes", "holds", "(J)Z"⟩
abbrev b_Li_insert : ByteArray := prog_5_method_8_code
def y_Li_insert : MethodName := ⟨"TextIndices$Likes", "insert", "(JI)V"⟩
abbrev b_Li_standsBefore : ByteArray := prog_5_method_9_code
def y_Li_standsBefore : MethodName := ⟨"TextIndices$Likes", "standsBefore", "(JII)Z"⟩
abbrev b_Li_changesNeeded : ByteArray := prog_5_method_10_code
def y_Li_changesNeeded : MethodName := ⟨"TextIndices$Likes", "changesNeeded", "(I)I"⟩
abbrev b_Pa_init : ByteArray := prog_6_method_1_code
def y_Pa_init : MethodName := ⟨"TextIndices$Part", "<init>", "(LTextIndices$Kind;ZIII)V"⟩
abbrev b_Qu_init : ByteArray := prog_7_method_1_code
def y_Qu_init : MethodName := ⟨"TextIndices$Question", "<init>", "(LTextIndices$Tape;)V"⟩
abbrev b_Qu_read : ByteArray := prog_7_method_2_code
def y_Qu_read : MethodName := ⟨"TextIndices$Question", "read", "()I"⟩
abbrev b_Qu_skipBlanks : ByteArray := prog_7_method_3_code
def y_Qu_skipBlanks : MethodName := ⟨"TextIndices$Question", "skipBlanks", "()V"⟩
abbrev b_Qu_readPart : ByteArray := prog_7_method_4_code
def y_Qu_readPart : MethodName := ⟨"TextIndices$Question", "readPart", "()Z"⟩
abbrev b_Qu_readPhrase : ByteArray := prog_7_method_5_code
def y_Qu_readPhrase : MethodName := ⟨"TextIndices$Question", "readPhrase", "(Z)Z"⟩
abbrev b_Qu_readWord : ByteArray := prog_7_method_6_code
def y_Qu_readWord : MethodName := ⟨"TextIndices$Question", "readWord", "()J"⟩
abbrev b_Qu_seek : ByteArray := prog_7_method_7_code
def y_Qu_seek : MethodName := ⟨"TextIndices$Question", "seek", "(J)V"⟩
abbrev b_Qu_stemSought : ByteArray := prog_7_method_8_code
def y_Qu_stemSought : MethodName := ⟨"TextIndices$Question", "stemSought", "(LTextIndices$Language;)V"⟩
abbrev b_Qu_soughtBy : ByteArray := prog_7_method_9_code
def y_Qu_soughtBy : MethodName := ⟨"TextIndices$Question", "soughtBy", "(LTextIndices$Part;)J"⟩
abbrev b_Qu_weigh : ByteArray := prog_7_method_10_code
def y_Qu_weigh : MethodName := ⟨"TextIndices$Question", "weigh", "(LTextIndices$Shelf;II)V"⟩
abbrev b_Qu_hasTerm : ByteArray := prog_7_method_11_code
def y_Qu_hasTerm : MethodName := ⟨"TextIndices$Question", "hasTerm", "(J)Z"⟩
abbrev b_Qu_weightOf : ByteArray := prog_7_method_12_code
def y_Qu_weightOf : MethodName := ⟨"TextIndices$Question", "weightOf", "(LTextIndices$Shelf;I)J"⟩
abbrev b_Qu_isAnsweredBy : ByteArray := prog_7_method_13_code
def y_Qu_isAnsweredBy : MethodName := ⟨"TextIndices$Question", "isAnsweredBy", "(LTextIndices$Shelf;I)Z"⟩
abbrev b_Qu_isPartAnsweredBy : ByteArray := prog_7_method_14_code
def y_Qu_isPartAnsweredBy : MethodName := ⟨"TextIndices$Question", "isPartAnsweredBy", "(LTextIndices$Part;LTextIndices$Shelf;I)Z"⟩
abbrev b_Sh_init : ByteArray := prog_8_method_1_code
def y_Sh_init : MethodName := ⟨"TextIndices$Shelf", "<init>", "()V"⟩
abbrev b_Sh_put : ByteArray := prog_8_method_2_code
def y_Sh_put : MethodName := ⟨"TextIndices$Shelf", "put", "(LTextIndices$Language;ILTextIndices$Tape;)I"⟩
abbrev b_Sh_takeAway : ByteArray := prog_8_method_3_code
def y_Sh_takeAway : MethodName := ⟨"TextIndices$Shelf", "takeAway", "(I)Z"⟩
abbrev b_Sh_has : ByteArray := prog_8_method_4_code
def y_Sh_has : MethodName := ⟨"TextIndices$Shelf", "has", "(I)Z"⟩
abbrev b_Sh_isIn : ByteArray := prog_8_method_5_code
def y_Sh_isIn : MethodName := ⟨"TextIndices$Shelf", "isIn", "(III)Z"⟩
abbrev b_Sh_firstOf : ByteArray := prog_8_method_6_code
def y_Sh_firstOf : MethodName := ⟨"TextIndices$Shelf", "firstOf", "(I)I"⟩
abbrev b_Sh_endOf : ByteArray := prog_8_method_7_code
def y_Sh_endOf : MethodName := ⟨"TextIndices$Shelf", "endOf", "(I)I"⟩
abbrev b_Sh_stemAgain : ByteArray := prog_8_method_8_code
def y_Sh_stemAgain : MethodName := ⟨"TextIndices$Shelf", "stemAgain", "(LTextIndices$Language;)V"⟩
abbrev b_Sh_hasPlace : ByteArray := prog_8_method_9_code
def y_Sh_hasPlace : MethodName := ⟨"TextIndices$Shelf", "hasPlace", "(II)Z"⟩
abbrev b_Sh_startOf : ByteArray := prog_8_method_10_code
def y_Sh_startOf : MethodName := ⟨"TextIndices$Shelf", "startOf", "(II)I"⟩
abbrev b_Sh_sizeOf : ByteArray := prog_8_method_11_code
def y_Sh_sizeOf : MethodName := ⟨"TextIndices$Shelf", "sizeOf", "(II)I"⟩
abbrev b_Sh_countTexts : ByteArray := prog_8_method_12_code
def y_Sh_countTexts : MethodName := ⟨"TextIndices$Shelf", "countTexts", "()I"⟩
abbrev b_Sh_countStems : ByteArray := prog_8_method_13_code
def y_Sh_countStems : MethodName := ⟨"TextIndices$Shelf", "countStems", "(I)I"⟩
abbrev b_Sh_countNewStems : ByteArray := prog_8_method_14_code
def y_Sh_countNewStems : MethodName := ⟨"TextIndices$Shelf", "countNewStems", "(II)I"⟩
abbrev b_Sh_hasEarlier : ByteArray := prog_8_method_15_code
def y_Sh_hasEarlier : MethodName := ⟨"TextIndices$Shelf", "hasEarlier", "(III)Z"⟩
abbrev b_Sh_timesOf : ByteArray := prog_8_method_16_code
def y_Sh_timesOf : MethodName := ⟨"TextIndices$Shelf", "timesOf", "(JI)I"⟩
abbrev b_Sh_countTextsWith : ByteArray := prog_8_method_17_code
def y_Sh_countTextsWith : MethodName := ⟨"TextIndices$Shelf", "countTextsWith", "(JII)I"⟩
abbrev b_Sh_hasBeginning : ByteArray := prog_8_method_18_code
def y_Sh_hasBeginning : MethodName := ⟨"TextIndices$Shelf", "hasBeginning", "(JI)Z"⟩
abbrev b_Sh_hasPhrase : ByteArray := prog_8_method_19_code
def y_Sh_hasPhrase : MethodName := ⟨"TextIndices$Shelf", "hasPhrase", "([JIII)Z"⟩
abbrev b_Sh_standsAt : ByteArray := prog_8_method_20_code
def y_Sh_standsAt : MethodName := ⟨"TextIndices$Shelf", "standsAt", "(I[JII)Z"⟩
abbrev b_Sh_wordUnlessStop : ByteArray := prog_8_method_21_code
def y_Sh_wordUnlessStop : MethodName := ⟨"TextIndices$Shelf", "wordUnlessStop", "(I)J"⟩
abbrev b_Ta_init : ByteArray := prog_9_method_1_code
def y_Ta_init : MethodName := ⟨"TextIndices$Tape", "<init>", "()V"⟩
abbrev b_Ta_length : ByteArray := prog_9_method_2_code
def y_Ta_length : MethodName := ⟨"TextIndices$Tape", "length", "()I"⟩
abbrev b_Ta_append : ByteArray := prog_9_method_3_code
def y_Ta_append : MethodName := ⟨"TextIndices$Tape", "append", "(JI)Z"⟩
abbrev b_Ta_clear : ByteArray := prog_9_method_4_code
def y_Ta_clear : MethodName := ⟨"TextIndices$Tape", "clear", "()V"⟩
abbrev b_Ta_symbolAt : ByteArray := prog_9_method_5_code
def y_Ta_symbolAt : MethodName := ⟨"TextIndices$Tape", "symbolAt", "(I)I"⟩
abbrev b_Ta_wordEnd : ByteArray := prog_9_method_6_code
def y_Ta_wordEnd : MethodName := ⟨"TextIndices$Tape", "wordEnd", "(I)I"⟩
abbrev b_Ta_wordBetween : ByteArray := prog_9_method_7_code
def y_Ta_wordBetween : MethodName := ⟨"TextIndices$Tape", "wordBetween", "(II)J"⟩
abbrev b_Ta_split : ByteArray := prog_9_method_8_code
def y_Ta_split : MethodName := ⟨"TextIndices$Tape", "split", "()I"⟩
abbrev b_Ta_keepWord : ByteArray := prog_9_method_9_code
def y_Ta_keepWord : MethodName := ⟨"TextIndices$Tape", "keepWord", "(II)V"⟩
abbrev b_Ta_wordCount : ByteArray := prog_9_method_10_code
def y_Ta_wordCount : MethodName := ⟨"TextIndices$Tape", "wordCount", "()I"⟩
abbrev b_Ta_hasWord : ByteArray := prog_9_method_11_code
def y_Ta_hasWord : MethodName := ⟨"TextIndices$Tape", "hasWord", "(I)Z"⟩
abbrev b_Ta_wordAt : ByteArray := prog_9_method_12_code
def y_Ta_wordAt : MethodName := ⟨"TextIndices$Tape", "wordAt", "(I)J"⟩
abbrev b_Ta_startAt : ByteArray := prog_9_method_13_code
def y_Ta_startAt : MethodName := ⟨"TextIndices$Tape", "startAt", "(I)I"⟩
abbrev b_Ta_sizeAt : ByteArray := prog_9_method_14_code
def y_Ta_sizeAt : MethodName := ⟨"TextIndices$Tape", "sizeAt", "(I)I"⟩
abbrev b_Wo_digitOf : ByteArray := prog_10_method_2_code
def y_Wo_digitOf : MethodName := ⟨"TextIndices$Words", "digitOf", "(I)I"⟩
abbrev b_Wo_withDigit : ByteArray := prog_10_method_3_code
def y_Wo_withDigit : MethodName := ⟨"TextIndices$Words", "withDigit", "(JI)J"⟩
abbrev b_Wo_withZeros : ByteArray := prog_10_method_4_code
def y_Wo_withZeros : MethodName := ⟨"TextIndices$Words", "withZeros", "(JI)J"⟩
abbrev b_Wo_withoutLast : ByteArray := prog_10_method_5_code
def y_Wo_withoutLast : MethodName := ⟨"TextIndices$Words", "withoutLast", "(JI)J"⟩
abbrev b_Wo_lengthOf : ByteArray := prog_10_method_6_code
def y_Wo_lengthOf : MethodName := ⟨"TextIndices$Words", "lengthOf", "(J)I"⟩
abbrev b_Wo_symbolAt : ByteArray := prog_10_method_7_code
def y_Wo_symbolAt : MethodName := ⟨"TextIndices$Words", "symbolAt", "(JI)I"⟩
abbrev b_Wo_isBeginning : ByteArray := prog_10_method_8_code
def y_Wo_isBeginning : MethodName := ⟨"TextIndices$Words", "isBeginning", "(JJ)Z"⟩
abbrev b_Wo_spread : ByteArray := prog_10_method_9_code
def y_Wo_spread : MethodName := ⟨"TextIndices$Words", "spread", "(J[I)I"⟩
abbrev b_TI_init : ByteArray := prog_1_method_1_code
def y_TI_init : MethodName := ⟨"TextIndices", "<init>", "()V"⟩
abbrev b_TI_type : ByteArray := prog_1_method_2_code
def y_TI_type : MethodName := ⟨"TextIndices", "type", "(JI)I"⟩
abbrev b_TI_text : ByteArray := prog_1_method_3_code
def y_TI_text : MethodName := ⟨"TextIndices", "text", "(II)I"⟩
abbrev b_TI_remove : ByteArray := prog_1_method_4_code
def y_TI_remove : MethodName := ⟨"TextIndices", "remove", "(I)I"⟩
abbrev b_TI_stop : ByteArray := prog_1_method_5_code
def y_TI_stop : MethodName := ⟨"TextIndices", "stop", "(I)I"⟩
abbrev b_TI_ending : ByteArray := prog_1_method_6_code
def y_TI_ending : MethodName := ⟨"TextIndices", "ending", "(I)I"⟩
abbrev b_TI_stem : ByteArray := prog_1_method_7_code
def y_TI_stem : MethodName := ⟨"TextIndices", "stem", "(I)I"⟩
abbrev b_TI_ask : ByteArray := prog_1_method_8_code
def y_TI_ask : MethodName := ⟨"TextIndices", "ask", "(II)I"⟩
abbrev b_TI_answer : ByteArray := prog_1_method_9_code
def y_TI_answer : MethodName := ⟨"TextIndices", "answer", "(I)I"⟩
abbrev b_TI_score : ByteArray := prog_1_method_10_code
def y_TI_score : MethodName := ⟨"TextIndices", "score", "(I)J"⟩
abbrev b_TI_like : ByteArray := prog_1_method_11_code
def y_TI_like : MethodName := ⟨"TextIndices", "like", "(II)I"⟩
abbrev b_TI_word : ByteArray := prog_1_method_12_code
def y_TI_word : MethodName := ⟨"TextIndices", "word", "(I)I"⟩
abbrev b_TI_at : ByteArray := prog_1_method_13_code
def y_TI_at : MethodName := ⟨"TextIndices", "at", "(I)I"⟩
abbrev b_TI_place : ByteArray := prog_1_method_14_code
def y_TI_place : MethodName := ⟨"TextIndices", "place", "(III)I"⟩
abbrev b_TI_texts : ByteArray := prog_1_method_15_code
def y_TI_texts : MethodName := ⟨"TextIndices", "texts", "()I"⟩
abbrev b_TI_stems : ByteArray := prog_1_method_16_code
def y_TI_stems : MethodName := ⟨"TextIndices", "stems", "(I)I"⟩
abbrev b_TI_languageOf : ByteArray := prog_1_method_17_code
def y_TI_languageOf : MethodName := ⟨"TextIndices", "languageOf", "(I)LTextIndices$Language;"⟩
abbrev b_TI_takeFirstWord : ByteArray := prog_1_method_18_code
def y_TI_takeFirstWord : MethodName := ⟨"TextIndices", "takeFirstWord", "()J"⟩
abbrev b_TI_tell : ByteArray := prog_1_method_19_code
def y_TI_tell : MethodName := ⟨"TextIndices", "tell", "(J)I"⟩
abbrev b_Mo_init : ByteArray := prog_12_method_1_code
def y_Mo_init : MethodName := ⟨"TextIndicesModel", "<init>", "()V"⟩
abbrev b_Mo_byteOf : ByteArray := prog_12_method_2_code
def y_Mo_byteOf : MethodName := ⟨"TextIndicesModel", "byteOf", "(II)I"⟩
abbrev b_Mo_same : ByteArray := prog_12_method_3_code
def y_Mo_same : MethodName := ⟨"TextIndicesModel", "same", "(II)Z"⟩
abbrev b_Mo_beginsSo : ByteArray := prog_12_method_4_code
def y_Mo_beginsSo : MethodName := ⟨"TextIndicesModel", "beginsSo", "(II)Z"⟩
abbrev b_Mo_add : ByteArray := prog_12_method_5_code
def y_Mo_add : MethodName := ⟨"TextIndicesModel", "add", "(II)V"⟩
abbrev b_Mo_copy : ByteArray := prog_12_method_6_code
def y_Mo_copy : MethodName := ⟨"TextIndicesModel", "copy", "(II)V"⟩
abbrev b_Mo_letter : ByteArray := prog_12_method_7_code
def y_Mo_letter : MethodName := ⟨"TextIndicesModel", "letter", "(I)I"⟩
abbrev b_Mo_type : ByteArray := prog_12_method_8_code
def y_Mo_type : MethodName := ⟨"TextIndicesModel", "type", "(JI)I"⟩
abbrev b_Mo_readWords : ByteArray := prog_12_method_9_code
def y_Mo_readWords : MethodName := ⟨"TextIndicesModel", "readWords", "()V"⟩
abbrev b_Mo_isLanguage : ByteArray := prog_12_method_10_code
def y_Mo_isLanguage : MethodName := ⟨"TextIndicesModel", "isLanguage", "(I)Z"⟩
abbrev b_Mo_isStop : ByteArray := prog_12_method_11_code
def y_Mo_isStop : MethodName := ⟨"TextIndicesModel", "isStop", "(II)Z"⟩
abbrev b_Mo_stop : ByteArray := prog_12_method_12_code
def y_Mo_stop : MethodName := ⟨"TextIndicesModel", "stop", "(I)I"⟩
abbrev b_Mo_endingAt : ByteArray := prog_12_method_13_code
def y_Mo_endingAt : MethodName := ⟨"TextIndicesModel", "endingAt", "(II)I"⟩
abbrev b_Mo_ending : ByteArray := prog_12_method_14_code
def y_Mo_ending : MethodName := ⟨"TextIndicesModel", "ending", "(I)I"⟩
abbrev b_Mo_ends : ByteArray := prog_12_method_15_code
def y_Mo_ends : MethodName := ⟨"TextIndicesModel", "ends", "(II)Z"⟩
abbrev b_Mo_stemTo : ByteArray := prog_12_method_16_code
def y_Mo_stemTo : MethodName := ⟨"TextIndicesModel", "stemTo", "(III)V"⟩
abbrev b_Mo_show : ByteArray := prog_12_method_17_code
def y_Mo_show : MethodName := ⟨"TextIndicesModel", "show", "(I)I"⟩
abbrev b_Mo_stem : ByteArray := prog_12_method_18_code
def y_Mo_stem : MethodName := ⟨"TextIndicesModel", "stem", "(I)I"⟩
abbrev b_Mo_at : ByteArray := prog_12_method_19_code
def y_Mo_at : MethodName := ⟨"TextIndicesModel", "at", "(I)I"⟩
abbrev b_Mo_text : ByteArray := prog_12_method_20_code
def y_Mo_text : MethodName := ⟨"TextIndicesModel", "text", "(II)I"⟩
abbrev b_Mo_wordsOf : ByteArray := prog_12_method_21_code
def y_Mo_wordsOf : MethodName := ⟨"TextIndicesModel", "wordsOf", "(I)I"⟩
abbrev b_Mo_isText : ByteArray := prog_12_method_22_code
def y_Mo_isText : MethodName := ⟨"TextIndicesModel", "isText", "(I)Z"⟩
abbrev b_Mo_remove : ByteArray := prog_12_method_23_code
def y_Mo_remove : MethodName := ⟨"TextIndicesModel", "remove", "(I)I"⟩
abbrev b_Mo_texts : ByteArray := prog_12_method_24_code
def y_Mo_texts : MethodName := ⟨"TextIndicesModel", "texts", "()I"⟩
abbrev b_Mo_place : ByteArray := prog_12_method_25_code
def y_Mo_place : MethodName := ⟨"TextIndicesModel", "place", "(III)I"⟩
abbrev b_Mo_hasAt : ByteArray := prog_12_method_26_code
def y_Mo_hasAt : MethodName := ⟨"TextIndicesModel", "hasAt", "(IIIZ)Z"⟩
abbrev b_Mo_times : ByteArray := prog_12_method_27_code
def y_Mo_times : MethodName := ⟨"TextIndicesModel", "times", "(IIZ)I"⟩
abbrev b_Mo_stems : ByteArray := prog_12_method_28_code
def y_Mo_stems : MethodName := ⟨"TextIndicesModel", "stems", "(I)I"⟩
abbrev b_Mo_isFirst : ByteArray := prog_12_method_29_code
def y_Mo_isFirst : MethodName := ⟨"TextIndicesModel", "isFirst", "(III)Z"⟩
abbrev b_Mo_here : ByteArray := prog_12_method_30_code
def y_Mo_here : MethodName := ⟨"TextIndicesModel", "here", "()I"⟩
abbrev b_Mo_need : ByteArray := prog_12_method_31_code
def y_Mo_need : MethodName := ⟨"TextIndicesModel", "need", "(Z)V"⟩
abbrev b_Mo_skip : ByteArray := prog_12_method_32_code
def y_Mo_skip : MethodName := ⟨"TextIndicesModel", "skip", "()V"⟩
abbrev b_Mo_isLetter : ByteArray := prog_12_method_33_code
def y_Mo_isLetter : MethodName := ⟨"TextIndicesModel", "isLetter", "()Z"⟩
abbrev b_Mo_isPart : ByteArray := prog_12_method_34_code
def y_Mo_isPart : MethodName := ⟨"TextIndicesModel", "isPart", "()Z"⟩
abbrev b_Mo_readWord : ByteArray := prog_12_method_35_code
def y_Mo_readWord : MethodName := ⟨"TextIndicesModel", "readWord", "()V"⟩
abbrev b_Mo_readPart : ByteArray := prog_12_method_36_code
def y_Mo_readPart : MethodName := ⟨"TextIndicesModel", "readPart", "(I)V"⟩
abbrev b_Mo_readQuestion : ByteArray := prog_12_method_37_code
def y_Mo_readQuestion : MethodName := ⟨"TextIndicesModel", "readQuestion", "()I"⟩
abbrev b_Mo_hasPhrase : ByteArray := prog_12_method_38_code
def y_Mo_hasPhrase : MethodName := ⟨"TextIndicesModel", "hasPhrase", "(II)Z"⟩
abbrev b_Mo_answersPart : ByteArray := prog_12_method_39_code
def y_Mo_answersPart : MethodName := ⟨"TextIndicesModel", "answersPart", "(II)Z"⟩
abbrev b_Mo_answersRow : ByteArray := prog_12_method_40_code
def y_Mo_answersRow : MethodName := ⟨"TextIndicesModel", "answersRow", "(II)Z"⟩
abbrev b_Mo_isAsked : ByteArray := prog_12_method_41_code
def y_Mo_isAsked : MethodName := ⟨"TextIndicesModel", "isAsked", "(III)Z"⟩
abbrev b_Mo_countStems : ByteArray := prog_12_method_42_code
def y_Mo_countStems : MethodName := ⟨"TextIndicesModel", "countStems", "(I)I"⟩
abbrev b_Mo_scoreOf : ByteArray := prog_12_method_43_code
def y_Mo_scoreOf : MethodName := ⟨"TextIndicesModel", "scoreOf", "(IIII)J"⟩
abbrev b_Mo_ask : ByteArray := prog_12_method_44_code
def y_Mo_ask : MethodName := ⟨"TextIndicesModel", "ask", "(II)I"⟩
abbrev b_Mo_answer : ByteArray := prog_12_method_45_code
def y_Mo_answer : MethodName := ⟨"TextIndicesModel", "answer", "(I)I"⟩
abbrev b_Mo_score : ByteArray := prog_12_method_46_code
def y_Mo_score : MethodName := ⟨"TextIndicesModel", "score", "(I)J"⟩
abbrev b_Mo_distance : ByteArray := prog_12_method_47_code
def y_Mo_distance : MethodName := ⟨"TextIndicesModel", "distance", "(II)I"⟩
abbrev b_Mo_isBefore : ByteArray := prog_12_method_48_code
def y_Mo_isBefore : MethodName := ⟨"TextIndicesModel", "isBefore", "(II)Z"⟩
abbrev b_Mo_like : ByteArray := prog_12_method_49_code
def y_Mo_like : MethodName := ⟨"TextIndicesModel", "like", "(II)I"⟩
abbrev b_Mo_isLiked : ByteArray := prog_12_method_50_code
def y_Mo_isLiked : MethodName := ⟨"TextIndicesModel", "isLiked", "(I)Z"⟩
abbrev b_Mo_word : ByteArray := prog_12_method_51_code
def y_Mo_word : MethodName := ⟨"TextIndicesModel", "word", "(I)I"⟩
abbrev b_Law_law : ByteArray := code
def y_Law_law : MethodName := ⟨"TextIndicesLaw", "law", "([I)Z"⟩
abbrev b_AL_init : ByteArray := prog_21_method_2_code
def y_AL_init : MethodName := ⟨"java/util/ArrayList", "<init>", "()V"⟩
abbrev b_AL_grow1 : ByteArray := prog_21_method_6_code
def y_AL_grow1 : MethodName := ⟨"java/util/ArrayList", "grow", "(I)[Ljava/lang/Object;"⟩
abbrev b_AL_grow2 : ByteArray := prog_21_method_7_code
def y_AL_grow2 : MethodName := ⟨"java/util/ArrayList", "grow", "()[Ljava/lang/Object;"⟩
abbrev b_AL_size : ByteArray := prog_21_method_8_code
def y_AL_size : MethodName := ⟨"java/util/ArrayList", "size", "()I"⟩
abbrev b_AL_elementData : ByteArray := prog_21_method_18_code
def y_AL_elementData : MethodName := ⟨"java/util/ArrayList", "elementData", "(I)Ljava/lang/Object;"⟩
abbrev b_AL_get : ByteArray := prog_21_method_20_code
def y_AL_get : MethodName := ⟨"java/util/ArrayList", "get", "(I)Ljava/lang/Object;"⟩
abbrev b_AL_add1 : ByteArray := prog_21_method_24_code
def y_AL_add1 : MethodName := ⟨"java/util/ArrayList", "add", "(Ljava/lang/Object;[Ljava/lang/Object;I)V"⟩
abbrev b_AL_add2 : ByteArray := prog_21_method_25_code
def y_AL_add2 : MethodName := ⟨"java/util/ArrayList", "add", "(Ljava/lang/Object;)Z"⟩
abbrev b_AL_clear : ByteArray := prog_21_method_40_code
def y_AL_clear : MethodName := ⟨"java/util/ArrayList", "clear", "()V"⟩
abbrev b_Ab_init : ByteArray := prog_20_method_1_code
def y_Ab_init : MethodName := ⟨"java/util/AbstractList", "<init>", "()V"⟩
abbrev b_AC_init : ByteArray := prog_19_method_1_code
def y_AC_init : MethodName := ⟨"java/util/AbstractCollection", "<init>", "()V"⟩
abbrev b_Ar_copyOf1 : ByteArray := prog_22_method_119_code
def y_Ar_copyOf1 : MethodName := ⟨"java/util/Arrays", "copyOf", "([Ljava/lang/Object;I)[Ljava/lang/Object;"⟩
abbrev b_Ar_copyOf2 : ByteArray := prog_22_method_120_code
def y_Ar_copyOf2 : MethodName := ⟨"java/util/Arrays", "copyOf", "([Ljava/lang/Object;ILjava/lang/Class;)[Ljava/lang/Object;"⟩
abbrev b_Ar_copyOf3 : ByteArray := prog_22_method_124_code
def y_Ar_copyOf3 : MethodName := ⟨"java/util/Arrays", "copyOf", "([JI)[J"⟩
abbrev b_Ob_checkIndex : ByteArray := prog_25_method_17_code
def y_Ob_checkIndex : MethodName := ⟨"java/util/Objects", "checkIndex", "(II)I"⟩
abbrev b_AS_newLength : ByteArray := prog_28_method_27_code
def y_AS_newLength : MethodName := ⟨"jdk/internal/util/ArraysSupport", "newLength", "(III)I"⟩
abbrev b_Pr_checkIndex : ByteArray := prog_29_method_11_code
def y_Pr_checkIndex : MethodName := ⟨"jdk/internal/util/Preconditions", "checkIndex", "(IILjava/util/function/BiFunction;)I"⟩
